set_option maxRecDepth 100000 in
set_option maxHeartbeats 4000000 in
def mX4_init (n : Nat) (s0 : Sg) (a0 : Nat) : Option (Sg) :=
  (nwO 11 81 (fun _ => .int 0) s0).bind fun (b1, s2) =>
  (pV 4 s2 a0 0 (.ref b1)).bind fun s3 =>
  (pV 4 s3 a0 1 (.int (1 : Int32))).bind fun s4 =>
  some s4
set_option maxRecDepth 100000 in
set_option maxHeartbeats 4000000 in
theorem bX4_init {G : Cx} {E : Ev} {n : Nat} (hRm : 1 ≤ E.1.frames ∧ 20 ≤ E.1.locals) (hCm : 1 ≤ E.1.cells ∧ 81 ≤ E.1.slots ∧ 1 ≤ E.2.2.1 ∧ 81 ≤ E.2.2.2.1) {P : Sg → Prop} (hQ : ∀ s, P s → E.2.2.2.2 none s) {s0 : Sg} {a0 : Nat} (h : Ok (mX4_init n s0 a0) P) : BW G tX4_init E 0 0 0 [(0, .ref a0)] [] s0 := by
  unfold mX4_init at h
  refine BW.run [.aload_n 0] (pc' := 1) (lv' := [(0, .ref a0)]) (st' := [.ref a0]) (by decide +kernel) rfl rfl ?_
  refine BW.objInit (by decide +kernel : decode tX4_init.2.1 1 = .ok (.invokespecial 3, 3)) lkM_X4_3 im_object cd_object (Nat.le_of_ble_eq_true rfl) ⟨Nat.le_trans (by decide) hRm.1, Nat.le_trans (by decide) hRm.2⟩ ?_
  refine BW.run [.aload_n 0, .bipush 81] (pc' := 7) (lv' := [(0, .ref a0)]) (st' := [.int (81 : Int32), .ref a0]) (by decide +kernel) rfl rfl ?_
  obtain ⟨⟨b1, s2⟩, es2, h⟩ := Ok.bind h
  refine BW.newaB (by decide +kernel : decode tX4_init.2.1 7 = .ok (.newarray .int, 2)) (t := 11) (by decide) ar11 (by decide) (by decide) (by decide) (Nat.le_trans (by decide) hCm.1) (Nat.le_trans (by decide) hCm.2.1) es2 rfl ?_
  show BW G tX4_init E 1 81 9 [(0, .ref a0)] (.ref b1 :: [.ref a0]) s2
  obtain ⟨s3, es3, h⟩ := Ok.bind h
  refine BW.putF (by decide +kernel : decode tX4_init.2.1 9 = .ok (.putfield 9, 3)) ciX4 (k := 0) (by decide) lkF_X4_9 rfl rfl rfl rfl rfl es3 ?_
  refine BW.run [.aload_n 0, .iconst 1] (pc' := 14) (lv' := [(0, .ref a0)]) (st' := [.int (1 : Int32), .ref a0]) (by decide +kernel) rfl rfl ?_
  obtain ⟨s4, es4, h⟩ := Ok.bind h
  refine BW.put (by decide +kernel : decode tX4_init.2.1 14 = .ok (.putfield 15, 3)) ciX4 (k := 1) (by decide) lkF_X4_15 rfl rfl rfl es4 ?_
  exact BW.vret (by decide +kernel : decode tX4_init.2.1 17 = .ok (.return_, 1)) rfl (Nat.le_trans (by decide) hCm.2.2.1) (Nat.le_trans (by decide) hCm.2.2.2) (hQ _ (Ok.some h))
set_option maxRecDepth 100000 in
set_option maxHeartbeats 4000000 in
theorem DX4_init {G : Cx} {n : Nat} {P : Sg → Prop} {s0 : Sg} {a0 : Nat} (h : Ok (mX4_init n s0 a0) P) : BM G tX4_init 1 20 1 81 [.ref a0] s0 (fun v s => v = none ∧ P s) := by
  refine BM.of (by decide +kernel) (Nat.le_of_ble_eq_true rfl) ?_
  exact bX4_init (E := (({ frames := 1, cells := 1, slots := 81, locals := 20 }), Aof s0, 1, 81, (fun v s => v = none ∧ P s))) ⟨Nat.le_refl _, Nat.le_refl _⟩ ⟨Nat.le_refl _, Nat.le_refl _, Nat.le_refl _, Nat.le_refl _⟩ (fun s hp => ⟨rfl, hp⟩) h
set_option maxRecDepth 100000 in
set_option maxHeartbeats 4000000 in
def mX0_init (n : Nat) (s0 : Sg) (a0 : Nat) : Option (Sg) :=
  (nwO 15 7 (fun _ => .null) s0).bind fun (b1, s2) =>
  (pV 0 s2 a0 0 (.ref b1)).bind fun s3 =>
  (nwO 11 6 (fun _ => .int 0) s3).bind fun (b4, s5) =>
  (pV 0 s5 a0 1 (.ref b4)).bind fun s6 =>
  (nwO 11 6 (fun _ => .int 0) s6).bind fun (b7, s8) =>
  (pV 0 s8 a0 2 (.ref b7)).bind fun s9 =>
  (pV 0 s9 a0 3 (.int (0 : Int32))).bind fun s10 =>
  (pV 0 s10 a0 4 (.int (0 : Int32))).bind fun s11 =>
  (toR (gV 0 s11 a0 0)).bind fun b12 =>
  (lenA 15 s11 b12).bind fun v13 =>
  if v13 ≤ (0 : Int32) then (
    some s11
  ) else (
    (toR (gV 0 s11 a0 0)).bind fun b14 =>
    (nwO 4 2 (fun j => defaultValue (tyX4 j)) s11).bind fun (b15, s16) =>
    (mX4_init n s16 b15).bind fun s17 =>
    (isO 4 s17 b15).bind fun _ =>
    (sV 15 s17 b14 (0 : Int32) (.ref b15)).bind fun s18 =>
    (toR (gV 0 s18 a0 0)).bind fun b19 =>
    (lenA 15 s18 b19).bind fun v20 =>
    if v20 ≤ (1 : Int32) then (
      some s18
    ) else (
      (toR (gV 0 s18 a0 0)).bind fun b21 =>
      (nwO 4 2 (fun j => defaultValue (tyX4 j)) s18).bind fun (b22, s23) =>
      (mX4_init n s23 b22).bind fun s24 =>
      (isO 4 s24 b22).bind fun _ =>
      (sV 15 s24 b21 (1 : Int32) (.ref b22)).bind fun s25 =>
      (toR (gV 0 s25 a0 0)).bind fun b26 =>
      (lenA 15 s25 b26).bind fun v27 =>
      if v27 ≤ (2 : Int32) then (
        some s25
      ) else (
        (toR (gV 0 s25 a0 0)).bind fun b28 =>
        (nwO 4 2 (fun j => defaultValue (tyX4 j)) s25).bind fun (b29, s30) =>
        (mX4_init n s30 b29).bind fun s31 =>
        (isO 4 s31 b29).bind fun _ =>
        (sV 15 s31 b28 (2 : Int32) (.ref b29)).bind fun s32 =>
        (toR (gV 0 s32 a0 0)).bind fun b33 =>
        (lenA 15 s32 b33).bind fun v34 =>
        if v34 ≤ (3 : Int32) then (
          some s32
        ) else (
          (toR (gV 0 s32 a0 0)).bind fun b35 =>
          (nwO 4 2 (fun j => defaultValue (tyX4 j)) s32).bind fun (b36, s37) =>
          (mX4_init n s37 b36).bind fun s38 =>
          (isO 4 s38 b36).bind fun _ =>
          (sV 15 s38 b35 (3 : Int32) (.ref b36)).bind fun s39 =>
          (toR (gV 0 s39 a0 0)).bind fun b40 =>
          (lenA 15 s39 b40).bind fun v41 =>
          if v41 ≤ (4 : Int32) then (
            some s39
          ) else (
            (toR (gV 0 s39 a0 0)).bind fun b42 =>
            (nwO 4 2 (fun j => defaultValue (tyX4 j)) s39).bind fun (b43, s44) =>
            (mX4_init n s44 b43).bind fun s45 =>
            (isO 4 s45 b43).bind fun _ =>
            (sV 15 s45 b42 (4 : Int32) (.ref b43)).bind fun s46 =>
            (toR (gV 0 s46 a0 0)).bind fun b47 =>
            (lenA 15 s46 b47).bind fun v48 =>
            if v48 ≤ (5 : Int32) then (
              some s46
            ) else (
              (toR (gV 0 s46 a0 0)).bind fun b49 =>
              (nwO 4 2 (fun j => defaultValue (tyX4 j)) s46).bind fun (b50, s51) =>
              (mX4_init n s51 b50).bind fun s52 =>
              (isO 4 s52 b50).bind fun _ =>
              (sV 15 s52 b49 (5 : Int32) (.ref b50)).bind fun s53 =>
              (toR (gV 0 s53 a0 0)).bind fun b54 =>
              (lenA 15 s53 b54).bind fun v55 =>
              if v55 ≤ (6 : Int32) then (
                some s53
              ) else (
                (toR (gV 0 s53 a0 0)).bind fun b56 =>
                (nwO 4 2 (fun j => defaultValue (tyX4 j)) s53).bind fun (b57, s58) =>
                (mX4_init n s58 b57).bind fun s59 =>
                (isO 4 s59 b57).bind fun _ =>
                (sV 15 s59 b56 (6 : Int32) (.ref b57)).bind fun s60 =>
                (toR (gV 0 s60 a0 0)).bind fun b61 =>
                (lenA 15 s60 b61).bind fun v62 =>
                if v62 ≤ (7 : Int32) then (
                  some s60
                ) else (
                  (toR (gV 0 s60 a0 0)).bind fun b63 =>
                  (nwO 4 2 (fun j => defaultValue (tyX4 j)) s60).bind fun (b64, s65) =>
                  (mX4_init n s65 b64).bind fun s66 =>
                  (isO 4 s66 b64).bind fun _ =>
                  (sV 15 s66 b63 (7 : Int32) (.ref b64)).bind fun s67 =>
                  none
                )
              )
            )
          )
        )
      )
    )
  )
set_option maxRecDepth 100000 in
set_option maxHeartbeats 4000000 in
theorem bX0_init {G : Cx} {E : Ev} {n : Nat} (hRm : 2 ≤ E.1.frames ∧ 40 ≤ E.1.locals) (hCm : 19 ≤ E.1.cells ∧ 683 ≤ E.1.slots ∧ 19 ≤ E.2.2.1 ∧ 683 ≤ E.2.2.2.1) {P : Sg → Prop} (hQ : ∀ s, P s → E.2.2.2.2 none s) {s0 : Sg} {a0 : Nat} (h : Ok (mX0_init n s0 a0) P) : BW G tX0_init E 0 0 0 [(0, .ref a0)] [] s0 := by
  unfold mX0_init at h
  refine BW.run [.aload_n 0] (pc' := 1) (lv' := [(0, .ref a0)]) (st' := [.ref a0]) (by decide +kernel) rfl rfl ?_
  refine BW.objInit (by decide +kernel : decode tX0_init.2.1 1 = .ok (.invokespecial 3, 3)) lkM_X0_3 im_object cd_object (Nat.le_of_ble_eq_true rfl) ⟨Nat.le_trans (by decide) hRm.1, Nat.le_trans (by decide) hRm.2⟩ ?_
  refine BW.run [.aload_n 0, .bipush 7] (pc' := 7) (lv' := [(0, .ref a0)]) (st' := [.int (7 : Int32), .ref a0]) (by decide +kernel) rfl rfl ?_
  obtain ⟨⟨b1, s2⟩, es2, h⟩ := Ok.bind h
  refine BW.anewB (by decide +kernel : decode tX0_init.2.1 7 = .ok (.anewarray 9, 3)) (t := 15) (by decide) rfl lkC_X0_9 (by decide) (by decide) (by decide) (Nat.le_trans (by decide) hCm.1) (Nat.le_trans (by decide) hCm.2.1) es2 ?_
  show BW G tX0_init E 1 7 10 [(0, .ref a0)] (.ref b1 :: [.ref a0]) s2
  obtain ⟨s3, es3, h⟩ := Ok.bind h
  refine BW.putF (by decide +kernel : decode tX0_init.2.1 10 = .ok (.putfield 11, 3)) ciX0 (k := 0) (by decide) lkF_X0_11 rfl rfl rfl rfl rfl es3 ?_
  refine BW.run [.aload_n 0, .bipush 6] (pc' := 16) (lv' := [(0, .ref a0)]) (st' := [.int (6 : Int32), .ref a0]) (by decide +kernel) rfl rfl ?_
  obtain ⟨⟨b4, s5⟩, es5, h⟩ := Ok.bind h
  refine BW.newaB (by decide +kernel : decode tX0_init.2.1 16 = .ok (.newarray .int, 2)) (t := 11) (by decide) ar11 (by decide) (by decide) (by decide) (Nat.le_trans (by decide) hCm.1) (Nat.le_trans (by decide) hCm.2.1) es5 rfl ?_
  show BW G tX0_init E 2 13 18 [(0, .ref a0)] (.ref b4 :: [.ref a0]) s5
  obtain ⟨s6, es6, h⟩ := Ok.bind h
  refine BW.putF (by decide +kernel : decode tX0_init.2.1 18 = .ok (.putfield 17, 3)) ciX0 (k := 1) (by decide) lkF_X0_17 rfl rfl rfl rfl rfl es6 ?_
  refine BW.run [.aload_n 0, .bipush 6] (pc' := 24) (lv' := [(0, .ref a0)]) (st' := [.int (6 : Int32), .ref a0]) (by decide +kernel) rfl rfl ?_
  obtain ⟨⟨b7, s8⟩, es8, h⟩ := Ok.bind h
  refine BW.newaB (by decide +kernel : decode tX0_init.2.1 24 = .ok (.newarray .int, 2)) (t := 11) (by decide) ar11 (by decide) (by decide) (by decide) (Nat.le_trans (by decide) hCm.1) (Nat.le_trans (by decide) hCm.2.1) es8 rfl ?_
  show BW G tX0_init E 3 19 26 [(0, .ref a0)] (.ref b7 :: [.ref a0]) s8
  obtain ⟨s9, es9, h⟩ := Ok.bind h
  refine BW.putF (by decide +kernel : decode tX0_init.2.1 26 = .ok (.putfield 21, 3)) ciX0 (k := 2) (by decide) lkF_X0_21 rfl rfl rfl rfl rfl es9 ?_
  refine BW.run [.aload_n 0, .iconst 0] (pc' := 31) (lv' := [(0, .ref a0)]) (st' := [.int (0 : Int32), .ref a0]) (by decide +kernel) rfl rfl ?_
  obtain ⟨s10, es10, h⟩ := Ok.bind h
  refine BW.put (by decide +kernel : decode tX0_init.2.1 31 = .ok (.putfield 24, 3)) ciX0 (k := 3) (by decide) lkF_X0_24 rfl rfl rfl es10 ?_
  refine BW.run [.aload_n 0, .iconst 0] (pc' := 36) (lv' := [(0, .ref a0)]) (st' := [.int (0 : Int32), .ref a0]) (by decide +kernel) rfl rfl ?_
  obtain ⟨s11, es11, h⟩ := Ok.bind h
  refine BW.put (by decide +kernel : decode tX0_init.2.1 36 = .ok (.putfield 28, 3)) ciX0 (k := 4) (by decide) lkF_X0_28 rfl rfl rfl es11 ?_
  refine BW.run [.iconst 0, .istore_n 1, .iload_n 1, .aload_n 0] (pc' := 43) (lv' := [(0, .ref a0), (1, .int (0 : Int32))]) (st' := [.ref a0, .int (0 : Int32)]) (by decide +kernel) rfl rfl ?_
  obtain ⟨b12, eb12, h⟩ := Ok.bind h
  refine BW.get (by decide +kernel : decode tX0_init.2.1 43 = .ok (.getfield 11, 3)) ciX0 (k := 0) (by decide) lkF_X0_11 (toR_V eb12) ?_
  obtain ⟨v13, ev13, h⟩ := Ok.bind h
  refine BW.alen (by decide +kernel : decode tX0_init.2.1 46 = .ok (.arraylength, 1)) (t := 15) (by decide) ev13 ?_
  refine BW.icmp_ge 69 (by decide +kernel : decode tX0_init.2.1 47 = .ok (.if_icmp .ge 22, 3)) (by decide) (fun hc => ?_) (fun hc => ?_)
  · have h := (Ok.ite h).1 hc
    exact BW.vret (by decide +kernel : decode tX0_init.2.1 69 = .ok (.return_, 1)) rfl (Nat.le_trans (by decide) hCm.2.2.1) (Nat.le_trans (by decide) hCm.2.2.2) (hQ _ (Ok.some h))
  · have h := (Ok.ite h).2 hc
    refine BW.run [.aload_n 0] (pc' := 51) (lv' := [(0, .ref a0), (1, .int (0 : Int32))]) (st' := [.ref a0]) (by decide +kernel) rfl rfl ?_
    obtain ⟨b14, eb14, h⟩ := Ok.bind h
    refine BW.get (by decide +kernel : decode tX0_init.2.1 51 = .ok (.getfield 11, 3)) ciX0 (k := 0) (by decide) lkF_X0_11 (toR_V eb14) ?_
    refine BW.run [.iload_n 1] (pc' := 55) (lv' := [(0, .ref a0), (1, .int (0 : Int32))]) (st' := [.int (0 : Int32), .ref b14]) (by decide +kernel) rfl rfl ?_
    obtain ⟨⟨b15, s16⟩, es16, h⟩ := Ok.bind h
    refine BW.newB (by decide +kernel : decode tX0_init.2.1 55 = .ok (.new 9, 3)) ciX4 lkC_X0_9 ins4 ini4 (Nat.le_trans (by decide) hCm.1) (Nat.le_trans (by decide) hCm.2.1) es16 ?_
    show BW G tX0_init E 4 21 58 [(0, .ref a0), (1, .int (0 : Int32))] (.ref b15 :: [.int (0 : Int32), .ref b14]) s16
    refine BW.run [.dup] (pc' := 59) (lv' := [(0, .ref a0), (1, .int (0 : Int32))]) (st' := [.ref b15, .ref b15, .int (0 : Int32), .ref b14]) (by decide +kernel) rfl rfl ?_
    refine BW.callIN (As := []) (st := [.ref b15, .int (0 : Int32), .ref b14]) (by decide +kernel : decode tX0_init.2.1 59 = .ok (.invokespecial 31, 3)) (DX4_init (Ok.bindK h)) mfX4_init rfl lkM_X0_31 imX4_init rfl rfl rfl (Nat.le_of_ble_eq_true rfl) ⟨Nat.le_trans (by decide) hRm.1, Nat.le_trans (by decide) hRm.2⟩ ⟨Nat.le_trans (by decide) hCm.1, Nat.le_trans (by decide) hCm.2.1⟩ ?_
    rintro _ s17 ⟨rfl, h⟩
    show BW G tX0_init E 5 102 62 [(0, .ref a0), (1, .int (0 : Int32))] [.ref b15, .int (0 : Int32), .ref b14] s17
    obtain ⟨_, us18, h⟩ := Ok.bind h
    obtain ⟨s18, es18, h⟩ := Ok.bind h
    refine BW.aast (by decide +kernel : decode tX0_init.2.1 62 = .ok (.aastore, 1)) (by decide) ciX4 rfl (isO_spec us18).choose_spec es18 ?_
    refine BW.run [.iinc 1 1] (pc' := 66) (lv' := [(0, .ref a0), (1, .int (1 : Int32))]) (st' := []) (by decide +kernel) rfl rfl ?_
    refine BW.goto 41 (by decide +kernel : decode tX0_init.2.1 66 = .ok (.goto (-25), 3)) (by decide) ?_
    refine BW.run [.iload_n 1, .aload_n 0] (pc' := 43) (lv' := [(0, .ref a0), (1, .int (1 : Int32))]) (st' := [.ref a0, .int (1 : Int32)]) (by decide +kernel) rfl rfl ?_
    obtain ⟨b19, eb19, h⟩ := Ok.bind h
    refine BW.get (by decide +kernel : decode tX0_init.2.1 43 = .ok (.getfield 11, 3)) ciX0 (k := 0) (by decide) lkF_X0_11 (toR_V eb19) ?_
    obtain ⟨v20, ev20, h⟩ := Ok.bind h
    refine BW.alen (by decide +kernel : decode tX0_init.2.1 46 = .ok (.arraylength, 1)) (t := 15) (by decide) ev20 ?_
    refine BW.icmp_ge 69 (by decide +kernel : decode tX0_init.2.1 47 = .ok (.if_icmp .ge 22, 3)) (by decide) (fun hc => ?_) (fun hc => ?_)
    · have h := (Ok.ite h).1 hc
      exact BW.vret (by decide +kernel : decode tX0_init.2.1 69 = .ok (.return_, 1)) rfl (Nat.le_trans (by decide) hCm.2.2.1) (Nat.le_trans (by decide) hCm.2.2.2) (hQ _ (Ok.some h))
    · have h := (Ok.ite h).2 hc
      refine BW.run [.aload_n 0] (pc' := 51) (lv' := [(0, .ref a0), (1, .int (1 : Int32))]) (st' := [.ref a0]) (by decide +kernel) rfl rfl ?_
      obtain ⟨b21, eb21, h⟩ := Ok.bind h
      refine BW.get (by decide +kernel : decode tX0_init.2.1 51 = .ok (.getfield 11, 3)) ciX0 (k := 0) (by decide) lkF_X0_11 (toR_V eb21) ?_
      refine BW.run [.iload_n 1] (pc' := 55) (lv' := [(0, .ref a0), (1, .int (1 : Int32))]) (st' := [.int (1 : Int32), .ref b21]) (by decide +kernel) rfl rfl ?_
      obtain ⟨⟨b22, s23⟩, es23, h⟩ := Ok.bind h
      refine BW.newB (by decide +kernel : decode tX0_init.2.1 55 = .ok (.new 9, 3)) ciX4 lkC_X0_9 ins4 ini4 (Nat.le_trans (by decide) hCm.1) (Nat.le_trans (by decide) hCm.2.1) es23 ?_
      show BW G tX0_init E 6 104 58 [(0, .ref a0), (1, .int (1 : Int32))] (.ref b22 :: [.int (1 : Int32), .ref b21]) s23
      refine BW.run [.dup] (pc' := 59) (lv' := [(0, .ref a0), (1, .int (1 : Int32))]) (st' := [.ref b22, .ref b22, .int (1 : Int32), .ref b21]) (by decide +kernel) rfl rfl ?_
      refine BW.callIN (As := []) (st := [.ref b22, .int (1 : Int32), .ref b21]) (by decide +kernel : decode tX0_init.2.1 59 = .ok (.invokespecial 31, 3)) (DX4_init (Ok.bindK h)) mfX4_init rfl lkM_X0_31 imX4_init rfl rfl rfl (Nat.le_of_ble_eq_true rfl) ⟨Nat.le_trans (by decide) hRm.1, Nat.le_trans (by decide) hRm.2⟩ ⟨Nat.le_trans (by decide) hCm.1, Nat.le_trans (by decide) hCm.2.1⟩ ?_
      rintro _ s24 ⟨rfl, h⟩
      show BW G tX0_init E 7 185 62 [(0, .ref a0), (1, .int (1 : Int32))] [.ref b22, .int (1 : Int32), .ref b21] s24
      obtain ⟨_, us25, h⟩ := Ok.bind h
      obtain ⟨s25, es25, h⟩ := Ok.bind h
      refine BW.aast (by decide +kernel : decode tX0_init.2.1 62 = .ok (.aastore, 1)) (by decide) ciX4 rfl (isO_spec us25).choose_spec es25 ?_
      refine BW.run [.iinc 1 1] (pc' := 66) (lv' := [(0, .ref a0), (1, .int (2 : Int32))]) (st' := []) (by decide +kernel) rfl rfl ?_
      refine BW.goto 41 (by decide +kernel : decode tX0_init.2.1 66 = .ok (.goto (-25), 3)) (by decide) ?_
      refine BW.run [.iload_n 1, .aload_n 0] (pc' := 43) (lv' := [(0, .ref a0), (1, .int (2 : Int32))]) (st' := [.ref a0, .int (2 : Int32)]) (by decide +kernel) rfl rfl ?_
      obtain ⟨b26, eb26, h⟩ := Ok.bind h
      refine BW.get (by decide +kernel : decode tX0_init.2.1 43 = .ok (.getfield 11, 3)) ciX0 (k := 0) (by decide) lkF_X0_11 (toR_V eb26) ?_
      obtain ⟨v27, ev27, h⟩ := Ok.bind h
      refine BW.alen (by decide +kernel : decode tX0_init.2.1 46 = .ok (.arraylength, 1)) (t := 15) (by decide) ev27 ?_
      refine BW.icmp_ge 69 (by decide +kernel : decode tX0_init.2.1 47 = .ok (.if_icmp .ge 22, 3)) (by decide) (fun hc => ?_) (fun hc => ?_)
      · have h := (Ok.ite h).1 hc
        exact BW.vret (by decide +kernel : decode tX0_init.2.1 69 = .ok (.return_, 1)) rfl (Nat.le_trans (by decide) hCm.2.2.1) (Nat.le_trans (by decide) hCm.2.2.2) (hQ _ (Ok.some h))
      · have h := (Ok.ite h).2 hc
        refine BW.run [.aload_n 0] (pc' := 51) (lv' := [(0, .ref a0), (1, .int (2 : Int32))]) (st' := [.ref a0]) (by decide +kernel) rfl rfl ?_
        obtain ⟨b28, eb28, h⟩ := Ok.bind h
        refine BW.get (by decide +kernel : decode tX0_init.2.1 51 = .ok (.getfield 11, 3)) ciX0 (k := 0) (by decide) lkF_X0_11 (toR_V eb28) ?_
        refine BW.run [.iload_n 1] (pc' := 55) (lv' := [(0, .ref a0), (1, .int (2 : Int32))]) (st' := [.int (2 : Int32), .ref b28]) (by decide +kernel) rfl rfl ?_
        obtain ⟨⟨b29, s30⟩, es30, h⟩ := Ok.bind h
        refine BW.newB (by decide +kernel : decode tX0_init.2.1 55 = .ok (.new 9, 3)) ciX4 lkC_X0_9 ins4 ini4 (Nat.le_trans (by decide) hCm.1) (Nat.le_trans (by decide) hCm.2.1) es30 ?_
        show BW G tX0_init E 8 187 58 [(0, .ref a0), (1, .int (2 : Int32))] (.ref b29 :: [.int (2 : Int32), .ref b28]) s30
        refine BW.run [.dup] (pc' := 59) (lv' := [(0, .ref a0), (1, .int (2 : Int32))]) (st' := [.ref b29, .ref b29, .int (2 : Int32), .ref b28]) (by decide +kernel) rfl rfl ?_
        refine BW.callIN (As := []) (st := [.ref b29, .int (2 : Int32), .ref b28]) (by decide +kernel : decode tX0_init.2.1 59 = .ok (.invokespecial 31, 3)) (DX4_init (Ok.bindK h)) mfX4_init rfl lkM_X0_31 imX4_init rfl rfl rfl (Nat.le_of_ble_eq_true rfl) ⟨Nat.le_trans (by decide) hRm.1, Nat.le_trans (by decide) hRm.2⟩ ⟨Nat.le_trans (by decide) hCm.1, Nat.le_trans (by decide) hCm.2.1⟩ ?_
        rintro _ s31 ⟨rfl, h⟩
        show BW G tX0_init E 9 268 62 [(0, .ref a0), (1, .int (2 : Int32))] [.ref b29, .int (2 : Int32), .ref b28] s31
        obtain ⟨_, us32, h⟩ := Ok.bind h
        obtain ⟨s32, es32, h⟩ := Ok.bind h
        refine BW.aast (by decide +kernel : decode tX0_init.2.1 62 = .ok (.aastore, 1)) (by decide) ciX4 rfl (isO_spec us32).choose_spec es32 ?_
        refine BW.run [.iinc 1 1] (pc' := 66) (lv' := [(0, .ref a0), (1, .int (3 : Int32))]) (st' := []) (by decide +kernel) rfl rfl ?_
        refine BW.goto 41 (by decide +kernel : decode tX0_init.2.1 66 = .ok (.goto (-25), 3)) (by decide) ?_
        refine BW.run [.iload_n 1, .aload_n 0] (pc' := 43) (lv' := [(0, .ref a0), (1, .int (3 : Int32))]) (st' := [.ref a0, .int (3 : Int32)]) (by decide +kernel) rfl rfl ?_
        obtain ⟨b33, eb33, h⟩ := Ok.bind h
        refine BW.get (by decide +kernel : decode tX0_init.2.1 43 = .ok (.getfield 11, 3)) ciX0 (k := 0) (by decide) lkF_X0_11 (toR_V eb33) ?_
        obtain ⟨v34, ev34, h⟩ := Ok.bind h
        refine BW.alen (by decide +kernel : decode tX0_init.2.1 46 = .ok (.arraylength, 1)) (t := 15) (by decide) ev34 ?_
        refine BW.icmp_ge 69 (by decide +kernel : decode tX0_init.2.1 47 = .ok (.if_icmp .ge 22, 3)) (by decide) (fun hc => ?_) (fun hc => ?_)
        · have h := (Ok.ite h).1 hc
          exact BW.vret (by decide +kernel : decode tX0_init.2.1 69 = .ok (.return_, 1)) rfl (Nat.le_trans (by decide) hCm.2.2.1) (Nat.le_trans (by decide) hCm.2.2.2) (hQ _ (Ok.some h))
        · have h := (Ok.ite h).2 hc
          refine BW.run [.aload_n 0] (pc' := 51) (lv' := [(0, .ref a0), (1, .int (3 : Int32))]) (st' := [.ref a0]) (by decide +kernel) rfl rfl ?_
          obtain ⟨b35, eb35, h⟩ := Ok.bind h
          refine BW.get (by decide +kernel : decode tX0_init.2.1 51 = .ok (.getfield 11, 3)) ciX0 (k := 0) (by decide) lkF_X0_11 (toR_V eb35) ?_
          refine BW.run [.iload_n 1] (pc' := 55) (lv' := [(0, .ref a0), (1, .int (3 : Int32))]) (st' := [.int (3 : Int32), .ref b35]) (by decide +kernel) rfl rfl ?_
          obtain ⟨⟨b36, s37⟩, es37, h⟩ := Ok.bind h
          refine BW.newB (by decide +kernel : decode tX0_init.2.1 55 = .ok (.new 9, 3)) ciX4 lkC_X0_9 ins4 ini4 (Nat.le_trans (by decide) hCm.1) (Nat.le_trans (by decide) hCm.2.1) es37 ?_
          show BW G tX0_init E 10 270 58 [(0, .ref a0), (1, .int (3 : Int32))] (.ref b36 :: [.int (3 : Int32), .ref b35]) s37
          refine BW.run [.dup] (pc' := 59) (lv' := [(0, .ref a0), (1, .int (3 : Int32))]) (st' := [.ref b36, .ref b36, .int (3 : Int32), .ref b35]) (by decide +kernel) rfl rfl ?_
          refine BW.callIN (As := []) (st := [.ref b36, .int (3 : Int32), .ref b35]) (by decide +kernel : decode tX0_init.2.1 59 = .ok (.invokespecial 31, 3)) (DX4_init (Ok.bindK h)) mfX4_init rfl lkM_X0_31 imX4_init rfl rfl rfl (Nat.le_of_ble_eq_true rfl) ⟨Nat.le_trans (by decide) hRm.1, Nat.le_trans (by decide) hRm.2⟩ ⟨Nat.le_trans (by decide) hCm.1, Nat.le_trans (by decide) hCm.2.1⟩ ?_
          rintro _ s38 ⟨rfl, h⟩
          show BW G tX0_init E 11 351 62 [(0, .ref a0), (1, .int (3 : Int32))] [.ref b36, .int (3 : Int32), .ref b35] s38
          obtain ⟨_, us39, h⟩ := Ok.bind h
          obtain ⟨s39, es39, h⟩ := Ok.bind h
          refine BW.aast (by decide +kernel : decode tX0_init.2.1 62 = .ok (.aastore, 1)) (by decide) ciX4 rfl (isO_spec us39).choose_spec es39 ?_
          refine BW.run [.iinc 1 1] (pc' := 66) (lv' := [(0, .ref a0), (1, .int (4 : Int32))]) (st' := []) (by decide +kernel) rfl rfl ?_
          refine BW.goto 41 (by decide +kernel : decode tX0_init.2.1 66 = .ok (.goto (-25), 3)) (by decide) ?_
          refine BW.run [.iload_n 1, .aload_n 0] (pc' := 43) (lv' := [(0, .ref a0), (1, .int (4 : Int32))]) (st' := [.ref a0, .int (4 : Int32)]) (by decide +kernel) rfl rfl ?_
          obtain ⟨b40, eb40, h⟩ := Ok.bind h
          refine BW.get (by decide +kernel : decode tX0_init.2.1 43 = .ok (.getfield 11, 3)) ciX0 (k := 0) (by decide) lkF_X0_11 (toR_V eb40) ?_
          obtain ⟨v41, ev41, h⟩ := Ok.bind h
          refine BW.alen (by decide +kernel : decode tX0_init.2.1 46 = .ok (.arraylength, 1)) (t := 15) (by decide) ev41 ?_
          refine BW.icmp_ge 69 (by decide +kernel : decode tX0_init.2.1 47 = .ok (.if_icmp .ge 22, 3)) (by decide) (fun hc => ?_) (fun hc => ?_)
          · have h := (Ok.ite h).1 hc
            exact BW.vret (by decide +kernel : decode tX0_init.2.1 69 = .ok (.return_, 1)) rfl (Nat.le_trans (by decide) hCm.2.2.1) (Nat.le_trans (by decide) hCm.2.2.2) (hQ _ (Ok.some h))
          · have h := (Ok.ite h).2 hc
            refine BW.run [.aload_n 0] (pc' := 51) (lv' := [(0, .ref a0), (1, .int (4 : Int32))]) (st' := [.ref a0]) (by decide +kernel) rfl rfl ?_
            obtain ⟨b42, eb42, h⟩ := Ok.bind h
            refine BW.get (by decide +kernel : decode tX0_init.2.1 51 = .ok (.getfield 11, 3)) ciX0 (k := 0) (by decide) lkF_X0_11 (toR_V eb42) ?_
            refine BW.run [.iload_n 1] (pc' := 55) (lv' := [(0, .ref a0), (1, .int (4 : Int32))]) (st' := [.int (4 : Int32), .ref b42]) (by decide +kernel) rfl rfl ?_
            obtain ⟨⟨b43, s44⟩, es44, h⟩ := Ok.bind h
            refine BW.newB (by decide +kernel : decode tX0_init.2.1 55 = .ok (.new 9, 3)) ciX4 lkC_X0_9 ins4 ini4 (Nat.le_trans (by decide) hCm.1) (Nat.le_trans (by decide) hCm.2.1) es44 ?_
            show BW G tX0_init E 12 353 58 [(0, .ref a0), (1, .int (4 : Int32))] (.ref b43 :: [.int (4 : Int32), .ref b42]) s44
            refine BW.run [.dup] (pc' := 59) (lv' := [(0, .ref a0), (1, .int (4 : Int32))]) (st' := [.ref b43, .ref b43, .int (4 : Int32), .ref b42]) (by decide +kernel) rfl rfl ?_
            refine BW.callIN (As := []) (st := [.ref b43, .int (4 : Int32), .ref b42]) (by decide +kernel : decode tX0_init.2.1 59 = .ok (.invokespecial 31, 3)) (DX4_init (Ok.bindK h)) mfX4_init rfl lkM_X0_31 imX4_init rfl rfl rfl (Nat.le_of_ble_eq_true rfl) ⟨Nat.le_trans (by decide) hRm.1, Nat.le_trans (by decide) hRm.2⟩ ⟨Nat.le_trans (by decide) hCm.1, Nat.le_trans (by decide) hCm.2.1⟩ ?_
            rintro _ s45 ⟨rfl, h⟩
            show BW G tX0_init E 13 434 62 [(0, .ref a0), (1, .int (4 : Int32))] [.ref b43, .int (4 : Int32), .ref b42] s45
            obtain ⟨_, us46, h⟩ := Ok.bind h
            obtain ⟨s46, es46, h⟩ := Ok.bind h
            refine BW.aast (by decide +kernel : decode tX0_init.2.1 62 = .ok (.aastore, 1)) (by decide) ciX4 rfl (isO_spec us46).choose_spec es46 ?_
            refine BW.run [.iinc 1 1] (pc' := 66) (lv' := [(0, .ref a0), (1, .int (5 : Int32))]) (st' := []) (by decide +kernel) rfl rfl ?_
            refine BW.goto 41 (by decide +kernel : decode tX0_init.2.1 66 = .ok (.goto (-25), 3)) (by decide) ?_
            refine BW.run [.iload_n 1, .aload_n 0] (pc' := 43) (lv' := [(0, .ref a0), (1, .int (5 : Int32))]) (st' := [.ref a0, .int (5 : Int32)]) (by decide +kernel) rfl rfl ?_
            obtain ⟨b47, eb47, h⟩ := Ok.bind h
            refine BW.get (by decide +kernel : decode tX0_init.2.1 43 = .ok (.getfield 11, 3)) ciX0 (k := 0) (by decide) lkF_X0_11 (toR_V eb47) ?_
            obtain ⟨v48, ev48, h⟩ := Ok.bind h
            refine BW.alen (by decide +kernel : decode tX0_init.2.1 46 = .ok (.arraylength, 1)) (t := 15) (by decide) ev48 ?_
            refine BW.icmp_ge 69 (by decide +kernel : decode tX0_init.2.1 47 = .ok (.if_icmp .ge 22, 3)) (by decide) (fun hc => ?_) (fun hc => ?_)
            · have h := (Ok.ite h).1 hc
              exact BW.vret (by decide +kernel : decode tX0_init.2.1 69 = .ok (.return_, 1)) rfl (Nat.le_trans (by decide) hCm.2.2.1) (Nat.le_trans (by decide) hCm.2.2.2) (hQ _ (Ok.some h))
            · have h := (Ok.ite h).2 hc
              refine BW.run [.aload_n 0] (pc' := 51) (lv' := [(0, .ref a0), (1, .int (5 : Int32))]) (st' := [.ref a0]) (by decide +kernel) rfl rfl ?_
              obtain ⟨b49, eb49, h⟩ := Ok.bind h
              refine BW.get (by decide +kernel : decode tX0_init.2.1 51 = .ok (.getfield 11, 3)) ciX0 (k := 0) (by decide) lkF_X0_11 (toR_V eb49) ?_
              refine BW.run [.iload_n 1] (pc' := 55) (lv' := [(0, .ref a0), (1, .int (5 : Int32))]) (st' := [.int (5 : Int32), .ref b49]) (by decide +kernel) rfl rfl ?_
              obtain ⟨⟨b50, s51⟩, es51, h⟩ := Ok.bind h
              refine BW.newB (by decide +kernel : decode tX0_init.2.1 55 = .ok (.new 9, 3)) ciX4 lkC_X0_9 ins4 ini4 (Nat.le_trans (by decide) hCm.1) (Nat.le_trans (by decide) hCm.2.1) es51 ?_
              show BW G tX0_init E 14 436 58 [(0, .ref a0), (1, .int (5 : Int32))] (.ref b50 :: [.int (5 : Int32), .ref b49]) s51
              refine BW.run [.dup] (pc' := 59) (lv' := [(0, .ref a0), (1, .int (5 : Int32))]) (st' := [.ref b50, .ref b50, .int (5 : Int32), .ref b49]) (by decide +kernel) rfl rfl ?_
              refine BW.callIN (As := []) (st := [.ref b50, .int (5 : Int32), .ref b49]) (by decide +kernel : decode tX0_init.2.1 59 = .ok (.invokespecial 31, 3)) (DX4_init (Ok.bindK h)) mfX4_init rfl lkM_X0_31 imX4_init rfl rfl rfl (Nat.le_of_ble_eq_true rfl) ⟨Nat.le_trans (by decide) hRm.1, Nat.le_trans (by decide) hRm.2⟩ ⟨Nat.le_trans (by decide) hCm.1, Nat.le_trans (by decide) hCm.2.1⟩ ?_
              rintro _ s52 ⟨rfl, h⟩
              show BW G tX0_init E 15 517 62 [(0, .ref a0), (1, .int (5 : Int32))] [.ref b50, .int (5 : Int32), .ref b49] s52
              obtain ⟨_, us53, h⟩ := Ok.bind h
              obtain ⟨s53, es53, h⟩ := Ok.bind h
              refine BW.aast (by decide +kernel : decode tX0_init.2.1 62 = .ok (.aastore, 1)) (by decide) ciX4 rfl (isO_spec us53).choose_spec es53 ?_
              refine BW.run [.iinc 1 1] (pc' := 66) (lv' := [(0, .ref a0), (1, .int (6 : Int32))]) (st' := []) (by decide +kernel) rfl rfl ?_
              refine BW.goto 41 (by decide +kernel : decode tX0_init.2.1 66 = .ok (.goto (-25), 3)) (by decide) ?_
              refine BW.run [.iload_n 1, .aload_n 0] (pc' := 43) (lv' := [(0, .ref a0), (1, .int (6 : Int32))]) (st' := [.ref a0, .int (6 : Int32)]) (by decide +kernel) rfl rfl ?_
              obtain ⟨b54, eb54, h⟩ := Ok.bind h
              refine BW.get (by decide +kernel : decode tX0_init.2.1 43 = .ok (.getfield 11, 3)) ciX0 (k := 0) (by decide) lkF_X0_11 (toR_V eb54) ?_
              obtain ⟨v55, ev55, h⟩ := Ok.bind h
              refine BW.alen (by decide +kernel : decode tX0_init.2.1 46 = .ok (.arraylength, 1)) (t := 15) (by decide) ev55 ?_
              refine BW.icmp_ge 69 (by decide +kernel : decode tX0_init.2.1 47 = .ok (.if_icmp .ge 22, 3)) (by decide) (fun hc => ?_) (fun hc => ?_)
              · have h := (Ok.ite h).1 hc
                exact BW.vret (by decide +kernel : decode tX0_init.2.1 69 = .ok (.return_, 1)) rfl (Nat.le_trans (by decide) hCm.2.2.1) (Nat.le_trans (by decide) hCm.2.2.2) (hQ _ (Ok.some h))
              · have h := (Ok.ite h).2 hc
                refine BW.run [.aload_n 0] (pc' := 51) (lv' := [(0, .ref a0), (1, .int (6 : Int32))]) (st' := [.ref a0]) (by decide +kernel) rfl rfl ?_
                obtain ⟨b56, eb56, h⟩ := Ok.bind h
                refine BW.get (by decide +kernel : decode tX0_init.2.1 51 = .ok (.getfield 11, 3)) ciX0 (k := 0) (by decide) lkF_X0_11 (toR_V eb56) ?_
                refine BW.run [.iload_n 1] (pc' := 55) (lv' := [(0, .ref a0), (1, .int (6 : Int32))]) (st' := [.int (6 : Int32), .ref b56]) (by decide +kernel) rfl rfl ?_
                obtain ⟨⟨b57, s58⟩, es58, h⟩ := Ok.bind h
                refine BW.newB (by decide +kernel : decode tX0_init.2.1 55 = .ok (.new 9, 3)) ciX4 lkC_X0_9 ins4 ini4 (Nat.le_trans (by decide) hCm.1) (Nat.le_trans (by decide) hCm.2.1) es58 ?_
                show BW G tX0_init E 16 519 58 [(0, .ref a0), (1, .int (6 : Int32))] (.ref b57 :: [.int (6 : Int32), .ref b56]) s58
                refine BW.run [.dup] (pc' := 59) (lv' := [(0, .ref a0), (1, .int (6 : Int32))]) (st' := [.ref b57, .ref b57, .int (6 : Int32), .ref b56]) (by decide +kernel) rfl rfl ?_
                refine BW.callIN (As := []) (st := [.ref b57, .int (6 : Int32), .ref b56]) (by decide +kernel : decode tX0_init.2.1 59 = .ok (.invokespecial 31, 3)) (DX4_init (Ok.bindK h)) mfX4_init rfl lkM_X0_31 imX4_init rfl rfl rfl (Nat.le_of_ble_eq_true rfl) ⟨Nat.le_trans (by decide) hRm.1, Nat.le_trans (by decide) hRm.2⟩ ⟨Nat.le_trans (by decide) hCm.1, Nat.le_trans (by decide) hCm.2.1⟩ ?_
                rintro _ s59 ⟨rfl, h⟩
                show BW G tX0_init E 17 600 62 [(0, .ref a0), (1, .int (6 : Int32))] [.ref b57, .int (6 : Int32), .ref b56] s59
                obtain ⟨_, us60, h⟩ := Ok.bind h
                obtain ⟨s60, es60, h⟩ := Ok.bind h
                refine BW.aast (by decide +kernel : decode tX0_init.2.1 62 = .ok (.aastore, 1)) (by decide) ciX4 rfl (isO_spec us60).choose_spec es60 ?_
                refine BW.run [.iinc 1 1] (pc' := 66) (lv' := [(0, .ref a0), (1, .int (7 : Int32))]) (st' := []) (by decide +kernel) rfl rfl ?_
                refine BW.goto 41 (by decide +kernel : decode tX0_init.2.1 66 = .ok (.goto (-25), 3)) (by decide) ?_
                refine BW.run [.iload_n 1, .aload_n 0] (pc' := 43) (lv' := [(0, .ref a0), (1, .int (7 : Int32))]) (st' := [.ref a0, .int (7 : Int32)]) (by decide +kernel) rfl rfl ?_
                obtain ⟨b61, eb61, h⟩ := Ok.bind h
                refine BW.get (by decide +kernel : decode tX0_init.2.1 43 = .ok (.getfield 11, 3)) ciX0 (k := 0) (by decide) lkF_X0_11 (toR_V eb61) ?_
                obtain ⟨v62, ev62, h⟩ := Ok.bind h
                refine BW.alen (by decide +kernel : decode tX0_init.2.1 46 = .ok (.arraylength, 1)) (t := 15) (by decide) ev62 ?_
                refine BW.icmp_ge 69 (by decide +kernel : decode tX0_init.2.1 47 = .ok (.if_icmp .ge 22, 3)) (by decide) (fun hc => ?_) (fun hc => ?_)
                · have h := (Ok.ite h).1 hc
                  exact BW.vret (by decide +kernel : decode tX0_init.2.1 69 = .ok (.return_, 1)) rfl (Nat.le_trans (by decide) hCm.2.2.1) (Nat.le_trans (by decide) hCm.2.2.2) (hQ _ (Ok.some h))
                · have h := (Ok.ite h).2 hc
                  refine BW.run [.aload_n 0] (pc' := 51) (lv' := [(0, .ref a0), (1, .int (7 : Int32))]) (st' := [.ref a0]) (by decide +kernel) rfl rfl ?_
                  obtain ⟨b63, eb63, h⟩ := Ok.bind h
                  refine BW.get (by decide +kernel : decode tX0_init.2.1 51 = .ok (.getfield 11, 3)) ciX0 (k := 0) (by decide) lkF_X0_11 (toR_V eb63) ?_
                  refine BW.run [.iload_n 1] (pc' := 55) (lv' := [(0, .ref a0), (1, .int (7 : Int32))]) (st' := [.int (7 : Int32), .ref b63]) (by decide +kernel) rfl rfl ?_
                  obtain ⟨⟨b64, s65⟩, es65, h⟩ := Ok.bind h
                  refine BW.newB (by decide +kernel : decode tX0_init.2.1 55 = .ok (.new 9, 3)) ciX4 lkC_X0_9 ins4 ini4 (Nat.le_trans (by decide) hCm.1) (Nat.le_trans (by decide) hCm.2.1) es65 ?_
                  show BW G tX0_init E 18 602 58 [(0, .ref a0), (1, .int (7 : Int32))] (.ref b64 :: [.int (7 : Int32), .ref b63]) s65
                  refine BW.run [.dup] (pc' := 59) (lv' := [(0, .ref a0), (1, .int (7 : Int32))]) (st' := [.ref b64, .ref b64, .int (7 : Int32), .ref b63]) (by decide +kernel) rfl rfl ?_
                  refine BW.callIN (As := []) (st := [.ref b64, .int (7 : Int32), .ref b63]) (by decide +kernel : decode tX0_init.2.1 59 = .ok (.invokespecial 31, 3)) (DX4_init (Ok.bindK h)) mfX4_init rfl lkM_X0_31 imX4_init rfl rfl rfl (Nat.le_of_ble_eq_true rfl) ⟨Nat.le_trans (by decide) hRm.1, Nat.le_trans (by decide) hRm.2⟩ ⟨Nat.le_trans (by decide) hCm.1, Nat.le_trans (by decide) hCm.2.1⟩ ?_
                  rintro _ s66 ⟨rfl, h⟩
                  show BW G tX0_init E 19 683 62 [(0, .ref a0), (1, .int (7 : Int32))] [.ref b64, .int (7 : Int32), .ref b63] s66
                  obtain ⟨_, us67, h⟩ := Ok.bind h
                  obtain ⟨s67, es67, h⟩ := Ok.bind h
                  refine BW.aast (by decide +kernel : decode tX0_init.2.1 62 = .ok (.aastore, 1)) (by decide) ciX4 rfl (isO_spec us67).choose_spec es67 ?_
                  refine BW.run [.iinc 1 1] (pc' := 66) (lv' := [(0, .ref a0), (1, .int (8 : Int32))]) (st' := []) (by decide +kernel) rfl rfl ?_
                  refine BW.goto 41 (by decide +kernel : decode tX0_init.2.1 66 = .ok (.goto (-25), 3)) (by decide) ?_
                  exact (Ok.no h).elim
set_option maxRecDepth 100000 in
set_option maxHeartbeats 4000000 in
theorem DX0_init {G : Cx} {n : Nat} {P : Sg → Prop} {s0 : Sg} {a0 : Nat} (h : Ok (mX0_init n s0 a0) P) : BM G tX0_init 2 40 19 683 [.ref a0] s0 (fun v s => v = none ∧ P s) := by
  refine BM.of (by decide +kernel) (Nat.le_of_ble_eq_true rfl) ?_
  exact bX0_init (E := (({ frames := 2, cells := 19, slots := 683, locals := 40 }), Aof s0, 19, 683, (fun v s => v = none ∧ P s))) ⟨Nat.le_refl _, Nat.le_refl _⟩ ⟨Nat.le_refl _, Nat.le_refl _, Nat.le_refl _, Nat.le_refl _⟩ (fun s hp => ⟨rfl, hp⟩) h
def mX0_mostLinks_64 (n : Nat) (s0 : Sg) (a0 : Nat) (a2 : Nat) (x4 : Int32) : Option ((Sg × Int32) ⊕ (Sg)) :=
  some (.inl (s0, (x4 + (1 : Int32))))
theorem bX0_mostLinks_64 {G : Cx} {E : Ev} {n : Nat} (hRm : 24 ≤ E.1.frames ∧ 615 ≤ E.1.locals) {a1 : Nat} {s0 : Sg} {a0 : Nat} {a2 : Nat} {x4 : Int32} {P : (Sg × Int32) ⊕ (Sg) → Prop} (hC : ∀ (s : Sg) (c4 : Int32), P (.inl (s, c4)) → BW G tX0_mostLinks E 0 0 13 [(0, .ref a0), (1, .ref a1), (2, .ref a2), (4, .int c4)] [] s) (hE : ∀ (s : Sg), P (.inr s) → BW G tX0_mostLinks E 0 0 70 [(0, .ref a0), (1, .ref a1)] [] s)  (h : Ok (mX0_mostLinks_64 n s0 a0 a2 x4) P) : BW G tX0_mostLinks E 0 0 64 [(0, .ref a0), (1, .ref a1), (2, .ref a2), (4, .int x4)] [] s0 := by
  unfold mX0_mostLinks_64 at h
  refine BW.run [.iinc 4 1] (pc' := 67) (lv' := [(0, .ref a0), (1, .ref a1), (2, .ref a2), (4, .int (x4 + (1 : Int32)))]) (st' := []) (by decide +kernel) rfl rfl ?_
  refine BW.goto 13 (by decide +kernel : decode tX0_mostLinks.2.1 67 = .ok (.goto (-54), 3)) (by decide) ?_
  exact hC _ _ (Ok.some h)
def mX0_mostLinks_L13 (n : Nat) (a0 : Nat) (a2 : Nat) : (Sg × Int32) → Option ((Sg × Int32) ⊕ (Sg))
  | (s0, x4) =>
    (toI (gV 0 s0 a0 3)).bind fun v2 =>
    if v2 ≤ x4 then (
      some (.inr s0)
    ) else (
      (lenA 13 s0 a2).bind fun v3 =>
      if v3 ≤ x4 then (
        some (.inr s0)
      ) else (
        (toQ (aV 13 s0 a2 x4)).bind fun q4 => match q4 with
        | none => (
          mX0_mostLinks_64 n s0 a0 a2 x4
        )
        | some b5 => (
          (toR (gV 0 s0 a0 1)).bind fun b6 =>
          (toI (gV 8 s0 b5 1)).bind fun v7 =>
          (sV 11 s0 b6 x4 (.int v7)).bind fun s8 =>
          (toR (gV 0 s8 a0 2)).bind fun b9 =>
          (mX8_ticksToEnd n s8 b5).bind fun (v11, s10) =>
          (sV 11 s10 b9 x4 (.int v11)).bind fun s13 =>
          mX0_mostLinks_64 n s13 a0 a2 x4
        )
      )
    )
theorem bX0_mostLinks_L13 {G : Cx} {E : Ev} {n : Nat} (hRm : 24 ≤ E.1.frames ∧ 615 ≤ E.1.locals) {a0 : Nat} {a1 : Nat} {a2 : Nat} {P : (Sg × Int32) ⊕ (Sg) → Prop} (hC : ∀ (s : Sg) (c4 : Int32), P (.inl (s, c4)) → BW G tX0_mostLinks E 0 0 13 [(0, .ref a0), (1, .ref a1), (2, .ref a2), (4, .int c4)] [] s) (hE : ∀ (s : Sg), P (.inr s) → BW G tX0_mostLinks E 0 0 70 [(0, .ref a0), (1, .ref a1)] [] s) {s0 : Sg} {x4 : Int32} (h : Ok (mX0_mostLinks_L13 n a0 a2 (s0, x4)) P) : BW G tX0_mostLinks E 0 0 13 [(0, .ref a0), (1, .ref a1), (2, .ref a2), (4, .int x4)] [] s0 := by
  unfold mX0_mostLinks_L13 at h
  refine BW.run [.iload 4, .aload_n 0] (pc' := 16) (lv' := [(0, .ref a0), (1, .ref a1), (2, .ref a2), (4, .int x4)]) (st' := [.ref a0, .int x4]) (by decide +kernel) rfl rfl ?_
  obtain ⟨v2, ev2, h⟩ := Ok.bind h
  refine BW.get (by decide +kernel : decode tX0_mostLinks.2.1 16 = .ok (.getfield 24, 3)) ciX0 (k := 3) (by decide) lkF_X0_24 (toI_V ev2) ?_
  refine BW.icmp_ge 70 (by decide +kernel : decode tX0_mostLinks.2.1 19 = .ok (.if_icmp .ge 51, 3)) (by decide) (fun hc => ?_) (fun hc => ?_)
  · have h := (Ok.ite h).1 hc
    refine BW.sub [0, 1] rfl ?_
    exact hE _ (Ok.some h)
  · have h := (Ok.ite h).2 hc
    refine BW.run [.iload 4, .aload_n 2] (pc' := 25) (lv' := [(0, .ref a0), (1, .ref a1), (2, .ref a2), (4, .int x4)]) (st' := [.ref a2, .int x4]) (by decide +kernel) rfl rfl ?_
    obtain ⟨v3, ev3, h⟩ := Ok.bind h
    refine BW.alen (by decide +kernel : decode tX0_mostLinks.2.1 25 = .ok (.arraylength, 1)) (t := 13) (by decide) ev3 ?_
    refine BW.icmp_ge 70 (by decide +kernel : decode tX0_mostLinks.2.1 26 = .ok (.if_icmp .ge 44, 3)) (by decide) (fun hc => ?_) (fun hc => ?_)
    · have h := (Ok.ite h).1 hc
      refine BW.sub [0, 1] rfl ?_
      exact hE _ (Ok.some h)
    · have h := (Ok.ite h).2 hc
      refine BW.run [.aload_n 2, .iload 4] (pc' := 32) (lv' := [(0, .ref a0), (1, .ref a1), (2, .ref a2), (4, .int x4)]) (st' := [.int x4, .ref a2]) (by decide +kernel) rfl rfl ?_
      obtain ⟨q4, eq4, h⟩ := Ok.bind h
      refine BW.aald (by decide +kernel : decode tX0_mostLinks.2.1 32 = .ok (.aaload, 1)) (by decide) (toQ_V eq4) ?_
      cases q4 with
      | none =>
        show BW G tX0_mostLinks E 0 0 33 [(0, .ref a0), (1, .ref a1), (2, .ref a2), (4, .int x4)] (.null :: []) s0
        refine BW.run [.astore 5, .aload 5] (pc' := 37) (lv' := [(0, .ref a0), (1, .ref a1), (2, .ref a2), (4, .int x4), (5, .null)]) (st' := [.null]) (by decide +kernel) rfl rfl ?_
        refine BW.ifnullN 64 (by decide +kernel : decode tX0_mostLinks.2.1 37 = .ok (.ifnull 27, 3)) (by decide) ?_
        refine BW.sub [0, 1, 2, 3] rfl ?_
        exact bX0_mostLinks_64 hRm hC hE h
      | some b5 =>
        show BW G tX0_mostLinks E 0 0 33 [(0, .ref a0), (1, .ref a1), (2, .ref a2), (4, .int x4)] (.ref b5 :: []) s0
        refine BW.run [.astore 5, .aload 5] (pc' := 37) (lv' := [(0, .ref a0), (1, .ref a1), (2, .ref a2), (4, .int x4), (5, .ref b5)]) (st' := [.ref b5]) (by decide +kernel) rfl rfl ?_
        refine BW.ifnull (by decide +kernel : decode tX0_mostLinks.2.1 37 = .ok (.ifnull 27, 3)) ?_
        refine BW.run [.aload_n 0] (pc' := 41) (lv' := [(0, .ref a0), (1, .ref a1), (2, .ref a2), (4, .int x4), (5, .ref b5)]) (st' := [.ref a0]) (by decide +kernel) rfl rfl ?_
        obtain ⟨b6, eb6, h⟩ := Ok.bind h
        refine BW.get (by decide +kernel : decode tX0_mostLinks.2.1 41 = .ok (.getfield 17, 3)) ciX0 (k := 1) (by decide) lkF_X0_17 (toR_V eb6) ?_
        refine BW.run [.iload 4, .aload 5] (pc' := 48) (lv' := [(0, .ref a0), (1, .ref a1), (2, .ref a2), (4, .int x4), (5, .ref b5)]) (st' := [.ref b5, .int x4, .ref b6]) (by decide +kernel) rfl rfl ?_
        obtain ⟨v7, ev7, h⟩ := Ok.bind h
        refine BW.getN (by decide +kernel : decode tX0_mostLinks.2.1 48 = .ok (.getfield 38, 3)) ciX8 (k := 1) (by decide) lkF_X0_38 (toI_V ev7) ?_
        obtain ⟨s8, es8, h⟩ := Ok.bind h
        refine BW.iast (by decide +kernel : decode tX0_mostLinks.2.1 51 = .ok (.iastore, 1)) es8 ?_
        refine BW.run [.aload_n 0] (pc' := 53) (lv' := [(0, .ref a0), (1, .ref a1), (2, .ref a2), (4, .int x4), (5, .ref b5)]) (st' := [.ref a0]) (by decide +kernel) rfl rfl ?_
        obtain ⟨b9, eb9, h⟩ := Ok.bind h
        refine BW.get (by decide +kernel : decode tX0_mostLinks.2.1 53 = .ok (.getfield 21, 3)) ciX0 (k := 2) (by decide) lkF_X0_21 (toR_V eb9) ?_
        refine BW.run [.iload 4, .aload 5] (pc' := 60) (lv' := [(0, .ref a0), (1, .ref a1), (2, .ref a2), (4, .int x4), (5, .ref b5)]) (st' := [.ref b5, .int x4, .ref b9]) (by decide +kernel) rfl rfl ?_
        refine BW.callV (As := []) (st := [.int x4, .ref b9]) (by decide +kernel : decode tX0_mostLinks.2.1 60 = .ok (.invokevirtual 43, 3)) (DX8_ticksToEnd (Ok.bindK h)) mfX8_ticksToEnd lkM_X0_43 imX8_ticksToEnd selX8_ticksToEnd ciX8 (oX8_ticksToEnd (Ok.bindK h)).choose_spec rfl rfl (Nat.le_of_ble_eq_true rfl) ⟨Nat.le_trans (by decide) hRm.1, Nat.le_trans (by decide) hRm.2⟩ ⟨Nat.zero_le _, Nat.zero_le _⟩ ?_
        rintro _ s10 ⟨v11, rfl, h⟩
        show BW G tX0_mostLinks E 0 0 63 [(0, .ref a0), (1, .ref a1), (2, .ref a2), (4, .int x4), (5, .ref b5)] [.int v11, .int x4, .ref b9] s10
        obtain ⟨s13, es13, h⟩ := Ok.bind h
        refine BW.iast (by decide +kernel : decode tX0_mostLinks.2.1 63 = .ok (.iastore, 1)) es13 ?_
        refine BW.sub [0, 1, 2, 3] rfl ?_
        exact bX0_mostLinks_64 hRm hC hE h
theorem bX0_mostLinks_W13 {G : Cx} {E : Ev} {n : Nat} (hRm : 24 ≤ E.1.frames ∧ 615 ≤ E.1.locals) {a0 : Nat} {a1 : Nat} {a2 : Nat} {K : (Sg) → Prop} (hE : ∀ (s : Sg), K s → BW G tX0_mostLinks E 0 0 70 [(0, .ref a0), (1, .ref a1)] [] s) : ∀ (f : Nat) (c : Sg × Int32), Ok (loopM (mX0_mostLinks_L13 n a0 a2) f c) K → match c with | (s0, x4) => BW G tX0_mostLinks E 0 0 13 [(0, .ref a0), (1, .ref a1), (2, .ref a2), (4, .int x4)] [] s0 := by
  intro f
  induction f with
  | zero => intro c h; exact (Ok.no h).elim
  | succ f ih =>
    intro c h
    obtain ⟨s0, x4⟩ := c
    exact bX0_mostLinks_L13 (P := loopP (mX0_mostLinks_L13 n a0 a2) f K) hRm (fun s c4 h => ih (s, c4) h) hE (loopM_ok h)
def mX0_mostLinks_70 (n : Nat) (s0 : Sg) (a0 : Nat) (a1 : Nat) : Option (Int32 × Sg) :=
  (toR (gV 0 s0 a0 0)).bind fun b16 =>
  (toQ (aV 15 s0 b16 (0 : Int32))).bind fun q17 => match q17 with
  | none => (
    none
  )
  | some b18 => (
    (mX4_copy n s0 b18 a1).bind fun s19 =>
    (pV 0 s19 a0 4 (.int (0 : Int32))).bind fun s20 =>
    (mX0_link n 9 s20 a0 (0 : Int32) (0 : Int32) (0 : Int32)).bind fun s21 =>
    (toI (gV 0 s21 a0 4)).bind fun v22 =>
    some (v22, s21)
  )
theorem bX0_mostLinks_70 {G : Cx} {E : Ev} {n : Nat} (hRm : 24 ≤ E.1.frames ∧ 615 ≤ E.1.locals) {s0 : Sg} {a0 : Nat} {a1 : Nat} {P : Int32 × Sg → Prop} (hQ : ∀ r s, P (r, s) → E.2.2.2.2 (some (.int r)) s) (h : Ok (mX0_mostLinks_70 n s0 a0 a1) P) : BW G tX0_mostLinks E 0 0 70 [(0, .ref a0), (1, .ref a1)] [] s0 := by
  unfold mX0_mostLinks_70 at h
  refine BW.run [.aload_n 0] (pc' := 71) (lv' := [(0, .ref a0), (1, .ref a1)]) (st' := [.ref a0]) (by decide +kernel) rfl rfl ?_
  obtain ⟨b16, eb16, h⟩ := Ok.bind h
  refine BW.get (by decide +kernel : decode tX0_mostLinks.2.1 71 = .ok (.getfield 11, 3)) ciX0 (k := 0) (by decide) lkF_X0_11 (toR_V eb16) ?_
  refine BW.run [.iconst 0] (pc' := 75) (lv' := [(0, .ref a0), (1, .ref a1)]) (st' := [.int (0 : Int32), .ref b16]) (by decide +kernel) rfl rfl ?_
  obtain ⟨q17, eq17, h⟩ := Ok.bind h
  refine BW.aald (by decide +kernel : decode tX0_mostLinks.2.1 75 = .ok (.aaload, 1)) (by decide) (toQ_V eq17) ?_
  cases q17 with
  | none =>
    show BW G tX0_mostLinks E 0 0 76 [(0, .ref a0), (1, .ref a1)] (.null :: []) s0
    exact (Ok.no h).elim
  | some b18 =>
    show BW G tX0_mostLinks E 0 0 76 [(0, .ref a0), (1, .ref a1)] (.ref b18 :: []) s0
    refine BW.run [.aload_n 1] (pc' := 77) (lv' := [(0, .ref a0), (1, .ref a1)]) (st' := [.ref a1, .ref b18]) (by decide +kernel) rfl rfl ?_
    refine BW.callV (As := [.ref a1]) (st := []) (by decide +kernel : decode tX0_mostLinks.2.1 77 = .ok (.invokevirtual 47, 3)) (DX4_copy (Ok.bindK h)) mfX4_copy lkM_X0_47 imX4_copy selX4_copy ciX4 (oX4_copy (Ok.bindK h)).choose_spec rfl rfl (Nat.le_of_ble_eq_true rfl) ⟨Nat.le_trans (by decide) hRm.1, Nat.le_trans (by decide) hRm.2⟩ ⟨Nat.zero_le _, Nat.zero_le _⟩ ?_
    rintro _ s19 ⟨rfl, h⟩
    show BW G tX0_mostLinks E 0 0 80 [(0, .ref a0), (1, .ref a1)] [] s19
    refine BW.run [.aload_n 0, .iconst 0] (pc' := 82) (lv' := [(0, .ref a0), (1, .ref a1)]) (st' := [.int (0 : Int32), .ref a0]) (by decide +kernel) rfl rfl ?_
    obtain ⟨s20, es20, h⟩ := Ok.bind h
    refine BW.put (by decide +kernel : decode tX0_mostLinks.2.1 82 = .ok (.putfield 28, 3)) ciX0 (k := 4) (by decide) lkF_X0_28 rfl rfl rfl es20 ?_
    refine BW.run [.aload_n 0, .iconst 0, .iconst 0, .iconst 0] (pc' := 89) (lv' := [(0, .ref a0), (1, .ref a1)]) (st' := [.int (0 : Int32), .int (0 : Int32), .int (0 : Int32), .ref a0]) (by decide +kernel) rfl rfl ?_
    refine BW.callV (As := [.int (0 : Int32), .int (0 : Int32), .int (0 : Int32)]) (st := []) (by decide +kernel : decode tX0_mostLinks.2.1 89 = .ok (.invokevirtual 51, 3)) (DX0_link (Ok.bindK h)) mfX0_link lkM_X0_51 imX0_link selX0_link ciX0 (oX0_link (Ok.bindK h)).choose_spec rfl rfl (Nat.le_of_ble_eq_true rfl) ⟨Nat.le_trans (by decide) hRm.1, Nat.le_trans (by decide) hRm.2⟩ ⟨Nat.zero_le _, Nat.zero_le _⟩ ?_
    rintro _ s21 ⟨rfl, h⟩
    show BW G tX0_mostLinks E 0 0 92 [(0, .ref a0), (1, .ref a1)] [] s21
    refine BW.run [.aload_n 0] (pc' := 93) (lv' := [(0, .ref a0), (1, .ref a1)]) (st' := [.ref a0]) (by decide +kernel) rfl rfl ?_
    obtain ⟨v22, ev22, h⟩ := Ok.bind h
    refine BW.get (by decide +kernel : decode tX0_mostLinks.2.1 93 = .ok (.getfield 28, 3)) ciX0 (k := 4) (by decide) lkF_X0_28 (toI_V ev22) ?_
    exact BW.iret (by decide +kernel : decode tX0_mostLinks.2.1 96 = .ok (.ireturn, 1)) rfl (Nat.zero_le _) (Nat.zero_le _) (hQ _ _ (Ok.some h))
def mX0_mostLinks (n : Nat) (s0 : Sg) (a0 : Nat) (a1 : Nat) (a2 : Nat) (x3 : Int32) : Option (Int32 × Sg) :=
  (isO 0 s0 a0).bind fun _ =>
  (pV 0 s0 a0 3 (.int (jmin x3 (6 : Int32)))).bind fun s1 =>
  (loopM (mX0_mostLinks_L13 n a0 a2) n (s1, (0 : Int32))).bind fun s14 =>
  mX0_mostLinks_70 n s14 a0 a1
theorem bX0_mostLinks {G : Cx} {E : Ev} {n : Nat} (hRm : 24 ≤ E.1.frames ∧ 615 ≤ E.1.locals) {P : Int32 × Sg → Prop} (hQ : ∀ r s, P (r, s) → E.2.2.2.2 (some (.int r)) s) {s0 : Sg} {a0 : Nat} {a1 : Nat} {a2 : Nat} {x3 : Int32} (h : Ok (mX0_mostLinks n s0 a0 a1 a2 x3) P) : BW G tX0_mostLinks E 0 0 0 [(0, .ref a0), (1, .ref a1), (2, .ref a2), (3, .int x3)] [] s0 := by
  unfold mX0_mostLinks at h
  obtain ⟨_, _, h⟩ := Ok.bind h
  refine BW.run [.aload_n 0, .iload_n 3, .bipush 6] (pc' := 4) (lv' := [(0, .ref a0), (1, .ref a1), (2, .ref a2), (3, .int x3)]) (st' := [.int (6 : Int32), .int x3, .ref a0]) (by decide +kernel) rfl rfl ?_
  refine BW.mmin (by decide +kernel : decode tX0_mostLinks.2.1 4 = .ok (.invokestatic 32, 3)) lkM_X0_32 (Nat.le_of_ble_eq_true rfl) ⟨Nat.le_trans (by decide) hRm.1, Nat.le_trans (by decide) hRm.2⟩ ⟨Nat.zero_le _, Nat.zero_le _⟩ ?_
  obtain ⟨s1, es1, h⟩ := Ok.bind h
  refine BW.put (by decide +kernel : decode tX0_mostLinks.2.1 7 = .ok (.putfield 24, 3)) ciX0 (k := 3) (by decide) lkF_X0_24 rfl rfl rfl es1 ?_
  refine BW.run [.iconst 0, .istore 4] (pc' := 13) (lv' := [(0, .ref a0), (1, .ref a1), (2, .ref a2), (3, .int x3), (4, .int (0 : Int32))]) (st' := []) (by decide +kernel) rfl rfl ?_
  refine BW.sub [0, 1, 2, 4] rfl ?_
  refine bX0_mostLinks_W13 hRm (a0 := a0) (a1 := a1) (a2 := a2) (fun s14 h => ?_) n (s1, (0 : Int32)) (Ok.bindK h)
  exact bX0_mostLinks_70 hRm hQ h
theorem oX0_mostLinks {n : Nat} {P : Int32 × Sg → Prop} {s0 : Sg} {a0 : Nat} {a1 : Nat} {a2 : Nat} {x3 : Int32} (h : Ok (mX0_mostLinks n s0 a0 a1 a2 x3) P) : ∃ n0, s0.2.1 a0 = some (0, n0) := by
  unfold mX0_mostLinks at h
  exact Ok.isO h
theorem DX0_mostLinks {G : Cx} {n : Nat} {P : Int32 × Sg → Prop} {s0 : Sg} {a0 : Nat} {a1 : Nat} {a2 : Nat} {x3 : Int32} (h : Ok (mX0_mostLinks n s0 a0 a1 a2 x3) P) : BM G tX0_mostLinks 24 615 0 0 [.ref a0, .ref a1, .ref a2, .int x3] s0 (fun v s => ∃ r, v = some (.int r) ∧ P (r, s)) := by
  refine BM.of (by decide +kernel) (Nat.le_of_ble_eq_true rfl) ?_
  exact bX0_mostLinks (E := (({ frames := 24, cells := 0, slots := 0, locals := 615 }), Aof s0, 0, 0, (fun v s => ∃ r, v = some (.int r) ∧ P (r, s)))) ⟨Nat.le_refl _, Nat.le_refl _⟩ (fun r s hp => ⟨r, rfl, hp⟩) h
def mX10_read_108 (n : Nat) (s0 : Sg) (a0 : Nat) : Option (Int32 × Sg) :=
  (toI (gV 10 s0 a0 7)).bind fun v24 =>
  some (v24, s0)
theorem bX10_read_108 {G : Cx} {E : Ev} {n : Nat} (hRm : 23 ≤ E.1.frames ∧ 569 ≤ E.1.locals) {s0 : Sg} {a0 : Nat} {P : Int32 × Sg → Prop} (hQ : ∀ r s, P (r, s) → E.2.2.2.2 (some (.int r)) s) (h : Ok (mX10_read_108 n s0 a0) P) : BW G tX10_read E 0 0 108 [(0, .ref a0)] [] s0 := by
  unfold mX10_read_108 at h
  refine BW.run [.aload_n 0] (pc' := 109) (lv' := [(0, .ref a0)]) (st' := [.ref a0]) (by decide +kernel) rfl rfl ?_
  obtain ⟨v24, ev24, h⟩ := Ok.bind h
  refine BW.get (by decide +kernel : decode tX10_read.2.1 109 = .ok (.getfield 104, 3)) ciX10 (k := 7) (by decide) lkF_X10_104 (toI_V ev24) ?_
  exact BW.iret (by decide +kernel : decode tX10_read.2.1 112 = .ok (.ireturn, 1)) rfl (Nat.zero_le _) (Nat.zero_le _) (hQ _ _ (Ok.some h))
def mX10_read (n : Nat) (s0 : Sg) (a0 : Nat) (x1 : Int32) : Option (Int32 × Sg) :=
  (isO 10 s0 a0).bind fun _ =>
  (pV 10 s0 a0 6 (.int (0 : Int32))).bind fun s1 =>
  (pV 10 s1 a0 7 (.int (-1 : Int32))).bind fun s2 =>
  (pV 10 s2 a0 8 (.int (0 : Int32))).bind fun s3 =>
  (pV 10 s3 a0 11 (.int (0 : Int32))).bind fun s4 =>
  (pV 10 s4 a0 12 (.int (0 : Int32))).bind fun s5 =>
  (mX10_sign n s5 a0 (64 : Int32)).bind fun s6 =>
  (toI (gV 10 s6 a0 1)).bind fun v7 =>
  (mX10_number n s6 a0 (v7 - (1 : Int32))).bind fun (v9, s8) =>
  (pV 10 s8 a0 13 (.int v9)).bind fun s11 =>
  (mX10_sign n s11 a0 (44 : Int32)).bind fun s12 =>
  (toI (gV 10 s12 a0 2)).bind fun v13 =>
  (mX10_number n s12 a0 (v13 - (1 : Int32))).bind fun (v15, s14) =>
  (pV 10 s14 a0 14 (.int v15)).bind fun s17 =>
  (toR (gV 10 s17 a0 9)).bind fun b18 =>
  (toI (gV 10 s17 a0 14)).bind fun v19 =>
  (toI (gV 10 s17 a0 13)).bind fun v20 =>
  (sV 11 s17 b18 (0 : Int32) (.int (((16 : Int32) * v19) + v20))).bind fun s21 =>
  (mX10_moves n 9 s21 a0 x1).bind fun s22 =>
  (toI (gV 10 s22 a0 7)).bind fun v23 =>
  if v23 = (-1 : Int32) then (
    (mX10_look n s22 a0).bind fun (v26, s25) =>
    if v26 = (-1 : Int32) then (
      mX10_read_108 n s25 a0
    ) else (
      (mX10_bad n s25 a0).bind fun s28 =>
      mX10_read_108 n s28 a0
    )
  ) else (
    mX10_read_108 n s22 a0
  )
theorem bX10_read {G : Cx} {E : Ev} {n : Nat} (hRm : 23 ≤ E.1.frames ∧ 569 ≤ E.1.locals) {P : Int32 × Sg → Prop} (hQ : ∀ r s, P (r, s) → E.2.2.2.2 (some (.int r)) s) {s0 : Sg} {a0 : Nat} {x1 : Int32} (h : Ok (mX10_read n s0 a0 x1) P) : BW G tX10_read E 0 0 0 [(0, .ref a0), (1, .int x1)] [] s0 := by
  unfold mX10_read at h
  obtain ⟨_, _, h⟩ := Ok.bind h
  refine BW.run [.aload_n 0, .iconst 0] (pc' := 2) (lv' := [(0, .ref a0), (1, .int x1)]) (st' := [.int (0 : Int32), .ref a0]) (by decide +kernel) rfl rfl ?_
  obtain ⟨s1, es1, h⟩ := Ok.bind h
  refine BW.put (by decide +kernel : decode tX10_read.2.1 2 = .ok (.putfield 97, 3)) ciX10 (k := 6) (by decide) lkF_X10_97 rfl rfl rfl es1 ?_
  refine BW.run [.aload_n 0, .iconst (-1)] (pc' := 7) (lv' := [(0, .ref a0), (1, .int x1)]) (st' := [.int (-1 : Int32), .ref a0]) (by decide +kernel) rfl rfl ?_
  obtain ⟨s2, es2, h⟩ := Ok.bind h
  refine BW.put (by decide +kernel : decode tX10_read.2.1 7 = .ok (.putfield 104, 3)) ciX10 (k := 7) (by decide) lkF_X10_104 rfl rfl rfl es2 ?_
  refine BW.run [.aload_n 0, .iconst 0] (pc' := 12) (lv' := [(0, .ref a0), (1, .int x1)]) (st' := [.int (0 : Int32), .ref a0]) (by decide +kernel) rfl rfl ?_
  obtain ⟨s3, es3, h⟩ := Ok.bind h
  refine BW.put (by decide +kernel : decode tX10_read.2.1 12 = .ok (.putfield 128, 3)) ciX10 (k := 8) (by decide) lkF_X10_128 rfl rfl rfl es3 ?_
  refine BW.run [.aload_n 0, .iconst 0] (pc' := 17) (lv' := [(0, .ref a0), (1, .int x1)]) (st' := [.int (0 : Int32), .ref a0]) (by decide +kernel) rfl rfl ?_
  obtain ⟨s4, es4, h⟩ := Ok.bind h
  refine BW.put (by decide +kernel : decode tX10_read.2.1 17 = .ok (.putfield 135, 3)) ciX10 (k := 11) (by decide) lkF_X10_135 rfl rfl rfl es4 ?_
  refine BW.run [.aload_n 0, .iconst 0] (pc' := 22) (lv' := [(0, .ref a0), (1, .int x1)]) (st' := [.int (0 : Int32), .ref a0]) (by decide +kernel) rfl rfl ?_
  obtain ⟨s5, es5, h⟩ := Ok.bind h
  refine BW.put (by decide +kernel : decode tX10_read.2.1 22 = .ok (.putfield 144, 3)) ciX10 (k := 12) (by decide) lkF_X10_144 rfl rfl rfl es5 ?_
  refine BW.run [.aload_n 0, .bipush 64] (pc' := 28) (lv' := [(0, .ref a0), (1, .int x1)]) (st' := [.int (64 : Int32), .ref a0]) (by decide +kernel) rfl rfl ?_
  refine BW.callV (As := [.int (64 : Int32)]) (st := []) (by decide +kernel : decode tX10_read.2.1 28 = .ok (.invokevirtual 154, 3)) (DX10_sign (Ok.bindK h)) mfX10_sign lkM_X10_154 imX10_sign selX10_sign ciX10 (oX10_sign (Ok.bindK h)).choose_spec rfl rfl (Nat.le_of_ble_eq_true rfl) ⟨Nat.le_trans (by decide) hRm.1, Nat.le_trans (by decide) hRm.2⟩ ⟨Nat.zero_le _, Nat.zero_le _⟩ ?_
  rintro _ s6 ⟨rfl, h⟩
  show BW G tX10_read E 0 0 31 [(0, .ref a0), (1, .int x1)] [] s6
  refine BW.run [.aload_n 0, .aload_n 0, .aload_n 0] (pc' := 34) (lv' := [(0, .ref a0), (1, .int x1)]) (st' := [.ref a0, .ref a0, .ref a0]) (by decide +kernel) rfl rfl ?_
  obtain ⟨v7, ev7, h⟩ := Ok.bind h
  refine BW.get (by decide +kernel : decode tX10_read.2.1 34 = .ok (.getfield 77, 3)) ciX10 (k := 1) (by decide) lkF_X10_77 (toI_V ev7) ?_
  refine BW.run [.iconst 1, .isub] (pc' := 39) (lv' := [(0, .ref a0), (1, .int x1)]) (st' := [.int (v7 - (1 : Int32)), .ref a0, .ref a0]) (by decide +kernel) rfl rfl ?_
  refine BW.callV (As := [.int (v7 - (1 : Int32))]) (st := [.ref a0]) (by decide +kernel : decode tX10_read.2.1 39 = .ok (.invokevirtual 157, 3)) (DX10_number (Ok.bindK h)) mfX10_number lkM_X10_157 imX10_number selX10_number ciX10 (oX10_number (Ok.bindK h)).choose_spec rfl rfl (Nat.le_of_ble_eq_true rfl) ⟨Nat.le_trans (by decide) hRm.1, Nat.le_trans (by decide) hRm.2⟩ ⟨Nat.zero_le _, Nat.zero_le _⟩ ?_
  rintro _ s8 ⟨v9, rfl, h⟩
  show BW G tX10_read E 0 0 42 [(0, .ref a0), (1, .int x1)] [.int v9, .ref a0] s8
  obtain ⟨s11, es11, h⟩ := Ok.bind h
  refine BW.put (by decide +kernel : decode tX10_read.2.1 42 = .ok (.putfield 141, 3)) ciX10 (k := 13) (by decide) lkF_X10_141 rfl rfl rfl es11 ?_
  refine BW.run [.aload_n 0, .bipush 44] (pc' := 48) (lv' := [(0, .ref a0), (1, .int x1)]) (st' := [.int (44 : Int32), .ref a0]) (by decide +kernel) rfl rfl ?_
  refine BW.callV (As := [.int (44 : Int32)]) (st := []) (by decide +kernel : decode tX10_read.2.1 48 = .ok (.invokevirtual 154, 3)) (DX10_sign (Ok.bindK h)) mfX10_sign lkM_X10_154 imX10_sign selX10_sign ciX10 (oX10_sign (Ok.bindK h)).choose_spec rfl rfl (Nat.le_of_ble_eq_true rfl) ⟨Nat.le_trans (by decide) hRm.1, Nat.le_trans (by decide) hRm.2⟩ ⟨Nat.zero_le _, Nat.zero_le _⟩ ?_
  rintro _ s12 ⟨rfl, h⟩
  show BW G tX10_read E 0 0 51 [(0, .ref a0), (1, .int x1)] [] s12
  refine BW.run [.aload_n 0, .aload_n 0, .aload_n 0] (pc' := 54) (lv' := [(0, .ref a0), (1, .int x1)]) (st' := [.ref a0, .ref a0, .ref a0]) (by decide +kernel) rfl rfl ?_
  obtain ⟨v13, ev13, h⟩ := Ok.bind h
  refine BW.get (by decide +kernel : decode tX10_read.2.1 54 = .ok (.getfield 81, 3)) ciX10 (k := 2) (by decide) lkF_X10_81 (toI_V ev13) ?_
  refine BW.run [.iconst 1, .isub] (pc' := 59) (lv' := [(0, .ref a0), (1, .int x1)]) (st' := [.int (v13 - (1 : Int32)), .ref a0, .ref a0]) (by decide +kernel) rfl rfl ?_
  refine BW.callV (As := [.int (v13 - (1 : Int32))]) (st := [.ref a0]) (by decide +kernel : decode tX10_read.2.1 59 = .ok (.invokevirtual 157, 3)) (DX10_number (Ok.bindK h)) mfX10_number lkM_X10_157 imX10_number selX10_number ciX10 (oX10_number (Ok.bindK h)).choose_spec rfl rfl (Nat.le_of_ble_eq_true rfl) ⟨Nat.le_trans (by decide) hRm.1, Nat.le_trans (by decide) hRm.2⟩ ⟨Nat.zero_le _, Nat.zero_le _⟩ ?_
  rintro _ s14 ⟨v15, rfl, h⟩
  show BW G tX10_read E 0 0 62 [(0, .ref a0), (1, .int x1)] [.int v15, .ref a0] s14
  obtain ⟨s17, es17, h⟩ := Ok.bind h
  refine BW.put (by decide +kernel : decode tX10_read.2.1 62 = .ok (.putfield 138, 3)) ciX10 (k := 14) (by decide) lkF_X10_138 rfl rfl rfl es17 ?_
  refine BW.run [.aload_n 0] (pc' := 66) (lv' := [(0, .ref a0), (1, .int x1)]) (st' := [.ref a0]) (by decide +kernel) rfl rfl ?_
  obtain ⟨b18, eb18, h⟩ := Ok.bind h
  refine BW.get (by decide +kernel : decode tX10_read.2.1 66 = .ok (.getfield 22, 3)) ciX10 (k := 9) (by decide) lkF_X10_22 (toR_V eb18) ?_
  refine BW.run [.iconst 0, .bipush 16, .aload_n 0] (pc' := 73) (lv' := [(0, .ref a0), (1, .int x1)]) (st' := [.ref a0, .int (16 : Int32), .int (0 : Int32), .ref b18]) (by decide +kernel) rfl rfl ?_
  obtain ⟨v19, ev19, h⟩ := Ok.bind h
  refine BW.get (by decide +kernel : decode tX10_read.2.1 73 = .ok (.getfield 138, 3)) ciX10 (k := 14) (by decide) lkF_X10_138 (toI_V ev19) ?_
  refine BW.run [.imul, .aload_n 0] (pc' := 78) (lv' := [(0, .ref a0), (1, .int x1)]) (st' := [.ref a0, .int ((16 : Int32) * v19), .int (0 : Int32), .ref b18]) (by decide +kernel) rfl rfl ?_
  obtain ⟨v20, ev20, h⟩ := Ok.bind h
  refine BW.get (by decide +kernel : decode tX10_read.2.1 78 = .ok (.getfield 141, 3)) ciX10 (k := 13) (by decide) lkF_X10_141 (toI_V ev20) ?_
  refine BW.run [.iadd] (pc' := 82) (lv' := [(0, .ref a0), (1, .int x1)]) (st' := [.int (((16 : Int32) * v19) + v20), .int (0 : Int32), .ref b18]) (by decide +kernel) rfl rfl ?_
  obtain ⟨s21, es21, h⟩ := Ok.bind h
  refine BW.iast (by decide +kernel : decode tX10_read.2.1 82 = .ok (.iastore, 1)) es21 ?_
  refine BW.run [.aload_n 0, .iload_n 1] (pc' := 85) (lv' := [(0, .ref a0), (1, .int x1)]) (st' := [.int x1, .ref a0]) (by decide +kernel) rfl rfl ?_
  refine BW.callV (As := [.int x1]) (st := []) (by decide +kernel : decode tX10_read.2.1 85 = .ok (.invokevirtual 131, 3)) (DX10_moves (Ok.bindK h)) mfX10_moves lkM_X10_131 imX10_moves selX10_moves ciX10 (oX10_moves (Ok.bindK h)).choose_spec rfl rfl (Nat.le_of_ble_eq_true rfl) ⟨Nat.le_trans (by decide) hRm.1, Nat.le_trans (by decide) hRm.2⟩ ⟨Nat.zero_le _, Nat.zero_le _⟩ ?_
  rintro _ s22 ⟨rfl, h⟩
  show BW G tX10_read E 0 0 88 [(0, .ref a0), (1, .int x1)] [] s22
  refine BW.run [.aload_n 0] (pc' := 89) (lv' := [(0, .ref a0), (1, .int x1)]) (st' := [.ref a0]) (by decide +kernel) rfl rfl ?_
  obtain ⟨v23, ev23, h⟩ := Ok.bind h
  refine BW.get (by decide +kernel : decode tX10_read.2.1 89 = .ok (.getfield 104, 3)) ciX10 (k := 7) (by decide) lkF_X10_104 (toI_V ev23) ?_
  refine BW.run [.iconst (-1)] (pc' := 93) (lv' := [(0, .ref a0), (1, .int x1)]) (st' := [.int (-1 : Int32), .int v23]) (by decide +kernel) rfl rfl ?_
  refine BW.icmp_ne 108 (by decide +kernel : decode tX10_read.2.1 93 = .ok (.if_icmp .ne 15, 3)) (by decide) (fun hc => ?_) (fun hc => ?_)
  · have h := (Ok.ite h).2 hc
    refine BW.sub [0] rfl ?_
    exact bX10_read_108 hRm hQ h
  · have h := (Ok.ite h).1 hc
    refine BW.run [.aload_n 0] (pc' := 97) (lv' := [(0, .ref a0), (1, .int x1)]) (st' := [.ref a0]) (by decide +kernel) rfl rfl ?_
    refine BW.callV (As := []) (st := []) (by decide +kernel : decode tX10_read.2.1 97 = .ok (.invokevirtual 107, 3)) (DX10_look (Ok.bindK h)) mfX10_look lkM_X10_107 imX10_look selX10_look ciX10 (oX10_look (Ok.bindK h)).choose_spec rfl rfl (Nat.le_of_ble_eq_true rfl) ⟨Nat.le_trans (by decide) hRm.1, Nat.le_trans (by decide) hRm.2⟩ ⟨Nat.zero_le _, Nat.zero_le _⟩ ?_
    rintro _ s25 ⟨v26, rfl, h⟩
    show BW G tX10_read E 0 0 100 [(0, .ref a0), (1, .int x1)] [.int v26] s25
    refine BW.run [.iconst (-1)] (pc' := 101) (lv' := [(0, .ref a0), (1, .int x1)]) (st' := [.int (-1 : Int32), .int v26]) (by decide +kernel) rfl rfl ?_
    refine BW.icmp_eq 108 (by decide +kernel : decode tX10_read.2.1 101 = .ok (.if_icmp .eq 7, 3)) (by decide) (fun hc => ?_) (fun hc => ?_)
    · have h := (Ok.ite h).1 hc
      refine BW.sub [0] rfl ?_
      exact bX10_read_108 hRm hQ h
    · have h := (Ok.ite h).2 hc
      refine BW.run [.aload_n 0] (pc' := 105) (lv' := [(0, .ref a0), (1, .int x1)]) (st' := [.ref a0]) (by decide +kernel) rfl rfl ?_
      refine BW.callV (As := []) (st := []) (by decide +kernel : decode tX10_read.2.1 105 = .ok (.invokevirtual 110, 3)) (DX10_bad (Ok.bindK h)) mfX10_bad lkM_X10_110 imX10_bad selX10_bad ciX10 (oX10_bad (Ok.bindK h)).choose_spec rfl rfl (Nat.le_of_ble_eq_true rfl) ⟨Nat.le_trans (by decide) hRm.1, Nat.le_trans (by decide) hRm.2⟩ ⟨Nat.zero_le _, Nat.zero_le _⟩ ?_
      rintro _ s28 ⟨rfl, h⟩
      show BW G tX10_read E 0 0 108 [(0, .ref a0), (1, .int x1)] [] s28
      refine BW.sub [0] rfl ?_
      exact bX10_read_108 hRm hQ h
theorem oX10_read {n : Nat} {P : Int32 × Sg → Prop} {s0 : Sg} {a0 : Nat} {x1 : Int32} (h : Ok (mX10_read n s0 a0 x1) P) : ∃ n0, s0.2.1 a0 = some (10, n0) := by
  unfold mX10_read at h
  exact Ok.isO h
theorem DX10_read {G : Cx} {n : Nat} {P : Int32 × Sg → Prop} {s0 : Sg} {a0 : Nat} {x1 : Int32} (h : Ok (mX10_read n s0 a0 x1) P) : BM G tX10_read 23 569 0 0 [.ref a0, .int x1] s0 (fun v s => ∃ r, v = some (.int r) ∧ P (r, s)) := by
  refine BM.of (by decide +kernel) (Nat.le_of_ble_eq_true rfl) ?_
  exact bX10_read (E := (({ frames := 23, cells := 0, slots := 0, locals := 569 }), Aof s0, 0, 0, (fun v s => ∃ r, v = some (.int r) ∧ P (r, s)))) ⟨Nat.le_refl _, Nat.le_refl _⟩ (fun r s hp => ⟨r, rfl, hp⟩) h
def mX10_fault (n : Nat) (s0 : Sg) (a0 : Nat) : Option (Int32 × Sg) :=
  (isO 10 s0 a0).bind fun _ =>
  (mX10_read n s0 a0 (0 : Int32)).bind fun (v2, s1) =>
  some (v2, s1)
theorem bX10_fault {G : Cx} {E : Ev} {n : Nat} (hRm : 24 ≤ E.1.frames ∧ 590 ≤ E.1.locals) {P : Int32 × Sg → Prop} (hQ : ∀ r s, P (r, s) → E.2.2.2.2 (some (.int r)) s) {s0 : Sg} {a0 : Nat} (h : Ok (mX10_fault n s0 a0) P) : BW G tX10_fault E 0 0 0 [(0, .ref a0)] [] s0 := by
  unfold mX10_fault at h
  obtain ⟨_, _, h⟩ := Ok.bind h
  refine BW.run [.aload_n 0, .iconst 0] (pc' := 2) (lv' := [(0, .ref a0)]) (st' := [.int (0 : Int32), .ref a0]) (by decide +kernel) rfl rfl ?_
  refine BW.callV (As := [.int (0 : Int32)]) (st := []) (by decide +kernel : decode tX10_fault.2.1 2 = .ok (.invokevirtual 161, 3)) (DX10_read (Ok.bindK h)) mfX10_read lkM_X10_161 imX10_read selX10_read ciX10 (oX10_read (Ok.bindK h)).choose_spec rfl rfl (Nat.le_of_ble_eq_true rfl) ⟨Nat.le_trans (by decide) hRm.1, Nat.le_trans (by decide) hRm.2⟩ ⟨Nat.zero_le _, Nat.zero_le _⟩ ?_
  rintro _ s1 ⟨v2, rfl, h⟩
  show BW G tX10_fault E 0 0 5 [(0, .ref a0)] [.int v2] s1
  exact BW.iret (by decide +kernel : decode tX10_fault.2.1 5 = .ok (.ireturn, 1)) rfl (Nat.zero_le _) (Nat.zero_le _) (hQ _ _ (Ok.some h))
theorem oX10_fault {n : Nat} {P : Int32 × Sg → Prop} {s0 : Sg} {a0 : Nat} (h : Ok (mX10_fault n s0 a0) P) : ∃ n0, s0.2.1 a0 = some (10, n0) := by
  unfold mX10_fault at h
  exact Ok.isO h
theorem DX10_fault {G : Cx} {n : Nat} {P : Int32 × Sg → Prop} {s0 : Sg} {a0 : Nat} (h : Ok (mX10_fault n s0 a0) P) : BM G tX10_fault 24 590 0 0 [.ref a0] s0 (fun v s => ∃ r, v = some (.int r) ∧ P (r, s)) := by
  refine BM.of (by decide +kernel) (Nat.le_of_ble_eq_true rfl) ?_
  exact bX10_fault (E := (({ frames := 24, cells := 0, slots := 0, locals := 590 }), Aof s0, 0, 0, (fun v s => ∃ r, v = some (.int r) ∧ P (r, s)))) ⟨Nat.le_refl _, Nat.le_refl _⟩ (fun r s hp => ⟨r, rfl, hp⟩) h
set_option maxRecDepth 100000 in
set_option maxHeartbeats 4000000 in
def mX10_init (n : Nat) (s0 : Sg) (a0 : Nat) (x1 : Int32) (x2 : Int32) (x3 : Int32) : Option (Sg) :=
  (nwO 11 160 (fun _ => .int 0) s0).bind fun (b1, s2) =>
  (pV 10 s2 a0 4 (.ref b1)).bind fun s3 =>
  (nwO 11 61 (fun _ => .int 0) s3).bind fun (b4, s5) =>
  (pV 10 s5 a0 9 (.ref b4)).bind fun s6 =>
  (nwO 11 61 (fun _ => .int 0) s6).bind fun (b7, s8) =>
  (pV 10 s8 a0 10 (.ref b7)).bind fun s9 =>
  (nwO 11 488 (fun _ => .int 0) s9).bind fun (b10, s11) =>
  (pV 10 s11 a0 15 (.ref b10)).bind fun s12 =>
  (nwO 11 8 (fun _ => .int 0) s12).bind fun (b13, s14) =>
  (pV 10 s14 a0 16 (.ref b13)).bind fun s15 =>
  (nwO 11 8 (fun _ => .int 0) s15).bind fun (b16, s17) =>
  (pV 10 s17 a0 17 (.ref b16)).bind fun s18 =>
  (nwO 11 8 (fun _ => .int 0) s18).bind fun (b19, s20) =>
  (pV 10 s20 a0 18 (.ref b19)).bind fun s21 =>
  (nwO 11 8 (fun _ => .int 0) s21).bind fun (b22, s23) =>
  (pV 10 s23 a0 19 (.ref b22)).bind fun s24 =>
  (nwO 11 20 (fun _ => .int 0) s24).bind fun (b25, s26) =>
  (pV 10 s26 a0 21 (.ref b25)).bind fun s27 =>
  (nwO 11 20 (fun _ => .int 0) s27).bind fun (b28, s29) =>
  (pV 10 s29 a0 22 (.ref b28)).bind fun s30 =>
  (nwO 11 20 (fun _ => .int 0) s30).bind fun (b31, s32) =>
  (pV 10 s32 a0 23 (.ref b31)).bind fun s33 =>
  (nwO 11 20 (fun _ => .int 0) s33).bind fun (b34, s35) =>
  (pV 10 s35 a0 24 (.ref b34)).bind fun s36 =>
  (nwO 11 20 (fun _ => .int 0) s36).bind fun (b37, s38) =>
  (pV 10 s38 a0 25 (.ref b37)).bind fun s39 =>
  (nwO 11 20 (fun _ => .int 0) s39).bind fun (b40, s41) =>
  (pV 10 s41 a0 26 (.ref b40)).bind fun s42 =>
  (nwO 11 81 (fun _ => .int 0) s42).bind fun (b43, s44) =>
  (pV 10 s44 a0 28 (.ref b43)).bind fun s45 =>
  (nwO 11 8 (fun _ => .int 0) s45).bind fun (b46, s47) =>
  (pV 10 s47 a0 33 (.ref b46)).bind fun s48 =>
  (nwO 11 8 (fun _ => .int 0) s48).bind fun (b49, s50) =>
  (pV 10 s50 a0 35 (.ref b49)).bind fun s51 =>
  (nwO 11 8 (fun _ => .int 0) s51).bind fun (b52, s53) =>
  (pV 10 s53 a0 37 (.ref b52)).bind fun s54 =>
  (mX10_within n s54 x1 (2 : Int32) (16 : Int32)).bind fun (v56, s55) =>
  (pV 10 s55 a0 1 (.int v56)).bind fun s58 =>
  (mX10_within n s58 x2 (2 : Int32) (16 : Int32)).bind fun (v60, s59) =>
  (pV 10 s59 a0 2 (.int v60)).bind fun s62 =>
  (mX10_within n s62 x3 (10 : Int32) (2000 : Int32)).bind fun (v64, s63) =>
  (pV 10 s63 a0 3 (.int v64)).bind fun s66 =>
  some s66
set_option maxRecDepth 100000 in
set_option maxHeartbeats 4000000 in
theorem bX10_init {G : Cx} {E : Ev} {n : Nat} (hRm : 2 ≤ E.1.frames ∧ 43 ≤ E.1.locals) (hCm : 18 ≤ E.1.cells ∧ 1027 ≤ E.1.slots ∧ 18 ≤ E.2.2.1 ∧ 1027 ≤ E.2.2.2.1) {P : Sg → Prop} (hQ : ∀ s, P s → E.2.2.2.2 none s) {s0 : Sg} {a0 : Nat} {x1 : Int32} {x2 : Int32} {x3 : Int32} (h : Ok (mX10_init n s0 a0 x1 x2 x3) P) : BW G tX10_init E 0 0 0 [(0, .ref a0), (1, .int x1), (2, .int x2), (3, .int x3)] [] s0 := by
  unfold mX10_init at h
  refine BW.run [.aload_n 0] (pc' := 1) (lv' := [(0, .ref a0), (1, .int x1), (2, .int x2), (3, .int x3)]) (st' := [.ref a0]) (by decide +kernel) rfl rfl ?_
  refine BW.objInit (by decide +kernel : decode tX10_init.2.1 1 = .ok (.invokespecial 12, 3)) lkM_X10_12 im_object cd_object (Nat.le_of_ble_eq_true rfl) ⟨Nat.le_trans (by decide) hRm.1, Nat.le_trans (by decide) hRm.2⟩ ?_
  refine BW.run [.aload_n 0, .sipush 160] (pc' := 8) (lv' := [(0, .ref a0), (1, .int x1), (2, .int x2), (3, .int x3)]) (st' := [.int (160 : Int32), .ref a0]) (by decide +kernel) rfl rfl ?_
  obtain ⟨⟨b1, s2⟩, es2, h⟩ := Ok.bind h
  refine BW.newaB (by decide +kernel : decode tX10_init.2.1 8 = .ok (.newarray .int, 2)) (t := 11) (by decide) ar11 (by decide) (by decide) (by decide) (Nat.le_trans (by decide) hCm.1) (Nat.le_trans (by decide) hCm.2.1) es2 rfl ?_
  show BW G tX10_init E 1 160 10 [(0, .ref a0), (1, .int x1), (2, .int x2), (3, .int x3)] (.ref b1 :: [.ref a0]) s2
  obtain ⟨s3, es3, h⟩ := Ok.bind h
  refine BW.putF (by decide +kernel : decode tX10_init.2.1 10 = .ok (.putfield 18, 3)) ciX10 (k := 4) (by decide) lkF_X10_18 rfl rfl rfl rfl rfl es3 ?_
  refine BW.run [.aload_n 0, .bipush 61] (pc' := 16) (lv' := [(0, .ref a0), (1, .int x1), (2, .int x2), (3, .int x3)]) (st' := [.int (61 : Int32), .ref a0]) (by decide +kernel) rfl rfl ?_
  obtain ⟨⟨b4, s5⟩, es5, h⟩ := Ok.bind h
  refine BW.newaB (by decide +kernel : decode tX10_init.2.1 16 = .ok (.newarray .int, 2)) (t := 11) (by decide) ar11 (by decide) (by decide) (by decide) (Nat.le_trans (by decide) hCm.1) (Nat.le_trans (by decide) hCm.2.1) es5 rfl ?_
  show BW G tX10_init E 2 221 18 [(0, .ref a0), (1, .int x1), (2, .int x2), (3, .int x3)] (.ref b4 :: [.ref a0]) s5
  obtain ⟨s6, es6, h⟩ := Ok.bind h
  refine BW.putF (by decide +kernel : decode tX10_init.2.1 18 = .ok (.putfield 22, 3)) ciX10 (k := 9) (by decide) lkF_X10_22 rfl rfl rfl rfl rfl es6 ?_
  refine BW.run [.aload_n 0, .bipush 61] (pc' := 24) (lv' := [(0, .ref a0), (1, .int x1), (2, .int x2), (3, .int x3)]) (st' := [.int (61 : Int32), .ref a0]) (by decide +kernel) rfl rfl ?_
  obtain ⟨⟨b7, s8⟩, es8, h⟩ := Ok.bind h
  refine BW.newaB (by decide +kernel : decode tX10_init.2.1 24 = .ok (.newarray .int, 2)) (t := 11) (by decide) ar11 (by decide) (by decide) (by decide) (Nat.le_trans (by decide) hCm.1) (Nat.le_trans (by decide) hCm.2.1) es8 rfl ?_
  show BW G tX10_init E 3 282 26 [(0, .ref a0), (1, .int x1), (2, .int x2), (3, .int x3)] (.ref b7 :: [.ref a0]) s8
  obtain ⟨s9, es9, h⟩ := Ok.bind h
  refine BW.putF (by decide +kernel : decode tX10_init.2.1 26 = .ok (.putfield 25, 3)) ciX10 (k := 10) (by decide) lkF_X10_25 rfl rfl rfl rfl rfl es9 ?_
  refine BW.run [.aload_n 0, .sipush 488] (pc' := 33) (lv' := [(0, .ref a0), (1, .int x1), (2, .int x2), (3, .int x3)]) (st' := [.int (488 : Int32), .ref a0]) (by decide +kernel) rfl rfl ?_
  obtain ⟨⟨b10, s11⟩, es11, h⟩ := Ok.bind h
  refine BW.newaB (by decide +kernel : decode tX10_init.2.1 33 = .ok (.newarray .int, 2)) (t := 11) (by decide) ar11 (by decide) (by decide) (by decide) (Nat.le_trans (by decide) hCm.1) (Nat.le_trans (by decide) hCm.2.1) es11 rfl ?_
  show BW G tX10_init E 4 770 35 [(0, .ref a0), (1, .int x1), (2, .int x2), (3, .int x3)] (.ref b10 :: [.ref a0]) s11
  obtain ⟨s12, es12, h⟩ := Ok.bind h
  refine BW.putF (by decide +kernel : decode tX10_init.2.1 35 = .ok (.putfield 28, 3)) ciX10 (k := 15) (by decide) lkF_X10_28 rfl rfl rfl rfl rfl es12 ?_
  refine BW.run [.aload_n 0, .bipush 8] (pc' := 41) (lv' := [(0, .ref a0), (1, .int x1), (2, .int x2), (3, .int x3)]) (st' := [.int (8 : Int32), .ref a0]) (by decide +kernel) rfl rfl ?_
  obtain ⟨⟨b13, s14⟩, es14, h⟩ := Ok.bind h
  refine BW.newaB (by decide +kernel : decode tX10_init.2.1 41 = .ok (.newarray .int, 2)) (t := 11) (by decide) ar11 (by decide) (by decide) (by decide) (Nat.le_trans (by decide) hCm.1) (Nat.le_trans (by decide) hCm.2.1) es14 rfl ?_
  show BW G tX10_init E 5 778 43 [(0, .ref a0), (1, .int x1), (2, .int x2), (3, .int x3)] (.ref b13 :: [.ref a0]) s14
  obtain ⟨s15, es15, h⟩ := Ok.bind h
  refine BW.putF (by decide +kernel : decode tX10_init.2.1 43 = .ok (.putfield 31, 3)) ciX10 (k := 16) (by decide) lkF_X10_31 rfl rfl rfl rfl rfl es15 ?_
  refine BW.run [.aload_n 0, .bipush 8] (pc' := 49) (lv' := [(0, .ref a0), (1, .int x1), (2, .int x2), (3, .int x3)]) (st' := [.int (8 : Int32), .ref a0]) (by decide +kernel) rfl rfl ?_
  obtain ⟨⟨b16, s17⟩, es17, h⟩ := Ok.bind h
  refine BW.newaB (by decide +kernel : decode tX10_init.2.1 49 = .ok (.newarray .int, 2)) (t := 11) (by decide) ar11 (by decide) (by decide) (by decide) (Nat.le_trans (by decide) hCm.1) (Nat.le_trans (by decide) hCm.2.1) es17 rfl ?_
  show BW G tX10_init E 6 786 51 [(0, .ref a0), (1, .int x1), (2, .int x2), (3, .int x3)] (.ref b16 :: [.ref a0]) s17
  obtain ⟨s18, es18, h⟩ := Ok.bind h
  refine BW.putF (by decide +kernel : decode tX10_init.2.1 51 = .ok (.putfield 34, 3)) ciX10 (k := 17) (by decide) lkF_X10_34 rfl rfl rfl rfl rfl es18 ?_
  refine BW.run [.aload_n 0, .bipush 8] (pc' := 57) (lv' := [(0, .ref a0), (1, .int x1), (2, .int x2), (3, .int x3)]) (st' := [.int (8 : Int32), .ref a0]) (by decide +kernel) rfl rfl ?_
  obtain ⟨⟨b19, s20⟩, es20, h⟩ := Ok.bind h
  refine BW.newaB (by decide +kernel : decode tX10_init.2.1 57 = .ok (.newarray .int, 2)) (t := 11) (by decide) ar11 (by decide) (by decide) (by decide) (Nat.le_trans (by decide) hCm.1) (Nat.le_trans (by decide) hCm.2.1) es20 rfl ?_
  show BW G tX10_init E 7 794 59 [(0, .ref a0), (1, .int x1), (2, .int x2), (3, .int x3)] (.ref b19 :: [.ref a0]) s20
  obtain ⟨s21, es21, h⟩ := Ok.bind h
  refine BW.putF (by decide +kernel : decode tX10_init.2.1 59 = .ok (.putfield 37, 3)) ciX10 (k := 18) (by decide) lkF_X10_37 rfl rfl rfl rfl rfl es21 ?_
  refine BW.run [.aload_n 0, .bipush 8] (pc' := 65) (lv' := [(0, .ref a0), (1, .int x1), (2, .int x2), (3, .int x3)]) (st' := [.int (8 : Int32), .ref a0]) (by decide +kernel) rfl rfl ?_
  obtain ⟨⟨b22, s23⟩, es23, h⟩ := Ok.bind h
  refine BW.newaB (by decide +kernel : decode tX10_init.2.1 65 = .ok (.newarray .int, 2)) (t := 11) (by decide) ar11 (by decide) (by decide) (by decide) (Nat.le_trans (by decide) hCm.1) (Nat.le_trans (by decide) hCm.2.1) es23 rfl ?_
  show BW G tX10_init E 8 802 67 [(0, .ref a0), (1, .int x1), (2, .int x2), (3, .int x3)] (.ref b22 :: [.ref a0]) s23
  obtain ⟨s24, es24, h⟩ := Ok.bind h
  refine BW.putF (by decide +kernel : decode tX10_init.2.1 67 = .ok (.putfield 40, 3)) ciX10 (k := 19) (by decide) lkF_X10_40 rfl rfl rfl rfl rfl es24 ?_
  refine BW.run [.aload_n 0, .bipush 20] (pc' := 73) (lv' := [(0, .ref a0), (1, .int x1), (2, .int x2), (3, .int x3)]) (st' := [.int (20 : Int32), .ref a0]) (by decide +kernel) rfl rfl ?_
  obtain ⟨⟨b25, s26⟩, es26, h⟩ := Ok.bind h
  refine BW.newaB (by decide +kernel : decode tX10_init.2.1 73 = .ok (.newarray .int, 2)) (t := 11) (by decide) ar11 (by decide) (by decide) (by decide) (Nat.le_trans (by decide) hCm.1) (Nat.le_trans (by decide) hCm.2.1) es26 rfl ?_
  show BW G tX10_init E 9 822 75 [(0, .ref a0), (1, .int x1), (2, .int x2), (3, .int x3)] (.ref b25 :: [.ref a0]) s26
  obtain ⟨s27, es27, h⟩ := Ok.bind h
  refine BW.putF (by decide +kernel : decode tX10_init.2.1 75 = .ok (.putfield 43, 3)) ciX10 (k := 21) (by decide) lkF_X10_43 rfl rfl rfl rfl rfl es27 ?_
  refine BW.run [.aload_n 0, .bipush 20] (pc' := 81) (lv' := [(0, .ref a0), (1, .int x1), (2, .int x2), (3, .int x3)]) (st' := [.int (20 : Int32), .ref a0]) (by decide +kernel) rfl rfl ?_
  obtain ⟨⟨b28, s29⟩, es29, h⟩ := Ok.bind h
  refine BW.newaB (by decide +kernel : decode tX10_init.2.1 81 = .ok (.newarray .int, 2)) (t := 11) (by decide) ar11 (by decide) (by decide) (by decide) (Nat.le_trans (by decide) hCm.1) (Nat.le_trans (by decide) hCm.2.1) es29 rfl ?_
  show BW G tX10_init E 10 842 83 [(0, .ref a0), (1, .int x1), (2, .int x2), (3, .int x3)] (.ref b28 :: [.ref a0]) s29
  obtain ⟨s30, es30, h⟩ := Ok.bind h
  refine BW.putF (by decide +kernel : decode tX10_init.2.1 83 = .ok (.putfield 46, 3)) ciX10 (k := 22) (by decide) lkF_X10_46 rfl rfl rfl rfl rfl es30 ?_
  refine BW.run [.aload_n 0, .bipush 20] (pc' := 89) (lv' := [(0, .ref a0), (1, .int x1), (2, .int x2), (3, .int x3)]) (st' := [.int (20 : Int32), .ref a0]) (by decide +kernel) rfl rfl ?_
  obtain ⟨⟨b31, s32⟩, es32, h⟩ := Ok.bind h
  refine BW.newaB (by decide +kernel : decode tX10_init.2.1 89 = .ok (.newarray .int, 2)) (t := 11) (by decide) ar11 (by decide) (by decide) (by decide) (Nat.le_trans (by decide) hCm.1) (Nat.le_trans (by decide) hCm.2.1) es32 rfl ?_
  show BW G tX10_init E 11 862 91 [(0, .ref a0), (1, .int x1), (2, .int x2), (3, .int x3)] (.ref b31 :: [.ref a0]) s32
  obtain ⟨s33, es33, h⟩ := Ok.bind h
  refine BW.putF (by decide +kernel : decode tX10_init.2.1 91 = .ok (.putfield 49, 3)) ciX10 (k := 23) (by decide) lkF_X10_49 rfl rfl rfl rfl rfl es33 ?_
  refine BW.run [.aload_n 0, .bipush 20] (pc' := 97) (lv' := [(0, .ref a0), (1, .int x1), (2, .int x2), (3, .int x3)]) (st' := [.int (20 : Int32), .ref a0]) (by decide +kernel) rfl rfl ?_
  obtain ⟨⟨b34, s35⟩, es35, h⟩ := Ok.bind h
  refine BW.newaB (by decide +kernel : decode tX10_init.2.1 97 = .ok (.newarray .int, 2)) (t := 11) (by decide) ar11 (by decide) (by decide) (by decide) (Nat.le_trans (by decide) hCm.1) (Nat.le_trans (by decide) hCm.2.1) es35 rfl ?_
  show BW G tX10_init E 12 882 99 [(0, .ref a0), (1, .int x1), (2, .int x2), (3, .int x3)] (.ref b34 :: [.ref a0]) s35
  obtain ⟨s36, es36, h⟩ := Ok.bind h
  refine BW.putF (by decide +kernel : decode tX10_init.2.1 99 = .ok (.putfield 52, 3)) ciX10 (k := 24) (by decide) lkF_X10_52 rfl rfl rfl rfl rfl es36 ?_
  refine BW.run [.aload_n 0, .bipush 20] (pc' := 105) (lv' := [(0, .ref a0), (1, .int x1), (2, .int x2), (3, .int x3)]) (st' := [.int (20 : Int32), .ref a0]) (by decide +kernel) rfl rfl ?_
  obtain ⟨⟨b37, s38⟩, es38, h⟩ := Ok.bind h
  refine BW.newaB (by decide +kernel : decode tX10_init.2.1 105 = .ok (.newarray .int, 2)) (t := 11) (by decide) ar11 (by decide) (by decide) (by decide) (Nat.le_trans (by decide) hCm.1) (Nat.le_trans (by decide) hCm.2.1) es38 rfl ?_
  show BW G tX10_init E 13 902 107 [(0, .ref a0), (1, .int x1), (2, .int x2), (3, .int x3)] (.ref b37 :: [.ref a0]) s38
  obtain ⟨s39, es39, h⟩ := Ok.bind h
  refine BW.putF (by decide +kernel : decode tX10_init.2.1 107 = .ok (.putfield 55, 3)) ciX10 (k := 25) (by decide) lkF_X10_55 rfl rfl rfl rfl rfl es39 ?_
  refine BW.run [.aload_n 0, .bipush 20] (pc' := 113) (lv' := [(0, .ref a0), (1, .int x1), (2, .int x2), (3, .int x3)]) (st' := [.int (20 : Int32), .ref a0]) (by decide +kernel) rfl rfl ?_
  obtain ⟨⟨b40, s41⟩, es41, h⟩ := Ok.bind h
  refine BW.newaB (by decide +kernel : decode tX10_init.2.1 113 = .ok (.newarray .int, 2)) (t := 11) (by decide) ar11 (by decide) (by decide) (by decide) (Nat.le_trans (by decide) hCm.1) (Nat.le_trans (by decide) hCm.2.1) es41 rfl ?_
  show BW G tX10_init E 14 922 115 [(0, .ref a0), (1, .int x1), (2, .int x2), (3, .int x3)] (.ref b40 :: [.ref a0]) s41
  obtain ⟨s42, es42, h⟩ := Ok.bind h
  refine BW.putF (by decide +kernel : decode tX10_init.2.1 115 = .ok (.putfield 58, 3)) ciX10 (k := 26) (by decide) lkF_X10_58 rfl rfl rfl rfl rfl es42 ?_
  refine BW.run [.aload_n 0, .bipush 81] (pc' := 121) (lv' := [(0, .ref a0), (1, .int x1), (2, .int x2), (3, .int x3)]) (st' := [.int (81 : Int32), .ref a0]) (by decide +kernel) rfl rfl ?_
  obtain ⟨⟨b43, s44⟩, es44, h⟩ := Ok.bind h
  refine BW.newaB (by decide +kernel : decode tX10_init.2.1 121 = .ok (.newarray .int, 2)) (t := 11) (by decide) ar11 (by decide) (by decide) (by decide) (Nat.le_trans (by decide) hCm.1) (Nat.le_trans (by decide) hCm.2.1) es44 rfl ?_
  show BW G tX10_init E 15 1003 123 [(0, .ref a0), (1, .int x1), (2, .int x2), (3, .int x3)] (.ref b43 :: [.ref a0]) s44
  obtain ⟨s45, es45, h⟩ := Ok.bind h
  refine BW.putF (by decide +kernel : decode tX10_init.2.1 123 = .ok (.putfield 61, 3)) ciX10 (k := 28) (by decide) lkF_X10_61 rfl rfl rfl rfl rfl es45 ?_
  refine BW.run [.aload_n 0, .bipush 8] (pc' := 129) (lv' := [(0, .ref a0), (1, .int x1), (2, .int x2), (3, .int x3)]) (st' := [.int (8 : Int32), .ref a0]) (by decide +kernel) rfl rfl ?_
  obtain ⟨⟨b46, s47⟩, es47, h⟩ := Ok.bind h
  refine BW.newaB (by decide +kernel : decode tX10_init.2.1 129 = .ok (.newarray .int, 2)) (t := 11) (by decide) ar11 (by decide) (by decide) (by decide) (Nat.le_trans (by decide) hCm.1) (Nat.le_trans (by decide) hCm.2.1) es47 rfl ?_
  show BW G tX10_init E 16 1011 131 [(0, .ref a0), (1, .int x1), (2, .int x2), (3, .int x3)] (.ref b46 :: [.ref a0]) s47
  obtain ⟨s48, es48, h⟩ := Ok.bind h
  refine BW.putF (by decide +kernel : decode tX10_init.2.1 131 = .ok (.putfield 64, 3)) ciX10 (k := 33) (by decide) lkF_X10_64 rfl rfl rfl rfl rfl es48 ?_
  refine BW.run [.aload_n 0, .bipush 8] (pc' := 137) (lv' := [(0, .ref a0), (1, .int x1), (2, .int x2), (3, .int x3)]) (st' := [.int (8 : Int32), .ref a0]) (by decide +kernel) rfl rfl ?_
  obtain ⟨⟨b49, s50⟩, es50, h⟩ := Ok.bind h
  refine BW.newaB (by decide +kernel : decode tX10_init.2.1 137 = .ok (.newarray .int, 2)) (t := 11) (by decide) ar11 (by decide) (by decide) (by decide) (Nat.le_trans (by decide) hCm.1) (Nat.le_trans (by decide) hCm.2.1) es50 rfl ?_
  show BW G tX10_init E 17 1019 139 [(0, .ref a0), (1, .int x1), (2, .int x2), (3, .int x3)] (.ref b49 :: [.ref a0]) s50
  obtain ⟨s51, es51, h⟩ := Ok.bind h
  refine BW.putF (by decide +kernel : decode tX10_init.2.1 139 = .ok (.putfield 67, 3)) ciX10 (k := 35) (by decide) lkF_X10_67 rfl rfl rfl rfl rfl es51 ?_
  refine BW.run [.aload_n 0, .bipush 8] (pc' := 145) (lv' := [(0, .ref a0), (1, .int x1), (2, .int x2), (3, .int x3)]) (st' := [.int (8 : Int32), .ref a0]) (by decide +kernel) rfl rfl ?_
  obtain ⟨⟨b52, s53⟩, es53, h⟩ := Ok.bind h
  refine BW.newaB (by decide +kernel : decode tX10_init.2.1 145 = .ok (.newarray .int, 2)) (t := 11) (by decide) ar11 (by decide) (by decide) (by decide) (Nat.le_trans (by decide) hCm.1) (Nat.le_trans (by decide) hCm.2.1) es53 rfl ?_
  show BW G tX10_init E 18 1027 147 [(0, .ref a0), (1, .int x1), (2, .int x2), (3, .int x3)] (.ref b52 :: [.ref a0]) s53
  obtain ⟨s54, es54, h⟩ := Ok.bind h
  refine BW.putF (by decide +kernel : decode tX10_init.2.1 147 = .ok (.putfield 70, 3)) ciX10 (k := 37) (by decide) lkF_X10_70 rfl rfl rfl rfl rfl es54 ?_
  refine BW.run [.aload_n 0, .iload_n 1, .iconst 2, .bipush 16] (pc' := 155) (lv' := [(0, .ref a0), (1, .int x1), (2, .int x2), (3, .int x3)]) (st' := [.int (16 : Int32), .int (2 : Int32), .int x1, .ref a0]) (by decide +kernel) rfl rfl ?_
  refine BW.callS (As := [.int x1, .int (2 : Int32), .int (16 : Int32)]) (st := [.ref a0]) (by decide +kernel : decode tX10_init.2.1 155 = .ok (.invokestatic 73, 3)) (DX10_within (Ok.bindK h)) mfX10_within lkM_X10_73 smX10_within rfl rfl (Nat.le_of_ble_eq_true rfl) ⟨Nat.le_trans (by decide) hRm.1, Nat.le_trans (by decide) hRm.2⟩ ⟨Nat.le_trans (by decide) hCm.1, Nat.le_trans (by decide) hCm.2.1⟩ ?_
  rintro _ s55 ⟨v56, rfl, h⟩
  show BW G tX10_init E 18 1027 158 [(0, .ref a0), (1, .int x1), (2, .int x2), (3, .int x3)] [.int v56, .ref a0] s55
  obtain ⟨s58, es58, h⟩ := Ok.bind h
  refine BW.putF (by decide +kernel : decode tX10_init.2.1 158 = .ok (.putfield 77, 3)) ciX10 (k := 1) (by decide) lkF_X10_77 rfl rfl rfl rfl rfl es58 ?_
  refine BW.run [.aload_n 0, .iload_n 2, .iconst 2, .bipush 16] (pc' := 166) (lv' := [(0, .ref a0), (1, .int x1), (2, .int x2), (3, .int x3)]) (st' := [.int (16 : Int32), .int (2 : Int32), .int x2, .ref a0]) (by decide +kernel) rfl rfl ?_
  refine BW.callS (As := [.int x2, .int (2 : Int32), .int (16 : Int32)]) (st := [.ref a0]) (by decide +kernel : decode tX10_init.2.1 166 = .ok (.invokestatic 73, 3)) (DX10_within (Ok.bindK h)) mfX10_within lkM_X10_73 smX10_within rfl rfl (Nat.le_of_ble_eq_true rfl) ⟨Nat.le_trans (by decide) hRm.1, Nat.le_trans (by decide) hRm.2⟩ ⟨Nat.le_trans (by decide) hCm.1, Nat.le_trans (by decide) hCm.2.1⟩ ?_
  rintro _ s59 ⟨v60, rfl, h⟩
  show BW G tX10_init E 18 1027 169 [(0, .ref a0), (1, .int x1), (2, .int x2), (3, .int x3)] [.int v60, .ref a0] s59
  obtain ⟨s62, es62, h⟩ := Ok.bind h
  refine BW.putF (by decide +kernel : decode tX10_init.2.1 169 = .ok (.putfield 81, 3)) ciX10 (k := 2) (by decide) lkF_X10_81 rfl rfl rfl rfl rfl es62 ?_
  refine BW.run [.aload_n 0, .iload_n 3, .bipush 10, .sipush 2000] (pc' := 179) (lv' := [(0, .ref a0), (1, .int x1), (2, .int x2), (3, .int x3)]) (st' := [.int (2000 : Int32), .int (10 : Int32), .int x3, .ref a0]) (by decide +kernel) rfl rfl ?_
  refine BW.callS (As := [.int x3, .int (10 : Int32), .int (2000 : Int32)]) (st := [.ref a0]) (by decide +kernel : decode tX10_init.2.1 179 = .ok (.invokestatic 73, 3)) (DX10_within (Ok.bindK h)) mfX10_within lkM_X10_73 smX10_within rfl rfl (Nat.le_of_ble_eq_true rfl) ⟨Nat.le_trans (by decide) hRm.1, Nat.le_trans (by decide) hRm.2⟩ ⟨Nat.le_trans (by decide) hCm.1, Nat.le_trans (by decide) hCm.2.1⟩ ?_
  rintro _ s63 ⟨v64, rfl, h⟩
  show BW G tX10_init E 18 1027 182 [(0, .ref a0), (1, .int x1), (2, .int x2), (3, .int x3)] [.int v64, .ref a0] s63
  obtain ⟨s66, es66, h⟩ := Ok.bind h
  refine BW.putF (by decide +kernel : decode tX10_init.2.1 182 = .ok (.putfield 84, 3)) ciX10 (k := 3) (by decide) lkF_X10_84 rfl rfl rfl rfl rfl es66 ?_
  exact BW.vret (by decide +kernel : decode tX10_init.2.1 185 = .ok (.return_, 1)) rfl (Nat.le_trans (by decide) hCm.2.2.1) (Nat.le_trans (by decide) hCm.2.2.2) (hQ _ (Ok.some h))
set_option maxRecDepth 100000 in
set_option maxHeartbeats 4000000 in
theorem DX10_init {G : Cx} {n : Nat} {P : Sg → Prop} {s0 : Sg} {a0 : Nat} {x1 : Int32} {x2 : Int32} {x3 : Int32} (h : Ok (mX10_init n s0 a0 x1 x2 x3) P) : BM G tX10_init 2 43 18 1027 [.ref a0, .int x1, .int x2, .int x3] s0 (fun v s => v = none ∧ P s) := by
  refine BM.of (by decide +kernel) (Nat.le_of_ble_eq_true rfl) ?_
  exact bX10_init (E := (({ frames := 2, cells := 18, slots := 1027, locals := 43 }), Aof s0, 18, 1027, (fun v s => v = none ∧ P s))) ⟨Nat.le_refl _, Nat.le_refl _⟩ ⟨Nat.le_refl _, Nat.le_refl _, Nat.le_refl _, Nat.le_refl _⟩ (fun s hp => ⟨rfl, hp⟩) h
def mX10_orders (n : Nat) (s0 : Sg) (a0 : Nat) (x1 : Int32) (x2 : Int32) : Option (Int32 × Sg) :=
  (isO 10 s0 a0).bind fun _ =>
  (mX10_isSet n s0 a0 x1).bind fun (v2, s1) =>
  if v2 = 0 then (
    some ((-1 : Int32), s1)
  ) else (
    (toI (gV 10 s1 a0 20)).bind fun v4 =>
    if (6 : Int32) < v4 then (
      some ((-1 : Int32), s1)
    ) else (
      (mX10_canBe n s1 a0 x1).bind fun (v6, s5) =>
      if v6 = 0 then (
        some ((-1 : Int32), s5)
      ) else (
        (pV 10 s5 a0 38 (.int (0 : Int32))).bind fun s8 =>
        (pV 10 s8 a0 39 (.int x2)).bind fun s9 =>
        (pV 10 s9 a0 40 (.int (-1 : Int32))).bind fun s10 =>
        (mX10_rise n 9 s10 a0 x1 (0 : Int32) (0 : Int32)).bind fun s11 =>
        if x2 = (-1 : Int32) then (
          (toI (gV 10 s11 a0 38)).bind fun v13 =>
          some (v13, s11)
        ) else (
          (toI (gV 10 s11 a0 40)).bind fun v12 =>
          some (v12, s11)
        )
      )
    )
  )
theorem bX10_orders {G : Cx} {E : Ev} {n : Nat} (hRm : 28 ≤ E.1.frames ∧ 682 ≤ E.1.locals) {P : Int32 × Sg → Prop} (hQ : ∀ r s, P (r, s) → E.2.2.2.2 (some (.int r)) s) {s0 : Sg} {a0 : Nat} {x1 : Int32} {x2 : Int32} (h : Ok (mX10_orders n s0 a0 x1 x2) P) : BW G tX10_orders E 0 0 0 [(0, .ref a0), (1, .int x1), (2, .int x2)] [] s0 := by
  unfold mX10_orders at h
  obtain ⟨_, _, h⟩ := Ok.bind h
  refine BW.run [.aload_n 0, .iload_n 1] (pc' := 2) (lv' := [(0, .ref a0), (1, .int x1), (2, .int x2)]) (st' := [.int x1, .ref a0]) (by decide +kernel) rfl rfl ?_
  refine BW.callV (As := [.int x1]) (st := []) (by decide +kernel : decode tX10_orders.2.1 2 = .ok (.invokevirtual 221, 3)) (DX10_isSet (Ok.bindK h)) mfX10_isSet lkM_X10_221 imX10_isSet selX10_isSet ciX10 (oX10_isSet (Ok.bindK h)).choose_spec rfl rfl (Nat.le_of_ble_eq_true rfl) ⟨Nat.le_trans (by decide) hRm.1, Nat.le_trans (by decide) hRm.2⟩ ⟨Nat.zero_le _, Nat.zero_le _⟩ ?_
  rintro _ s1 ⟨v2, rfl, h⟩
  show BW G tX10_orders E 0 0 5 [(0, .ref a0), (1, .int x1), (2, .int x2)] [.int v2] s1
  refine BW.if_eq 25 (by decide +kernel : decode tX10_orders.2.1 5 = .ok (.ifCond .eq 20, 3)) (by decide) (fun hc => ?_) (fun hc => ?_)
  · have h := (Ok.ite h).1 hc
    refine BW.run [.iconst (-1)] (pc' := 26) (lv' := [(0, .ref a0), (1, .int x1), (2, .int x2)]) (st' := [.int (-1 : Int32)]) (by decide +kernel) rfl rfl ?_
    exact BW.iret (by decide +kernel : decode tX10_orders.2.1 26 = .ok (.ireturn, 1)) rfl (Nat.zero_le _) (Nat.zero_le _) (hQ _ _ (Ok.some h))
  · have h := (Ok.ite h).2 hc
    refine BW.run [.aload_n 0] (pc' := 9) (lv' := [(0, .ref a0), (1, .int x1), (2, .int x2)]) (st' := [.ref a0]) (by decide +kernel) rfl rfl ?_
    obtain ⟨v4, ev4, h⟩ := Ok.bind h
    refine BW.get (by decide +kernel : decode tX10_orders.2.1 9 = .ok (.getfield 165, 3)) ciX10 (k := 20) (by decide) lkF_X10_165 (toI_V ev4) ?_
    refine BW.run [.bipush 6] (pc' := 14) (lv' := [(0, .ref a0), (1, .int x1), (2, .int x2)]) (st' := [.int (6 : Int32), .int v4]) (by decide +kernel) rfl rfl ?_
    refine BW.icmp_gt 25 (by decide +kernel : decode tX10_orders.2.1 14 = .ok (.if_icmp .gt 11, 3)) (by decide) (fun hc => ?_) (fun hc => ?_)
    · have h := (Ok.ite h).1 hc
      refine BW.run [.iconst (-1)] (pc' := 26) (lv' := [(0, .ref a0), (1, .int x1), (2, .int x2)]) (st' := [.int (-1 : Int32)]) (by decide +kernel) rfl rfl ?_
      exact BW.iret (by decide +kernel : decode tX10_orders.2.1 26 = .ok (.ireturn, 1)) rfl (Nat.zero_le _) (Nat.zero_le _) (hQ _ _ (Ok.some h))
    · have h := (Ok.ite h).2 hc
      refine BW.run [.aload_n 0, .iload_n 1] (pc' := 19) (lv' := [(0, .ref a0), (1, .int x1), (2, .int x2)]) (st' := [.int x1, .ref a0]) (by decide +kernel) rfl rfl ?_
      refine BW.callV (As := [.int x1]) (st := []) (by decide +kernel : decode tX10_orders.2.1 19 = .ok (.invokevirtual 224, 3)) (DX10_canBe (Ok.bindK h)) mfX10_canBe lkM_X10_224 imX10_canBe selX10_canBe ciX10 (oX10_canBe (Ok.bindK h)).choose_spec rfl rfl (Nat.le_of_ble_eq_true rfl) ⟨Nat.le_trans (by decide) hRm.1, Nat.le_trans (by decide) hRm.2⟩ ⟨Nat.zero_le _, Nat.zero_le _⟩ ?_
      rintro _ s5 ⟨v6, rfl, h⟩
      show BW G tX10_orders E 0 0 22 [(0, .ref a0), (1, .int x1), (2, .int x2)] [.int v6] s5
      refine BW.if_ne 27 (by decide +kernel : decode tX10_orders.2.1 22 = .ok (.ifCond .ne 5, 3)) (by decide) (fun hc => ?_) (fun hc => ?_)
      · have h := (Ok.ite h).2 hc
        refine BW.run [.aload_n 0, .iconst 0] (pc' := 29) (lv' := [(0, .ref a0), (1, .int x1), (2, .int x2)]) (st' := [.int (0 : Int32), .ref a0]) (by decide +kernel) rfl rfl ?_
        obtain ⟨s8, es8, h⟩ := Ok.bind h
        refine BW.put (by decide +kernel : decode tX10_orders.2.1 29 = .ok (.putfield 304, 3)) ciX10 (k := 38) (by decide) lkF_X10_304 rfl rfl rfl es8 ?_
        refine BW.run [.aload_n 0, .iload_n 2] (pc' := 34) (lv' := [(0, .ref a0), (1, .int x1), (2, .int x2)]) (st' := [.int x2, .ref a0]) (by decide +kernel) rfl rfl ?_
        obtain ⟨s9, es9, h⟩ := Ok.bind h
        refine BW.put (by decide +kernel : decode tX10_orders.2.1 34 = .ok (.putfield 307, 3)) ciX10 (k := 39) (by decide) lkF_X10_307 rfl rfl rfl es9 ?_
        refine BW.run [.aload_n 0, .iconst (-1)] (pc' := 39) (lv' := [(0, .ref a0), (1, .int x1), (2, .int x2)]) (st' := [.int (-1 : Int32), .ref a0]) (by decide +kernel) rfl rfl ?_
        obtain ⟨s10, es10, h⟩ := Ok.bind h
        refine BW.put (by decide +kernel : decode tX10_orders.2.1 39 = .ok (.putfield 310, 3)) ciX10 (k := 40) (by decide) lkF_X10_310 rfl rfl rfl es10 ?_
        refine BW.run [.aload_n 0, .iload_n 1, .iconst 0, .iconst 0] (pc' := 46) (lv' := [(0, .ref a0), (1, .int x1), (2, .int x2)]) (st' := [.int (0 : Int32), .int (0 : Int32), .int x1, .ref a0]) (by decide +kernel) rfl rfl ?_
        refine BW.callV (As := [.int x1, .int (0 : Int32), .int (0 : Int32)]) (st := []) (by decide +kernel : decode tX10_orders.2.1 46 = .ok (.invokevirtual 313, 3)) (DX10_rise (Ok.bindK h)) mfX10_rise lkM_X10_313 imX10_rise selX10_rise ciX10 (oX10_rise (Ok.bindK h)).choose_spec rfl rfl (Nat.le_of_ble_eq_true rfl) ⟨Nat.le_trans (by decide) hRm.1, Nat.le_trans (by decide) hRm.2⟩ ⟨Nat.zero_le _, Nat.zero_le _⟩ ?_
        rintro _ s11 ⟨rfl, h⟩
        show BW G tX10_orders E 0 0 49 [(0, .ref a0), (1, .int x1), (2, .int x2)] [] s11
        refine BW.run [.iload_n 2, .iconst (-1)] (pc' := 51) (lv' := [(0, .ref a0), (1, .int x1), (2, .int x2)]) (st' := [.int (-1 : Int32), .int x2]) (by decide +kernel) rfl rfl ?_
        refine BW.icmp_ne 61 (by decide +kernel : decode tX10_orders.2.1 51 = .ok (.if_icmp .ne 10, 3)) (by decide) (fun hc => ?_) (fun hc => ?_)
        · have h := (Ok.ite h).2 hc
          refine BW.run [.aload_n 0] (pc' := 62) (lv' := [(0, .ref a0), (1, .int x1), (2, .int x2)]) (st' := [.ref a0]) (by decide +kernel) rfl rfl ?_
          obtain ⟨v12, ev12, h⟩ := Ok.bind h
          refine BW.get (by decide +kernel : decode tX10_orders.2.1 62 = .ok (.getfield 310, 3)) ciX10 (k := 40) (by decide) lkF_X10_310 (toI_V ev12) ?_
          exact BW.iret (by decide +kernel : decode tX10_orders.2.1 65 = .ok (.ireturn, 1)) rfl (Nat.zero_le _) (Nat.zero_le _) (hQ _ _ (Ok.some h))
        · have h := (Ok.ite h).1 hc
          refine BW.run [.aload_n 0] (pc' := 55) (lv' := [(0, .ref a0), (1, .int x1), (2, .int x2)]) (st' := [.ref a0]) (by decide +kernel) rfl rfl ?_
          obtain ⟨v13, ev13, h⟩ := Ok.bind h
          refine BW.get (by decide +kernel : decode tX10_orders.2.1 55 = .ok (.getfield 304, 3)) ciX10 (k := 38) (by decide) lkF_X10_304 (toI_V ev13) ?_
          refine BW.goto 65 (by decide +kernel : decode tX10_orders.2.1 58 = .ok (.goto 7, 3)) (by decide) ?_
          exact BW.iret (by decide +kernel : decode tX10_orders.2.1 65 = .ok (.ireturn, 1)) rfl (Nat.zero_le _) (Nat.zero_le _) (hQ _ _ (Ok.some h))
      · have h := (Ok.ite h).1 hc
        refine BW.run [.iconst (-1)] (pc' := 26) (lv' := [(0, .ref a0), (1, .int x1), (2, .int x2)]) (st' := [.int (-1 : Int32)]) (by decide +kernel) rfl rfl ?_
        exact BW.iret (by decide +kernel : decode tX10_orders.2.1 26 = .ok (.ireturn, 1)) rfl (Nat.zero_le _) (Nat.zero_le _) (hQ _ _ (Ok.some h))
theorem oX10_orders {n : Nat} {P : Int32 × Sg → Prop} {s0 : Sg} {a0 : Nat} {x1 : Int32} {x2 : Int32} (h : Ok (mX10_orders n s0 a0 x1 x2) P) : ∃ n0, s0.2.1 a0 = some (10, n0) := by
  unfold mX10_orders at h
  exact Ok.isO h
theorem DX10_orders {G : Cx} {n : Nat} {P : Int32 × Sg → Prop} {s0 : Sg} {a0 : Nat} {x1 : Int32} {x2 : Int32} (h : Ok (mX10_orders n s0 a0 x1 x2) P) : BM G tX10_orders 28 682 0 0 [.ref a0, .int x1, .int x2] s0 (fun v s => ∃ r, v = some (.int r) ∧ P (r, s)) := by
  refine BM.of (by decide +kernel) (Nat.le_of_ble_eq_true rfl) ?_
  exact bX10_orders (E := (({ frames := 28, cells := 0, slots := 0, locals := 682 }), Aof s0, 0, 0, (fun v s => ∃ r, v = some (.int r) ∧ P (r, s)))) ⟨Nat.le_refl _, Nat.le_refl _⟩ (fun r s hp => ⟨r, rfl, hp⟩) h
def mX10_walk_L48 (n : Nat) (a0 : Nat) : (Sg × Int32) → Option ((Sg × Int32) ⊕ (Sg))
  | (s0, x3) =>
    (toI (gV 10 s0 a0 11)).bind fun v14 =>
    if v14 < x3 then (
      some (.inr s0)
    ) else (
      (toR (gV 10 s0 a0 15)).bind fun b15 =>
      (toI (gV 10 s0 a0 20)).bind fun v16 =>
      (toR (gV 10 s0 a0 9)).bind fun b17 =>
      (toI (aV 11 s0 b17 x3)).bind fun v18 =>
      (sV 11 s0 b15 (((61 : Int32) * v16) + x3) (.int v18)).bind fun s19 =>
      some (.inl (s19, (x3 + (1 : Int32))))
    )
theorem bX10_walk_L48 {G : Cx} {E : Ev} {n : Nat} (hRm : 24 ≤ E.1.frames ∧ 590 ≤ E.1.locals) {a0 : Nat} {x1 : Int32} {x2 : Int32} {P : (Sg × Int32) ⊕ (Sg) → Prop} (hC : ∀ (s : Sg) (c3 : Int32), P (.inl (s, c3)) → BW G tX10_walk E 0 0 48 [(0, .ref a0), (1, .int x1), (2, .int x2), (3, .int c3)] [] s) (hE : ∀ (s : Sg), P (.inr s) → BW G tX10_walk E 0 0 82 [(0, .ref a0), (1, .int x1), (2, .int x2)] [] s) {s0 : Sg} {x3 : Int32} (h : Ok (mX10_walk_L48 n a0 (s0, x3)) P) : BW G tX10_walk E 0 0 48 [(0, .ref a0), (1, .int x1), (2, .int x2), (3, .int x3)] [] s0 := by
  unfold mX10_walk_L48 at h
  refine BW.run [.iload_n 3, .aload_n 0] (pc' := 50) (lv' := [(0, .ref a0), (1, .int x1), (2, .int x2), (3, .int x3)]) (st' := [.ref a0, .int x3]) (by decide +kernel) rfl rfl ?_
  obtain ⟨v14, ev14, h⟩ := Ok.bind h
  refine BW.get (by decide +kernel : decode tX10_walk.2.1 50 = .ok (.getfield 135, 3)) ciX10 (k := 11) (by decide) lkF_X10_135 (toI_V ev14) ?_
  refine BW.icmp_gt 82 (by decide +kernel : decode tX10_walk.2.1 53 = .ok (.if_icmp .gt 29, 3)) (by decide) (fun hc => ?_) (fun hc => ?_)
  · have h := (Ok.ite h).1 hc
    refine BW.sub [0, 1, 2] rfl ?_
    exact hE _ (Ok.some h)
  · have h := (Ok.ite h).2 hc
    refine BW.run [.aload_n 0] (pc' := 57) (lv' := [(0, .ref a0), (1, .int x1), (2, .int x2), (3, .int x3)]) (st' := [.ref a0]) (by decide +kernel) rfl rfl ?_
    obtain ⟨b15, eb15, h⟩ := Ok.bind h
    refine BW.get (by decide +kernel : decode tX10_walk.2.1 57 = .ok (.getfield 28, 3)) ciX10 (k := 15) (by decide) lkF_X10_28 (toR_V eb15) ?_
    refine BW.run [.bipush 61, .aload_n 0] (pc' := 63) (lv' := [(0, .ref a0), (1, .int x1), (2, .int x2), (3, .int x3)]) (st' := [.ref a0, .int (61 : Int32), .ref b15]) (by decide +kernel) rfl rfl ?_
    obtain ⟨v16, ev16, h⟩ := Ok.bind h
    refine BW.get (by decide +kernel : decode tX10_walk.2.1 63 = .ok (.getfield 165, 3)) ciX10 (k := 20) (by decide) lkF_X10_165 (toI_V ev16) ?_
    refine BW.run [.imul, .iload_n 3, .iadd, .aload_n 0] (pc' := 70) (lv' := [(0, .ref a0), (1, .int x1), (2, .int x2), (3, .int x3)]) (st' := [.ref a0, .int (((61 : Int32) * v16) + x3), .ref b15]) (by decide +kernel) rfl rfl ?_
    obtain ⟨b17, eb17, h⟩ := Ok.bind h
    refine BW.get (by decide +kernel : decode tX10_walk.2.1 70 = .ok (.getfield 22, 3)) ciX10 (k := 9) (by decide) lkF_X10_22 (toR_V eb17) ?_
    refine BW.run [.iload_n 3] (pc' := 74) (lv' := [(0, .ref a0), (1, .int x1), (2, .int x2), (3, .int x3)]) (st' := [.int x3, .ref b17, .int (((61 : Int32) * v16) + x3), .ref b15]) (by decide +kernel) rfl rfl ?_
    obtain ⟨v18, ev18, h⟩ := Ok.bind h
    refine BW.iald (by decide +kernel : decode tX10_walk.2.1 74 = .ok (.iaload, 1)) (toI_V ev18) ?_
    obtain ⟨s19, es19, h⟩ := Ok.bind h
    refine BW.iast (by decide +kernel : decode tX10_walk.2.1 75 = .ok (.iastore, 1)) es19 ?_
    refine BW.run [.iinc 3 1] (pc' := 79) (lv' := [(0, .ref a0), (1, .int x1), (2, .int x2), (3, .int (x3 + (1 : Int32)))]) (st' := []) (by decide +kernel) rfl rfl ?_
    refine BW.goto 48 (by decide +kernel : decode tX10_walk.2.1 79 = .ok (.goto (-31), 3)) (by decide) ?_
    exact hC _ _ (Ok.some h)
theorem bX10_walk_W48 {G : Cx} {E : Ev} {n : Nat} (hRm : 24 ≤ E.1.frames ∧ 590 ≤ E.1.locals) {a0 : Nat} {x1 : Int32} {x2 : Int32} {K : (Sg) → Prop} (hE : ∀ (s : Sg), K s → BW G tX10_walk E 0 0 82 [(0, .ref a0), (1, .int x1), (2, .int x2)] [] s) : ∀ (f : Nat) (c : Sg × Int32), Ok (loopM (mX10_walk_L48 n a0) f c) K → match c with | (s0, x3) => BW G tX10_walk E 0 0 48 [(0, .ref a0), (1, .int x1), (2, .int x2), (3, .int x3)] [] s0 := by
  intro f
  induction f with
  | zero => intro c h; exact (Ok.no h).elim
  | succ f ih =>
    intro c h
    obtain ⟨s0, x3⟩ := c
    exact bX10_walk_L48 (P := loopP (mX10_walk_L48 n a0) f K) hRm (fun s c3 h => ih (s, c3) h) hE (loopM_ok h)
def mX10_walk (n : Nat) (s0 : Sg) (a0 : Nat) (x1 : Int32) (x2 : Int32) : Option (Int32 × Sg) :=
  (isO 10 s0 a0).bind fun _ =>
  (mX10_in n s0 x1 (1 : Int32) (9 : Int32)).bind fun (v2, s1) =>
  if v2 = 0 then (
    some ((-1 : Int32), s1)
  ) else (
    (mX10_in n s1 x2 (0 : Int32) (9 : Int32)).bind fun (v5, s4) =>
    if v5 = 0 then (
      some ((-1 : Int32), s4)
    ) else (
      (toI (gV 10 s4 a0 20)).bind fun v7 =>
      if v7 = (8 : Int32) then (
        some ((-1 : Int32), s4)
      ) else (
        (mX10_read n s4 a0 (0 : Int32)).bind fun (v9, s8) =>
        if v9 = (-1 : Int32) then (
          (mX10_read n s8 a0 (1 : Int32)).bind fun (v12, s11) =>
          (loopM (mX10_walk_L48 n a0) n (s11, (0 : Int32))).bind fun s20 =>
          (toR (gV 10 s20 a0 16)).bind fun b22 =>
          (toI (gV 10 s20 a0 20)).bind fun v23 =>
          (toI (gV 10 s20 a0 11)).bind fun v24 =>
          (sV 11 s20 b22 v23 (.int v24)).bind fun s25 =>
          (toR (gV 10 s25 a0 17)).bind fun b26 =>
          (toI (gV 10 s25 a0 20)).bind fun v27 =>
          (sV 11 s25 b26 v27 (.int x1)).bind fun s28 =>
          (toR (gV 10 s28 a0 18)).bind fun b29 =>
          (toI (gV 10 s28 a0 20)).bind fun v30 =>
          (sV 11 s28 b29 v30 (.int x2)).bind fun s31 =>
          (pV 10 s31 a0 5 (.int (0 : Int32))).bind fun s32 =>
          (toI (gV 10 s32 a0 20)).bind fun v33 =>
          (pV 10 s32 a0 20 (.int (v33 + (1 : Int32)))).bind fun s34 =>
          (toI (gV 10 s34 a0 20)).bind fun v35 =>
          some ((v35 - (1 : Int32)), s34)
        ) else (
          some ((-1 : Int32), s8)
        )
      )
    )
  )
theorem bX10_walk {G : Cx} {E : Ev} {n : Nat} (hRm : 24 ≤ E.1.frames ∧ 590 ≤ E.1.locals) {P : Int32 × Sg → Prop} (hQ : ∀ r s, P (r, s) → E.2.2.2.2 (some (.int r)) s) {s0 : Sg} {a0 : Nat} {x1 : Int32} {x2 : Int32} (h : Ok (mX10_walk n s0 a0 x1 x2) P) : BW G tX10_walk E 0 0 0 [(0, .ref a0), (1, .int x1), (2, .int x2)] [] s0 := by
  unfold mX10_walk at h
  obtain ⟨_, _, h⟩ := Ok.bind h
  refine BW.run [.iload_n 1, .iconst 1, .bipush 9] (pc' := 4) (lv' := [(0, .ref a0), (1, .int x1), (2, .int x2)]) (st' := [.int (9 : Int32), .int (1 : Int32), .int x1]) (by decide +kernel) rfl rfl ?_
  refine BW.callS (As := [.int x1, .int (1 : Int32), .int (9 : Int32)]) (st := []) (by decide +kernel : decode tX10_walk.2.1 4 = .ok (.invokestatic 147, 3)) (DX10_in (Ok.bindK h)) mfX10_in lkM_X10_147 smX10_in rfl rfl (Nat.le_of_ble_eq_true rfl) ⟨Nat.le_trans (by decide) hRm.1, Nat.le_trans (by decide) hRm.2⟩ ⟨Nat.zero_le _, Nat.zero_le _⟩ ?_
  rintro _ s1 ⟨v2, rfl, h⟩
  show BW G tX10_walk E 0 0 7 [(0, .ref a0), (1, .int x1), (2, .int x2)] [.int v2] s1
  refine BW.if_eq 38 (by decide +kernel : decode tX10_walk.2.1 7 = .ok (.ifCond .eq 31, 3)) (by decide) (fun hc => ?_) (fun hc => ?_)
  · have h := (Ok.ite h).1 hc
    refine BW.run [.iconst (-1)] (pc' := 39) (lv' := [(0, .ref a0), (1, .int x1), (2, .int x2)]) (st' := [.int (-1 : Int32)]) (by decide +kernel) rfl rfl ?_
    exact BW.iret (by decide +kernel : decode tX10_walk.2.1 39 = .ok (.ireturn, 1)) rfl (Nat.zero_le _) (Nat.zero_le _) (hQ _ _ (Ok.some h))
  · have h := (Ok.ite h).2 hc
    refine BW.run [.iload_n 2, .iconst 0, .bipush 9] (pc' := 14) (lv' := [(0, .ref a0), (1, .int x1), (2, .int x2)]) (st' := [.int (9 : Int32), .int (0 : Int32), .int x2]) (by decide +kernel) rfl rfl ?_
    refine BW.callS (As := [.int x2, .int (0 : Int32), .int (9 : Int32)]) (st := []) (by decide +kernel : decode tX10_walk.2.1 14 = .ok (.invokestatic 147, 3)) (DX10_in (Ok.bindK h)) mfX10_in lkM_X10_147 smX10_in rfl rfl (Nat.le_of_ble_eq_true rfl) ⟨Nat.le_trans (by decide) hRm.1, Nat.le_trans (by decide) hRm.2⟩ ⟨Nat.zero_le _, Nat.zero_le _⟩ ?_
    rintro _ s4 ⟨v5, rfl, h⟩
    show BW G tX10_walk E 0 0 17 [(0, .ref a0), (1, .int x1), (2, .int x2)] [.int v5] s4
    refine BW.if_eq 38 (by decide +kernel : decode tX10_walk.2.1 17 = .ok (.ifCond .eq 21, 3)) (by decide) (fun hc => ?_) (fun hc => ?_)
    · have h := (Ok.ite h).1 hc
      refine BW.run [.iconst (-1)] (pc' := 39) (lv' := [(0, .ref a0), (1, .int x1), (2, .int x2)]) (st' := [.int (-1 : Int32)]) (by decide +kernel) rfl rfl ?_
      exact BW.iret (by decide +kernel : decode tX10_walk.2.1 39 = .ok (.ireturn, 1)) rfl (Nat.zero_le _) (Nat.zero_le _) (hQ _ _ (Ok.some h))
    · have h := (Ok.ite h).2 hc
      refine BW.run [.aload_n 0] (pc' := 21) (lv' := [(0, .ref a0), (1, .int x1), (2, .int x2)]) (st' := [.ref a0]) (by decide +kernel) rfl rfl ?_
      obtain ⟨v7, ev7, h⟩ := Ok.bind h
      refine BW.get (by decide +kernel : decode tX10_walk.2.1 21 = .ok (.getfield 165, 3)) ciX10 (k := 20) (by decide) lkF_X10_165 (toI_V ev7) ?_
      refine BW.run [.bipush 8] (pc' := 26) (lv' := [(0, .ref a0), (1, .int x1), (2, .int x2)]) (st' := [.int (8 : Int32), .int v7]) (by decide +kernel) rfl rfl ?_
      refine BW.icmp_eq 38 (by decide +kernel : decode tX10_walk.2.1 26 = .ok (.if_icmp .eq 12, 3)) (by decide) (fun hc => ?_) (fun hc => ?_)
      · have h := (Ok.ite h).1 hc
        refine BW.run [.iconst (-1)] (pc' := 39) (lv' := [(0, .ref a0), (1, .int x1), (2, .int x2)]) (st' := [.int (-1 : Int32)]) (by decide +kernel) rfl rfl ?_
        exact BW.iret (by decide +kernel : decode tX10_walk.2.1 39 = .ok (.ireturn, 1)) rfl (Nat.zero_le _) (Nat.zero_le _) (hQ _ _ (Ok.some h))
      · have h := (Ok.ite h).2 hc
        refine BW.run [.aload_n 0, .iconst 0] (pc' := 31) (lv' := [(0, .ref a0), (1, .int x1), (2, .int x2)]) (st' := [.int (0 : Int32), .ref a0]) (by decide +kernel) rfl rfl ?_
        refine BW.callV (As := [.int (0 : Int32)]) (st := []) (by decide +kernel : decode tX10_walk.2.1 31 = .ok (.invokevirtual 161, 3)) (DX10_read (Ok.bindK h)) mfX10_read lkM_X10_161 imX10_read selX10_read ciX10 (oX10_read (Ok.bindK h)).choose_spec rfl rfl (Nat.le_of_ble_eq_true rfl) ⟨Nat.le_trans (by decide) hRm.1, Nat.le_trans (by decide) hRm.2⟩ ⟨Nat.zero_le _, Nat.zero_le _⟩ ?_
        rintro _ s8 ⟨v9, rfl, h⟩
        show BW G tX10_walk E 0 0 34 [(0, .ref a0), (1, .int x1), (2, .int x2)] [.int v9] s8
        refine BW.run [.iconst (-1)] (pc' := 35) (lv' := [(0, .ref a0), (1, .int x1), (2, .int x2)]) (st' := [.int (-1 : Int32), .int v9]) (by decide +kernel) rfl rfl ?_
        refine BW.icmp_eq 40 (by decide +kernel : decode tX10_walk.2.1 35 = .ok (.if_icmp .eq 5, 3)) (by decide) (fun hc => ?_) (fun hc => ?_)
        · have h := (Ok.ite h).1 hc
          refine BW.run [.aload_n 0, .iconst 1] (pc' := 42) (lv' := [(0, .ref a0), (1, .int x1), (2, .int x2)]) (st' := [.int (1 : Int32), .ref a0]) (by decide +kernel) rfl rfl ?_
          refine BW.callV (As := [.int (1 : Int32)]) (st := []) (by decide +kernel : decode tX10_walk.2.1 42 = .ok (.invokevirtual 161, 3)) (DX10_read (Ok.bindK h)) mfX10_read lkM_X10_161 imX10_read selX10_read ciX10 (oX10_read (Ok.bindK h)).choose_spec rfl rfl (Nat.le_of_ble_eq_true rfl) ⟨Nat.le_trans (by decide) hRm.1, Nat.le_trans (by decide) hRm.2⟩ ⟨Nat.zero_le _, Nat.zero_le _⟩ ?_
          rintro _ s11 ⟨v12, rfl, h⟩
          show BW G tX10_walk E 0 0 45 [(0, .ref a0), (1, .int x1), (2, .int x2)] [.int v12] s11
          refine BW.run [.pop, .iconst 0, .istore_n 3] (pc' := 48) (lv' := [(0, .ref a0), (1, .int x1), (2, .int x2), (3, .int (0 : Int32))]) (st' := []) (by decide +kernel) rfl rfl ?_
          refine bX10_walk_W48 hRm (a0 := a0) (x1 := x1) (x2 := x2) (fun s20 h => ?_) n (s11, (0 : Int32)) (Ok.bindK h)
          refine BW.run [.aload_n 0] (pc' := 83) (lv' := [(0, .ref a0), (1, .int x1), (2, .int x2)]) (st' := [.ref a0]) (by decide +kernel) rfl rfl ?_
          obtain ⟨b22, eb22, h⟩ := Ok.bind h
          refine BW.get (by decide +kernel : decode tX10_walk.2.1 83 = .ok (.getfield 31, 3)) ciX10 (k := 16) (by decide) lkF_X10_31 (toR_V eb22) ?_
          refine BW.run [.aload_n 0] (pc' := 87) (lv' := [(0, .ref a0), (1, .int x1), (2, .int x2)]) (st' := [.ref a0, .ref b22]) (by decide +kernel) rfl rfl ?_
          obtain ⟨v23, ev23, h⟩ := Ok.bind h
          refine BW.get (by decide +kernel : decode tX10_walk.2.1 87 = .ok (.getfield 165, 3)) ciX10 (k := 20) (by decide) lkF_X10_165 (toI_V ev23) ?_
          refine BW.run [.aload_n 0] (pc' := 91) (lv' := [(0, .ref a0), (1, .int x1), (2, .int x2)]) (st' := [.ref a0, .int v23, .ref b22]) (by decide +kernel) rfl rfl ?_
          obtain ⟨v24, ev24, h⟩ := Ok.bind h
          refine BW.get (by decide +kernel : decode tX10_walk.2.1 91 = .ok (.getfield 135, 3)) ciX10 (k := 11) (by decide) lkF_X10_135 (toI_V ev24) ?_
          obtain ⟨s25, es25, h⟩ := Ok.bind h
          refine BW.iast (by decide +kernel : decode tX10_walk.2.1 94 = .ok (.iastore, 1)) es25 ?_
          refine BW.run [.aload_n 0] (pc' := 96) (lv' := [(0, .ref a0), (1, .int x1), (2, .int x2)]) (st' := [.ref a0]) (by decide +kernel) rfl rfl ?_
          obtain ⟨b26, eb26, h⟩ := Ok.bind h
          refine BW.get (by decide +kernel : decode tX10_walk.2.1 96 = .ok (.getfield 34, 3)) ciX10 (k := 17) (by decide) lkF_X10_34 (toR_V eb26) ?_
          refine BW.run [.aload_n 0] (pc' := 100) (lv' := [(0, .ref a0), (1, .int x1), (2, .int x2)]) (st' := [.ref a0, .ref b26]) (by decide +kernel) rfl rfl ?_
          obtain ⟨v27, ev27, h⟩ := Ok.bind h
          refine BW.get (by decide +kernel : decode tX10_walk.2.1 100 = .ok (.getfield 165, 3)) ciX10 (k := 20) (by decide) lkF_X10_165 (toI_V ev27) ?_
          refine BW.run [.iload_n 1] (pc' := 104) (lv' := [(0, .ref a0), (1, .int x1), (2, .int x2)]) (st' := [.int x1, .int v27, .ref b26]) (by decide +kernel) rfl rfl ?_
          obtain ⟨s28, es28, h⟩ := Ok.bind h
          refine BW.iast (by decide +kernel : decode tX10_walk.2.1 104 = .ok (.iastore, 1)) es28 ?_
          refine BW.run [.aload_n 0] (pc' := 106) (lv' := [(0, .ref a0), (1, .int x1), (2, .int x2)]) (st' := [.ref a0]) (by decide +kernel) rfl rfl ?_
          obtain ⟨b29, eb29, h⟩ := Ok.bind h
          refine BW.get (by decide +kernel : decode tX10_walk.2.1 106 = .ok (.getfield 37, 3)) ciX10 (k := 18) (by decide) lkF_X10_37 (toR_V eb29) ?_
          refine BW.run [.aload_n 0] (pc' := 110) (lv' := [(0, .ref a0), (1, .int x1), (2, .int x2)]) (st' := [.ref a0, .ref b29]) (by decide +kernel) rfl rfl ?_
          obtain ⟨v30, ev30, h⟩ := Ok.bind h
          refine BW.get (by decide +kernel : decode tX10_walk.2.1 110 = .ok (.getfield 165, 3)) ciX10 (k := 20) (by decide) lkF_X10_165 (toI_V ev30) ?_
          refine BW.run [.iload_n 2] (pc' := 114) (lv' := [(0, .ref a0), (1, .int x1), (2, .int x2)]) (st' := [.int x2, .int v30, .ref b29]) (by decide +kernel) rfl rfl ?_
          obtain ⟨s31, es31, h⟩ := Ok.bind h
          refine BW.iast (by decide +kernel : decode tX10_walk.2.1 114 = .ok (.iastore, 1)) es31 ?_
          refine BW.run [.aload_n 0, .iconst 0] (pc' := 117) (lv' := [(0, .ref a0), (1, .int x1), (2, .int x2)]) (st' := [.int (0 : Int32), .ref a0]) (by decide +kernel) rfl rfl ?_
          obtain ⟨s32, es32, h⟩ := Ok.bind h
          refine BW.put (by decide +kernel : decode tX10_walk.2.1 117 = .ok (.putfield 94, 3)) ciX10 (k := 5) (by decide) lkF_X10_94 rfl rfl rfl es32 ?_
          refine BW.run [.aload_n 0, .dup] (pc' := 122) (lv' := [(0, .ref a0), (1, .int x1), (2, .int x2)]) (st' := [.ref a0, .ref a0]) (by decide +kernel) rfl rfl ?_
          obtain ⟨v33, ev33, h⟩ := Ok.bind h
          refine BW.get (by decide +kernel : decode tX10_walk.2.1 122 = .ok (.getfield 165, 3)) ciX10 (k := 20) (by decide) lkF_X10_165 (toI_V ev33) ?_
          refine BW.run [.iconst 1, .iadd] (pc' := 127) (lv' := [(0, .ref a0), (1, .int x1), (2, .int x2)]) (st' := [.int (v33 + (1 : Int32)), .ref a0]) (by decide +kernel) rfl rfl ?_
          obtain ⟨s34, es34, h⟩ := Ok.bind h
          refine BW.put (by decide +kernel : decode tX10_walk.2.1 127 = .ok (.putfield 165, 3)) ciX10 (k := 20) (by decide) lkF_X10_165 rfl rfl rfl es34 ?_
          refine BW.run [.aload_n 0] (pc' := 131) (lv' := [(0, .ref a0), (1, .int x1), (2, .int x2)]) (st' := [.ref a0]) (by decide +kernel) rfl rfl ?_
          obtain ⟨v35, ev35, h⟩ := Ok.bind h
          refine BW.get (by decide +kernel : decode tX10_walk.2.1 131 = .ok (.getfield 165, 3)) ciX10 (k := 20) (by decide) lkF_X10_165 (toI_V ev35) ?_
          refine BW.run [.iconst 1, .isub] (pc' := 136) (lv' := [(0, .ref a0), (1, .int x1), (2, .int x2)]) (st' := [.int (v35 - (1 : Int32))]) (by decide +kernel) rfl rfl ?_
          exact BW.iret (by decide +kernel : decode tX10_walk.2.1 136 = .ok (.ireturn, 1)) rfl (Nat.zero_le _) (Nat.zero_le _) (hQ _ _ (Ok.some h))
        · have h := (Ok.ite h).2 hc
          refine BW.run [.iconst (-1)] (pc' := 39) (lv' := [(0, .ref a0), (1, .int x1), (2, .int x2)]) (st' := [.int (-1 : Int32)]) (by decide +kernel) rfl rfl ?_
          exact BW.iret (by decide +kernel : decode tX10_walk.2.1 39 = .ok (.ireturn, 1)) rfl (Nat.zero_le _) (Nat.zero_le _) (hQ _ _ (Ok.some h))
theorem oX10_walk {n : Nat} {P : Int32 × Sg → Prop} {s0 : Sg} {a0 : Nat} {x1 : Int32} {x2 : Int32} (h : Ok (mX10_walk n s0 a0 x1 x2) P) : ∃ n0, s0.2.1 a0 = some (10, n0) := by
  unfold mX10_walk at h
  exact Ok.isO h
theorem DX10_walk {G : Cx} {n : Nat} {P : Int32 × Sg → Prop} {s0 : Sg} {a0 : Nat} {x1 : Int32} {x2 : Int32} (h : Ok (mX10_walk n s0 a0 x1 x2) P) : BM G tX10_walk 24 590 0 0 [.ref a0, .int x1, .int x2] s0 (fun v s => ∃ r, v = some (.int r) ∧ P (r, s)) := by
  refine BM.of (by decide +kernel) (Nat.le_of_ble_eq_true rfl) ?_
  exact bX10_walk (E := (({ frames := 24, cells := 0, slots := 0, locals := 590 }), Aof s0, 0, 0, (fun v s => ∃ r, v = some (.int r) ∧ P (r, s)))) ⟨Nat.le_refl _, Nat.le_refl _⟩ (fun r s hp => ⟨r, rfl, hp⟩) h
def mX10_walkers (n : Nat) (s0 : Sg) (a0 : Nat) (x1 : Int32) : Option (Int32 × Sg) :=
  (isO 10 s0 a0).bind fun _ =>
  (mX10_isSet n s0 a0 x1).bind fun (v2, s1) =>
  if v2 = 0 then (
    some ((-1 : Int32), s1)
  ) else (
    (toI (gV 10 s1 a0 20)).bind fun v4 =>
    if (6 : Int32) < v4 then (
      some ((-1 : Int32), s1)
    ) else (
      (mX10_canBe n s1 a0 x1).bind fun (v6, s5) =>
      if v6 = 0 then (
        some ((-1 : Int32), s5)
      ) else (
        (toI (gV 10 s5 a0 20)).bind fun v8 =>
        (pV 10 s5 a0 34 (.int (v8 + (1 : Int32)))).bind fun s9 =>
        (mX10_seek n 9 s9 a0 x1 (0 : Int32) (0 : Int32)).bind fun s10 =>
        (toI (gV 10 s10 a0 34)).bind fun v11 =>
        some (v11, s10)
      )
    )
  )
theorem bX10_walkers {G : Cx} {E : Ev} {n : Nat} (hRm : 28 ≤ E.1.frames ∧ 661 ≤ E.1.locals) {P : Int32 × Sg → Prop} (hQ : ∀ r s, P (r, s) → E.2.2.2.2 (some (.int r)) s) {s0 : Sg} {a0 : Nat} {x1 : Int32} (h : Ok (mX10_walkers n s0 a0 x1) P) : BW G tX10_walkers E 0 0 0 [(0, .ref a0), (1, .int x1)] [] s0 := by
  unfold mX10_walkers at h
  obtain ⟨_, _, h⟩ := Ok.bind h
  refine BW.run [.aload_n 0, .iload_n 1] (pc' := 2) (lv' := [(0, .ref a0), (1, .int x1)]) (st' := [.int x1, .ref a0]) (by decide +kernel) rfl rfl ?_
  refine BW.callV (As := [.int x1]) (st := []) (by decide +kernel : decode tX10_walkers.2.1 2 = .ok (.invokevirtual 221, 3)) (DX10_isSet (Ok.bindK h)) mfX10_isSet lkM_X10_221 imX10_isSet selX10_isSet ciX10 (oX10_isSet (Ok.bindK h)).choose_spec rfl rfl (Nat.le_of_ble_eq_true rfl) ⟨Nat.le_trans (by decide) hRm.1, Nat.le_trans (by decide) hRm.2⟩ ⟨Nat.zero_le _, Nat.zero_le _⟩ ?_
  rintro _ s1 ⟨v2, rfl, h⟩
  show BW G tX10_walkers E 0 0 5 [(0, .ref a0), (1, .int x1)] [.int v2] s1
  refine BW.if_eq 25 (by decide +kernel : decode tX10_walkers.2.1 5 = .ok (.ifCond .eq 20, 3)) (by decide) (fun hc => ?_) (fun hc => ?_)
  · have h := (Ok.ite h).1 hc
    refine BW.run [.iconst (-1)] (pc' := 26) (lv' := [(0, .ref a0), (1, .int x1)]) (st' := [.int (-1 : Int32)]) (by decide +kernel) rfl rfl ?_
    exact BW.iret (by decide +kernel : decode tX10_walkers.2.1 26 = .ok (.ireturn, 1)) rfl (Nat.zero_le _) (Nat.zero_le _) (hQ _ _ (Ok.some h))
  · have h := (Ok.ite h).2 hc
    refine BW.run [.aload_n 0] (pc' := 9) (lv' := [(0, .ref a0), (1, .int x1)]) (st' := [.ref a0]) (by decide +kernel) rfl rfl ?_
    obtain ⟨v4, ev4, h⟩ := Ok.bind h
    refine BW.get (by decide +kernel : decode tX10_walkers.2.1 9 = .ok (.getfield 165, 3)) ciX10 (k := 20) (by decide) lkF_X10_165 (toI_V ev4) ?_
    refine BW.run [.bipush 6] (pc' := 14) (lv' := [(0, .ref a0), (1, .int x1)]) (st' := [.int (6 : Int32), .int v4]) (by decide +kernel) rfl rfl ?_
    refine BW.icmp_gt 25 (by decide +kernel : decode tX10_walkers.2.1 14 = .ok (.if_icmp .gt 11, 3)) (by decide) (fun hc => ?_) (fun hc => ?_)
    · have h := (Ok.ite h).1 hc
      refine BW.run [.iconst (-1)] (pc' := 26) (lv' := [(0, .ref a0), (1, .int x1)]) (st' := [.int (-1 : Int32)]) (by decide +kernel) rfl rfl ?_
      exact BW.iret (by decide +kernel : decode tX10_walkers.2.1 26 = .ok (.ireturn, 1)) rfl (Nat.zero_le _) (Nat.zero_le _) (hQ _ _ (Ok.some h))
    · have h := (Ok.ite h).2 hc
      refine BW.run [.aload_n 0, .iload_n 1] (pc' := 19) (lv' := [(0, .ref a0), (1, .int x1)]) (st' := [.int x1, .ref a0]) (by decide +kernel) rfl rfl ?_
      refine BW.callV (As := [.int x1]) (st := []) (by decide +kernel : decode tX10_walkers.2.1 19 = .ok (.invokevirtual 224, 3)) (DX10_canBe (Ok.bindK h)) mfX10_canBe lkM_X10_224 imX10_canBe selX10_canBe ciX10 (oX10_canBe (Ok.bindK h)).choose_spec rfl rfl (Nat.le_of_ble_eq_true rfl) ⟨Nat.le_trans (by decide) hRm.1, Nat.le_trans (by decide) hRm.2⟩ ⟨Nat.zero_le _, Nat.zero_le _⟩ ?_
      rintro _ s5 ⟨v6, rfl, h⟩
      show BW G tX10_walkers E 0 0 22 [(0, .ref a0), (1, .int x1)] [.int v6] s5
      refine BW.if_ne 27 (by decide +kernel : decode tX10_walkers.2.1 22 = .ok (.ifCond .ne 5, 3)) (by decide) (fun hc => ?_) (fun hc => ?_)
      · have h := (Ok.ite h).2 hc
        refine BW.run [.aload_n 0, .aload_n 0] (pc' := 29) (lv' := [(0, .ref a0), (1, .int x1)]) (st' := [.ref a0, .ref a0]) (by decide +kernel) rfl rfl ?_
        obtain ⟨v8, ev8, h⟩ := Ok.bind h
        refine BW.get (by decide +kernel : decode tX10_walkers.2.1 29 = .ok (.getfield 165, 3)) ciX10 (k := 20) (by decide) lkF_X10_165 (toI_V ev8) ?_
        refine BW.run [.iconst 1, .iadd] (pc' := 34) (lv' := [(0, .ref a0), (1, .int x1)]) (st' := [.int (v8 + (1 : Int32)), .ref a0]) (by decide +kernel) rfl rfl ?_
        obtain ⟨s9, es9, h⟩ := Ok.bind h
        refine BW.put (by decide +kernel : decode tX10_walkers.2.1 34 = .ok (.putfield 286, 3)) ciX10 (k := 34) (by decide) lkF_X10_286 rfl rfl rfl es9 ?_
        refine BW.run [.aload_n 0, .iload_n 1, .iconst 0, .iconst 0] (pc' := 41) (lv' := [(0, .ref a0), (1, .int x1)]) (st' := [.int (0 : Int32), .int (0 : Int32), .int x1, .ref a0]) (by decide +kernel) rfl rfl ?_
        refine BW.callV (As := [.int x1, .int (0 : Int32), .int (0 : Int32)]) (st := []) (by decide +kernel : decode tX10_walkers.2.1 41 = .ok (.invokevirtual 289, 3)) (DX10_seek (Ok.bindK h)) mfX10_seek lkM_X10_289 imX10_seek selX10_seek ciX10 (oX10_seek (Ok.bindK h)).choose_spec rfl rfl (Nat.le_of_ble_eq_true rfl) ⟨Nat.le_trans (by decide) hRm.1, Nat.le_trans (by decide) hRm.2⟩ ⟨Nat.zero_le _, Nat.zero_le _⟩ ?_
        rintro _ s10 ⟨rfl, h⟩
        show BW G tX10_walkers E 0 0 44 [(0, .ref a0), (1, .int x1)] [] s10
        refine BW.run [.aload_n 0] (pc' := 45) (lv' := [(0, .ref a0), (1, .int x1)]) (st' := [.ref a0]) (by decide +kernel) rfl rfl ?_
        obtain ⟨v11, ev11, h⟩ := Ok.bind h
        refine BW.get (by decide +kernel : decode tX10_walkers.2.1 45 = .ok (.getfield 286, 3)) ciX10 (k := 34) (by decide) lkF_X10_286 (toI_V ev11) ?_
        exact BW.iret (by decide +kernel : decode tX10_walkers.2.1 48 = .ok (.ireturn, 1)) rfl (Nat.zero_le _) (Nat.zero_le _) (hQ _ _ (Ok.some h))
      · have h := (Ok.ite h).1 hc
        refine BW.run [.iconst (-1)] (pc' := 26) (lv' := [(0, .ref a0), (1, .int x1)]) (st' := [.int (-1 : Int32)]) (by decide +kernel) rfl rfl ?_
        exact BW.iret (by decide +kernel : decode tX10_walkers.2.1 26 = .ok (.ireturn, 1)) rfl (Nat.zero_le _) (Nat.zero_le _) (hQ _ _ (Ok.some h))
theorem oX10_walkers {n : Nat} {P : Int32 × Sg → Prop} {s0 : Sg} {a0 : Nat} {x1 : Int32} (h : Ok (mX10_walkers n s0 a0 x1) P) : ∃ n0, s0.2.1 a0 = some (10, n0) := by
  unfold mX10_walkers at h
  exact Ok.isO h
theorem DX10_walkers {G : Cx} {n : Nat} {P : Int32 × Sg → Prop} {s0 : Sg} {a0 : Nat} {x1 : Int32} (h : Ok (mX10_walkers n s0 a0 x1) P) : BM G tX10_walkers 28 661 0 0 [.ref a0, .int x1] s0 (fun v s => ∃ r, v = some (.int r) ∧ P (r, s)) := by
  refine BM.of (by decide +kernel) (Nat.le_of_ble_eq_true rfl) ?_
  exact bX10_walkers (E := (({ frames := 28, cells := 0, slots := 0, locals := 661 }), Aof s0, 0, 0, (fun v s => ∃ r, v = some (.int r) ∧ P (r, s)))) ⟨Nat.le_refl _, Nat.le_refl _⟩ (fun r s hp => ⟨r, rfl, hp⟩) h
set_option maxRecDepth 100000 in
set_option maxHeartbeats 4000000 in
def mX1_init (n : Nat) (s0 : Sg) (a0 : Nat) : Option (Sg) :=
  (nwO 11 81 (fun _ => .int 0) s0).bind fun (b1, s2) =>
  (pV 1 s2 a0 0 (.ref b1)).bind fun s3 =>
  (nwO 11 81 (fun _ => .int 0) s3).bind fun (b4, s5) =>
  (pV 1 s5 a0 1 (.ref b4)).bind fun s6 =>
  some s6
set_option maxRecDepth 100000 in
set_option maxHeartbeats 4000000 in
theorem bX1_init {G : Cx} {E : Ev} {n : Nat} (hRm : 1 ≤ E.1.frames ∧ 20 ≤ E.1.locals) (hCm : 2 ≤ E.1.cells ∧ 162 ≤ E.1.slots ∧ 2 ≤ E.2.2.1 ∧ 162 ≤ E.2.2.2.1) {P : Sg → Prop} (hQ : ∀ s, P s → E.2.2.2.2 none s) {s0 : Sg} {a0 : Nat} (h : Ok (mX1_init n s0 a0) P) : BW G tX1_init E 0 0 0 [(0, .ref a0)] [] s0 := by
  unfold mX1_init at h
  refine BW.run [.aload_n 0] (pc' := 1) (lv' := [(0, .ref a0)]) (st' := [.ref a0]) (by decide +kernel) rfl rfl ?_
  refine BW.objInit (by decide +kernel : decode tX1_init.2.1 1 = .ok (.invokespecial 3, 3)) lkM_X1_3 im_object cd_object (Nat.le_of_ble_eq_true rfl) ⟨Nat.le_trans (by decide) hRm.1, Nat.le_trans (by decide) hRm.2⟩ ?_
  refine BW.run [.aload_n 0, .bipush 81] (pc' := 7) (lv' := [(0, .ref a0)]) (st' := [.int (81 : Int32), .ref a0]) (by decide +kernel) rfl rfl ?_
  obtain ⟨⟨b1, s2⟩, es2, h⟩ := Ok.bind h
  refine BW.newaB (by decide +kernel : decode tX1_init.2.1 7 = .ok (.newarray .int, 2)) (t := 11) (by decide) ar11 (by decide) (by decide) (by decide) (Nat.le_trans (by decide) hCm.1) (Nat.le_trans (by decide) hCm.2.1) es2 rfl ?_
  show BW G tX1_init E 1 81 9 [(0, .ref a0)] (.ref b1 :: [.ref a0]) s2
  obtain ⟨s3, es3, h⟩ := Ok.bind h
  refine BW.putF (by decide +kernel : decode tX1_init.2.1 9 = .ok (.putfield 9, 3)) ciX1 (k := 0) (by decide) lkF_X1_9 rfl rfl rfl rfl rfl es3 ?_
  refine BW.run [.aload_n 0, .bipush 81] (pc' := 15) (lv' := [(0, .ref a0)]) (st' := [.int (81 : Int32), .ref a0]) (by decide +kernel) rfl rfl ?_
  obtain ⟨⟨b4, s5⟩, es5, h⟩ := Ok.bind h
  refine BW.newaB (by decide +kernel : decode tX1_init.2.1 15 = .ok (.newarray .int, 2)) (t := 11) (by decide) ar11 (by decide) (by decide) (by decide) (Nat.le_trans (by decide) hCm.1) (Nat.le_trans (by decide) hCm.2.1) es5 rfl ?_
  show BW G tX1_init E 2 162 17 [(0, .ref a0)] (.ref b4 :: [.ref a0]) s5
  obtain ⟨s6, es6, h⟩ := Ok.bind h
  refine BW.putF (by decide +kernel : decode tX1_init.2.1 17 = .ok (.putfield 15, 3)) ciX1 (k := 1) (by decide) lkF_X1_15 rfl rfl rfl rfl rfl es6 ?_
  exact BW.vret (by decide +kernel : decode tX1_init.2.1 20 = .ok (.return_, 1)) rfl (Nat.le_trans (by decide) hCm.2.2.1) (Nat.le_trans (by decide) hCm.2.2.2) (hQ _ (Ok.some h))
set_option maxRecDepth 100000 in
set_option maxHeartbeats 4000000 in
theorem DX1_init {G : Cx} {n : Nat} {P : Sg → Prop} {s0 : Sg} {a0 : Nat} (h : Ok (mX1_init n s0 a0) P) : BM G tX1_init 1 20 2 162 [.ref a0] s0 (fun v s => v = none ∧ P s) := by
  refine BM.of (by decide +kernel) (Nat.le_of_ble_eq_true rfl) ?_
  exact bX1_init (E := (({ frames := 1, cells := 2, slots := 162, locals := 20 }), Aof s0, 2, 162, (fun v s => v = none ∧ P s))) ⟨Nat.le_refl _, Nat.le_refl _⟩ ⟨Nat.le_refl _, Nat.le_refl _, Nat.le_refl _, Nat.le_refl _⟩ (fun s hp => ⟨rfl, hp⟩) h
set_option maxRecDepth 100000 in
set_option maxHeartbeats 4000000 in
def mX2_init (n : Nat) (s0 : Sg) (a0 : Nat) : Option (Sg) :=
  (pV 2 s0 a0 0 (.int (-1 : Int32))).bind fun s1 =>
  (pV 2 s1 a0 1 (.int (0 : Int32))).bind fun s2 =>
  (pV 2 s2 a0 2 (.int (0 : Int32))).bind fun s3 =>
  (pV 2 s3 a0 3 (.int (-1000000 : Int32))).bind fun s4 =>
  (pV 2 s4 a0 4 (.int (1000000 : Int32))).bind fun s5 =>
  some s5
set_option maxRecDepth 100000 in
set_option maxHeartbeats 4000000 in
theorem bX2_init {G : Cx} {E : Ev} {n : Nat} (hRm : 1 ≤ E.1.frames ∧ 20 ≤ E.1.locals) (hCm : 0 ≤ E.1.cells ∧ 0 ≤ E.1.slots ∧ 0 ≤ E.2.2.1 ∧ 0 ≤ E.2.2.2.1) {P : Sg → Prop} (hQ : ∀ s, P s → E.2.2.2.2 none s) {s0 : Sg} {a0 : Nat} (h : Ok (mX2_init n s0 a0) P) : BW G tX2_init E 0 0 0 [(0, .ref a0)] [] s0 := by
  unfold mX2_init at h
  refine BW.run [.aload_n 0] (pc' := 1) (lv' := [(0, .ref a0)]) (st' := [.ref a0]) (by decide +kernel) rfl rfl ?_
  refine BW.objInit (by decide +kernel : decode tX2_init.2.1 1 = .ok (.invokespecial 3, 3)) lkM_X2_3 im_object cd_object (Nat.le_of_ble_eq_true rfl) ⟨Nat.le_trans (by decide) hRm.1, Nat.le_trans (by decide) hRm.2⟩ ?_
  refine BW.run [.aload_n 0, .iconst (-1)] (pc' := 6) (lv' := [(0, .ref a0)]) (st' := [.int (-1 : Int32), .ref a0]) (by decide +kernel) rfl rfl ?_
  obtain ⟨s1, es1, h⟩ := Ok.bind h
  refine BW.put (by decide +kernel : decode tX2_init.2.1 6 = .ok (.putfield 9, 3)) ciX2 (k := 0) (by decide) lkF_X2_9 rfl rfl rfl es1 ?_
  refine BW.run [.aload_n 0, .iconst 0] (pc' := 11) (lv' := [(0, .ref a0)]) (st' := [.int (0 : Int32), .ref a0]) (by decide +kernel) rfl rfl ?_
  obtain ⟨s2, es2, h⟩ := Ok.bind h
  refine BW.put (by decide +kernel : decode tX2_init.2.1 11 = .ok (.putfield 15, 3)) ciX2 (k := 1) (by decide) lkF_X2_15 rfl rfl rfl es2 ?_
  refine BW.run [.aload_n 0, .iconst 0] (pc' := 16) (lv' := [(0, .ref a0)]) (st' := [.int (0 : Int32), .ref a0]) (by decide +kernel) rfl rfl ?_
  obtain ⟨s3, es3, h⟩ := Ok.bind h
  refine BW.put (by decide +kernel : decode tX2_init.2.1 16 = .ok (.putfield 18, 3)) ciX2 (k := 2) (by decide) lkF_X2_18 rfl rfl rfl es3 ?_
  refine BW.run [.aload_n 0] (pc' := 20) (lv' := [(0, .ref a0)]) (st' := [.ref a0]) (by decide +kernel) rfl rfl ?_
  refine BW.ldc (by decide +kernel : decode tX2_init.2.1 20 = .ok (.ldc 21, 2)) (x := (-1000000 : Int32)) lkK_X2_21 ?_
  obtain ⟨s4, es4, h⟩ := Ok.bind h
  refine BW.put (by decide +kernel : decode tX2_init.2.1 22 = .ok (.putfield 22, 3)) ciX2 (k := 3) (by decide) lkF_X2_22 rfl rfl rfl es4 ?_
  refine BW.run [.aload_n 0] (pc' := 26) (lv' := [(0, .ref a0)]) (st' := [.ref a0]) (by decide +kernel) rfl rfl ?_
  refine BW.ldc (by decide +kernel : decode tX2_init.2.1 26 = .ok (.ldc 25, 2)) (x := (1000000 : Int32)) lkK_X2_25 ?_
  obtain ⟨s5, es5, h⟩ := Ok.bind h
  refine BW.put (by decide +kernel : decode tX2_init.2.1 28 = .ok (.putfield 26, 3)) ciX2 (k := 4) (by decide) lkF_X2_26 rfl rfl rfl es5 ?_
  exact BW.vret (by decide +kernel : decode tX2_init.2.1 31 = .ok (.return_, 1)) rfl (Nat.le_trans (by decide) hCm.2.2.1) (Nat.le_trans (by decide) hCm.2.2.2) (hQ _ (Ok.some h))
set_option maxRecDepth 100000 in
set_option maxHeartbeats 4000000 in
theorem DX2_init {G : Cx} {n : Nat} {P : Sg → Prop} {s0 : Sg} {a0 : Nat} (h : Ok (mX2_init n s0 a0) P) : BM G tX2_init 1 20 0 0 [.ref a0] s0 (fun v s => v = none ∧ P s) := by
  refine BM.of (by decide +kernel) (Nat.le_of_ble_eq_true rfl) ?_
  exact bX2_init (E := (({ frames := 1, cells := 0, slots := 0, locals := 20 }), Aof s0, 0, 0, (fun v s => v = none ∧ P s))) ⟨Nat.le_refl _, Nat.le_refl _⟩ ⟨Nat.le_refl _, Nat.le_refl _, Nat.le_refl _, Nat.le_refl _⟩ (fun s hp => ⟨rfl, hp⟩) h
set_option maxRecDepth 100000 in
set_option maxHeartbeats 4000000 in
def mX3_init (n : Nat) (s0 : Sg) (a0 : Nat) : Option (Sg) :=
  (pV 3 s0 a0 0 (.int (-1 : Int32))).bind fun s1 =>
  (pV 3 s1 a0 1 (.int (-1 : Int32))).bind fun s2 =>
  (pV 3 s2 a0 2 (.int (-1 : Int32))).bind fun s3 =>
  (pV 3 s3 a0 3 (.int (-1 : Int32))).bind fun s4 =>
  some s4
set_option maxRecDepth 100000 in
set_option maxHeartbeats 4000000 in
theorem bX3_init {G : Cx} {E : Ev} {n : Nat} (hRm : 1 ≤ E.1.frames ∧ 20 ≤ E.1.locals) (hCm : 0 ≤ E.1.cells ∧ 0 ≤ E.1.slots ∧ 0 ≤ E.2.2.1 ∧ 0 ≤ E.2.2.2.1) {P : Sg → Prop} (hQ : ∀ s, P s → E.2.2.2.2 none s) {s0 : Sg} {a0 : Nat} (h : Ok (mX3_init n s0 a0) P) : BW G tX3_init E 0 0 0 [(0, .ref a0)] [] s0 := by
  unfold mX3_init at h
  refine BW.run [.aload_n 0] (pc' := 1) (lv' := [(0, .ref a0)]) (st' := [.ref a0]) (by decide +kernel) rfl rfl ?_
  refine BW.objInit (by decide +kernel : decode tX3_init.2.1 1 = .ok (.invokespecial 3, 3)) lkM_X3_3 im_object cd_object (Nat.le_of_ble_eq_true rfl) ⟨Nat.le_trans (by decide) hRm.1, Nat.le_trans (by decide) hRm.2⟩ ?_
  refine BW.run [.aload_n 0, .iconst (-1)] (pc' := 6) (lv' := [(0, .ref a0)]) (st' := [.int (-1 : Int32), .ref a0]) (by decide +kernel) rfl rfl ?_
  obtain ⟨s1, es1, h⟩ := Ok.bind h
  refine BW.put (by decide +kernel : decode tX3_init.2.1 6 = .ok (.putfield 9, 3)) ciX3 (k := 0) (by decide) lkF_X3_9 rfl rfl rfl es1 ?_
  refine BW.run [.aload_n 0, .iconst (-1)] (pc' := 11) (lv' := [(0, .ref a0)]) (st' := [.int (-1 : Int32), .ref a0]) (by decide +kernel) rfl rfl ?_
  obtain ⟨s2, es2, h⟩ := Ok.bind h
  refine BW.put (by decide +kernel : decode tX3_init.2.1 11 = .ok (.putfield 15, 3)) ciX3 (k := 1) (by decide) lkF_X3_15 rfl rfl rfl es2 ?_
  refine BW.run [.aload_n 0, .iconst (-1)] (pc' := 16) (lv' := [(0, .ref a0)]) (st' := [.int (-1 : Int32), .ref a0]) (by decide +kernel) rfl rfl ?_
  obtain ⟨s3, es3, h⟩ := Ok.bind h
  refine BW.put (by decide +kernel : decode tX3_init.2.1 16 = .ok (.putfield 18, 3)) ciX3 (k := 2) (by decide) lkF_X3_18 rfl rfl rfl es3 ?_
  refine BW.run [.aload_n 0, .iconst (-1)] (pc' := 21) (lv' := [(0, .ref a0)]) (st' := [.int (-1 : Int32), .ref a0]) (by decide +kernel) rfl rfl ?_
  obtain ⟨s4, es4, h⟩ := Ok.bind h
  refine BW.put (by decide +kernel : decode tX3_init.2.1 21 = .ok (.putfield 21, 3)) ciX3 (k := 3) (by decide) lkF_X3_21 rfl rfl rfl es4 ?_
  exact BW.vret (by decide +kernel : decode tX3_init.2.1 24 = .ok (.return_, 1)) rfl (Nat.le_trans (by decide) hCm.2.2.1) (Nat.le_trans (by decide) hCm.2.2.2) (hQ _ (Ok.some h))
set_option maxRecDepth 100000 in
set_option maxHeartbeats 4000000 in
theorem DX3_init {G : Cx} {n : Nat} {P : Sg → Prop} {s0 : Sg} {a0 : Nat} (h : Ok (mX3_init n s0 a0) P) : BM G tX3_init 1 20 0 0 [.ref a0] s0 (fun v s => v = none ∧ P s) := by
  refine BM.of (by decide +kernel) (Nat.le_of_ble_eq_true rfl) ?_
  exact bX3_init (E := (({ frames := 1, cells := 0, slots := 0, locals := 20 }), Aof s0, 0, 0, (fun v s => v = none ∧ P s))) ⟨Nat.le_refl _, Nat.le_refl _⟩ ⟨Nat.le_refl _, Nat.le_refl _, Nat.le_refl _, Nat.le_refl _⟩ (fun s hp => ⟨rfl, hp⟩) h
set_option maxRecDepth 100000 in
set_option maxHeartbeats 4000000 in
def mX5_init (n : Nat) (s0 : Sg) (a0 : Nat) (x1 : Int32) (x2 : Int32) : Option (Sg) :=
  (nwO 11 60 (fun _ => .int 0) s0).bind fun (b1, s2) =>
  (pV 5 s2 a0 2 (.ref b1)).bind fun s3 =>
  (pV 5 s3 a0 3 (.int (0 : Int32))).bind fun s4 =>
  (nwO 11 3 (fun _ => .int 0) s4).bind fun (b5, s6) =>
  (pV 5 s6 a0 4 (.ref b5)).bind fun s7 =>
  (nwO 11 3 (fun _ => .int 0) s7).bind fun (b8, s9) =>
  (pV 5 s9 a0 5 (.ref b8)).bind fun s10 =>
  (pV 5 s10 a0 0 (.int x1)).bind fun s11 =>
  (pV 5 s11 a0 1 (.int x2)).bind fun s12 =>
  some s12
set_option maxRecDepth 100000 in
set_option maxHeartbeats 4000000 in
theorem bX5_init {G : Cx} {E : Ev} {n : Nat} (hRm : 1 ≤ E.1.frames ∧ 20 ≤ E.1.locals) (hCm : 3 ≤ E.1.cells ∧ 66 ≤ E.1.slots ∧ 3 ≤ E.2.2.1 ∧ 66 ≤ E.2.2.2.1) {P : Sg → Prop} (hQ : ∀ s, P s → E.2.2.2.2 none s) {s0 : Sg} {a0 : Nat} {x1 : Int32} {x2 : Int32} (h : Ok (mX5_init n s0 a0 x1 x2) P) : BW G tX5_init E 0 0 0 [(0, .ref a0), (1, .int x1), (2, .int x2)] [] s0 := by
  unfold mX5_init at h
  refine BW.run [.aload_n 0] (pc' := 1) (lv' := [(0, .ref a0), (1, .int x1), (2, .int x2)]) (st' := [.ref a0]) (by decide +kernel) rfl rfl ?_
  refine BW.objInit (by decide +kernel : decode tX5_init.2.1 1 = .ok (.invokespecial 3, 3)) lkM_X5_3 im_object cd_object (Nat.le_of_ble_eq_true rfl) ⟨Nat.le_trans (by decide) hRm.1, Nat.le_trans (by decide) hRm.2⟩ ?_
  refine BW.run [.aload_n 0, .bipush 60] (pc' := 7) (lv' := [(0, .ref a0), (1, .int x1), (2, .int x2)]) (st' := [.int (60 : Int32), .ref a0]) (by decide +kernel) rfl rfl ?_
  obtain ⟨⟨b1, s2⟩, es2, h⟩ := Ok.bind h
  refine BW.newaB (by decide +kernel : decode tX5_init.2.1 7 = .ok (.newarray .int, 2)) (t := 11) (by decide) ar11 (by decide) (by decide) (by decide) (Nat.le_trans (by decide) hCm.1) (Nat.le_trans (by decide) hCm.2.1) es2 rfl ?_
  show BW G tX5_init E 1 60 9 [(0, .ref a0), (1, .int x1), (2, .int x2)] (.ref b1 :: [.ref a0]) s2
  obtain ⟨s3, es3, h⟩ := Ok.bind h
  refine BW.putF (by decide +kernel : decode tX5_init.2.1 9 = .ok (.putfield 9, 3)) ciX5 (k := 2) (by decide) lkF_X5_9 rfl rfl rfl rfl rfl es3 ?_
  refine BW.run [.aload_n 0, .iconst 0] (pc' := 14) (lv' := [(0, .ref a0), (1, .int x1), (2, .int x2)]) (st' := [.int (0 : Int32), .ref a0]) (by decide +kernel) rfl rfl ?_
  obtain ⟨s4, es4, h⟩ := Ok.bind h
  refine BW.put (by decide +kernel : decode tX5_init.2.1 14 = .ok (.putfield 15, 3)) ciX5 (k := 3) (by decide) lkF_X5_15 rfl rfl rfl es4 ?_
  refine BW.run [.aload_n 0, .iconst 3] (pc' := 19) (lv' := [(0, .ref a0), (1, .int x1), (2, .int x2)]) (st' := [.int (3 : Int32), .ref a0]) (by decide +kernel) rfl rfl ?_
  obtain ⟨⟨b5, s6⟩, es6, h⟩ := Ok.bind h
  refine BW.newaB (by decide +kernel : decode tX5_init.2.1 19 = .ok (.newarray .int, 2)) (t := 11) (by decide) ar11 (by decide) (by decide) (by decide) (Nat.le_trans (by decide) hCm.1) (Nat.le_trans (by decide) hCm.2.1) es6 rfl ?_
  show BW G tX5_init E 2 63 21 [(0, .ref a0), (1, .int x1), (2, .int x2)] (.ref b5 :: [.ref a0]) s6
  obtain ⟨s7, es7, h⟩ := Ok.bind h
  refine BW.putF (by decide +kernel : decode tX5_init.2.1 21 = .ok (.putfield 19, 3)) ciX5 (k := 4) (by decide) lkF_X5_19 rfl rfl rfl rfl rfl es7 ?_
  refine BW.run [.aload_n 0, .iconst 3] (pc' := 26) (lv' := [(0, .ref a0), (1, .int x1), (2, .int x2)]) (st' := [.int (3 : Int32), .ref a0]) (by decide +kernel) rfl rfl ?_
  obtain ⟨⟨b8, s9⟩, es9, h⟩ := Ok.bind h
  refine BW.newaB (by decide +kernel : decode tX5_init.2.1 26 = .ok (.newarray .int, 2)) (t := 11) (by decide) ar11 (by decide) (by decide) (by decide) (Nat.le_trans (by decide) hCm.1) (Nat.le_trans (by decide) hCm.2.1) es9 rfl ?_
  show BW G tX5_init E 3 66 28 [(0, .ref a0), (1, .int x1), (2, .int x2)] (.ref b8 :: [.ref a0]) s9
  obtain ⟨s10, es10, h⟩ := Ok.bind h
  refine BW.putF (by decide +kernel : decode tX5_init.2.1 28 = .ok (.putfield 22, 3)) ciX5 (k := 5) (by decide) lkF_X5_22 rfl rfl rfl rfl rfl es10 ?_
  refine BW.run [.aload_n 0, .iload_n 1] (pc' := 33) (lv' := [(0, .ref a0), (1, .int x1), (2, .int x2)]) (st' := [.int x1, .ref a0]) (by decide +kernel) rfl rfl ?_
  obtain ⟨s11, es11, h⟩ := Ok.bind h
  refine BW.putF (by decide +kernel : decode tX5_init.2.1 33 = .ok (.putfield 25, 3)) ciX5 (k := 0) (by decide) lkF_X5_25 rfl rfl rfl rfl rfl es11 ?_
  refine BW.run [.aload_n 0, .iload_n 2] (pc' := 38) (lv' := [(0, .ref a0), (1, .int x1), (2, .int x2)]) (st' := [.int x2, .ref a0]) (by decide +kernel) rfl rfl ?_
  obtain ⟨s12, es12, h⟩ := Ok.bind h
  refine BW.putF (by decide +kernel : decode tX5_init.2.1 38 = .ok (.putfield 28, 3)) ciX5 (k := 1) (by decide) lkF_X5_28 rfl rfl rfl rfl rfl es12 ?_
  exact BW.vret (by decide +kernel : decode tX5_init.2.1 41 = .ok (.return_, 1)) rfl (Nat.le_trans (by decide) hCm.2.2.1) (Nat.le_trans (by decide) hCm.2.2.2) (hQ _ (Ok.some h))
set_option maxRecDepth 100000 in
set_option maxHeartbeats 4000000 in
theorem DX5_init {G : Cx} {n : Nat} {P : Sg → Prop} {s0 : Sg} {a0 : Nat} {x1 : Int32} {x2 : Int32} (h : Ok (mX5_init n s0 a0 x1 x2) P) : BM G tX5_init 1 20 3 66 [.ref a0, .int x1, .int x2] s0 (fun v s => v = none ∧ P s) := by
  refine BM.of (by decide +kernel) (Nat.le_of_ble_eq_true rfl) ?_
  exact bX5_init (E := (({ frames := 1, cells := 3, slots := 66, locals := 20 }), Aof s0, 3, 66, (fun v s => v = none ∧ P s))) ⟨Nat.le_refl _, Nat.le_refl _⟩ ⟨Nat.le_refl _, Nat.le_refl _, Nat.le_refl _, Nat.le_refl _⟩ (fun s hp => ⟨rfl, hp⟩) h
set_option maxRecDepth 100000 in
set_option maxHeartbeats 4000000 in
def mX6_init (n : Nat) (s0 : Sg) (a0 : Nat) : Option (Sg) :=
  (nwO 15 6 (fun _ => .null) s0).bind fun (b1, s2) =>
  (pV 6 s2 a0 0 (.ref b1)).bind fun s3 =>
  (pV 6 s3 a0 1 (.int (0 : Int32))).bind fun s4 =>
  (pV 6 s4 a0 2 (.int (-1 : Int32))).bind fun s5 =>
  (pV 6 s5 a0 3 (.int (0 : Int32))).bind fun s6 =>
  (pV 6 s6 a0 4 (.int (-1 : Int32))).bind fun s7 =>
  (toR (gV 6 s7 a0 0)).bind fun b8 =>
  (lenA 15 s7 b8).bind fun v9 =>
  if v9 ≤ (0 : Int32) then (
    some s7
  ) else (
    (toR (gV 6 s7 a0 0)).bind fun b10 =>
    (nwO 4 2 (fun j => defaultValue (tyX4 j)) s7).bind fun (b11, s12) =>
    (mX4_init n s12 b11).bind fun s13 =>
    (isO 4 s13 b11).bind fun _ =>
    (sV 15 s13 b10 (0 : Int32) (.ref b11)).bind fun s14 =>
    (toR (gV 6 s14 a0 0)).bind fun b15 =>
    (lenA 15 s14 b15).bind fun v16 =>
    if v16 ≤ (1 : Int32) then (
      some s14
    ) else (
      (toR (gV 6 s14 a0 0)).bind fun b17 =>
      (nwO 4 2 (fun j => defaultValue (tyX4 j)) s14).bind fun (b18, s19) =>
      (mX4_init n s19 b18).bind fun s20 =>
      (isO 4 s20 b18).bind fun _ =>
      (sV 15 s20 b17 (1 : Int32) (.ref b18)).bind fun s21 =>
      (toR (gV 6 s21 a0 0)).bind fun b22 =>
      (lenA 15 s21 b22).bind fun v23 =>
      if v23 ≤ (2 : Int32) then (
        some s21
      ) else (
        (toR (gV 6 s21 a0 0)).bind fun b24 =>
        (nwO 4 2 (fun j => defaultValue (tyX4 j)) s21).bind fun (b25, s26) =>
        (mX4_init n s26 b25).bind fun s27 =>
        (isO 4 s27 b25).bind fun _ =>
        (sV 15 s27 b24 (2 : Int32) (.ref b25)).bind fun s28 =>
        (toR (gV 6 s28 a0 0)).bind fun b29 =>
        (lenA 15 s28 b29).bind fun v30 =>
        if v30 ≤ (3 : Int32) then (
          some s28
        ) else (
          (toR (gV 6 s28 a0 0)).bind fun b31 =>
          (nwO 4 2 (fun j => defaultValue (tyX4 j)) s28).bind fun (b32, s33) =>
          (mX4_init n s33 b32).bind fun s34 =>
          (isO 4 s34 b32).bind fun _ =>
          (sV 15 s34 b31 (3 : Int32) (.ref b32)).bind fun s35 =>
          (toR (gV 6 s35 a0 0)).bind fun b36 =>
          (lenA 15 s35 b36).bind fun v37 =>
          if v37 ≤ (4 : Int32) then (
            some s35
          ) else (
            (toR (gV 6 s35 a0 0)).bind fun b38 =>
            (nwO 4 2 (fun j => defaultValue (tyX4 j)) s35).bind fun (b39, s40) =>
            (mX4_init n s40 b39).bind fun s41 =>
            (isO 4 s41 b39).bind fun _ =>
            (sV 15 s41 b38 (4 : Int32) (.ref b39)).bind fun s42 =>
            (toR (gV 6 s42 a0 0)).bind fun b43 =>
            (lenA 15 s42 b43).bind fun v44 =>
            if v44 ≤ (5 : Int32) then (
              some s42
            ) else (
              (toR (gV 6 s42 a0 0)).bind fun b45 =>
              (nwO 4 2 (fun j => defaultValue (tyX4 j)) s42).bind fun (b46, s47) =>
              (mX4_init n s47 b46).bind fun s48 =>
              (isO 4 s48 b46).bind fun _ =>
              (sV 15 s48 b45 (5 : Int32) (.ref b46)).bind fun s49 =>
              (toR (gV 6 s49 a0 0)).bind fun b50 =>
              (lenA 15 s49 b50).bind fun v51 =>
              if v51 ≤ (6 : Int32) then (
                some s49
              ) else (
                (toR (gV 6 s49 a0 0)).bind fun b52 =>
                (nwO 4 2 (fun j => defaultValue (tyX4 j)) s49).bind fun (b53, s54) =>
                (mX4_init n s54 b53).bind fun s55 =>
                (isO 4 s55 b53).bind fun _ =>
                (sV 15 s55 b52 (6 : Int32) (.ref b53)).bind fun s56 =>
                none
              )
            )
          )
        )
      )
    )
  )
set_option maxRecDepth 100000 in
set_option maxHeartbeats 4000000 in
theorem bX6_init {G : Cx} {E : Ev} {n : Nat} (hRm : 2 ≤ E.1.frames ∧ 40 ≤ E.1.locals) (hCm : 15 ≤ E.1.cells ∧ 587 ≤ E.1.slots ∧ 15 ≤ E.2.2.1 ∧ 587 ≤ E.2.2.2.1) {P : Sg → Prop} (hQ : ∀ s, P s → E.2.2.2.2 none s) {s0 : Sg} {a0 : Nat} (h : Ok (mX6_init n s0 a0) P) : BW G tX6_init E 0 0 0 [(0, .ref a0)] [] s0 := by
  unfold mX6_init at h
  refine BW.run [.aload_n 0] (pc' := 1) (lv' := [(0, .ref a0)]) (st' := [.ref a0]) (by decide +kernel) rfl rfl ?_
  refine BW.objInit (by decide +kernel : decode tX6_init.2.1 1 = .ok (.invokespecial 3, 3)) lkM_X6_3 im_object cd_object (Nat.le_of_ble_eq_true rfl) ⟨Nat.le_trans (by decide) hRm.1, Nat.le_trans (by decide) hRm.2⟩ ?_
  refine BW.run [.aload_n 0, .bipush 6] (pc' := 7) (lv' := [(0, .ref a0)]) (st' := [.int (6 : Int32), .ref a0]) (by decide +kernel) rfl rfl ?_
  obtain ⟨⟨b1, s2⟩, es2, h⟩ := Ok.bind h
  refine BW.anewB (by decide +kernel : decode tX6_init.2.1 7 = .ok (.anewarray 9, 3)) (t := 15) (by decide) rfl lkC_X6_9 (by decide) (by decide) (by decide) (Nat.le_trans (by decide) hCm.1) (Nat.le_trans (by decide) hCm.2.1) es2 ?_
  show BW G tX6_init E 1 6 10 [(0, .ref a0)] (.ref b1 :: [.ref a0]) s2
  obtain ⟨s3, es3, h⟩ := Ok.bind h
  refine BW.putF (by decide +kernel : decode tX6_init.2.1 10 = .ok (.putfield 11, 3)) ciX6 (k := 0) (by decide) lkF_X6_11 rfl rfl rfl rfl rfl es3 ?_
  refine BW.run [.aload_n 0, .iconst 0] (pc' := 15) (lv' := [(0, .ref a0)]) (st' := [.int (0 : Int32), .ref a0]) (by decide +kernel) rfl rfl ?_
  obtain ⟨s4, es4, h⟩ := Ok.bind h
  refine BW.put (by decide +kernel : decode tX6_init.2.1 15 = .ok (.putfield 17, 3)) ciX6 (k := 1) (by decide) lkF_X6_17 rfl rfl rfl es4 ?_
  refine BW.run [.aload_n 0, .iconst (-1)] (pc' := 20) (lv' := [(0, .ref a0)]) (st' := [.int (-1 : Int32), .ref a0]) (by decide +kernel) rfl rfl ?_
  obtain ⟨s5, es5, h⟩ := Ok.bind h
  refine BW.put (by decide +kernel : decode tX6_init.2.1 20 = .ok (.putfield 21, 3)) ciX6 (k := 2) (by decide) lkF_X6_21 rfl rfl rfl es5 ?_
  refine BW.run [.aload_n 0, .iconst 0] (pc' := 25) (lv' := [(0, .ref a0)]) (st' := [.int (0 : Int32), .ref a0]) (by decide +kernel) rfl rfl ?_
  obtain ⟨s6, es6, h⟩ := Ok.bind h
  refine BW.put (by decide +kernel : decode tX6_init.2.1 25 = .ok (.putfield 24, 3)) ciX6 (k := 3) (by decide) lkF_X6_24 rfl rfl rfl es6 ?_
  refine BW.run [.aload_n 0, .iconst (-1)] (pc' := 30) (lv' := [(0, .ref a0)]) (st' := [.int (-1 : Int32), .ref a0]) (by decide +kernel) rfl rfl ?_
  obtain ⟨s7, es7, h⟩ := Ok.bind h
  refine BW.put (by decide +kernel : decode tX6_init.2.1 30 = .ok (.putfield 27, 3)) ciX6 (k := 4) (by decide) lkF_X6_27 rfl rfl rfl es7 ?_
  refine BW.run [.iconst 0, .istore_n 1, .iload_n 1, .aload_n 0] (pc' := 37) (lv' := [(0, .ref a0), (1, .int (0 : Int32))]) (st' := [.ref a0, .int (0 : Int32)]) (by decide +kernel) rfl rfl ?_
  obtain ⟨b8, eb8, h⟩ := Ok.bind h
  refine BW.get (by decide +kernel : decode tX6_init.2.1 37 = .ok (.getfield 11, 3)) ciX6 (k := 0) (by decide) lkF_X6_11 (toR_V eb8) ?_
  obtain ⟨v9, ev9, h⟩ := Ok.bind h
  refine BW.alen (by decide +kernel : decode tX6_init.2.1 40 = .ok (.arraylength, 1)) (t := 15) (by decide) ev9 ?_
  refine BW.icmp_ge 63 (by decide +kernel : decode tX6_init.2.1 41 = .ok (.if_icmp .ge 22, 3)) (by decide) (fun hc => ?_) (fun hc => ?_)
  · have h := (Ok.ite h).1 hc
    exact BW.vret (by decide +kernel : decode tX6_init.2.1 63 = .ok (.return_, 1)) rfl (Nat.le_trans (by decide) hCm.2.2.1) (Nat.le_trans (by decide) hCm.2.2.2) (hQ _ (Ok.some h))
  · have h := (Ok.ite h).2 hc
    refine BW.run [.aload_n 0] (pc' := 45) (lv' := [(0, .ref a0), (1, .int (0 : Int32))]) (st' := [.ref a0]) (by decide +kernel) rfl rfl ?_
    obtain ⟨b10, eb10, h⟩ := Ok.bind h
    refine BW.get (by decide +kernel : decode tX6_init.2.1 45 = .ok (.getfield 11, 3)) ciX6 (k := 0) (by decide) lkF_X6_11 (toR_V eb10) ?_
    refine BW.run [.iload_n 1] (pc' := 49) (lv' := [(0, .ref a0), (1, .int (0 : Int32))]) (st' := [.int (0 : Int32), .ref b10]) (by decide +kernel) rfl rfl ?_
    obtain ⟨⟨b11, s12⟩, es12, h⟩ := Ok.bind h
    refine BW.newB (by decide +kernel : decode tX6_init.2.1 49 = .ok (.new 9, 3)) ciX4 lkC_X6_9 ins4 ini4 (Nat.le_trans (by decide) hCm.1) (Nat.le_trans (by decide) hCm.2.1) es12 ?_
    show BW G tX6_init E 2 8 52 [(0, .ref a0), (1, .int (0 : Int32))] (.ref b11 :: [.int (0 : Int32), .ref b10]) s12
    refine BW.run [.dup] (pc' := 53) (lv' := [(0, .ref a0), (1, .int (0 : Int32))]) (st' := [.ref b11, .ref b11, .int (0 : Int32), .ref b10]) (by decide +kernel) rfl rfl ?_
    refine BW.callIN (As := []) (st := [.ref b11, .int (0 : Int32), .ref b10]) (by decide +kernel : decode tX6_init.2.1 53 = .ok (.invokespecial 30, 3)) (DX4_init (Ok.bindK h)) mfX4_init rfl lkM_X6_30 imX4_init rfl rfl rfl (Nat.le_of_ble_eq_true rfl) ⟨Nat.le_trans (by decide) hRm.1, Nat.le_trans (by decide) hRm.2⟩ ⟨Nat.le_trans (by decide) hCm.1, Nat.le_trans (by decide) hCm.2.1⟩ ?_
    rintro _ s13 ⟨rfl, h⟩
    show BW G tX6_init E 3 89 56 [(0, .ref a0), (1, .int (0 : Int32))] [.ref b11, .int (0 : Int32), .ref b10] s13
    obtain ⟨_, us14, h⟩ := Ok.bind h
    obtain ⟨s14, es14, h⟩ := Ok.bind h
    refine BW.aast (by decide +kernel : decode tX6_init.2.1 56 = .ok (.aastore, 1)) (by decide) ciX4 rfl (isO_spec us14).choose_spec es14 ?_
    refine BW.run [.iinc 1 1] (pc' := 60) (lv' := [(0, .ref a0), (1, .int (1 : Int32))]) (st' := []) (by decide +kernel) rfl rfl ?_
    refine BW.goto 35 (by decide +kernel : decode tX6_init.2.1 60 = .ok (.goto (-25), 3)) (by decide) ?_
    refine BW.run [.iload_n 1, .aload_n 0] (pc' := 37) (lv' := [(0, .ref a0), (1, .int (1 : Int32))]) (st' := [.ref a0, .int (1 : Int32)]) (by decide +kernel) rfl rfl ?_
    obtain ⟨b15, eb15, h⟩ := Ok.bind h
    refine BW.get (by decide +kernel : decode tX6_init.2.1 37 = .ok (.getfield 11, 3)) ciX6 (k := 0) (by decide) lkF_X6_11 (toR_V eb15) ?_
    obtain ⟨v16, ev16, h⟩ := Ok.bind h
    refine BW.alen (by decide +kernel : decode tX6_init.2.1 40 = .ok (.arraylength, 1)) (t := 15) (by decide) ev16 ?_
    refine BW.icmp_ge 63 (by decide +kernel : decode tX6_init.2.1 41 = .ok (.if_icmp .ge 22, 3)) (by decide) (fun hc => ?_) (fun hc => ?_)
    · have h := (Ok.ite h).1 hc
      exact BW.vret (by decide +kernel : decode tX6_init.2.1 63 = .ok (.return_, 1)) rfl (Nat.le_trans (by decide) hCm.2.2.1) (Nat.le_trans (by decide) hCm.2.2.2) (hQ _ (Ok.some h))
    · have h := (Ok.ite h).2 hc
      refine BW.run [.aload_n 0] (pc' := 45) (lv' := [(0, .ref a0), (1, .int (1 : Int32))]) (st' := [.ref a0]) (by decide +kernel) rfl rfl ?_
      obtain ⟨b17, eb17, h⟩ := Ok.bind h
      refine BW.get (by decide +kernel : decode tX6_init.2.1 45 = .ok (.getfield 11, 3)) ciX6 (k := 0) (by decide) lkF_X6_11 (toR_V eb17) ?_
      refine BW.run [.iload_n 1] (pc' := 49) (lv' := [(0, .ref a0), (1, .int (1 : Int32))]) (st' := [.int (1 : Int32), .ref b17]) (by decide +kernel) rfl rfl ?_
      obtain ⟨⟨b18, s19⟩, es19, h⟩ := Ok.bind h
      refine BW.newB (by decide +kernel : decode tX6_init.2.1 49 = .ok (.new 9, 3)) ciX4 lkC_X6_9 ins4 ini4 (Nat.le_trans (by decide) hCm.1) (Nat.le_trans (by decide) hCm.2.1) es19 ?_
      show BW G tX6_init E 4 91 52 [(0, .ref a0), (1, .int (1 : Int32))] (.ref b18 :: [.int (1 : Int32), .ref b17]) s19
      refine BW.run [.dup] (pc' := 53) (lv' := [(0, .ref a0), (1, .int (1 : Int32))]) (st' := [.ref b18, .ref b18, .int (1 : Int32), .ref b17]) (by decide +kernel) rfl rfl ?_
      refine BW.callIN (As := []) (st := [.ref b18, .int (1 : Int32), .ref b17]) (by decide +kernel : decode tX6_init.2.1 53 = .ok (.invokespecial 30, 3)) (DX4_init (Ok.bindK h)) mfX4_init rfl lkM_X6_30 imX4_init rfl rfl rfl (Nat.le_of_ble_eq_true rfl) ⟨Nat.le_trans (by decide) hRm.1, Nat.le_trans (by decide) hRm.2⟩ ⟨Nat.le_trans (by decide) hCm.1, Nat.le_trans (by decide) hCm.2.1⟩ ?_
      rintro _ s20 ⟨rfl, h⟩
      show BW G tX6_init E 5 172 56 [(0, .ref a0), (1, .int (1 : Int32))] [.ref b18, .int (1 : Int32), .ref b17] s20
      obtain ⟨_, us21, h⟩ := Ok.bind h
      obtain ⟨s21, es21, h⟩ := Ok.bind h
      refine BW.aast (by decide +kernel : decode tX6_init.2.1 56 = .ok (.aastore, 1)) (by decide) ciX4 rfl (isO_spec us21).choose_spec es21 ?_
      refine BW.run [.iinc 1 1] (pc' := 60) (lv' := [(0, .ref a0), (1, .int (2 : Int32))]) (st' := []) (by decide +kernel) rfl rfl ?_
      refine BW.goto 35 (by decide +kernel : decode tX6_init.2.1 60 = .ok (.goto (-25), 3)) (by decide) ?_
      refine BW.run [.iload_n 1, .aload_n 0] (pc' := 37) (lv' := [(0, .ref a0), (1, .int (2 : Int32))]) (st' := [.ref a0, .int (2 : Int32)]) (by decide +kernel) rfl rfl ?_
      obtain ⟨b22, eb22, h⟩ := Ok.bind h
      refine BW.get (by decide +kernel : decode tX6_init.2.1 37 = .ok (.getfield 11, 3)) ciX6 (k := 0) (by decide) lkF_X6_11 (toR_V eb22) ?_
      obtain ⟨v23, ev23, h⟩ := Ok.bind h
      refine BW.alen (by decide +kernel : decode tX6_init.2.1 40 = .ok (.arraylength, 1)) (t := 15) (by decide) ev23 ?_
      refine BW.icmp_ge 63 (by decide +kernel : decode tX6_init.2.1 41 = .ok (.if_icmp .ge 22, 3)) (by decide) (fun hc => ?_) (fun hc => ?_)
      · have h := (Ok.ite h).1 hc
        exact BW.vret (by decide +kernel : decode tX6_init.2.1 63 = .ok (.return_, 1)) rfl (Nat.le_trans (by decide) hCm.2.2.1) (Nat.le_trans (by decide) hCm.2.2.2) (hQ _ (Ok.some h))
      · have h := (Ok.ite h).2 hc
        refine BW.run [.aload_n 0] (pc' := 45) (lv' := [(0, .ref a0), (1, .int (2 : Int32))]) (st' := [.ref a0]) (by decide +kernel) rfl rfl ?_
        obtain ⟨b24, eb24, h⟩ := Ok.bind h
        refine BW.get (by decide +kernel : decode tX6_init.2.1 45 = .ok (.getfield 11, 3)) ciX6 (k := 0) (by decide) lkF_X6_11 (toR_V eb24) ?_
        refine BW.run [.iload_n 1] (pc' := 49) (lv' := [(0, .ref a0), (1, .int (2 : Int32))]) (st' := [.int (2 : Int32), .ref b24]) (by decide +kernel) rfl rfl ?_
        obtain ⟨⟨b25, s26⟩, es26, h⟩ := Ok.bind h
        refine BW.newB (by decide +kernel : decode tX6_init.2.1 49 = .ok (.new 9, 3)) ciX4 lkC_X6_9 ins4 ini4 (Nat.le_trans (by decide) hCm.1) (Nat.le_trans (by decide) hCm.2.1) es26 ?_
        show BW G tX6_init E 6 174 52 [(0, .ref a0), (1, .int (2 : Int32))] (.ref b25 :: [.int (2 : Int32), .ref b24]) s26
        refine BW.run [.dup] (pc' := 53) (lv' := [(0, .ref a0), (1, .int (2 : Int32))]) (st' := [.ref b25, .ref b25, .int (2 : Int32), .ref b24]) (by decide +kernel) rfl rfl ?_
        refine BW.callIN (As := []) (st := [.ref b25, .int (2 : Int32), .ref b24]) (by decide +kernel : decode tX6_init.2.1 53 = .ok (.invokespecial 30, 3)) (DX4_init (Ok.bindK h)) mfX4_init rfl lkM_X6_30 imX4_init rfl rfl rfl (Nat.le_of_ble_eq_true rfl) ⟨Nat.le_trans (by decide) hRm.1, Nat.le_trans (by decide) hRm.2⟩ ⟨Nat.le_trans (by decide) hCm.1, Nat.le_trans (by decide) hCm.2.1⟩ ?_
        rintro _ s27 ⟨rfl, h⟩
        show BW G tX6_init E 7 255 56 [(0, .ref a0), (1, .int (2 : Int32))] [.ref b25, .int (2 : Int32), .ref b24] s27
        obtain ⟨_, us28, h⟩ := Ok.bind h
        obtain ⟨s28, es28, h⟩ := Ok.bind h
        refine BW.aast (by decide +kernel : decode tX6_init.2.1 56 = .ok (.aastore, 1)) (by decide) ciX4 rfl (isO_spec us28).choose_spec es28 ?_
        refine BW.run [.iinc 1 1] (pc' := 60) (lv' := [(0, .ref a0), (1, .int (3 : Int32))]) (st' := []) (by decide +kernel) rfl rfl ?_
        refine BW.goto 35 (by decide +kernel : decode tX6_init.2.1 60 = .ok (.goto (-25), 3)) (by decide) ?_
        refine BW.run [.iload_n 1, .aload_n 0] (pc' := 37) (lv' := [(0, .ref a0), (1, .int (3 : Int32))]) (st' := [.ref a0, .int (3 : Int32)]) (by decide +kernel) rfl rfl ?_
        obtain ⟨b29, eb29, h⟩ := Ok.bind h
        refine BW.get (by decide +kernel : decode tX6_init.2.1 37 = .ok (.getfield 11, 3)) ciX6 (k := 0) (by decide) lkF_X6_11 (toR_V eb29) ?_
        obtain ⟨v30, ev30, h⟩ := Ok.bind h
        refine BW.alen (by decide +kernel : decode tX6_init.2.1 40 = .ok (.arraylength, 1)) (t := 15) (by decide) ev30 ?_
        refine BW.icmp_ge 63 (by decide +kernel : decode tX6_init.2.1 41 = .ok (.if_icmp .ge 22, 3)) (by decide) (fun hc => ?_) (fun hc => ?_)
        · have h := (Ok.ite h).1 hc
          exact BW.vret (by decide +kernel : decode tX6_init.2.1 63 = .ok (.return_, 1)) rfl (Nat.le_trans (by decide) hCm.2.2.1) (Nat.le_trans (by decide) hCm.2.2.2) (hQ _ (Ok.some h))
        · have h := (Ok.ite h).2 hc
          refine BW.run [.aload_n 0] (pc' := 45) (lv' := [(0, .ref a0), (1, .int (3 : Int32))]) (st' := [.ref a0]) (by decide +kernel) rfl rfl ?_
          obtain ⟨b31, eb31, h⟩ := Ok.bind h
          refine BW.get (by decide +kernel : decode tX6_init.2.1 45 = .ok (.getfield 11, 3)) ciX6 (k := 0) (by decide) lkF_X6_11 (toR_V eb31) ?_
          refine BW.run [.iload_n 1] (pc' := 49) (lv' := [(0, .ref a0), (1, .int (3 : Int32))]) (st' := [.int (3 : Int32), .ref b31]) (by decide +kernel) rfl rfl ?_
          obtain ⟨⟨b32, s33⟩, es33, h⟩ := Ok.bind h
          refine BW.newB (by decide +kernel : decode tX6_init.2.1 49 = .ok (.new 9, 3)) ciX4 lkC_X6_9 ins4 ini4 (Nat.le_trans (by decide) hCm.1) (Nat.le_trans (by decide) hCm.2.1) es33 ?_
          show BW G tX6_init E 8 257 52 [(0, .ref a0), (1, .int (3 : Int32))] (.ref b32 :: [.int (3 : Int32), .ref b31]) s33
          refine BW.run [.dup] (pc' := 53) (lv' := [(0, .ref a0), (1, .int (3 : Int32))]) (st' := [.ref b32, .ref b32, .int (3 : Int32), .ref b31]) (by decide +kernel) rfl rfl ?_
          refine BW.callIN (As := []) (st := [.ref b32, .int (3 : Int32), .ref b31]) (by decide +kernel : decode tX6_init.2.1 53 = .ok (.invokespecial 30, 3)) (DX4_init (Ok.bindK h)) mfX4_init rfl lkM_X6_30 imX4_init rfl rfl rfl (Nat.le_of_ble_eq_true rfl) ⟨Nat.le_trans (by decide) hRm.1, Nat.le_trans (by decide) hRm.2⟩ ⟨Nat.le_trans (by decide) hCm.1, Nat.le_trans (by decide) hCm.2.1⟩ ?_
          rintro _ s34 ⟨rfl, h⟩
          show BW G tX6_init E 9 338 56 [(0, .ref a0), (1, .int (3 : Int32))] [.ref b32, .int (3 : Int32), .ref b31] s34
          obtain ⟨_, us35, h⟩ := Ok.bind h
          obtain ⟨s35, es35, h⟩ := Ok.bind h
          refine BW.aast (by decide +kernel : decode tX6_init.2.1 56 = .ok (.aastore, 1)) (by decide) ciX4 rfl (isO_spec us35).choose_spec es35 ?_
          refine BW.run [.iinc 1 1] (pc' := 60) (lv' := [(0, .ref a0), (1, .int (4 : Int32))]) (st' := []) (by decide +kernel) rfl rfl ?_
          refine BW.goto 35 (by decide +kernel : decode tX6_init.2.1 60 = .ok (.goto (-25), 3)) (by decide) ?_
          refine BW.run [.iload_n 1, .aload_n 0] (pc' := 37) (lv' := [(0, .ref a0), (1, .int (4 : Int32))]) (st' := [.ref a0, .int (4 : Int32)]) (by decide +kernel) rfl rfl ?_
          obtain ⟨b36, eb36, h⟩ := Ok.bind h
          refine BW.get (by decide +kernel : decode tX6_init.2.1 37 = .ok (.getfield 11, 3)) ciX6 (k := 0) (by decide) lkF_X6_11 (toR_V eb36) ?_
          obtain ⟨v37, ev37, h⟩ := Ok.bind h
          refine BW.alen (by decide +kernel : decode tX6_init.2.1 40 = .ok (.arraylength, 1)) (t := 15) (by decide) ev37 ?_
          refine BW.icmp_ge 63 (by decide +kernel : decode tX6_init.2.1 41 = .ok (.if_icmp .ge 22, 3)) (by decide) (fun hc => ?_) (fun hc => ?_)
          · have h := (Ok.ite h).1 hc
            exact BW.vret (by decide +kernel : decode tX6_init.2.1 63 = .ok (.return_, 1)) rfl (Nat.le_trans (by decide) hCm.2.2.1) (Nat.le_trans (by decide) hCm.2.2.2) (hQ _ (Ok.some h))
          · have h := (Ok.ite h).2 hc
            refine BW.run [.aload_n 0] (pc' := 45) (lv' := [(0, .ref a0), (1, .int (4 : Int32))]) (st' := [.ref a0]) (by decide +kernel) rfl rfl ?_
            obtain ⟨b38, eb38, h⟩ := Ok.bind h
            refine BW.get (by decide +kernel : decode tX6_init.2.1 45 = .ok (.getfield 11, 3)) ciX6 (k := 0) (by decide) lkF_X6_11 (toR_V eb38) ?_
            refine BW.run [.iload_n 1] (pc' := 49) (lv' := [(0, .ref a0), (1, .int (4 : Int32))]) (st' := [.int (4 : Int32), .ref b38]) (by decide +kernel) rfl rfl ?_
            obtain ⟨⟨b39, s40⟩, es40, h⟩ := Ok.bind h
            refine BW.newB (by decide +kernel : decode tX6_init.2.1 49 = .ok (.new 9, 3)) ciX4 lkC_X6_9 ins4 ini4 (Nat.le_trans (by decide) hCm.1) (Nat.le_trans (by decide) hCm.2.1) es40 ?_
            show BW G tX6_init E 10 340 52 [(0, .ref a0), (1, .int (4 : Int32))] (.ref b39 :: [.int (4 : Int32), .ref b38]) s40
            refine BW.run [.dup] (pc' := 53) (lv' := [(0, .ref a0), (1, .int (4 : Int32))]) (st' := [.ref b39, .ref b39, .int (4 : Int32), .ref b38]) (by decide +kernel) rfl rfl ?_
            refine BW.callIN (As := []) (st := [.ref b39, .int (4 : Int32), .ref b38]) (by decide +kernel : decode tX6_init.2.1 53 = .ok (.invokespecial 30, 3)) (DX4_init (Ok.bindK h)) mfX4_init rfl lkM_X6_30 imX4_init rfl rfl rfl (Nat.le_of_ble_eq_true rfl) ⟨Nat.le_trans (by decide) hRm.1, Nat.le_trans (by decide) hRm.2⟩ ⟨Nat.le_trans (by decide) hCm.1, Nat.le_trans (by decide) hCm.2.1⟩ ?_
            rintro _ s41 ⟨rfl, h⟩
            show BW G tX6_init E 11 421 56 [(0, .ref a0), (1, .int (4 : Int32))] [.ref b39, .int (4 : Int32), .ref b38] s41
            obtain ⟨_, us42, h⟩ := Ok.bind h
            obtain ⟨s42, es42, h⟩ := Ok.bind h
            refine BW.aast (by decide +kernel : decode tX6_init.2.1 56 = .ok (.aastore, 1)) (by decide) ciX4 rfl (isO_spec us42).choose_spec es42 ?_
            refine BW.run [.iinc 1 1] (pc' := 60) (lv' := [(0, .ref a0), (1, .int (5 : Int32))]) (st' := []) (by decide +kernel) rfl rfl ?_
            refine BW.goto 35 (by decide +kernel : decode tX6_init.2.1 60 = .ok (.goto (-25), 3)) (by decide) ?_
            refine BW.run [.iload_n 1, .aload_n 0] (pc' := 37) (lv' := [(0, .ref a0), (1, .int (5 : Int32))]) (st' := [.ref a0, .int (5 : Int32)]) (by decide +kernel) rfl rfl ?_
            obtain ⟨b43, eb43, h⟩ := Ok.bind h
            refine BW.get (by decide +kernel : decode tX6_init.2.1 37 = .ok (.getfield 11, 3)) ciX6 (k := 0) (by decide) lkF_X6_11 (toR_V eb43) ?_
            obtain ⟨v44, ev44, h⟩ := Ok.bind h
            refine BW.alen (by decide +kernel : decode tX6_init.2.1 40 = .ok (.arraylength, 1)) (t := 15) (by decide) ev44 ?_
            refine BW.icmp_ge 63 (by decide +kernel : decode tX6_init.2.1 41 = .ok (.if_icmp .ge 22, 3)) (by decide) (fun hc => ?_) (fun hc => ?_)
            · have h := (Ok.ite h).1 hc
              exact BW.vret (by decide +kernel : decode tX6_init.2.1 63 = .ok (.return_, 1)) rfl (Nat.le_trans (by decide) hCm.2.2.1) (Nat.le_trans (by decide) hCm.2.2.2) (hQ _ (Ok.some h))
            · have h := (Ok.ite h).2 hc
              refine BW.run [.aload_n 0] (pc' := 45) (lv' := [(0, .ref a0), (1, .int (5 : Int32))]) (st' := [.ref a0]) (by decide +kernel) rfl rfl ?_
              obtain ⟨b45, eb45, h⟩ := Ok.bind h
              refine BW.get (by decide +kernel : decode tX6_init.2.1 45 = .ok (.getfield 11, 3)) ciX6 (k := 0) (by decide) lkF_X6_11 (toR_V eb45) ?_
              refine BW.run [.iload_n 1] (pc' := 49) (lv' := [(0, .ref a0), (1, .int (5 : Int32))]) (st' := [.int (5 : Int32), .ref b45]) (by decide +kernel) rfl rfl ?_
              obtain ⟨⟨b46, s47⟩, es47, h⟩ := Ok.bind h
              refine BW.newB (by decide +kernel : decode tX6_init.2.1 49 = .ok (.new 9, 3)) ciX4 lkC_X6_9 ins4 ini4 (Nat.le_trans (by decide) hCm.1) (Nat.le_trans (by decide) hCm.2.1) es47 ?_
              show BW G tX6_init E 12 423 52 [(0, .ref a0), (1, .int (5 : Int32))] (.ref b46 :: [.int (5 : Int32), .ref b45]) s47
              refine BW.run [.dup] (pc' := 53) (lv' := [(0, .ref a0), (1, .int (5 : Int32))]) (st' := [.ref b46, .ref b46, .int (5 : Int32), .ref b45]) (by decide +kernel) rfl rfl ?_
              refine BW.callIN (As := []) (st := [.ref b46, .int (5 : Int32), .ref b45]) (by decide +kernel : decode tX6_init.2.1 53 = .ok (.invokespecial 30, 3)) (DX4_init (Ok.bindK h)) mfX4_init rfl lkM_X6_30 imX4_init rfl rfl rfl (Nat.le_of_ble_eq_true rfl) ⟨Nat.le_trans (by decide) hRm.1, Nat.le_trans (by decide) hRm.2⟩ ⟨Nat.le_trans (by decide) hCm.1, Nat.le_trans (by decide) hCm.2.1⟩ ?_
              rintro _ s48 ⟨rfl, h⟩
              show BW G tX6_init E 13 504 56 [(0, .ref a0), (1, .int (5 : Int32))] [.ref b46, .int (5 : Int32), .ref b45] s48
              obtain ⟨_, us49, h⟩ := Ok.bind h
              obtain ⟨s49, es49, h⟩ := Ok.bind h
              refine BW.aast (by decide +kernel : decode tX6_init.2.1 56 = .ok (.aastore, 1)) (by decide) ciX4 rfl (isO_spec us49).choose_spec es49 ?_
              refine BW.run [.iinc 1 1] (pc' := 60) (lv' := [(0, .ref a0), (1, .int (6 : Int32))]) (st' := []) (by decide +kernel) rfl rfl ?_
              refine BW.goto 35 (by decide +kernel : decode tX6_init.2.1 60 = .ok (.goto (-25), 3)) (by decide) ?_
              refine BW.run [.iload_n 1, .aload_n 0] (pc' := 37) (lv' := [(0, .ref a0), (1, .int (6 : Int32))]) (st' := [.ref a0, .int (6 : Int32)]) (by decide +kernel) rfl rfl ?_
              obtain ⟨b50, eb50, h⟩ := Ok.bind h
              refine BW.get (by decide +kernel : decode tX6_init.2.1 37 = .ok (.getfield 11, 3)) ciX6 (k := 0) (by decide) lkF_X6_11 (toR_V eb50) ?_
              obtain ⟨v51, ev51, h⟩ := Ok.bind h
              refine BW.alen (by decide +kernel : decode tX6_init.2.1 40 = .ok (.arraylength, 1)) (t := 15) (by decide) ev51 ?_
              refine BW.icmp_ge 63 (by decide +kernel : decode tX6_init.2.1 41 = .ok (.if_icmp .ge 22, 3)) (by decide) (fun hc => ?_) (fun hc => ?_)
              · have h := (Ok.ite h).1 hc
                exact BW.vret (by decide +kernel : decode tX6_init.2.1 63 = .ok (.return_, 1)) rfl (Nat.le_trans (by decide) hCm.2.2.1) (Nat.le_trans (by decide) hCm.2.2.2) (hQ _ (Ok.some h))
              · have h := (Ok.ite h).2 hc
                refine BW.run [.aload_n 0] (pc' := 45) (lv' := [(0, .ref a0), (1, .int (6 : Int32))]) (st' := [.ref a0]) (by decide +kernel) rfl rfl ?_
                obtain ⟨b52, eb52, h⟩ := Ok.bind h
                refine BW.get (by decide +kernel : decode tX6_init.2.1 45 = .ok (.getfield 11, 3)) ciX6 (k := 0) (by decide) lkF_X6_11 (toR_V eb52) ?_
                refine BW.run [.iload_n 1] (pc' := 49) (lv' := [(0, .ref a0), (1, .int (6 : Int32))]) (st' := [.int (6 : Int32), .ref b52]) (by decide +kernel) rfl rfl ?_
                obtain ⟨⟨b53, s54⟩, es54, h⟩ := Ok.bind h
                refine BW.newB (by decide +kernel : decode tX6_init.2.1 49 = .ok (.new 9, 3)) ciX4 lkC_X6_9 ins4 ini4 (Nat.le_trans (by decide) hCm.1) (Nat.le_trans (by decide) hCm.2.1) es54 ?_
                show BW G tX6_init E 14 506 52 [(0, .ref a0), (1, .int (6 : Int32))] (.ref b53 :: [.int (6 : Int32), .ref b52]) s54
                refine BW.run [.dup] (pc' := 53) (lv' := [(0, .ref a0), (1, .int (6 : Int32))]) (st' := [.ref b53, .ref b53, .int (6 : Int32), .ref b52]) (by decide +kernel) rfl rfl ?_
                refine BW.callIN (As := []) (st := [.ref b53, .int (6 : Int32), .ref b52]) (by decide +kernel : decode tX6_init.2.1 53 = .ok (.invokespecial 30, 3)) (DX4_init (Ok.bindK h)) mfX4_init rfl lkM_X6_30 imX4_init rfl rfl rfl (Nat.le_of_ble_eq_true rfl) ⟨Nat.le_trans (by decide) hRm.1, Nat.le_trans (by decide) hRm.2⟩ ⟨Nat.le_trans (by decide) hCm.1, Nat.le_trans (by decide) hCm.2.1⟩ ?_
                rintro _ s55 ⟨rfl, h⟩
                show BW G tX6_init E 15 587 56 [(0, .ref a0), (1, .int (6 : Int32))] [.ref b53, .int (6 : Int32), .ref b52] s55
                obtain ⟨_, us56, h⟩ := Ok.bind h
                obtain ⟨s56, es56, h⟩ := Ok.bind h
                refine BW.aast (by decide +kernel : decode tX6_init.2.1 56 = .ok (.aastore, 1)) (by decide) ciX4 rfl (isO_spec us56).choose_spec es56 ?_
                refine BW.run [.iinc 1 1] (pc' := 60) (lv' := [(0, .ref a0), (1, .int (7 : Int32))]) (st' := []) (by decide +kernel) rfl rfl ?_
                refine BW.goto 35 (by decide +kernel : decode tX6_init.2.1 60 = .ok (.goto (-25), 3)) (by decide) ?_
                exact (Ok.no h).elim
set_option maxRecDepth 100000 in
set_option maxHeartbeats 4000000 in
theorem DX6_init {G : Cx} {n : Nat} {P : Sg → Prop} {s0 : Sg} {a0 : Nat} (h : Ok (mX6_init n s0 a0) P) : BM G tX6_init 2 40 15 587 [.ref a0] s0 (fun v s => v = none ∧ P s) := by
  refine BM.of (by decide +kernel) (Nat.le_of_ble_eq_true rfl) ?_
  exact bX6_init (E := (({ frames := 2, cells := 15, slots := 587, locals := 40 }), Aof s0, 15, 587, (fun v s => v = none ∧ P s))) ⟨Nat.le_refl _, Nat.le_refl _⟩ ⟨Nat.le_refl _, Nat.le_refl _, Nat.le_refl _, Nat.le_refl _⟩ (fun s hp => ⟨rfl, hp⟩) h
def mX6_seek (n : Nat) (s0 : Sg) (a0 : Nat) (a1 : Nat) (x2 : Int32) (x3 : Int32) : Option (Sg) :=
  (isO 6 s0 a0).bind fun _ =>
  (pV 6 s0 a0 1 (.int (jmin x2 (6 : Int32)))).bind fun s1 =>
  (pV 6 s1 a0 2 (.int x3)).bind fun s2 =>
  (pV 6 s2 a0 3 (.int (0 : Int32))).bind fun s3 =>
  (pV 6 s3 a0 4 (.int (-1 : Int32))).bind fun s4 =>
  (toR (gV 6 s4 a0 0)).bind fun b5 =>
  (toQ (aV 15 s4 b5 (0 : Int32))).bind fun q6 => match q6 with
  | none => (
    none
  )
  | some b7 => (
    (mX4_copy n s4 b7 a1).bind fun s8 =>
    (mX6_extend n 9 s8 a0 (0 : Int32) (0 : Int32) (0 : Int32)).bind fun s9 =>
    some s9
  )
theorem bX6_seek {G : Cx} {E : Ev} {n : Nat} (hRm : 25 ≤ E.1.frames ∧ 599 ≤ E.1.locals) {P : Sg → Prop} (hQ : ∀ s, P s → E.2.2.2.2 none s) {s0 : Sg} {a0 : Nat} {a1 : Nat} {x2 : Int32} {x3 : Int32} (h : Ok (mX6_seek n s0 a0 a1 x2 x3) P) : BW G tX6_seek E 0 0 0 [(0, .ref a0), (1, .ref a1), (2, .int x2), (3, .int x3)] [] s0 := by
  unfold mX6_seek at h
  obtain ⟨_, _, h⟩ := Ok.bind h
  refine BW.run [.aload_n 0, .iload_n 2, .bipush 6] (pc' := 4) (lv' := [(0, .ref a0), (1, .ref a1), (2, .int x2), (3, .int x3)]) (st' := [.int (6 : Int32), .int x2, .ref a0]) (by decide +kernel) rfl rfl ?_
  refine BW.mmin (by decide +kernel : decode tX6_seek.2.1 4 = .ok (.invokestatic 31, 3)) lkM_X6_31 (Nat.le_of_ble_eq_true rfl) ⟨Nat.le_trans (by decide) hRm.1, Nat.le_trans (by decide) hRm.2⟩ ⟨Nat.zero_le _, Nat.zero_le _⟩ ?_
  obtain ⟨s1, es1, h⟩ := Ok.bind h
  refine BW.put (by decide +kernel : decode tX6_seek.2.1 7 = .ok (.putfield 17, 3)) ciX6 (k := 1) (by decide) lkF_X6_17 rfl rfl rfl es1 ?_
  refine BW.run [.aload_n 0, .iload_n 3] (pc' := 12) (lv' := [(0, .ref a0), (1, .ref a1), (2, .int x2), (3, .int x3)]) (st' := [.int x3, .ref a0]) (by decide +kernel) rfl rfl ?_
  obtain ⟨s2, es2, h⟩ := Ok.bind h
  refine BW.put (by decide +kernel : decode tX6_seek.2.1 12 = .ok (.putfield 21, 3)) ciX6 (k := 2) (by decide) lkF_X6_21 rfl rfl rfl es2 ?_
  refine BW.run [.aload_n 0, .iconst 0] (pc' := 17) (lv' := [(0, .ref a0), (1, .ref a1), (2, .int x2), (3, .int x3)]) (st' := [.int (0 : Int32), .ref a0]) (by decide +kernel) rfl rfl ?_
  obtain ⟨s3, es3, h⟩ := Ok.bind h
  refine BW.put (by decide +kernel : decode tX6_seek.2.1 17 = .ok (.putfield 24, 3)) ciX6 (k := 3) (by decide) lkF_X6_24 rfl rfl rfl es3 ?_
  refine BW.run [.aload_n 0, .iconst (-1)] (pc' := 22) (lv' := [(0, .ref a0), (1, .ref a1), (2, .int x2), (3, .int x3)]) (st' := [.int (-1 : Int32), .ref a0]) (by decide +kernel) rfl rfl ?_
  obtain ⟨s4, es4, h⟩ := Ok.bind h
  refine BW.put (by decide +kernel : decode tX6_seek.2.1 22 = .ok (.putfield 27, 3)) ciX6 (k := 4) (by decide) lkF_X6_27 rfl rfl rfl es4 ?_
  refine BW.run [.aload_n 0] (pc' := 26) (lv' := [(0, .ref a0), (1, .ref a1), (2, .int x2), (3, .int x3)]) (st' := [.ref a0]) (by decide +kernel) rfl rfl ?_
  obtain ⟨b5, eb5, h⟩ := Ok.bind h
  refine BW.get (by decide +kernel : decode tX6_seek.2.1 26 = .ok (.getfield 11, 3)) ciX6 (k := 0) (by decide) lkF_X6_11 (toR_V eb5) ?_
  refine BW.run [.iconst 0] (pc' := 30) (lv' := [(0, .ref a0), (1, .ref a1), (2, .int x2), (3, .int x3)]) (st' := [.int (0 : Int32), .ref b5]) (by decide +kernel) rfl rfl ?_
  obtain ⟨q6, eq6, h⟩ := Ok.bind h
  refine BW.aald (by decide +kernel : decode tX6_seek.2.1 30 = .ok (.aaload, 1)) (by decide) (toQ_V eq6) ?_
  cases q6 with
  | none =>
    show BW G tX6_seek E 0 0 31 [(0, .ref a0), (1, .ref a1), (2, .int x2), (3, .int x3)] (.null :: []) s4
    exact (Ok.no h).elim
  | some b7 =>
    show BW G tX6_seek E 0 0 31 [(0, .ref a0), (1, .ref a1), (2, .int x2), (3, .int x3)] (.ref b7 :: []) s4
    refine BW.run [.aload_n 1] (pc' := 32) (lv' := [(0, .ref a0), (1, .ref a1), (2, .int x2), (3, .int x3)]) (st' := [.ref a1, .ref b7]) (by decide +kernel) rfl rfl ?_
    refine BW.callV (As := [.ref a1]) (st := []) (by decide +kernel : decode tX6_seek.2.1 32 = .ok (.invokevirtual 37, 3)) (DX4_copy (Ok.bindK h)) mfX4_copy lkM_X6_37 imX4_copy selX4_copy ciX4 (oX4_copy (Ok.bindK h)).choose_spec rfl rfl (Nat.le_of_ble_eq_true rfl) ⟨Nat.le_trans (by decide) hRm.1, Nat.le_trans (by decide) hRm.2⟩ ⟨Nat.zero_le _, Nat.zero_le _⟩ ?_
    rintro _ s8 ⟨rfl, h⟩
    show BW G tX6_seek E 0 0 35 [(0, .ref a0), (1, .ref a1), (2, .int x2), (3, .int x3)] [] s8
    refine BW.run [.aload_n 0, .iconst 0, .iconst 0, .iconst 0] (pc' := 39) (lv' := [(0, .ref a0), (1, .ref a1), (2, .int x2), (3, .int x3)]) (st' := [.int (0 : Int32), .int (0 : Int32), .int (0 : Int32), .ref a0]) (by decide +kernel) rfl rfl ?_
    refine BW.callV (As := [.int (0 : Int32), .int (0 : Int32), .int (0 : Int32)]) (st := []) (by decide +kernel : decode tX6_seek.2.1 39 = .ok (.invokevirtual 41, 3)) (DX6_extend (Ok.bindK h)) mfX6_extend lkM_X6_41 imX6_extend selX6_extend ciX6 (oX6_extend (Ok.bindK h)).choose_spec rfl rfl (Nat.le_of_ble_eq_true rfl) ⟨Nat.le_trans (by decide) hRm.1, Nat.le_trans (by decide) hRm.2⟩ ⟨Nat.zero_le _, Nat.zero_le _⟩ ?_
    rintro _ s9 ⟨rfl, h⟩
    show BW G tX6_seek E 0 0 42 [(0, .ref a0), (1, .ref a1), (2, .int x2), (3, .int x3)] [] s9
    exact BW.vret (by decide +kernel : decode tX6_seek.2.1 42 = .ok (.return_, 1)) rfl (Nat.zero_le _) (Nat.zero_le _) (hQ _ (Ok.some h))
theorem oX6_seek {n : Nat} {P : Sg → Prop} {s0 : Sg} {a0 : Nat} {a1 : Nat} {x2 : Int32} {x3 : Int32} (h : Ok (mX6_seek n s0 a0 a1 x2 x3) P) : ∃ n0, s0.2.1 a0 = some (6, n0) := by
  unfold mX6_seek at h
  exact Ok.isO h
theorem DX6_seek {G : Cx} {n : Nat} {P : Sg → Prop} {s0 : Sg} {a0 : Nat} {a1 : Nat} {x2 : Int32} {x3 : Int32} (h : Ok (mX6_seek n s0 a0 a1 x2 x3) P) : BM G tX6_seek 25 599 0 0 [.ref a0, .ref a1, .int x2, .int x3] s0 (fun v s => v = none ∧ P s) := by
  refine BM.of (by decide +kernel) (Nat.le_of_ble_eq_true rfl) ?_
  exact bX6_seek (E := (({ frames := 25, cells := 0, slots := 0, locals := 599 }), Aof s0, 0, 0, (fun v s => v = none ∧ P s))) ⟨Nat.le_refl _, Nat.le_refl _⟩ (fun s hp => ⟨rfl, hp⟩) h
set_option maxRecDepth 100000 in
set_option maxHeartbeats 4000000 in
def mX7_init (n : Nat) (s0 : Sg) (a0 : Nat) : Option (Sg) :=
  (nwO 11 160 (fun _ => .int 0) s0).bind fun (b1, s2) =>
  (pV 7 s2 a0 0 (.ref b1)).bind fun s3 =>
  (pV 7 s3 a0 1 (.int (0 : Int32))).bind fun s4 =>
  (pV 7 s4 a0 2 (.int (0 : Int32))).bind fun s5 =>
  (pV 7 s5 a0 3 (.int (0 : Int32))).bind fun s6 =>
  (pV 7 s6 a0 4 (.int (0 : Int32))).bind fun s7 =>
  (pV 7 s7 a0 5 (.int (0 : Int32))).bind fun s8 =>
  (pV 7 s8 a0 6 (.int (0 : Int32))).bind fun s9 =>
  some s9
set_option maxRecDepth 100000 in
set_option maxHeartbeats 4000000 in
theorem bX7_init {G : Cx} {E : Ev} {n : Nat} (hRm : 1 ≤ E.1.frames ∧ 20 ≤ E.1.locals) (hCm : 1 ≤ E.1.cells ∧ 160 ≤ E.1.slots ∧ 1 ≤ E.2.2.1 ∧ 160 ≤ E.2.2.2.1) {P : Sg → Prop} (hQ : ∀ s, P s → E.2.2.2.2 none s) {s0 : Sg} {a0 : Nat} (h : Ok (mX7_init n s0 a0) P) : BW G tX7_init E 0 0 0 [(0, .ref a0)] [] s0 := by
  unfold mX7_init at h
  refine BW.run [.aload_n 0] (pc' := 1) (lv' := [(0, .ref a0)]) (st' := [.ref a0]) (by decide +kernel) rfl rfl ?_
  refine BW.objInit (by decide +kernel : decode tX7_init.2.1 1 = .ok (.invokespecial 3, 3)) lkM_X7_3 im_object cd_object (Nat.le_of_ble_eq_true rfl) ⟨Nat.le_trans (by decide) hRm.1, Nat.le_trans (by decide) hRm.2⟩ ?_
  refine BW.run [.aload_n 0, .sipush 160] (pc' := 8) (lv' := [(0, .ref a0)]) (st' := [.int (160 : Int32), .ref a0]) (by decide +kernel) rfl rfl ?_
  obtain ⟨⟨b1, s2⟩, es2, h⟩ := Ok.bind h
  refine BW.newaB (by decide +kernel : decode tX7_init.2.1 8 = .ok (.newarray .int, 2)) (t := 11) (by decide) ar11 (by decide) (by decide) (by decide) (Nat.le_trans (by decide) hCm.1) (Nat.le_trans (by decide) hCm.2.1) es2 rfl ?_
  show BW G tX7_init E 1 160 10 [(0, .ref a0)] (.ref b1 :: [.ref a0]) s2
  obtain ⟨s3, es3, h⟩ := Ok.bind h
  refine BW.putF (by decide +kernel : decode tX7_init.2.1 10 = .ok (.putfield 9, 3)) ciX7 (k := 0) (by decide) lkF_X7_9 rfl rfl rfl rfl rfl es3 ?_
  refine BW.run [.aload_n 0, .iconst 0] (pc' := 15) (lv' := [(0, .ref a0)]) (st' := [.int (0 : Int32), .ref a0]) (by decide +kernel) rfl rfl ?_
  obtain ⟨s4, es4, h⟩ := Ok.bind h
  refine BW.put (by decide +kernel : decode tX7_init.2.1 15 = .ok (.putfield 15, 3)) ciX7 (k := 1) (by decide) lkF_X7_15 rfl rfl rfl es4 ?_
  refine BW.run [.aload_n 0, .iconst 0] (pc' := 20) (lv' := [(0, .ref a0)]) (st' := [.int (0 : Int32), .ref a0]) (by decide +kernel) rfl rfl ?_
  obtain ⟨s5, es5, h⟩ := Ok.bind h
  refine BW.put (by decide +kernel : decode tX7_init.2.1 20 = .ok (.putfield 19, 3)) ciX7 (k := 2) (by decide) lkF_X7_19 rfl rfl rfl es5 ?_
  refine BW.run [.aload_n 0, .iconst 0] (pc' := 25) (lv' := [(0, .ref a0)]) (st' := [.int (0 : Int32), .ref a0]) (by decide +kernel) rfl rfl ?_
  obtain ⟨s6, es6, h⟩ := Ok.bind h
  refine BW.put (by decide +kernel : decode tX7_init.2.1 25 = .ok (.putfield 22, 3)) ciX7 (k := 3) (by decide) lkF_X7_22 rfl rfl rfl es6 ?_
  refine BW.run [.aload_n 0, .iconst 0] (pc' := 30) (lv' := [(0, .ref a0)]) (st' := [.int (0 : Int32), .ref a0]) (by decide +kernel) rfl rfl ?_
  obtain ⟨s7, es7, h⟩ := Ok.bind h
  refine BW.put (by decide +kernel : decode tX7_init.2.1 30 = .ok (.putfield 25, 3)) ciX7 (k := 4) (by decide) lkF_X7_25 rfl rfl rfl es7 ?_
  refine BW.run [.aload_n 0, .iconst 0] (pc' := 35) (lv' := [(0, .ref a0)]) (st' := [.int (0 : Int32), .ref a0]) (by decide +kernel) rfl rfl ?_
  obtain ⟨s8, es8, h⟩ := Ok.bind h
  refine BW.put (by decide +kernel : decode tX7_init.2.1 35 = .ok (.putfield 28, 3)) ciX7 (k := 5) (by decide) lkF_X7_28 rfl rfl rfl es8 ?_
  refine BW.run [.aload_n 0, .iconst 0] (pc' := 40) (lv' := [(0, .ref a0)]) (st' := [.int (0 : Int32), .ref a0]) (by decide +kernel) rfl rfl ?_
  obtain ⟨s9, es9, h⟩ := Ok.bind h
  refine BW.put (by decide +kernel : decode tX7_init.2.1 40 = .ok (.putfield 31, 3)) ciX7 (k := 6) (by decide) lkF_X7_31 rfl rfl rfl es9 ?_
  exact BW.vret (by decide +kernel : decode tX7_init.2.1 43 = .ok (.return_, 1)) rfl (Nat.le_trans (by decide) hCm.2.2.1) (Nat.le_trans (by decide) hCm.2.2.2) (hQ _ (Ok.some h))
set_option maxRecDepth 100000 in
set_option maxHeartbeats 4000000 in
theorem DX7_init {G : Cx} {n : Nat} {P : Sg → Prop} {s0 : Sg} {a0 : Nat} (h : Ok (mX7_init n s0 a0) P) : BM G tX7_init 1 20 1 160 [.ref a0] s0 (fun v s => v = none ∧ P s) := by
  refine BM.of (by decide +kernel) (Nat.le_of_ble_eq_true rfl) ?_
  exact bX7_init (E := (({ frames := 1, cells := 1, slots := 160, locals := 20 }), Aof s0, 1, 160, (fun v s => v = none ∧ P s))) ⟨Nat.le_refl _, Nat.le_refl _⟩ ⟨Nat.le_refl _, Nat.le_refl _, Nat.le_refl _, Nat.le_refl _⟩ (fun s hp => ⟨rfl, hp⟩) h
set_option maxRecDepth 100000 in
set_option maxHeartbeats 4000000 in
def mX8_init (n : Nat) (s0 : Sg) (a0 : Nat) (x1 : Int32) (x2 : Int32) (x3 : Int32) : Option (Sg) :=
  (nwO 11 61 (fun _ => .int 0) s0).bind fun (b1, s2) =>
  (pV 8 s2 a0 2 (.ref b1)).bind fun s3 =>
  (nwO 11 256 (fun _ => .int 0) s3).bind fun (b4, s5) =>
  (pV 8 s5 a0 3 (.ref b4)).bind fun s6 =>
  (nwO 11 61 (fun _ => .int 0) s6).bind fun (b7, s8) =>
  (pV 8 s8 a0 4 (.ref b7)).bind fun s9 =>
  (pV 8 s9 a0 5 (.int (0 : Int32))).bind fun s10 =>
  (pV 8 s10 a0 6 (.int (0 : Int32))).bind fun s11 =>
  (pV 8 s11 a0 7 (.int (0 : Int32))).bind fun s12 =>
  (pV 8 s12 a0 8 (.int (0 : Int32))).bind fun s13 =>
  (pV 8 s13 a0 0 (.int x1)).bind fun s14 =>
  (pV 8 s14 a0 1 (.int x2)).bind fun s15 =>
  (toR (gV 8 s15 a0 3)).bind fun b16 =>
  (mJ_fill n s15 b16 (-1 : Int32)).bind fun s17 =>
  (toR (gV 8 s17 a0 2)).bind fun b18 =>
  (sV 11 s17 b18 (0 : Int32) (.int x3)).bind fun s19 =>
  (mX8_leavePrint n s19 a0).bind fun s20 =>
  some s20
set_option maxRecDepth 100000 in
set_option maxHeartbeats 4000000 in
theorem bX8_init {G : Cx} {E : Ev} {n : Nat} (hRm : 1 ≤ E.1.frames ∧ 23 ≤ E.1.locals) (hCm : 3 ≤ E.1.cells ∧ 378 ≤ E.1.slots ∧ 3 ≤ E.2.2.1 ∧ 378 ≤ E.2.2.2.1) {P : Sg → Prop} (hQ : ∀ s, P s → E.2.2.2.2 none s) {s0 : Sg} {a0 : Nat} {x1 : Int32} {x2 : Int32} {x3 : Int32} (h : Ok (mX8_init n s0 a0 x1 x2 x3) P) : BW G tX8_init E 0 0 0 [(0, .ref a0), (1, .int x1), (2, .int x2), (3, .int x3)] [] s0 := by
  unfold mX8_init at h
  refine BW.run [.aload_n 0] (pc' := 1) (lv' := [(0, .ref a0), (1, .int x1), (2, .int x2), (3, .int x3)]) (st' := [.ref a0]) (by decide +kernel) rfl rfl ?_
  refine BW.objInit (by decide +kernel : decode tX8_init.2.1 1 = .ok (.invokespecial 3, 3)) lkM_X8_3 im_object cd_object (Nat.le_of_ble_eq_true rfl) ⟨Nat.le_trans (by decide) hRm.1, Nat.le_trans (by decide) hRm.2⟩ ?_
  refine BW.run [.aload_n 0, .bipush 61] (pc' := 7) (lv' := [(0, .ref a0), (1, .int x1), (2, .int x2), (3, .int x3)]) (st' := [.int (61 : Int32), .ref a0]) (by decide +kernel) rfl rfl ?_
  obtain ⟨⟨b1, s2⟩, es2, h⟩ := Ok.bind h
  refine BW.newaB (by decide +kernel : decode tX8_init.2.1 7 = .ok (.newarray .int, 2)) (t := 11) (by decide) ar11 (by decide) (by decide) (by decide) (Nat.le_trans (by decide) hCm.1) (Nat.le_trans (by decide) hCm.2.1) es2 rfl ?_
  show BW G tX8_init E 1 61 9 [(0, .ref a0), (1, .int x1), (2, .int x2), (3, .int x3)] (.ref b1 :: [.ref a0]) s2
  obtain ⟨s3, es3, h⟩ := Ok.bind h
  refine BW.putF (by decide +kernel : decode tX8_init.2.1 9 = .ok (.putfield 9, 3)) ciX8 (k := 2) (by decide) lkF_X8_9 rfl rfl rfl rfl rfl es3 ?_
  refine BW.run [.aload_n 0, .sipush 256] (pc' := 16) (lv' := [(0, .ref a0), (1, .int x1), (2, .int x2), (3, .int x3)]) (st' := [.int (256 : Int32), .ref a0]) (by decide +kernel) rfl rfl ?_
  obtain ⟨⟨b4, s5⟩, es5, h⟩ := Ok.bind h
  refine BW.newaB (by decide +kernel : decode tX8_init.2.1 16 = .ok (.newarray .int, 2)) (t := 11) (by decide) ar11 (by decide) (by decide) (by decide) (Nat.le_trans (by decide) hCm.1) (Nat.le_trans (by decide) hCm.2.1) es5 rfl ?_
  show BW G tX8_init E 2 317 18 [(0, .ref a0), (1, .int x1), (2, .int x2), (3, .int x3)] (.ref b4 :: [.ref a0]) s5
  obtain ⟨s6, es6, h⟩ := Ok.bind h
  refine BW.putF (by decide +kernel : decode tX8_init.2.1 18 = .ok (.putfield 15, 3)) ciX8 (k := 3) (by decide) lkF_X8_15 rfl rfl rfl rfl rfl es6 ?_
  refine BW.run [.aload_n 0, .bipush 61] (pc' := 24) (lv' := [(0, .ref a0), (1, .int x1), (2, .int x2), (3, .int x3)]) (st' := [.int (61 : Int32), .ref a0]) (by decide +kernel) rfl rfl ?_
  obtain ⟨⟨b7, s8⟩, es8, h⟩ := Ok.bind h
  refine BW.newaB (by decide +kernel : decode tX8_init.2.1 24 = .ok (.newarray .int, 2)) (t := 11) (by decide) ar11 (by decide) (by decide) (by decide) (Nat.le_trans (by decide) hCm.1) (Nat.le_trans (by decide) hCm.2.1) es8 rfl ?_
  show BW G tX8_init E 3 378 26 [(0, .ref a0), (1, .int x1), (2, .int x2), (3, .int x3)] (.ref b7 :: [.ref a0]) s8
  obtain ⟨s9, es9, h⟩ := Ok.bind h
  refine BW.putF (by decide +kernel : decode tX8_init.2.1 26 = .ok (.putfield 18, 3)) ciX8 (k := 4) (by decide) lkF_X8_18 rfl rfl rfl rfl rfl es9 ?_
  refine BW.run [.aload_n 0, .iconst 0] (pc' := 31) (lv' := [(0, .ref a0), (1, .int x1), (2, .int x2), (3, .int x3)]) (st' := [.int (0 : Int32), .ref a0]) (by decide +kernel) rfl rfl ?_
  obtain ⟨s10, es10, h⟩ := Ok.bind h
  refine BW.put (by decide +kernel : decode tX8_init.2.1 31 = .ok (.putfield 21, 3)) ciX8 (k := 5) (by decide) lkF_X8_21 rfl rfl rfl es10 ?_
  refine BW.run [.aload_n 0, .iconst 0] (pc' := 36) (lv' := [(0, .ref a0), (1, .int x1), (2, .int x2), (3, .int x3)]) (st' := [.int (0 : Int32), .ref a0]) (by decide +kernel) rfl rfl ?_
  obtain ⟨s11, es11, h⟩ := Ok.bind h
  refine BW.put (by decide +kernel : decode tX8_init.2.1 36 = .ok (.putfield 25, 3)) ciX8 (k := 6) (by decide) lkF_X8_25 rfl rfl rfl es11 ?_
  refine BW.run [.aload_n 0, .iconst 0] (pc' := 41) (lv' := [(0, .ref a0), (1, .int x1), (2, .int x2), (3, .int x3)]) (st' := [.int (0 : Int32), .ref a0]) (by decide +kernel) rfl rfl ?_
  obtain ⟨s12, es12, h⟩ := Ok.bind h
  refine BW.put (by decide +kernel : decode tX8_init.2.1 41 = .ok (.putfield 28, 3)) ciX8 (k := 7) (by decide) lkF_X8_28 rfl rfl rfl es12 ?_
  refine BW.run [.aload_n 0, .iconst 0] (pc' := 46) (lv' := [(0, .ref a0), (1, .int x1), (2, .int x2), (3, .int x3)]) (st' := [.int (0 : Int32), .ref a0]) (by decide +kernel) rfl rfl ?_
  obtain ⟨s13, es13, h⟩ := Ok.bind h
  refine BW.put (by decide +kernel : decode tX8_init.2.1 46 = .ok (.putfield 31, 3)) ciX8 (k := 8) (by decide) lkF_X8_31 rfl rfl rfl es13 ?_
  refine BW.run [.aload_n 0, .iload_n 1] (pc' := 51) (lv' := [(0, .ref a0), (1, .int x1), (2, .int x2), (3, .int x3)]) (st' := [.int x1, .ref a0]) (by decide +kernel) rfl rfl ?_
  obtain ⟨s14, es14, h⟩ := Ok.bind h
  refine BW.putF (by decide +kernel : decode tX8_init.2.1 51 = .ok (.putfield 34, 3)) ciX8 (k := 0) (by decide) lkF_X8_34 rfl rfl rfl rfl rfl es14 ?_
  refine BW.run [.aload_n 0, .iload_n 2] (pc' := 56) (lv' := [(0, .ref a0), (1, .int x1), (2, .int x2), (3, .int x3)]) (st' := [.int x2, .ref a0]) (by decide +kernel) rfl rfl ?_
  obtain ⟨s15, es15, h⟩ := Ok.bind h
  refine BW.putF (by decide +kernel : decode tX8_init.2.1 56 = .ok (.putfield 37, 3)) ciX8 (k := 1) (by decide) lkF_X8_37 rfl rfl rfl rfl rfl es15 ?_
  refine BW.run [.aload_n 0] (pc' := 60) (lv' := [(0, .ref a0), (1, .int x1), (2, .int x2), (3, .int x3)]) (st' := [.ref a0]) (by decide +kernel) rfl rfl ?_
  obtain ⟨b16, eb16, h⟩ := Ok.bind h
  refine BW.get (by decide +kernel : decode tX8_init.2.1 60 = .ok (.getfield 15, 3)) ciX8 (k := 3) (by decide) lkF_X8_15 (toR_V eb16) ?_
  refine BW.run [.iconst (-1)] (pc' := 64) (lv' := [(0, .ref a0), (1, .int x1), (2, .int x2), (3, .int x3)]) (st' := [.int (-1 : Int32), .ref b16]) (by decide +kernel) rfl rfl ?_
  refine BW.callS (As := [.ref b16, .int (-1 : Int32)]) (st := []) (by decide +kernel : decode tX8_init.2.1 64 = .ok (.invokestatic 40, 3)) (DJ_fill (Ok.bindK h)) mfJ_fill lkM_X8_40 smJ_fill rfl rfl (Nat.le_of_ble_eq_true rfl) ⟨Nat.le_trans (by decide) hRm.1, Nat.le_trans (by decide) hRm.2⟩ ⟨Nat.le_trans (by decide) hCm.1, Nat.le_trans (by decide) hCm.2.1⟩ ?_
  rintro _ s17 ⟨rfl, h⟩
  show BW G tX8_init E 3 378 67 [(0, .ref a0), (1, .int x1), (2, .int x2), (3, .int x3)] [] s17
  refine BW.run [.aload_n 0] (pc' := 68) (lv' := [(0, .ref a0), (1, .int x1), (2, .int x2), (3, .int x3)]) (st' := [.ref a0]) (by decide +kernel) rfl rfl ?_
  obtain ⟨b18, eb18, h⟩ := Ok.bind h
  refine BW.get (by decide +kernel : decode tX8_init.2.1 68 = .ok (.getfield 9, 3)) ciX8 (k := 2) (by decide) lkF_X8_9 (toR_V eb18) ?_
  refine BW.run [.iconst 0, .iload_n 3] (pc' := 73) (lv' := [(0, .ref a0), (1, .int x1), (2, .int x2), (3, .int x3)]) (st' := [.int x3, .int (0 : Int32), .ref b18]) (by decide +kernel) rfl rfl ?_
  obtain ⟨s19, es19, h⟩ := Ok.bind h
  refine BW.iast (by decide +kernel : decode tX8_init.2.1 73 = .ok (.iastore, 1)) es19 ?_
  refine BW.run [.aload_n 0] (pc' := 75) (lv' := [(0, .ref a0), (1, .int x1), (2, .int x2), (3, .int x3)]) (st' := [.ref a0]) (by decide +kernel) rfl rfl ?_
  refine BW.callV (As := []) (st := []) (by decide +kernel : decode tX8_init.2.1 75 = .ok (.invokevirtual 46, 3)) (DX8_leavePrint (Ok.bindK h)) mfX8_leavePrint lkM_X8_46 imX8_leavePrint selX8_leavePrint ciX8 (oX8_leavePrint (Ok.bindK h)).choose_spec rfl rfl (Nat.le_of_ble_eq_true rfl) ⟨Nat.le_trans (by decide) hRm.1, Nat.le_trans (by decide) hRm.2⟩ ⟨Nat.le_trans (by decide) hCm.1, Nat.le_trans (by decide) hCm.2.1⟩ ?_
  rintro _ s20 ⟨rfl, h⟩
  show BW G tX8_init E 3 378 78 [(0, .ref a0), (1, .int x1), (2, .int x2), (3, .int x3)] [] s20
  exact BW.vret (by decide +kernel : decode tX8_init.2.1 78 = .ok (.return_, 1)) rfl (Nat.le_trans (by decide) hCm.2.2.1) (Nat.le_trans (by decide) hCm.2.2.2) (hQ _ (Ok.some h))
set_option maxRecDepth 100000 in
set_option maxHeartbeats 4000000 in
theorem DX8_init {G : Cx} {n : Nat} {P : Sg → Prop} {s0 : Sg} {a0 : Nat} {x1 : Int32} {x2 : Int32} {x3 : Int32} (h : Ok (mX8_init n s0 a0 x1 x2 x3) P) : BM G tX8_init 1 23 3 378 [.ref a0, .int x1, .int x2, .int x3] s0 (fun v s => v = none ∧ P s) := by
  refine BM.of (by decide +kernel) (Nat.le_of_ble_eq_true rfl) ?_
  exact bX8_init (E := (({ frames := 1, cells := 3, slots := 378, locals := 23 }), Aof s0, 3, 378, (fun v s => v = none ∧ P s))) ⟨Nat.le_refl _, Nat.le_refl _⟩ ⟨Nat.le_refl _, Nat.le_refl _, Nat.le_refl _, Nat.le_refl _⟩ (fun s hp => ⟨rfl, hp⟩) h
set_option maxRecDepth 100000 in
set_option maxHeartbeats 4000000 in
def mX9_init (n : Nat) (s0 : Sg) (a0 : Nat) (x1 : Int32) (x2 : Int32) (x3 : Int32) : Option (Sg) :=
  (nwO 7 7 (fun j => defaultValue (tyX7 j)) s0).bind fun (b1, s2) =>
  (mX7_init n s2 b1).bind fun s3 =>
  (pV 9 s3 a0 3 (.ref b1)).bind fun s4 =>
  (nwO 13 8 (fun _ => .null) s4).bind fun (b5, s6) =>
  (pV 9 s6 a0 5 (.ref b5)).bind fun s7 =>
  (pV 9 s7 a0 6 (.int (0 : Int32))).bind fun s8 =>
  (nwO 14 20 (fun _ => .null) s8).bind fun (b9, s10) =>
  (pV 9 s10 a0 7 (.ref b9)).bind fun s11 =>
  (pV 9 s11 a0 8 (.int (0 : Int32))).bind fun s12 =>
  (nwO 11 8 (fun _ => .int 0) s12).bind fun (b13, s14) =>
  (pV 9 s14 a0 9 (.ref b13)).bind fun s15 =>
  (pV 9 s15 a0 10 (.int (0 : Int32))).bind fun s16 =>
  (nwO 4 2 (fun j => defaultValue (tyX4 j)) s16).bind fun (b17, s18) =>
  (mX4_init n s18 b17).bind fun s19 =>
  (pV 9 s19 a0 11 (.ref b17)).bind fun s20 =>
  (nwO 1 2 (fun j => defaultValue (tyX1 j)) s20).bind fun (b21, s22) =>
  (mX1_init n s22 b21).bind fun s23 =>
  (pV 9 s23 a0 12 (.ref b21)).bind fun s24 =>
  (nwO 0 5 (fun j => defaultValue (tyX0 j)) s24).bind fun (b25, s26) =>
  (mX0_init n s26 b25).bind fun s27 =>
  (pV 9 s27 a0 13 (.ref b25)).bind fun s28 =>
  (nwO 6 5 (fun j => defaultValue (tyX6 j)) s28).bind fun (b29, s30) =>
  (mX6_init n s30 b29).bind fun s31 =>
  (pV 9 s31 a0 14 (.ref b29)).bind fun s32 =>
  (nwO 3 4 (fun j => defaultValue (tyX3 j)) s32).bind fun (b33, s34) =>
  (mX3_init n s34 b33).bind fun s35 =>
  (pV 9 s35 a0 15 (.ref b33)).bind fun s36 =>
  (nwO 11 256 (fun _ => .int 0) s36).bind fun (b37, s38) =>
  (pV 9 s38 a0 16 (.ref b37)).bind fun s39 =>
  (nwO 11 256 (fun _ => .int 0) s39).bind fun (b40, s41) =>
  (pV 9 s41 a0 17 (.ref b40)).bind fun s42 =>
  (pV 9 s42 a0 0 (.int (jmax (2 : Int32) (jmin (16 : Int32) x1)))).bind fun s43 =>
  (pV 9 s43 a0 1 (.int (jmax (2 : Int32) (jmin (16 : Int32) x2)))).bind fun s44 =>
  (pV 9 s44 a0 2 (.int (jmax (10 : Int32) (jmin (2000 : Int32) x3)))).bind fun s45 =>
  (nwO 5 6 (fun j => defaultValue (tyX5 j)) s45).bind fun (b46, s47) =>
  (toI (gV 9 s47 a0 0)).bind fun v48 =>
  (toI (gV 9 s47 a0 1)).bind fun v49 =>
  (mX5_init n s47 b46 v48 v49).bind fun s50 =>
  (pV 9 s50 a0 4 (.ref b46)).bind fun s51 =>
  (toR (gV 9 s51 a0 7)).bind fun b52 =>
  (lenA 14 s51 b52).bind fun v53 =>
  if v53 ≤ (0 : Int32) then (
    some s51
  ) else (
    (toR (gV 9 s51 a0 7)).bind fun b54 =>
    (nwO 2 5 (fun j => defaultValue (tyX2 j)) s51).bind fun (b55, s56) =>
    (mX2_init n s56 b55).bind fun s57 =>
    (isO 2 s57 b55).bind fun _ =>
    (sV 14 s57 b54 (0 : Int32) (.ref b55)).bind fun s58 =>
    (toR (gV 9 s58 a0 7)).bind fun b59 =>
    (lenA 14 s58 b59).bind fun v60 =>
    if v60 ≤ (1 : Int32) then (
      some s58
    ) else (
      (toR (gV 9 s58 a0 7)).bind fun b61 =>
      (nwO 2 5 (fun j => defaultValue (tyX2 j)) s58).bind fun (b62, s63) =>
      (mX2_init n s63 b62).bind fun s64 =>
      (isO 2 s64 b62).bind fun _ =>
      (sV 14 s64 b61 (1 : Int32) (.ref b62)).bind fun s65 =>
      (toR (gV 9 s65 a0 7)).bind fun b66 =>
      (lenA 14 s65 b66).bind fun v67 =>
      if v67 ≤ (2 : Int32) then (
        some s65
      ) else (
        (toR (gV 9 s65 a0 7)).bind fun b68 =>
        (nwO 2 5 (fun j => defaultValue (tyX2 j)) s65).bind fun (b69, s70) =>
        (mX2_init n s70 b69).bind fun s71 =>
        (isO 2 s71 b69).bind fun _ =>
        (sV 14 s71 b68 (2 : Int32) (.ref b69)).bind fun s72 =>
        (toR (gV 9 s72 a0 7)).bind fun b73 =>
        (lenA 14 s72 b73).bind fun v74 =>
        if v74 ≤ (3 : Int32) then (
          some s72
        ) else (
          (toR (gV 9 s72 a0 7)).bind fun b75 =>
          (nwO 2 5 (fun j => defaultValue (tyX2 j)) s72).bind fun (b76, s77) =>
          (mX2_init n s77 b76).bind fun s78 =>
          (isO 2 s78 b76).bind fun _ =>
          (sV 14 s78 b75 (3 : Int32) (.ref b76)).bind fun s79 =>
          (toR (gV 9 s79 a0 7)).bind fun b80 =>
          (lenA 14 s79 b80).bind fun v81 =>
          if v81 ≤ (4 : Int32) then (
            some s79
          ) else (
            (toR (gV 9 s79 a0 7)).bind fun b82 =>
            (nwO 2 5 (fun j => defaultValue (tyX2 j)) s79).bind fun (b83, s84) =>
            (mX2_init n s84 b83).bind fun s85 =>
            (isO 2 s85 b83).bind fun _ =>
            (sV 14 s85 b82 (4 : Int32) (.ref b83)).bind fun s86 =>
            (toR (gV 9 s86 a0 7)).bind fun b87 =>
            (lenA 14 s86 b87).bind fun v88 =>
            if v88 ≤ (5 : Int32) then (
              some s86
            ) else (
              (toR (gV 9 s86 a0 7)).bind fun b89 =>
              (nwO 2 5 (fun j => defaultValue (tyX2 j)) s86).bind fun (b90, s91) =>
              (mX2_init n s91 b90).bind fun s92 =>
              (isO 2 s92 b90).bind fun _ =>
              (sV 14 s92 b89 (5 : Int32) (.ref b90)).bind fun s93 =>
              (toR (gV 9 s93 a0 7)).bind fun b94 =>
              (lenA 14 s93 b94).bind fun v95 =>
              if v95 ≤ (6 : Int32) then (
                some s93
              ) else (
                (toR (gV 9 s93 a0 7)).bind fun b96 =>
                (nwO 2 5 (fun j => defaultValue (tyX2 j)) s93).bind fun (b97, s98) =>
                (mX2_init n s98 b97).bind fun s99 =>
                (isO 2 s99 b97).bind fun _ =>
                (sV 14 s99 b96 (6 : Int32) (.ref b97)).bind fun s100 =>
                (toR (gV 9 s100 a0 7)).bind fun b101 =>
                (lenA 14 s100 b101).bind fun v102 =>
                if v102 ≤ (7 : Int32) then (
                  some s100
                ) else (
                  (toR (gV 9 s100 a0 7)).bind fun b103 =>
                  (nwO 2 5 (fun j => defaultValue (tyX2 j)) s100).bind fun (b104, s105) =>
                  (mX2_init n s105 b104).bind fun s106 =>
                  (isO 2 s106 b104).bind fun _ =>
                  (sV 14 s106 b103 (7 : Int32) (.ref b104)).bind fun s107 =>
                  (toR (gV 9 s107 a0 7)).bind fun b108 =>
                  (lenA 14 s107 b108).bind fun v109 =>
                  if v109 ≤ (8 : Int32) then (
                    some s107
                  ) else (
                    (toR (gV 9 s107 a0 7)).bind fun b110 =>
                    (nwO 2 5 (fun j => defaultValue (tyX2 j)) s107).bind fun (b111, s112) =>
                    (mX2_init n s112 b111).bind fun s113 =>
                    (isO 2 s113 b111).bind fun _ =>
                    (sV 14 s113 b110 (8 : Int32) (.ref b111)).bind fun s114 =>
                    (toR (gV 9 s114 a0 7)).bind fun b115 =>
                    (lenA 14 s114 b115).bind fun v116 =>
                    if v116 ≤ (9 : Int32) then (
                      some s114
                    ) else (
                      (toR (gV 9 s114 a0 7)).bind fun b117 =>
                      (nwO 2 5 (fun j => defaultValue (tyX2 j)) s114).bind fun (b118, s119) =>
                      (mX2_init n s119 b118).bind fun s120 =>
                      (isO 2 s120 b118).bind fun _ =>
                      (sV 14 s120 b117 (9 : Int32) (.ref b118)).bind fun s121 =>
                      (toR (gV 9 s121 a0 7)).bind fun b122 =>
                      (lenA 14 s121 b122).bind fun v123 =>
                      if v123 ≤ (10 : Int32) then (
                        some s121
                      ) else (
                        (toR (gV 9 s121 a0 7)).bind fun b124 =>
                        (nwO 2 5 (fun j => defaultValue (tyX2 j)) s121).bind fun (b125, s126) =>
                        (mX2_init n s126 b125).bind fun s127 =>
                        (isO 2 s127 b125).bind fun _ =>
                        (sV 14 s127 b124 (10 : Int32) (.ref b125)).bind fun s128 =>
                        (toR (gV 9 s128 a0 7)).bind fun b129 =>
                        (lenA 14 s128 b129).bind fun v130 =>
                        if v130 ≤ (11 : Int32) then (
                          some s128
                        ) else (
                          (toR (gV 9 s128 a0 7)).bind fun b131 =>
                          (nwO 2 5 (fun j => defaultValue (tyX2 j)) s128).bind fun (b132, s133) =>
                          (mX2_init n s133 b132).bind fun s134 =>
                          (isO 2 s134 b132).bind fun _ =>
                          (sV 14 s134 b131 (11 : Int32) (.ref b132)).bind fun s135 =>
                          (toR (gV 9 s135 a0 7)).bind fun b136 =>
                          (lenA 14 s135 b136).bind fun v137 =>
                          if v137 ≤ (12 : Int32) then (
                            some s135
                          ) else (
                            (toR (gV 9 s135 a0 7)).bind fun b138 =>
                            (nwO 2 5 (fun j => defaultValue (tyX2 j)) s135).bind fun (b139, s140) =>
                            (mX2_init n s140 b139).bind fun s141 =>
                            (isO 2 s141 b139).bind fun _ =>
                            (sV 14 s141 b138 (12 : Int32) (.ref b139)).bind fun s142 =>
                            (toR (gV 9 s142 a0 7)).bind fun b143 =>
                            (lenA 14 s142 b143).bind fun v144 =>
                            if v144 ≤ (13 : Int32) then (
                              some s142
                            ) else (
                              (toR (gV 9 s142 a0 7)).bind fun b145 =>
                              (nwO 2 5 (fun j => defaultValue (tyX2 j)) s142).bind fun (b146, s147) =>
                              (mX2_init n s147 b146).bind fun s148 =>
                              (isO 2 s148 b146).bind fun _ =>
                              (sV 14 s148 b145 (13 : Int32) (.ref b146)).bind fun s149 =>
                              (toR (gV 9 s149 a0 7)).bind fun b150 =>
                              (lenA 14 s149 b150).bind fun v151 =>
                              if v151 ≤ (14 : Int32) then (
                                some s149
                              ) else (
                                (toR (gV 9 s149 a0 7)).bind fun b152 =>
                                (nwO 2 5 (fun j => defaultValue (tyX2 j)) s149).bind fun (b153, s154) =>
                                (mX2_init n s154 b153).bind fun s155 =>
                                (isO 2 s155 b153).bind fun _ =>
                                (sV 14 s155 b152 (14 : Int32) (.ref b153)).bind fun s156 =>
                                (toR (gV 9 s156 a0 7)).bind fun b157 =>
                                (lenA 14 s156 b157).bind fun v158 =>
                                if v158 ≤ (15 : Int32) then (
                                  some s156
                                ) else (
                                  (toR (gV 9 s156 a0 7)).bind fun b159 =>
                                  (nwO 2 5 (fun j => defaultValue (tyX2 j)) s156).bind fun (b160, s161) =>
                                  (mX2_init n s161 b160).bind fun s162 =>
                                  (isO 2 s162 b160).bind fun _ =>
                                  (sV 14 s162 b159 (15 : Int32) (.ref b160)).bind fun s163 =>
                                  (toR (gV 9 s163 a0 7)).bind fun b164 =>
                                  (lenA 14 s163 b164).bind fun v165 =>
                                  if v165 ≤ (16 : Int32) then (
                                    some s163
                                  ) else (
                                    (toR (gV 9 s163 a0 7)).bind fun b166 =>
                                    (nwO 2 5 (fun j => defaultValue (tyX2 j)) s163).bind fun (b167, s168) =>
                                    (mX2_init n s168 b167).bind fun s169 =>
                                    (isO 2 s169 b167).bind fun _ =>
                                    (sV 14 s169 b166 (16 : Int32) (.ref b167)).bind fun s170 =>
                                    (toR (gV 9 s170 a0 7)).bind fun b171 =>
                                    (lenA 14 s170 b171).bind fun v172 =>
                                    if v172 ≤ (17 : Int32) then (
                                      some s170
                                    ) else (
                                      (toR (gV 9 s170 a0 7)).bind fun b173 =>
                                      (nwO 2 5 (fun j => defaultValue (tyX2 j)) s170).bind fun (b174, s175) =>
                                      (mX2_init n s175 b174).bind fun s176 =>
                                      (isO 2 s176 b174).bind fun _ =>
                                      (sV 14 s176 b173 (17 : Int32) (.ref b174)).bind fun s177 =>
                                      (toR (gV 9 s177 a0 7)).bind fun b178 =>
                                      (lenA 14 s177 b178).bind fun v179 =>
                                      if v179 ≤ (18 : Int32) then (
                                        some s177
                                      ) else (
                                        (toR (gV 9 s177 a0 7)).bind fun b180 =>
                                        (nwO 2 5 (fun j => defaultValue (tyX2 j)) s177).bind fun (b181, s182) =>
                                        (mX2_init n s182 b181).bind fun s183 =>
                                        (isO 2 s183 b181).bind fun _ =>
                                        (sV 14 s183 b180 (18 : Int32) (.ref b181)).bind fun s184 =>
                                        (toR (gV 9 s184 a0 7)).bind fun b185 =>
                                        (lenA 14 s184 b185).bind fun v186 =>
                                        if v186 ≤ (19 : Int32) then (
                                          some s184
                                        ) else (
                                          (toR (gV 9 s184 a0 7)).bind fun b187 =>
                                          (nwO 2 5 (fun j => defaultValue (tyX2 j)) s184).bind fun (b188, s189) =>
                                          (mX2_init n s189 b188).bind fun s190 =>
                                          (isO 2 s190 b188).bind fun _ =>
                                          (sV 14 s190 b187 (19 : Int32) (.ref b188)).bind fun s191 =>
                                          (toR (gV 9 s191 a0 7)).bind fun b192 =>
                                          (lenA 14 s191 b192).bind fun v193 =>
                                          if v193 ≤ (20 : Int32) then (
                                            some s191
                                          ) else (
                                            (toR (gV 9 s191 a0 7)).bind fun b194 =>
                                            (nwO 2 5 (fun j => defaultValue (tyX2 j)) s191).bind fun (b195, s196) =>
                                            (mX2_init n s196 b195).bind fun s197 =>
                                            (isO 2 s197 b195).bind fun _ =>
                                            (sV 14 s197 b194 (20 : Int32) (.ref b195)).bind fun s198 =>
                                            none
                                          )
                                        )
                                      )
                                    )
                                  )
                                )
                              )
                            )
                          )
                        )
                      )
                    )
                  )
                )
              )
            )
          )
        )
      )
    )
  )
set_option maxRecDepth 100000 in
set_option maxHeartbeats 4000000 in
theorem bX9_init {G : Cx} {E : Ev} {n : Nat} (hRm : 3 ≤ E.1.frames ∧ 61 ≤ E.1.locals) (hCm : 74 ≤ E.1.cells ∧ 2423 ≤ E.1.slots ∧ 74 ≤ E.2.2.1 ∧ 2423 ≤ E.2.2.2.1) {P : Sg → Prop} (hQ : ∀ s, P s → E.2.2.2.2 none s) {s0 : Sg} {a0 : Nat} {x1 : Int32} {x2 : Int32} {x3 : Int32} (h : Ok (mX9_init n s0 a0 x1 x2 x3) P) : BW G tX9_init E 0 0 0 [(0, .ref a0), (1, .int x1), (2, .int x2), (3, .int x3)] [] s0 := by
  unfold mX9_init at h
  refine BW.run [.aload_n 0] (pc' := 1) (lv' := [(0, .ref a0), (1, .int x1), (2, .int x2), (3, .int x3)]) (st' := [.ref a0]) (by decide +kernel) rfl rfl ?_
  refine BW.objInit (by decide +kernel : decode tX9_init.2.1 1 = .ok (.invokespecial 3, 3)) lkM_X9_3 im_object cd_object (Nat.le_of_ble_eq_true rfl) ⟨Nat.le_trans (by decide) hRm.1, Nat.le_trans (by decide) hRm.2⟩ ?_
  refine BW.run [.aload_n 0] (pc' := 5) (lv' := [(0, .ref a0), (1, .int x1), (2, .int x2), (3, .int x3)]) (st' := [.ref a0]) (by decide +kernel) rfl rfl ?_
  obtain ⟨⟨b1, s2⟩, es2, h⟩ := Ok.bind h
  refine BW.newB (by decide +kernel : decode tX9_init.2.1 5 = .ok (.new 9, 3)) ciX7 lkC_X9_9 ins7 ini7 (Nat.le_trans (by decide) hCm.1) (Nat.le_trans (by decide) hCm.2.1) es2 ?_
  show BW G tX9_init E 1 7 8 [(0, .ref a0), (1, .int x1), (2, .int x2), (3, .int x3)] (.ref b1 :: [.ref a0]) s2
  refine BW.run [.dup] (pc' := 9) (lv' := [(0, .ref a0), (1, .int x1), (2, .int x2), (3, .int x3)]) (st' := [.ref b1, .ref b1, .ref a0]) (by decide +kernel) rfl rfl ?_
  refine BW.callIN (As := []) (st := [.ref b1, .ref a0]) (by decide +kernel : decode tX9_init.2.1 9 = .ok (.invokespecial 11, 3)) (DX7_init (Ok.bindK h)) mfX7_init rfl lkM_X9_11 imX7_init rfl rfl rfl (Nat.le_of_ble_eq_true rfl) ⟨Nat.le_trans (by decide) hRm.1, Nat.le_trans (by decide) hRm.2⟩ ⟨Nat.le_trans (by decide) hCm.1, Nat.le_trans (by decide) hCm.2.1⟩ ?_
  rintro _ s3 ⟨rfl, h⟩
  show BW G tX9_init E 2 167 12 [(0, .ref a0), (1, .int x1), (2, .int x2), (3, .int x3)] [.ref b1, .ref a0] s3
  obtain ⟨s4, es4, h⟩ := Ok.bind h
  refine BW.putF (by decide +kernel : decode tX9_init.2.1 12 = .ok (.putfield 12, 3)) ciX9 (k := 3) (by decide) lkF_X9_12 rfl rfl rfl rfl rfl es4 ?_
  refine BW.run [.aload_n 0, .bipush 8] (pc' := 18) (lv' := [(0, .ref a0), (1, .int x1), (2, .int x2), (3, .int x3)]) (st' := [.int (8 : Int32), .ref a0]) (by decide +kernel) rfl rfl ?_
  obtain ⟨⟨b5, s6⟩, es6, h⟩ := Ok.bind h
  refine BW.anewB (by decide +kernel : decode tX9_init.2.1 18 = .ok (.anewarray 16, 3)) (t := 13) (by decide) rfl lkC_X9_16 (by decide) (by decide) (by decide) (Nat.le_trans (by decide) hCm.1) (Nat.le_trans (by decide) hCm.2.1) es6 ?_
  show BW G tX9_init E 3 175 21 [(0, .ref a0), (1, .int x1), (2, .int x2), (3, .int x3)] (.ref b5 :: [.ref a0]) s6
  obtain ⟨s7, es7, h⟩ := Ok.bind h
  refine BW.putF (by decide +kernel : decode tX9_init.2.1 21 = .ok (.putfield 18, 3)) ciX9 (k := 5) (by decide) lkF_X9_18 rfl rfl rfl rfl rfl es7 ?_
  refine BW.run [.aload_n 0, .iconst 0] (pc' := 26) (lv' := [(0, .ref a0), (1, .int x1), (2, .int x2), (3, .int x3)]) (st' := [.int (0 : Int32), .ref a0]) (by decide +kernel) rfl rfl ?_
  obtain ⟨s8, es8, h⟩ := Ok.bind h
  refine BW.put (by decide +kernel : decode tX9_init.2.1 26 = .ok (.putfield 22, 3)) ciX9 (k := 6) (by decide) lkF_X9_22 rfl rfl rfl es8 ?_
  refine BW.run [.aload_n 0, .bipush 20] (pc' := 32) (lv' := [(0, .ref a0), (1, .int x1), (2, .int x2), (3, .int x3)]) (st' := [.int (20 : Int32), .ref a0]) (by decide +kernel) rfl rfl ?_
  obtain ⟨⟨b9, s10⟩, es10, h⟩ := Ok.bind h
  refine BW.anewB (by decide +kernel : decode tX9_init.2.1 32 = .ok (.anewarray 26, 3)) (t := 14) (by decide) rfl lkC_X9_26 (by decide) (by decide) (by decide) (Nat.le_trans (by decide) hCm.1) (Nat.le_trans (by decide) hCm.2.1) es10 ?_
  show BW G tX9_init E 4 195 35 [(0, .ref a0), (1, .int x1), (2, .int x2), (3, .int x3)] (.ref b9 :: [.ref a0]) s10
  obtain ⟨s11, es11, h⟩ := Ok.bind h
  refine BW.putF (by decide +kernel : decode tX9_init.2.1 35 = .ok (.putfield 28, 3)) ciX9 (k := 7) (by decide) lkF_X9_28 rfl rfl rfl rfl rfl es11 ?_
  refine BW.run [.aload_n 0, .iconst 0] (pc' := 40) (lv' := [(0, .ref a0), (1, .int x1), (2, .int x2), (3, .int x3)]) (st' := [.int (0 : Int32), .ref a0]) (by decide +kernel) rfl rfl ?_
  obtain ⟨s12, es12, h⟩ := Ok.bind h
  refine BW.put (by decide +kernel : decode tX9_init.2.1 40 = .ok (.putfield 32, 3)) ciX9 (k := 8) (by decide) lkF_X9_32 rfl rfl rfl es12 ?_
  refine BW.run [.aload_n 0, .bipush 8] (pc' := 46) (lv' := [(0, .ref a0), (1, .int x1), (2, .int x2), (3, .int x3)]) (st' := [.int (8 : Int32), .ref a0]) (by decide +kernel) rfl rfl ?_
  obtain ⟨⟨b13, s14⟩, es14, h⟩ := Ok.bind h
  refine BW.newaB (by decide +kernel : decode tX9_init.2.1 46 = .ok (.newarray .int, 2)) (t := 11) (by decide) ar11 (by decide) (by decide) (by decide) (Nat.le_trans (by decide) hCm.1) (Nat.le_trans (by decide) hCm.2.1) es14 rfl ?_
  show BW G tX9_init E 5 203 48 [(0, .ref a0), (1, .int x1), (2, .int x2), (3, .int x3)] (.ref b13 :: [.ref a0]) s14
  obtain ⟨s15, es15, h⟩ := Ok.bind h
  refine BW.putF (by decide +kernel : decode tX9_init.2.1 48 = .ok (.putfield 35, 3)) ciX9 (k := 9) (by decide) lkF_X9_35 rfl rfl rfl rfl rfl es15 ?_
  refine BW.run [.aload_n 0, .iconst 0] (pc' := 53) (lv' := [(0, .ref a0), (1, .int x1), (2, .int x2), (3, .int x3)]) (st' := [.int (0 : Int32), .ref a0]) (by decide +kernel) rfl rfl ?_
  obtain ⟨s16, es16, h⟩ := Ok.bind h
  refine BW.put (by decide +kernel : decode tX9_init.2.1 53 = .ok (.putfield 39, 3)) ciX9 (k := 10) (by decide) lkF_X9_39 rfl rfl rfl es16 ?_
  refine BW.run [.aload_n 0] (pc' := 57) (lv' := [(0, .ref a0), (1, .int x1), (2, .int x2), (3, .int x3)]) (st' := [.ref a0]) (by decide +kernel) rfl rfl ?_
  obtain ⟨⟨b17, s18⟩, es18, h⟩ := Ok.bind h
  refine BW.newB (by decide +kernel : decode tX9_init.2.1 57 = .ok (.new 42, 3)) ciX4 lkC_X9_42 ins4 ini4 (Nat.le_trans (by decide) hCm.1) (Nat.le_trans (by decide) hCm.2.1) es18 ?_
  show BW G tX9_init E 6 205 60 [(0, .ref a0), (1, .int x1), (2, .int x2), (3, .int x3)] (.ref b17 :: [.ref a0]) s18
  refine BW.run [.dup] (pc' := 61) (lv' := [(0, .ref a0), (1, .int x1), (2, .int x2), (3, .int x3)]) (st' := [.ref b17, .ref b17, .ref a0]) (by decide +kernel) rfl rfl ?_
  refine BW.callIN (As := []) (st := [.ref b17, .ref a0]) (by decide +kernel : decode tX9_init.2.1 61 = .ok (.invokespecial 44, 3)) (DX4_init (Ok.bindK h)) mfX4_init rfl lkM_X9_44 imX4_init rfl rfl rfl (Nat.le_of_ble_eq_true rfl) ⟨Nat.le_trans (by decide) hRm.1, Nat.le_trans (by decide) hRm.2⟩ ⟨Nat.le_trans (by decide) hCm.1, Nat.le_trans (by decide) hCm.2.1⟩ ?_
  rintro _ s19 ⟨rfl, h⟩
  show BW G tX9_init E 7 286 64 [(0, .ref a0), (1, .int x1), (2, .int x2), (3, .int x3)] [.ref b17, .ref a0] s19
  obtain ⟨s20, es20, h⟩ := Ok.bind h
  refine BW.putF (by decide +kernel : decode tX9_init.2.1 64 = .ok (.putfield 45, 3)) ciX9 (k := 11) (by decide) lkF_X9_45 rfl rfl rfl rfl rfl es20 ?_
  refine BW.run [.aload_n 0] (pc' := 68) (lv' := [(0, .ref a0), (1, .int x1), (2, .int x2), (3, .int x3)]) (st' := [.ref a0]) (by decide +kernel) rfl rfl ?_
  obtain ⟨⟨b21, s22⟩, es22, h⟩ := Ok.bind h
  refine BW.newB (by decide +kernel : decode tX9_init.2.1 68 = .ok (.new 49, 3)) ciX1 lkC_X9_49 ins1 ini1 (Nat.le_trans (by decide) hCm.1) (Nat.le_trans (by decide) hCm.2.1) es22 ?_
  show BW G tX9_init E 8 288 71 [(0, .ref a0), (1, .int x1), (2, .int x2), (3, .int x3)] (.ref b21 :: [.ref a0]) s22
  refine BW.run [.dup] (pc' := 72) (lv' := [(0, .ref a0), (1, .int x1), (2, .int x2), (3, .int x3)]) (st' := [.ref b21, .ref b21, .ref a0]) (by decide +kernel) rfl rfl ?_
  refine BW.callIN (As := []) (st := [.ref b21, .ref a0]) (by decide +kernel : decode tX9_init.2.1 72 = .ok (.invokespecial 51, 3)) (DX1_init (Ok.bindK h)) mfX1_init rfl lkM_X9_51 imX1_init rfl rfl rfl (Nat.le_of_ble_eq_true rfl) ⟨Nat.le_trans (by decide) hRm.1, Nat.le_trans (by decide) hRm.2⟩ ⟨Nat.le_trans (by decide) hCm.1, Nat.le_trans (by decide) hCm.2.1⟩ ?_
  rintro _ s23 ⟨rfl, h⟩
  show BW G tX9_init E 10 450 75 [(0, .ref a0), (1, .int x1), (2, .int x2), (3, .int x3)] [.ref b21, .ref a0] s23
  obtain ⟨s24, es24, h⟩ := Ok.bind h
  refine BW.putF (by decide +kernel : decode tX9_init.2.1 75 = .ok (.putfield 52, 3)) ciX9 (k := 12) (by decide) lkF_X9_52 rfl rfl rfl rfl rfl es24 ?_
  refine BW.run [.aload_n 0] (pc' := 79) (lv' := [(0, .ref a0), (1, .int x1), (2, .int x2), (3, .int x3)]) (st' := [.ref a0]) (by decide +kernel) rfl rfl ?_
  obtain ⟨⟨b25, s26⟩, es26, h⟩ := Ok.bind h
  refine BW.newB (by decide +kernel : decode tX9_init.2.1 79 = .ok (.new 56, 3)) ciX0 lkC_X9_56 ins0 ini0 (Nat.le_trans (by decide) hCm.1) (Nat.le_trans (by decide) hCm.2.1) es26 ?_
  show BW G tX9_init E 11 455 82 [(0, .ref a0), (1, .int x1), (2, .int x2), (3, .int x3)] (.ref b25 :: [.ref a0]) s26
  refine BW.run [.dup] (pc' := 83) (lv' := [(0, .ref a0), (1, .int x1), (2, .int x2), (3, .int x3)]) (st' := [.ref b25, .ref b25, .ref a0]) (by decide +kernel) rfl rfl ?_
  refine BW.callI (As := []) (st := [.ref b25, .ref a0]) (by decide +kernel : decode tX9_init.2.1 83 = .ok (.invokespecial 58, 3)) (DX0_init (Ok.bindK h)) mfX0_init rfl lkM_X9_58 imX0_init rfl rfl rfl (Nat.le_of_ble_eq_true rfl) ⟨Nat.le_trans (by decide) hRm.1, Nat.le_trans (by decide) hRm.2⟩ ⟨Nat.le_trans (by decide) hCm.1, Nat.le_trans (by decide) hCm.2.1⟩ ?_
  rintro _ s27 ⟨rfl, h⟩
  show BW G tX9_init E 30 1138 86 [(0, .ref a0), (1, .int x1), (2, .int x2), (3, .int x3)] [.ref b25, .ref a0] s27
  obtain ⟨s28, es28, h⟩ := Ok.bind h
  refine BW.putF (by decide +kernel : decode tX9_init.2.1 86 = .ok (.putfield 59, 3)) ciX9 (k := 13) (by decide) lkF_X9_59 rfl rfl rfl rfl rfl es28 ?_
  refine BW.run [.aload_n 0] (pc' := 90) (lv' := [(0, .ref a0), (1, .int x1), (2, .int x2), (3, .int x3)]) (st' := [.ref a0]) (by decide +kernel) rfl rfl ?_
  obtain ⟨⟨b29, s30⟩, es30, h⟩ := Ok.bind h
  refine BW.newB (by decide +kernel : decode tX9_init.2.1 90 = .ok (.new 63, 3)) ciX6 lkC_X9_63 ins6 ini6 (Nat.le_trans (by decide) hCm.1) (Nat.le_trans (by decide) hCm.2.1) es30 ?_
  show BW G tX9_init E 31 1143 93 [(0, .ref a0), (1, .int x1), (2, .int x2), (3, .int x3)] (.ref b29 :: [.ref a0]) s30
  refine BW.run [.dup] (pc' := 94) (lv' := [(0, .ref a0), (1, .int x1), (2, .int x2), (3, .int x3)]) (st' := [.ref b29, .ref b29, .ref a0]) (by decide +kernel) rfl rfl ?_
  refine BW.callI (As := []) (st := [.ref b29, .ref a0]) (by decide +kernel : decode tX9_init.2.1 94 = .ok (.invokespecial 65, 3)) (DX6_init (Ok.bindK h)) mfX6_init rfl lkM_X9_65 imX6_init rfl rfl rfl (Nat.le_of_ble_eq_true rfl) ⟨Nat.le_trans (by decide) hRm.1, Nat.le_trans (by decide) hRm.2⟩ ⟨Nat.le_trans (by decide) hCm.1, Nat.le_trans (by decide) hCm.2.1⟩ ?_
  rintro _ s31 ⟨rfl, h⟩
  show BW G tX9_init E 46 1730 97 [(0, .ref a0), (1, .int x1), (2, .int x2), (3, .int x3)] [.ref b29, .ref a0] s31
  obtain ⟨s32, es32, h⟩ := Ok.bind h
  refine BW.putF (by decide +kernel : decode tX9_init.2.1 97 = .ok (.putfield 66, 3)) ciX9 (k := 14) (by decide) lkF_X9_66 rfl rfl rfl rfl rfl es32 ?_
  refine BW.run [.aload_n 0] (pc' := 101) (lv' := [(0, .ref a0), (1, .int x1), (2, .int x2), (3, .int x3)]) (st' := [.ref a0]) (by decide +kernel) rfl rfl ?_
  obtain ⟨⟨b33, s34⟩, es34, h⟩ := Ok.bind h
  refine BW.newB (by decide +kernel : decode tX9_init.2.1 101 = .ok (.new 70, 3)) ciX3 lkC_X9_70 ins3 ini3 (Nat.le_trans (by decide) hCm.1) (Nat.le_trans (by decide) hCm.2.1) es34 ?_
  show BW G tX9_init E 47 1734 104 [(0, .ref a0), (1, .int x1), (2, .int x2), (3, .int x3)] (.ref b33 :: [.ref a0]) s34
  refine BW.run [.dup] (pc' := 105) (lv' := [(0, .ref a0), (1, .int x1), (2, .int x2), (3, .int x3)]) (st' := [.ref b33, .ref b33, .ref a0]) (by decide +kernel) rfl rfl ?_
  refine BW.callIN (As := []) (st := [.ref b33, .ref a0]) (by decide +kernel : decode tX9_init.2.1 105 = .ok (.invokespecial 72, 3)) (DX3_init (Ok.bindK h)) mfX3_init rfl lkM_X9_72 imX3_init rfl rfl rfl (Nat.le_of_ble_eq_true rfl) ⟨Nat.le_trans (by decide) hRm.1, Nat.le_trans (by decide) hRm.2⟩ ⟨Nat.le_trans (by decide) hCm.1, Nat.le_trans (by decide) hCm.2.1⟩ ?_
  rintro _ s35 ⟨rfl, h⟩
  show BW G tX9_init E 47 1734 108 [(0, .ref a0), (1, .int x1), (2, .int x2), (3, .int x3)] [.ref b33, .ref a0] s35
  obtain ⟨s36, es36, h⟩ := Ok.bind h
  refine BW.putF (by decide +kernel : decode tX9_init.2.1 108 = .ok (.putfield 73, 3)) ciX9 (k := 15) (by decide) lkF_X9_73 rfl rfl rfl rfl rfl es36 ?_
  refine BW.run [.aload_n 0, .sipush 256] (pc' := 115) (lv' := [(0, .ref a0), (1, .int x1), (2, .int x2), (3, .int x3)]) (st' := [.int (256 : Int32), .ref a0]) (by decide +kernel) rfl rfl ?_
  obtain ⟨⟨b37, s38⟩, es38, h⟩ := Ok.bind h
  refine BW.newaB (by decide +kernel : decode tX9_init.2.1 115 = .ok (.newarray .int, 2)) (t := 11) (by decide) ar11 (by decide) (by decide) (by decide) (Nat.le_trans (by decide) hCm.1) (Nat.le_trans (by decide) hCm.2.1) es38 rfl ?_
  show BW G tX9_init E 48 1990 117 [(0, .ref a0), (1, .int x1), (2, .int x2), (3, .int x3)] (.ref b37 :: [.ref a0]) s38
  obtain ⟨s39, es39, h⟩ := Ok.bind h
  refine BW.putF (by decide +kernel : decode tX9_init.2.1 117 = .ok (.putfield 77, 3)) ciX9 (k := 16) (by decide) lkF_X9_77 rfl rfl rfl rfl rfl es39 ?_
  refine BW.run [.aload_n 0, .sipush 256] (pc' := 124) (lv' := [(0, .ref a0), (1, .int x1), (2, .int x2), (3, .int x3)]) (st' := [.int (256 : Int32), .ref a0]) (by decide +kernel) rfl rfl ?_
  obtain ⟨⟨b40, s41⟩, es41, h⟩ := Ok.bind h
  refine BW.newaB (by decide +kernel : decode tX9_init.2.1 124 = .ok (.newarray .int, 2)) (t := 11) (by decide) ar11 (by decide) (by decide) (by decide) (Nat.le_trans (by decide) hCm.1) (Nat.le_trans (by decide) hCm.2.1) es41 rfl ?_
  show BW G tX9_init E 49 2246 126 [(0, .ref a0), (1, .int x1), (2, .int x2), (3, .int x3)] (.ref b40 :: [.ref a0]) s41
  obtain ⟨s42, es42, h⟩ := Ok.bind h
  refine BW.putF (by decide +kernel : decode tX9_init.2.1 126 = .ok (.putfield 80, 3)) ciX9 (k := 17) (by decide) lkF_X9_80 rfl rfl rfl rfl rfl es42 ?_
  refine BW.run [.aload_n 0, .iconst 2, .bipush 16, .iload_n 1] (pc' := 134) (lv' := [(0, .ref a0), (1, .int x1), (2, .int x2), (3, .int x3)]) (st' := [.int x1, .int (16 : Int32), .int (2 : Int32), .ref a0]) (by decide +kernel) rfl rfl ?_
  refine BW.mmin (by decide +kernel : decode tX9_init.2.1 134 = .ok (.invokestatic 83, 3)) lkM_X9_83 (Nat.le_of_ble_eq_true rfl) ⟨Nat.le_trans (by decide) hRm.1, Nat.le_trans (by decide) hRm.2⟩ ⟨Nat.le_trans (by decide) hCm.1, Nat.le_trans (by decide) hCm.2.1⟩ ?_
  refine BW.mmax (by decide +kernel : decode tX9_init.2.1 137 = .ok (.invokestatic 89, 3)) lkM_X9_89 (Nat.le_of_ble_eq_true rfl) ⟨Nat.le_trans (by decide) hRm.1, Nat.le_trans (by decide) hRm.2⟩ ⟨Nat.le_trans (by decide) hCm.1, Nat.le_trans (by decide) hCm.2.1⟩ ?_
  obtain ⟨s43, es43, h⟩ := Ok.bind h
  refine BW.putF (by decide +kernel : decode tX9_init.2.1 140 = .ok (.putfield 92, 3)) ciX9 (k := 0) (by decide) lkF_X9_92 rfl rfl rfl rfl rfl es43 ?_
  refine BW.run [.aload_n 0, .iconst 2, .bipush 16, .iload_n 2] (pc' := 148) (lv' := [(0, .ref a0), (1, .int x1), (2, .int x2), (3, .int x3)]) (st' := [.int x2, .int (16 : Int32), .int (2 : Int32), .ref a0]) (by decide +kernel) rfl rfl ?_
  refine BW.mmin (by decide +kernel : decode tX9_init.2.1 148 = .ok (.invokestatic 83, 3)) lkM_X9_83 (Nat.le_of_ble_eq_true rfl) ⟨Nat.le_trans (by decide) hRm.1, Nat.le_trans (by decide) hRm.2⟩ ⟨Nat.le_trans (by decide) hCm.1, Nat.le_trans (by decide) hCm.2.1⟩ ?_
  refine BW.mmax (by decide +kernel : decode tX9_init.2.1 151 = .ok (.invokestatic 89, 3)) lkM_X9_89 (Nat.le_of_ble_eq_true rfl) ⟨Nat.le_trans (by decide) hRm.1, Nat.le_trans (by decide) hRm.2⟩ ⟨Nat.le_trans (by decide) hCm.1, Nat.le_trans (by decide) hCm.2.1⟩ ?_
  obtain ⟨s44, es44, h⟩ := Ok.bind h
  refine BW.putF (by decide +kernel : decode tX9_init.2.1 154 = .ok (.putfield 95, 3)) ciX9 (k := 1) (by decide) lkF_X9_95 rfl rfl rfl rfl rfl es44 ?_
  refine BW.run [.aload_n 0, .bipush 10, .sipush 2000, .iload_n 3] (pc' := 164) (lv' := [(0, .ref a0), (1, .int x1), (2, .int x2), (3, .int x3)]) (st' := [.int x3, .int (2000 : Int32), .int (10 : Int32), .ref a0]) (by decide +kernel) rfl rfl ?_
  refine BW.mmin (by decide +kernel : decode tX9_init.2.1 164 = .ok (.invokestatic 83, 3)) lkM_X9_83 (Nat.le_of_ble_eq_true rfl) ⟨Nat.le_trans (by decide) hRm.1, Nat.le_trans (by decide) hRm.2⟩ ⟨Nat.le_trans (by decide) hCm.1, Nat.le_trans (by decide) hCm.2.1⟩ ?_
  refine BW.mmax (by decide +kernel : decode tX9_init.2.1 167 = .ok (.invokestatic 89, 3)) lkM_X9_89 (Nat.le_of_ble_eq_true rfl) ⟨Nat.le_trans (by decide) hRm.1, Nat.le_trans (by decide) hRm.2⟩ ⟨Nat.le_trans (by decide) hCm.1, Nat.le_trans (by decide) hCm.2.1⟩ ?_
  obtain ⟨s45, es45, h⟩ := Ok.bind h
  refine BW.putF (by decide +kernel : decode tX9_init.2.1 170 = .ok (.putfield 98, 3)) ciX9 (k := 2) (by decide) lkF_X9_98 rfl rfl rfl rfl rfl es45 ?_
  refine BW.run [.aload_n 0] (pc' := 174) (lv' := [(0, .ref a0), (1, .int x1), (2, .int x2), (3, .int x3)]) (st' := [.ref a0]) (by decide +kernel) rfl rfl ?_
  obtain ⟨⟨b46, s47⟩, es47, h⟩ := Ok.bind h
  refine BW.newB (by decide +kernel : decode tX9_init.2.1 174 = .ok (.new 101, 3)) ciX5 lkC_X9_101 ins5 ini5 (Nat.le_trans (by decide) hCm.1) (Nat.le_trans (by decide) hCm.2.1) es47 ?_
  show BW G tX9_init E 50 2252 177 [(0, .ref a0), (1, .int x1), (2, .int x2), (3, .int x3)] (.ref b46 :: [.ref a0]) s47
  refine BW.run [.dup, .aload_n 0] (pc' := 179) (lv' := [(0, .ref a0), (1, .int x1), (2, .int x2), (3, .int x3)]) (st' := [.ref a0, .ref b46, .ref b46, .ref a0]) (by decide +kernel) rfl rfl ?_
  obtain ⟨v48, ev48, h⟩ := Ok.bind h
  refine BW.get (by decide +kernel : decode tX9_init.2.1 179 = .ok (.getfield 92, 3)) ciX9 (k := 0) (by decide) lkF_X9_92 (toI_V ev48) ?_
  refine BW.run [.aload_n 0] (pc' := 183) (lv' := [(0, .ref a0), (1, .int x1), (2, .int x2), (3, .int x3)]) (st' := [.ref a0, .int v48, .ref b46, .ref b46, .ref a0]) (by decide +kernel) rfl rfl ?_
  obtain ⟨v49, ev49, h⟩ := Ok.bind h
  refine BW.get (by decide +kernel : decode tX9_init.2.1 183 = .ok (.getfield 95, 3)) ciX9 (k := 1) (by decide) lkF_X9_95 (toI_V ev49) ?_
  refine BW.callI (As := [.int v48, .int v49]) (st := [.ref b46, .ref a0]) (by decide +kernel : decode tX9_init.2.1 186 = .ok (.invokespecial 103, 3)) (DX5_init (Ok.bindK h)) mfX5_init rfl lkM_X9_103 imX5_init rfl rfl rfl (Nat.le_of_ble_eq_true rfl) ⟨Nat.le_trans (by decide) hRm.1, Nat.le_trans (by decide) hRm.2⟩ ⟨Nat.le_trans (by decide) hCm.1, Nat.le_trans (by decide) hCm.2.1⟩ ?_
  rintro _ s50 ⟨rfl, h⟩
  show BW G tX9_init E 53 2318 189 [(0, .ref a0), (1, .int x1), (2, .int x2), (3, .int x3)] [.ref b46, .ref a0] s50
  obtain ⟨s51, es51, h⟩ := Ok.bind h
  refine BW.putF (by decide +kernel : decode tX9_init.2.1 189 = .ok (.putfield 106, 3)) ciX9 (k := 4) (by decide) lkF_X9_106 rfl rfl rfl rfl rfl es51 ?_
  refine BW.run [.iconst 0, .istore 4, .iload 4, .aload_n 0] (pc' := 198) (lv' := [(0, .ref a0), (1, .int x1), (2, .int x2), (3, .int x3), (4, .int (0 : Int32))]) (st' := [.ref a0, .int (0 : Int32)]) (by decide +kernel) rfl rfl ?_
  obtain ⟨b52, eb52, h⟩ := Ok.bind h
  refine BW.get (by decide +kernel : decode tX9_init.2.1 198 = .ok (.getfield 28, 3)) ciX9 (k := 7) (by decide) lkF_X9_28 (toR_V eb52) ?_
  obtain ⟨v53, ev53, h⟩ := Ok.bind h
  refine BW.alen (by decide +kernel : decode tX9_init.2.1 201 = .ok (.arraylength, 1)) (t := 14) (by decide) ev53 ?_
  refine BW.icmp_ge 225 (by decide +kernel : decode tX9_init.2.1 202 = .ok (.if_icmp .ge 23, 3)) (by decide) (fun hc => ?_) (fun hc => ?_)
  · have h := (Ok.ite h).1 hc
    exact BW.vret (by decide +kernel : decode tX9_init.2.1 225 = .ok (.return_, 1)) rfl (Nat.le_trans (by decide) hCm.2.2.1) (Nat.le_trans (by decide) hCm.2.2.2) (hQ _ (Ok.some h))
  · have h := (Ok.ite h).2 hc
    refine BW.run [.aload_n 0] (pc' := 206) (lv' := [(0, .ref a0), (1, .int x1), (2, .int x2), (3, .int x3), (4, .int (0 : Int32))]) (st' := [.ref a0]) (by decide +kernel) rfl rfl ?_
    obtain ⟨b54, eb54, h⟩ := Ok.bind h
    refine BW.get (by decide +kernel : decode tX9_init.2.1 206 = .ok (.getfield 28, 3)) ciX9 (k := 7) (by decide) lkF_X9_28 (toR_V eb54) ?_
    refine BW.run [.iload 4] (pc' := 211) (lv' := [(0, .ref a0), (1, .int x1), (2, .int x2), (3, .int x3), (4, .int (0 : Int32))]) (st' := [.int (0 : Int32), .ref b54]) (by decide +kernel) rfl rfl ?_
    obtain ⟨⟨b55, s56⟩, es56, h⟩ := Ok.bind h
    refine BW.newB (by decide +kernel : decode tX9_init.2.1 211 = .ok (.new 26, 3)) ciX2 lkC_X9_26 ins2 ini2 (Nat.le_trans (by decide) hCm.1) (Nat.le_trans (by decide) hCm.2.1) es56 ?_
    show BW G tX9_init E 54 2323 214 [(0, .ref a0), (1, .int x1), (2, .int x2), (3, .int x3), (4, .int (0 : Int32))] (.ref b55 :: [.int (0 : Int32), .ref b54]) s56
    refine BW.run [.dup] (pc' := 215) (lv' := [(0, .ref a0), (1, .int x1), (2, .int x2), (3, .int x3), (4, .int (0 : Int32))]) (st' := [.ref b55, .ref b55, .int (0 : Int32), .ref b54]) (by decide +kernel) rfl rfl ?_
    refine BW.callIN (As := []) (st := [.ref b55, .int (0 : Int32), .ref b54]) (by decide +kernel : decode tX9_init.2.1 215 = .ok (.invokespecial 110, 3)) (DX2_init (Ok.bindK h)) mfX2_init rfl lkM_X9_110 imX2_init rfl rfl rfl (Nat.le_of_ble_eq_true rfl) ⟨Nat.le_trans (by decide) hRm.1, Nat.le_trans (by decide) hRm.2⟩ ⟨Nat.le_trans (by decide) hCm.1, Nat.le_trans (by decide) hCm.2.1⟩ ?_
    rintro _ s57 ⟨rfl, h⟩
    show BW G tX9_init E 54 2323 218 [(0, .ref a0), (1, .int x1), (2, .int x2), (3, .int x3), (4, .int (0 : Int32))] [.ref b55, .int (0 : Int32), .ref b54] s57
    obtain ⟨_, us58, h⟩ := Ok.bind h
    obtain ⟨s58, es58, h⟩ := Ok.bind h
    refine BW.aast (by decide +kernel : decode tX9_init.2.1 218 = .ok (.aastore, 1)) (by decide) ciX2 rfl (isO_spec us58).choose_spec es58 ?_
    refine BW.run [.iinc 4 1] (pc' := 222) (lv' := [(0, .ref a0), (1, .int x1), (2, .int x2), (3, .int x3), (4, .int (1 : Int32))]) (st' := []) (by decide +kernel) rfl rfl ?_
    refine BW.goto 195 (by decide +kernel : decode tX9_init.2.1 222 = .ok (.goto (-27), 3)) (by decide) ?_
    refine BW.run [.iload 4, .aload_n 0] (pc' := 198) (lv' := [(0, .ref a0), (1, .int x1), (2, .int x2), (3, .int x3), (4, .int (1 : Int32))]) (st' := [.ref a0, .int (1 : Int32)]) (by decide +kernel) rfl rfl ?_
    obtain ⟨b59, eb59, h⟩ := Ok.bind h
    refine BW.get (by decide +kernel : decode tX9_init.2.1 198 = .ok (.getfield 28, 3)) ciX9 (k := 7) (by decide) lkF_X9_28 (toR_V eb59) ?_
    obtain ⟨v60, ev60, h⟩ := Ok.bind h
    refine BW.alen (by decide +kernel : decode tX9_init.2.1 201 = .ok (.arraylength, 1)) (t := 14) (by decide) ev60 ?_
    refine BW.icmp_ge 225 (by decide +kernel : decode tX9_init.2.1 202 = .ok (.if_icmp .ge 23, 3)) (by decide) (fun hc => ?_) (fun hc => ?_)
    · have h := (Ok.ite h).1 hc
      exact BW.vret (by decide +kernel : decode tX9_init.2.1 225 = .ok (.return_, 1)) rfl (Nat.le_trans (by decide) hCm.2.2.1) (Nat.le_trans (by decide) hCm.2.2.2) (hQ _ (Ok.some h))
    · have h := (Ok.ite h).2 hc
      refine BW.run [.aload_n 0] (pc' := 206) (lv' := [(0, .ref a0), (1, .int x1), (2, .int x2), (3, .int x3), (4, .int (1 : Int32))]) (st' := [.ref a0]) (by decide +kernel) rfl rfl ?_
      obtain ⟨b61, eb61, h⟩ := Ok.bind h
      refine BW.get (by decide +kernel : decode tX9_init.2.1 206 = .ok (.getfield 28, 3)) ciX9 (k := 7) (by decide) lkF_X9_28 (toR_V eb61) ?_
      refine BW.run [.iload 4] (pc' := 211) (lv' := [(0, .ref a0), (1, .int x1), (2, .int x2), (3, .int x3), (4, .int (1 : Int32))]) (st' := [.int (1 : Int32), .ref b61]) (by decide +kernel) rfl rfl ?_
      obtain ⟨⟨b62, s63⟩, es63, h⟩ := Ok.bind h
      refine BW.newB (by decide +kernel : decode tX9_init.2.1 211 = .ok (.new 26, 3)) ciX2 lkC_X9_26 ins2 ini2 (Nat.le_trans (by decide) hCm.1) (Nat.le_trans (by decide) hCm.2.1) es63 ?_
      show BW G tX9_init E 55 2328 214 [(0, .ref a0), (1, .int x1), (2, .int x2), (3, .int x3), (4, .int (1 : Int32))] (.ref b62 :: [.int (1 : Int32), .ref b61]) s63
      refine BW.run [.dup] (pc' := 215) (lv' := [(0, .ref a0), (1, .int x1), (2, .int x2), (3, .int x3), (4, .int (1 : Int32))]) (st' := [.ref b62, .ref b62, .int (1 : Int32), .ref b61]) (by decide +kernel) rfl rfl ?_
      refine BW.callIN (As := []) (st := [.ref b62, .int (1 : Int32), .ref b61]) (by decide +kernel : decode tX9_init.2.1 215 = .ok (.invokespecial 110, 3)) (DX2_init (Ok.bindK h)) mfX2_init rfl lkM_X9_110 imX2_init rfl rfl rfl (Nat.le_of_ble_eq_true rfl) ⟨Nat.le_trans (by decide) hRm.1, Nat.le_trans (by decide) hRm.2⟩ ⟨Nat.le_trans (by decide) hCm.1, Nat.le_trans (by decide) hCm.2.1⟩ ?_
      rintro _ s64 ⟨rfl, h⟩
      show BW G tX9_init E 55 2328 218 [(0, .ref a0), (1, .int x1), (2, .int x2), (3, .int x3), (4, .int (1 : Int32))] [.ref b62, .int (1 : Int32), .ref b61] s64
      obtain ⟨_, us65, h⟩ := Ok.bind h
      obtain ⟨s65, es65, h⟩ := Ok.bind h
      refine BW.aast (by decide +kernel : decode tX9_init.2.1 218 = .ok (.aastore, 1)) (by decide) ciX2 rfl (isO_spec us65).choose_spec es65 ?_
      refine BW.run [.iinc 4 1] (pc' := 222) (lv' := [(0, .ref a0), (1, .int x1), (2, .int x2), (3, .int x3), (4, .int (2 : Int32))]) (st' := []) (by decide +kernel) rfl rfl ?_
      refine BW.goto 195 (by decide +kernel : decode tX9_init.2.1 222 = .ok (.goto (-27), 3)) (by decide) ?_
      refine BW.run [.iload 4, .aload_n 0] (pc' := 198) (lv' := [(0, .ref a0), (1, .int x1), (2, .int x2), (3, .int x3), (4, .int (2 : Int32))]) (st' := [.ref a0, .int (2 : Int32)]) (by decide +kernel) rfl rfl ?_
      obtain ⟨b66, eb66, h⟩ := Ok.bind h
      refine BW.get (by decide +kernel : decode tX9_init.2.1 198 = .ok (.getfield 28, 3)) ciX9 (k := 7) (by decide) lkF_X9_28 (toR_V eb66) ?_
      obtain ⟨v67, ev67, h⟩ := Ok.bind h
      refine BW.alen (by decide +kernel : decode tX9_init.2.1 201 = .ok (.arraylength, 1)) (t := 14) (by decide) ev67 ?_
      refine BW.icmp_ge 225 (by decide +kernel : decode tX9_init.2.1 202 = .ok (.if_icmp .ge 23, 3)) (by decide) (fun hc => ?_) (fun hc => ?_)
      · have h := (Ok.ite h).1 hc
        exact BW.vret (by decide +kernel : decode tX9_init.2.1 225 = .ok (.return_, 1)) rfl (Nat.le_trans (by decide) hCm.2.2.1) (Nat.le_trans (by decide) hCm.2.2.2) (hQ _ (Ok.some h))
      · have h := (Ok.ite h).2 hc
        refine BW.run [.aload_n 0] (pc' := 206) (lv' := [(0, .ref a0), (1, .int x1), (2, .int x2), (3, .int x3), (4, .int (2 : Int32))]) (st' := [.ref a0]) (by decide +kernel) rfl rfl ?_
        obtain ⟨b68, eb68, h⟩ := Ok.bind h
        refine BW.get (by decide +kernel : decode tX9_init.2.1 206 = .ok (.getfield 28, 3)) ciX9 (k := 7) (by decide) lkF_X9_28 (toR_V eb68) ?_
        refine BW.run [.iload 4] (pc' := 211) (lv' := [(0, .ref a0), (1, .int x1), (2, .int x2), (3, .int x3), (4, .int (2 : Int32))]) (st' := [.int (2 : Int32), .ref b68]) (by decide +kernel) rfl rfl ?_
        obtain ⟨⟨b69, s70⟩, es70, h⟩ := Ok.bind h
        refine BW.newB (by decide +kernel : decode tX9_init.2.1 211 = .ok (.new 26, 3)) ciX2 lkC_X9_26 ins2 ini2 (Nat.le_trans (by decide) hCm.1) (Nat.le_trans (by decide) hCm.2.1) es70 ?_
        show BW G tX9_init E 56 2333 214 [(0, .ref a0), (1, .int x1), (2, .int x2), (3, .int x3), (4, .int (2 : Int32))] (.ref b69 :: [.int (2 : Int32), .ref b68]) s70
        refine BW.run [.dup] (pc' := 215) (lv' := [(0, .ref a0), (1, .int x1), (2, .int x2), (3, .int x3), (4, .int (2 : Int32))]) (st' := [.ref b69, .ref b69, .int (2 : Int32), .ref b68]) (by decide +kernel) rfl rfl ?_
        refine BW.callIN (As := []) (st := [.ref b69, .int (2 : Int32), .ref b68]) (by decide +kernel : decode tX9_init.2.1 215 = .ok (.invokespecial 110, 3)) (DX2_init (Ok.bindK h)) mfX2_init rfl lkM_X9_110 imX2_init rfl rfl rfl (Nat.le_of_ble_eq_true rfl) ⟨Nat.le_trans (by decide) hRm.1, Nat.le_trans (by decide) hRm.2⟩ ⟨Nat.le_trans (by decide) hCm.1, Nat.le_trans (by decide) hCm.2.1⟩ ?_
        rintro _ s71 ⟨rfl, h⟩
        show BW G tX9_init E 56 2333 218 [(0, .ref a0), (1, .int x1), (2, .int x2), (3, .int x3), (4, .int (2 : Int32))] [.ref b69, .int (2 : Int32), .ref b68] s71
        obtain ⟨_, us72, h⟩ := Ok.bind h
        obtain ⟨s72, es72, h⟩ := Ok.bind h
        refine BW.aast (by decide +kernel : decode tX9_init.2.1 218 = .ok (.aastore, 1)) (by decide) ciX2 rfl (isO_spec us72).choose_spec es72 ?_
        refine BW.run [.iinc 4 1] (pc' := 222) (lv' := [(0, .ref a0), (1, .int x1), (2, .int x2), (3, .int x3), (4, .int (3 : Int32))]) (st' := []) (by decide +kernel) rfl rfl ?_
        refine BW.goto 195 (by decide +kernel : decode tX9_init.2.1 222 = .ok (.goto (-27), 3)) (by decide) ?_
        refine BW.run [.iload 4, .aload_n 0] (pc' := 198) (lv' := [(0, .ref a0), (1, .int x1), (2, .int x2), (3, .int x3), (4, .int (3 : Int32))]) (st' := [.ref a0, .int (3 : Int32)]) (by decide +kernel) rfl rfl ?_
        obtain ⟨b73, eb73, h⟩ := Ok.bind h
        refine BW.get (by decide +kernel : decode tX9_init.2.1 198 = .ok (.getfield 28, 3)) ciX9 (k := 7) (by decide) lkF_X9_28 (toR_V eb73) ?_
        obtain ⟨v74, ev74, h⟩ := Ok.bind h
        refine BW.alen (by decide +kernel : decode tX9_init.2.1 201 = .ok (.arraylength, 1)) (t := 14) (by decide) ev74 ?_
        refine BW.icmp_ge 225 (by decide +kernel : decode tX9_init.2.1 202 = .ok (.if_icmp .ge 23, 3)) (by decide) (fun hc => ?_) (fun hc => ?_)
        · have h := (Ok.ite h).1 hc
          exact BW.vret (by decide +kernel : decode tX9_init.2.1 225 = .ok (.return_, 1)) rfl (Nat.le_trans (by decide) hCm.2.2.1) (Nat.le_trans (by decide) hCm.2.2.2) (hQ _ (Ok.some h))
        · have h := (Ok.ite h).2 hc
          refine BW.run [.aload_n 0] (pc' := 206) (lv' := [(0, .ref a0), (1, .int x1), (2, .int x2), (3, .int x3), (4, .int (3 : Int32))]) (st' := [.ref a0]) (by decide +kernel) rfl rfl ?_
          obtain ⟨b75, eb75, h⟩ := Ok.bind h
          refine BW.get (by decide +kernel : decode tX9_init.2.1 206 = .ok (.getfield 28, 3)) ciX9 (k := 7) (by decide) lkF_X9_28 (toR_V eb75) ?_
          refine BW.run [.iload 4] (pc' := 211) (lv' := [(0, .ref a0), (1, .int x1), (2, .int x2), (3, .int x3), (4, .int (3 : Int32))]) (st' := [.int (3 : Int32), .ref b75]) (by decide +kernel) rfl rfl ?_
          obtain ⟨⟨b76, s77⟩, es77, h⟩ := Ok.bind h
          refine BW.newB (by decide +kernel : decode tX9_init.2.1 211 = .ok (.new 26, 3)) ciX2 lkC_X9_26 ins2 ini2 (Nat.le_trans (by decide) hCm.1) (Nat.le_trans (by decide) hCm.2.1) es77 ?_
          show BW G tX9_init E 57 2338 214 [(0, .ref a0), (1, .int x1), (2, .int x2), (3, .int x3), (4, .int (3 : Int32))] (.ref b76 :: [.int (3 : Int32), .ref b75]) s77
          refine BW.run [.dup] (pc' := 215) (lv' := [(0, .ref a0), (1, .int x1), (2, .int x2), (3, .int x3), (4, .int (3 : Int32))]) (st' := [.ref b76, .ref b76, .int (3 : Int32), .ref b75]) (by decide +kernel) rfl rfl ?_
          refine BW.callIN (As := []) (st := [.ref b76, .int (3 : Int32), .ref b75]) (by decide +kernel : decode tX9_init.2.1 215 = .ok (.invokespecial 110, 3)) (DX2_init (Ok.bindK h)) mfX2_init rfl lkM_X9_110 imX2_init rfl rfl rfl (Nat.le_of_ble_eq_true rfl) ⟨Nat.le_trans (by decide) hRm.1, Nat.le_trans (by decide) hRm.2⟩ ⟨Nat.le_trans (by decide) hCm.1, Nat.le_trans (by decide) hCm.2.1⟩ ?_
          rintro _ s78 ⟨rfl, h⟩
          show BW G tX9_init E 57 2338 218 [(0, .ref a0), (1, .int x1), (2, .int x2), (3, .int x3), (4, .int (3 : Int32))] [.ref b76, .int (3 : Int32), .ref b75] s78
          obtain ⟨_, us79, h⟩ := Ok.bind h
          obtain ⟨s79, es79, h⟩ := Ok.bind h
          refine BW.aast (by decide +kernel : decode tX9_init.2.1 218 = .ok (.aastore, 1)) (by decide) ciX2 rfl (isO_spec us79).choose_spec es79 ?_
          refine BW.run [.iinc 4 1] (pc' := 222) (lv' := [(0, .ref a0), (1, .int x1), (2, .int x2), (3, .int x3), (4, .int (4 : Int32))]) (st' := []) (by decide +kernel) rfl rfl ?_
          refine BW.goto 195 (by decide +kernel : decode tX9_init.2.1 222 = .ok (.goto (-27), 3)) (by decide) ?_
          refine BW.run [.iload 4, .aload_n 0] (pc' := 198) (lv' := [(0, .ref a0), (1, .int x1), (2, .int x2), (3, .int x3), (4, .int (4 : Int32))]) (st' := [.ref a0, .int (4 : Int32)]) (by decide +kernel) rfl rfl ?_
          obtain ⟨b80, eb80, h⟩ := Ok.bind h
          refine BW.get (by decide +kernel : decode tX9_init.2.1 198 = .ok (.getfield 28, 3)) ciX9 (k := 7) (by decide) lkF_X9_28 (toR_V eb80) ?_
          obtain ⟨v81, ev81, h⟩ := Ok.bind h
          refine BW.alen (by decide +kernel : decode tX9_init.2.1 201 = .ok (.arraylength, 1)) (t := 14) (by decide) ev81 ?_
          refine BW.icmp_ge 225 (by decide +kernel : decode tX9_init.2.1 202 = .ok (.if_icmp .ge 23, 3)) (by decide) (fun hc => ?_) (fun hc => ?_)
          · have h := (Ok.ite h).1 hc
            exact BW.vret (by decide +kernel : decode tX9_init.2.1 225 = .ok (.return_, 1)) rfl (Nat.le_trans (by decide) hCm.2.2.1) (Nat.le_trans (by decide) hCm.2.2.2) (hQ _ (Ok.some h))
          · have h := (Ok.ite h).2 hc
            refine BW.run [.aload_n 0] (pc' := 206) (lv' := [(0, .ref a0), (1, .int x1), (2, .int x2), (3, .int x3), (4, .int (4 : Int32))]) (st' := [.ref a0]) (by decide +kernel) rfl rfl ?_
            obtain ⟨b82, eb82, h⟩ := Ok.bind h
            refine BW.get (by decide +kernel : decode tX9_init.2.1 206 = .ok (.getfield 28, 3)) ciX9 (k := 7) (by decide) lkF_X9_28 (toR_V eb82) ?_
            refine BW.run [.iload 4] (pc' := 211) (lv' := [(0, .ref a0), (1, .int x1), (2, .int x2), (3, .int x3), (4, .int (4 : Int32))]) (st' := [.int (4 : Int32), .ref b82]) (by decide +kernel) rfl rfl ?_
            obtain ⟨⟨b83, s84⟩, es84, h⟩ := Ok.bind h
            refine BW.newB (by decide +kernel : decode tX9_init.2.1 211 = .ok (.new 26, 3)) ciX2 lkC_X9_26 ins2 ini2 (Nat.le_trans (by decide) hCm.1) (Nat.le_trans (by decide) hCm.2.1) es84 ?_
            show BW G tX9_init E 58 2343 214 [(0, .ref a0), (1, .int x1), (2, .int x2), (3, .int x3), (4, .int (4 : Int32))] (.ref b83 :: [.int (4 : Int32), .ref b82]) s84
            refine BW.run [.dup] (pc' := 215) (lv' := [(0, .ref a0), (1, .int x1), (2, .int x2), (3, .int x3), (4, .int (4 : Int32))]) (st' := [.ref b83, .ref b83, .int (4 : Int32), .ref b82]) (by decide +kernel) rfl rfl ?_
            refine BW.callIN (As := []) (st := [.ref b83, .int (4 : Int32), .ref b82]) (by decide +kernel : decode tX9_init.2.1 215 = .ok (.invokespecial 110, 3)) (DX2_init (Ok.bindK h)) mfX2_init rfl lkM_X9_110 imX2_init rfl rfl rfl (Nat.le_of_ble_eq_true rfl) ⟨Nat.le_trans (by decide) hRm.1, Nat.le_trans (by decide) hRm.2⟩ ⟨Nat.le_trans (by decide) hCm.1, Nat.le_trans (by decide) hCm.2.1⟩ ?_
            rintro _ s85 ⟨rfl, h⟩
            show BW G tX9_init E 58 2343 218 [(0, .ref a0), (1, .int x1), (2, .int x2), (3, .int x3), (4, .int (4 : Int32))] [.ref b83, .int (4 : Int32), .ref b82] s85
            obtain ⟨_, us86, h⟩ := Ok.bind h
            obtain ⟨s86, es86, h⟩ := Ok.bind h
            refine BW.aast (by decide +kernel : decode tX9_init.2.1 218 = .ok (.aastore, 1)) (by decide) ciX2 rfl (isO_spec us86).choose_spec es86 ?_
            refine BW.run [.iinc 4 1] (pc' := 222) (lv' := [(0, .ref a0), (1, .int x1), (2, .int x2), (3, .int x3), (4, .int (5 : Int32))]) (st' := []) (by decide +kernel) rfl rfl ?_
            refine BW.goto 195 (by decide +kernel : decode tX9_init.2.1 222 = .ok (.goto (-27), 3)) (by decide) ?_
            refine BW.run [.iload 4, .aload_n 0] (pc' := 198) (lv' := [(0, .ref a0), (1, .int x1), (2, .int x2), (3, .int x3), (4, .int (5 : Int32))]) (st' := [.ref a0, .int (5 : Int32)]) (by decide +kernel) rfl rfl ?_
            obtain ⟨b87, eb87, h⟩ := Ok.bind h
            refine BW.get (by decide +kernel : decode tX9_init.2.1 198 = .ok (.getfield 28, 3)) ciX9 (k := 7) (by decide) lkF_X9_28 (toR_V eb87) ?_
            obtain ⟨v88, ev88, h⟩ := Ok.bind h
            refine BW.alen (by decide +kernel : decode tX9_init.2.1 201 = .ok (.arraylength, 1)) (t := 14) (by decide) ev88 ?_
            refine BW.icmp_ge 225 (by decide +kernel : decode tX9_init.2.1 202 = .ok (.if_icmp .ge 23, 3)) (by decide) (fun hc => ?_) (fun hc => ?_)
            · have h := (Ok.ite h).1 hc
              exact BW.vret (by decide +kernel : decode tX9_init.2.1 225 = .ok (.return_, 1)) rfl (Nat.le_trans (by decide) hCm.2.2.1) (Nat.le_trans (by decide) hCm.2.2.2) (hQ _ (Ok.some h))
            · have h := (Ok.ite h).2 hc
              refine BW.run [.aload_n 0] (pc' := 206) (lv' := [(0, .ref a0), (1, .int x1), (2, .int x2), (3, .int x3), (4, .int (5 : Int32))]) (st' := [.ref a0]) (by decide +kernel) rfl rfl ?_
              obtain ⟨b89, eb89, h⟩ := Ok.bind h
              refine BW.get (by decide +kernel : decode tX9_init.2.1 206 = .ok (.getfield 28, 3)) ciX9 (k := 7) (by decide) lkF_X9_28 (toR_V eb89) ?_
              refine BW.run [.iload 4] (pc' := 211) (lv' := [(0, .ref a0), (1, .int x1), (2, .int x2), (3, .int x3), (4, .int (5 : Int32))]) (st' := [.int (5 : Int32), .ref b89]) (by decide +kernel) rfl rfl ?_
              obtain ⟨⟨b90, s91⟩, es91, h⟩ := Ok.bind h
              refine BW.newB (by decide +kernel : decode tX9_init.2.1 211 = .ok (.new 26, 3)) ciX2 lkC_X9_26 ins2 ini2 (Nat.le_trans (by decide) hCm.1) (Nat.le_trans (by decide) hCm.2.1) es91 ?_
              show BW G tX9_init E 59 2348 214 [(0, .ref a0), (1, .int x1), (2, .int x2), (3, .int x3), (4, .int (5 : Int32))] (.ref b90 :: [.int (5 : Int32), .ref b89]) s91
              refine BW.run [.dup] (pc' := 215) (lv' := [(0, .ref a0), (1, .int x1), (2, .int x2), (3, .int x3), (4, .int (5 : Int32))]) (st' := [.ref b90, .ref b90, .int (5 : Int32), .ref b89]) (by decide +kernel) rfl rfl ?_
              refine BW.callIN (As := []) (st := [.ref b90, .int (5 : Int32), .ref b89]) (by decide +kernel : decode tX9_init.2.1 215 = .ok (.invokespecial 110, 3)) (DX2_init (Ok.bindK h)) mfX2_init rfl lkM_X9_110 imX2_init rfl rfl rfl (Nat.le_of_ble_eq_true rfl) ⟨Nat.le_trans (by decide) hRm.1, Nat.le_trans (by decide) hRm.2⟩ ⟨Nat.le_trans (by decide) hCm.1, Nat.le_trans (by decide) hCm.2.1⟩ ?_
              rintro _ s92 ⟨rfl, h⟩
              show BW G tX9_init E 59 2348 218 [(0, .ref a0), (1, .int x1), (2, .int x2), (3, .int x3), (4, .int (5 : Int32))] [.ref b90, .int (5 : Int32), .ref b89] s92
              obtain ⟨_, us93, h⟩ := Ok.bind h
              obtain ⟨s93, es93, h⟩ := Ok.bind h
              refine BW.aast (by decide +kernel : decode tX9_init.2.1 218 = .ok (.aastore, 1)) (by decide) ciX2 rfl (isO_spec us93).choose_spec es93 ?_
              refine BW.run [.iinc 4 1] (pc' := 222) (lv' := [(0, .ref a0), (1, .int x1), (2, .int x2), (3, .int x3), (4, .int (6 : Int32))]) (st' := []) (by decide +kernel) rfl rfl ?_
              refine BW.goto 195 (by decide +kernel : decode tX9_init.2.1 222 = .ok (.goto (-27), 3)) (by decide) ?_
              refine BW.run [.iload 4, .aload_n 0] (pc' := 198) (lv' := [(0, .ref a0), (1, .int x1), (2, .int x2), (3, .int x3), (4, .int (6 : Int32))]) (st' := [.ref a0, .int (6 : Int32)]) (by decide +kernel) rfl rfl ?_
              obtain ⟨b94, eb94, h⟩ := Ok.bind h
              refine BW.get (by decide +kernel : decode tX9_init.2.1 198 = .ok (.getfield 28, 3)) ciX9 (k := 7) (by decide) lkF_X9_28 (toR_V eb94) ?_
              obtain ⟨v95, ev95, h⟩ := Ok.bind h
              refine BW.alen (by decide +kernel : decode tX9_init.2.1 201 = .ok (.arraylength, 1)) (t := 14) (by decide) ev95 ?_
              refine BW.icmp_ge 225 (by decide +kernel : decode tX9_init.2.1 202 = .ok (.if_icmp .ge 23, 3)) (by decide) (fun hc => ?_) (fun hc => ?_)
              · have h := (Ok.ite h).1 hc
                exact BW.vret (by decide +kernel : decode tX9_init.2.1 225 = .ok (.return_, 1)) rfl (Nat.le_trans (by decide) hCm.2.2.1) (Nat.le_trans (by decide) hCm.2.2.2) (hQ _ (Ok.some h))
              · have h := (Ok.ite h).2 hc
                refine BW.run [.aload_n 0] (pc' := 206) (lv' := [(0, .ref a0), (1, .int x1), (2, .int x2), (3, .int x3), (4, .int (6 : Int32))]) (st' := [.ref a0]) (by decide +kernel) rfl rfl ?_
                obtain ⟨b96, eb96, h⟩ := Ok.bind h
                refine BW.get (by decide +kernel : decode tX9_init.2.1 206 = .ok (.getfield 28, 3)) ciX9 (k := 7) (by decide) lkF_X9_28 (toR_V eb96) ?_
                refine BW.run [.iload 4] (pc' := 211) (lv' := [(0, .ref a0), (1, .int x1), (2, .int x2), (3, .int x3), (4, .int (6 : Int32))]) (st' := [.int (6 : Int32), .ref b96]) (by decide +kernel) rfl rfl ?_
                obtain ⟨⟨b97, s98⟩, es98, h⟩ := Ok.bind h
                refine BW.newB (by decide +kernel : decode tX9_init.2.1 211 = .ok (.new 26, 3)) ciX2 lkC_X9_26 ins2 ini2 (Nat.le_trans (by decide) hCm.1) (Nat.le_trans (by decide) hCm.2.1) es98 ?_
                show BW G tX9_init E 60 2353 214 [(0, .ref a0), (1, .int x1), (2, .int x2), (3, .int x3), (4, .int (6 : Int32))] (.ref b97 :: [.int (6 : Int32), .ref b96]) s98
                refine BW.run [.dup] (pc' := 215) (lv' := [(0, .ref a0), (1, .int x1), (2, .int x2), (3, .int x3), (4, .int (6 : Int32))]) (st' := [.ref b97, .ref b97, .int (6 : Int32), .ref b96]) (by decide +kernel) rfl rfl ?_
                refine BW.callIN (As := []) (st := [.ref b97, .int (6 : Int32), .ref b96]) (by decide +kernel : decode tX9_init.2.1 215 = .ok (.invokespecial 110, 3)) (DX2_init (Ok.bindK h)) mfX2_init rfl lkM_X9_110 imX2_init rfl rfl rfl (Nat.le_of_ble_eq_true rfl) ⟨Nat.le_trans (by decide) hRm.1, Nat.le_trans (by decide) hRm.2⟩ ⟨Nat.le_trans (by decide) hCm.1, Nat.le_trans (by decide) hCm.2.1⟩ ?_
                rintro _ s99 ⟨rfl, h⟩
                show BW G tX9_init E 60 2353 218 [(0, .ref a0), (1, .int x1), (2, .int x2), (3, .int x3), (4, .int (6 : Int32))] [.ref b97, .int (6 : Int32), .ref b96] s99
                obtain ⟨_, us100, h⟩ := Ok.bind h
                obtain ⟨s100, es100, h⟩ := Ok.bind h
                refine BW.aast (by decide +kernel : decode tX9_init.2.1 218 = .ok (.aastore, 1)) (by decide) ciX2 rfl (isO_spec us100).choose_spec es100 ?_
                refine BW.run [.iinc 4 1] (pc' := 222) (lv' := [(0, .ref a0), (1, .int x1), (2, .int x2), (3, .int x3), (4, .int (7 : Int32))]) (st' := []) (by decide +kernel) rfl rfl ?_
                refine BW.goto 195 (by decide +kernel : decode tX9_init.2.1 222 = .ok (.goto (-27), 3)) (by decide) ?_
                refine BW.run [.iload 4, .aload_n 0] (pc' := 198) (lv' := [(0, .ref a0), (1, .int x1), (2, .int x2), (3, .int x3), (4, .int (7 : Int32))]) (st' := [.ref a0, .int (7 : Int32)]) (by decide +kernel) rfl rfl ?_
                obtain ⟨b101, eb101, h⟩ := Ok.bind h
                refine BW.get (by decide +kernel : decode tX9_init.2.1 198 = .ok (.getfield 28, 3)) ciX9 (k := 7) (by decide) lkF_X9_28 (toR_V eb101) ?_
                obtain ⟨v102, ev102, h⟩ := Ok.bind h
                refine BW.alen (by decide +kernel : decode tX9_init.2.1 201 = .ok (.arraylength, 1)) (t := 14) (by decide) ev102 ?_
                refine BW.icmp_ge 225 (by decide +kernel : decode tX9_init.2.1 202 = .ok (.if_icmp .ge 23, 3)) (by decide) (fun hc => ?_) (fun hc => ?_)
                · have h := (Ok.ite h).1 hc
                  exact BW.vret (by decide +kernel : decode tX9_init.2.1 225 = .ok (.return_, 1)) rfl (Nat.le_trans (by decide) hCm.2.2.1) (Nat.le_trans (by decide) hCm.2.2.2) (hQ _ (Ok.some h))
                · have h := (Ok.ite h).2 hc
                  refine BW.run [.aload_n 0] (pc' := 206) (lv' := [(0, .ref a0), (1, .int x1), (2, .int x2), (3, .int x3), (4, .int (7 : Int32))]) (st' := [.ref a0]) (by decide +kernel) rfl rfl ?_
                  obtain ⟨b103, eb103, h⟩ := Ok.bind h
                  refine BW.get (by decide +kernel : decode tX9_init.2.1 206 = .ok (.getfield 28, 3)) ciX9 (k := 7) (by decide) lkF_X9_28 (toR_V eb103) ?_
                  refine BW.run [.iload 4] (pc' := 211) (lv' := [(0, .ref a0), (1, .int x1), (2, .int x2), (3, .int x3), (4, .int (7 : Int32))]) (st' := [.int (7 : Int32), .ref b103]) (by decide +kernel) rfl rfl ?_
                  obtain ⟨⟨b104, s105⟩, es105, h⟩ := Ok.bind h
                  refine BW.newB (by decide +kernel : decode tX9_init.2.1 211 = .ok (.new 26, 3)) ciX2 lkC_X9_26 ins2 ini2 (Nat.le_trans (by decide) hCm.1) (Nat.le_trans (by decide) hCm.2.1) es105 ?_
                  show BW G tX9_init E 61 2358 214 [(0, .ref a0), (1, .int x1), (2, .int x2), (3, .int x3), (4, .int (7 : Int32))] (.ref b104 :: [.int (7 : Int32), .ref b103]) s105
                  refine BW.run [.dup] (pc' := 215) (lv' := [(0, .ref a0), (1, .int x1), (2, .int x2), (3, .int x3), (4, .int (7 : Int32))]) (st' := [.ref b104, .ref b104, .int (7 : Int32), .ref b103]) (by decide +kernel) rfl rfl ?_
                  refine BW.callIN (As := []) (st := [.ref b104, .int (7 : Int32), .ref b103]) (by decide +kernel : decode tX9_init.2.1 215 = .ok (.invokespecial 110, 3)) (DX2_init (Ok.bindK h)) mfX2_init rfl lkM_X9_110 imX2_init rfl rfl rfl (Nat.le_of_ble_eq_true rfl) ⟨Nat.le_trans (by decide) hRm.1, Nat.le_trans (by decide) hRm.2⟩ ⟨Nat.le_trans (by decide) hCm.1, Nat.le_trans (by decide) hCm.2.1⟩ ?_
                  rintro _ s106 ⟨rfl, h⟩
                  show BW G tX9_init E 61 2358 218 [(0, .ref a0), (1, .int x1), (2, .int x2), (3, .int x3), (4, .int (7 : Int32))] [.ref b104, .int (7 : Int32), .ref b103] s106
                  obtain ⟨_, us107, h⟩ := Ok.bind h
                  obtain ⟨s107, es107, h⟩ := Ok.bind h
                  refine BW.aast (by decide +kernel : decode tX9_init.2.1 218 = .ok (.aastore, 1)) (by decide) ciX2 rfl (isO_spec us107).choose_spec es107 ?_
                  refine BW.run [.iinc 4 1] (pc' := 222) (lv' := [(0, .ref a0), (1, .int x1), (2, .int x2), (3, .int x3), (4, .int (8 : Int32))]) (st' := []) (by decide +kernel) rfl rfl ?_
                  refine BW.goto 195 (by decide +kernel : decode tX9_init.2.1 222 = .ok (.goto (-27), 3)) (by decide) ?_
                  refine BW.run [.iload 4, .aload_n 0] (pc' := 198) (lv' := [(0, .ref a0), (1, .int x1), (2, .int x2), (3, .int x3), (4, .int (8 : Int32))]) (st' := [.ref a0, .int (8 : Int32)]) (by decide +kernel) rfl rfl ?_
                  obtain ⟨b108, eb108, h⟩ := Ok.bind h
                  refine BW.get (by decide +kernel : decode tX9_init.2.1 198 = .ok (.getfield 28, 3)) ciX9 (k := 7) (by decide) lkF_X9_28 (toR_V eb108) ?_
                  obtain ⟨v109, ev109, h⟩ := Ok.bind h
                  refine BW.alen (by decide +kernel : decode tX9_init.2.1 201 = .ok (.arraylength, 1)) (t := 14) (by decide) ev109 ?_
                  refine BW.icmp_ge 225 (by decide +kernel : decode tX9_init.2.1 202 = .ok (.if_icmp .ge 23, 3)) (by decide) (fun hc => ?_) (fun hc => ?_)
                  · have h := (Ok.ite h).1 hc
                    exact BW.vret (by decide +kernel : decode tX9_init.2.1 225 = .ok (.return_, 1)) rfl (Nat.le_trans (by decide) hCm.2.2.1) (Nat.le_trans (by decide) hCm.2.2.2) (hQ _ (Ok.some h))
                  · have h := (Ok.ite h).2 hc
                    refine BW.run [.aload_n 0] (pc' := 206) (lv' := [(0, .ref a0), (1, .int x1), (2, .int x2), (3, .int x3), (4, .int (8 : Int32))]) (st' := [.ref a0]) (by decide +kernel) rfl rfl ?_
                    obtain ⟨b110, eb110, h⟩ := Ok.bind h
                    refine BW.get (by decide +kernel : decode tX9_init.2.1 206 = .ok (.getfield 28, 3)) ciX9 (k := 7) (by decide) lkF_X9_28 (toR_V eb110) ?_
                    refine BW.run [.iload 4] (pc' := 211) (lv' := [(0, .ref a0), (1, .int x1), (2, .int x2), (3, .int x3), (4, .int (8 : Int32))]) (st' := [.int (8 : Int32), .ref b110]) (by decide +kernel) rfl rfl ?_
                    obtain ⟨⟨b111, s112⟩, es112, h⟩ := Ok.bind h
                    refine BW.newB (by decide +kernel : decode tX9_init.2.1 211 = .ok (.new 26, 3)) ciX2 lkC_X9_26 ins2 ini2 (Nat.le_trans (by decide) hCm.1) (Nat.le_trans (by decide) hCm.2.1) es112 ?_
                    show BW G tX9_init E 62 2363 214 [(0, .ref a0), (1, .int x1), (2, .int x2), (3, .int x3), (4, .int (8 : Int32))] (.ref b111 :: [.int (8 : Int32), .ref b110]) s112
                    refine BW.run [.dup] (pc' := 215) (lv' := [(0, .ref a0), (1, .int x1), (2, .int x2), (3, .int x3), (4, .int (8 : Int32))]) (st' := [.ref b111, .ref b111, .int (8 : Int32), .ref b110]) (by decide +kernel) rfl rfl ?_
                    refine BW.callIN (As := []) (st := [.ref b111, .int (8 : Int32), .ref b110]) (by decide +kernel : decode tX9_init.2.1 215 = .ok (.invokespecial 110, 3)) (DX2_init (Ok.bindK h)) mfX2_init rfl lkM_X9_110 imX2_init rfl rfl rfl (Nat.le_of_ble_eq_true rfl) ⟨Nat.le_trans (by decide) hRm.1, Nat.le_trans (by decide) hRm.2⟩ ⟨Nat.le_trans (by decide) hCm.1, Nat.le_trans (by decide) hCm.2.1⟩ ?_
                    rintro _ s113 ⟨rfl, h⟩
                    show BW G tX9_init E 62 2363 218 [(0, .ref a0), (1, .int x1), (2, .int x2), (3, .int x3), (4, .int (8 : Int32))] [.ref b111, .int (8 : Int32), .ref b110] s113
                    obtain ⟨_, us114, h⟩ := Ok.bind h
                    obtain ⟨s114, es114, h⟩ := Ok.bind h
                    refine BW.aast (by decide +kernel : decode tX9_init.2.1 218 = .ok (.aastore, 1)) (by decide) ciX2 rfl (isO_spec us114).choose_spec es114 ?_
                    refine BW.run [.iinc 4 1] (pc' := 222) (lv' := [(0, .ref a0), (1, .int x1), (2, .int x2), (3, .int x3), (4, .int (9 : Int32))]) (st' := []) (by decide +kernel) rfl rfl ?_
                    refine BW.goto 195 (by decide +kernel : decode tX9_init.2.1 222 = .ok (.goto (-27), 3)) (by decide) ?_
                    refine BW.run [.iload 4, .aload_n 0] (pc' := 198) (lv' := [(0, .ref a0), (1, .int x1), (2, .int x2), (3, .int x3), (4, .int (9 : Int32))]) (st' := [.ref a0, .int (9 : Int32)]) (by decide +kernel) rfl rfl ?_
                    obtain ⟨b115, eb115, h⟩ := Ok.bind h
                    refine BW.get (by decide +kernel : decode tX9_init.2.1 198 = .ok (.getfield 28, 3)) ciX9 (k := 7) (by decide) lkF_X9_28 (toR_V eb115) ?_
                    obtain ⟨v116, ev116, h⟩ := Ok.bind h
                    refine BW.alen (by decide +kernel : decode tX9_init.2.1 201 = .ok (.arraylength, 1)) (t := 14) (by decide) ev116 ?_
                    refine BW.icmp_ge 225 (by decide +kernel : decode tX9_init.2.1 202 = .ok (.if_icmp .ge 23, 3)) (by decide) (fun hc => ?_) (fun hc => ?_)
                    · have h := (Ok.ite h).1 hc
                      exact BW.vret (by decide +kernel : decode tX9_init.2.1 225 = .ok (.return_, 1)) rfl (Nat.le_trans (by decide) hCm.2.2.1) (Nat.le_trans (by decide) hCm.2.2.2) (hQ _ (Ok.some h))
                    · have h := (Ok.ite h).2 hc
                      refine BW.run [.aload_n 0] (pc' := 206) (lv' := [(0, .ref a0), (1, .int x1), (2, .int x2), (3, .int x3), (4, .int (9 : Int32))]) (st' := [.ref a0]) (by decide +kernel) rfl rfl ?_
                      obtain ⟨b117, eb117, h⟩ := Ok.bind h
                      refine BW.get (by decide +kernel : decode tX9_init.2.1 206 = .ok (.getfield 28, 3)) ciX9 (k := 7) (by decide) lkF_X9_28 (toR_V eb117) ?_
                      refine BW.run [.iload 4] (pc' := 211) (lv' := [(0, .ref a0), (1, .int x1), (2, .int x2), (3, .int x3), (4, .int (9 : Int32))]) (st' := [.int (9 : Int32), .ref b117]) (by decide +kernel) rfl rfl ?_
                      obtain ⟨⟨b118, s119⟩, es119, h⟩ := Ok.bind h
                      refine BW.newB (by decide +kernel : decode tX9_init.2.1 211 = .ok (.new 26, 3)) ciX2 lkC_X9_26 ins2 ini2 (Nat.le_trans (by decide) hCm.1) (Nat.le_trans (by decide) hCm.2.1) es119 ?_
                      show BW G tX9_init E 63 2368 214 [(0, .ref a0), (1, .int x1), (2, .int x2), (3, .int x3), (4, .int (9 : Int32))] (.ref b118 :: [.int (9 : Int32), .ref b117]) s119
                      refine BW.run [.dup] (pc' := 215) (lv' := [(0, .ref a0), (1, .int x1), (2, .int x2), (3, .int x3), (4, .int (9 : Int32))]) (st' := [.ref b118, .ref b118, .int (9 : Int32), .ref b117]) (by decide +kernel) rfl rfl ?_
                      refine BW.callIN (As := []) (st := [.ref b118, .int (9 : Int32), .ref b117]) (by decide +kernel : decode tX9_init.2.1 215 = .ok (.invokespecial 110, 3)) (DX2_init (Ok.bindK h)) mfX2_init rfl lkM_X9_110 imX2_init rfl rfl rfl (Nat.le_of_ble_eq_true rfl) ⟨Nat.le_trans (by decide) hRm.1, Nat.le_trans (by decide) hRm.2⟩ ⟨Nat.le_trans (by decide) hCm.1, Nat.le_trans (by decide) hCm.2.1⟩ ?_
                      rintro _ s120 ⟨rfl, h⟩
                      show BW G tX9_init E 63 2368 218 [(0, .ref a0), (1, .int x1), (2, .int x2), (3, .int x3), (4, .int (9 : Int32))] [.ref b118, .int (9 : Int32), .ref b117] s120
                      obtain ⟨_, us121, h⟩ := Ok.bind h
                      obtain ⟨s121, es121, h⟩ := Ok.bind h
                      refine BW.aast (by decide +kernel : decode tX9_init.2.1 218 = .ok (.aastore, 1)) (by decide) ciX2 rfl (isO_spec us121).choose_spec es121 ?_
                      refine BW.run [.iinc 4 1] (pc' := 222) (lv' := [(0, .ref a0), (1, .int x1), (2, .int x2), (3, .int x3), (4, .int (10 : Int32))]) (st' := []) (by decide +kernel) rfl rfl ?_
                      refine BW.goto 195 (by decide +kernel : decode tX9_init.2.1 222 = .ok (.goto (-27), 3)) (by decide) ?_
                      refine BW.run [.iload 4, .aload_n 0] (pc' := 198) (lv' := [(0, .ref a0), (1, .int x1), (2, .int x2), (3, .int x3), (4, .int (10 : Int32))]) (st' := [.ref a0, .int (10 : Int32)]) (by decide +kernel) rfl rfl ?_
                      obtain ⟨b122, eb122, h⟩ := Ok.bind h
                      refine BW.get (by decide +kernel : decode tX9_init.2.1 198 = .ok (.getfield 28, 3)) ciX9 (k := 7) (by decide) lkF_X9_28 (toR_V eb122) ?_
                      obtain ⟨v123, ev123, h⟩ := Ok.bind h
                      refine BW.alen (by decide +kernel : decode tX9_init.2.1 201 = .ok (.arraylength, 1)) (t := 14) (by decide) ev123 ?_
                      refine BW.icmp_ge 225 (by decide +kernel : decode tX9_init.2.1 202 = .ok (.if_icmp .ge 23, 3)) (by decide) (fun hc => ?_) (fun hc => ?_)
                      · have h := (Ok.ite h).1 hc
                        exact BW.vret (by decide +kernel : decode tX9_init.2.1 225 = .ok (.return_, 1)) rfl (Nat.le_trans (by decide) hCm.2.2.1) (Nat.le_trans (by decide) hCm.2.2.2) (hQ _ (Ok.some h))
                      · have h := (Ok.ite h).2 hc
                        refine BW.run [.aload_n 0] (pc' := 206) (lv' := [(0, .ref a0), (1, .int x1), (2, .int x2), (3, .int x3), (4, .int (10 : Int32))]) (st' := [.ref a0]) (by decide +kernel) rfl rfl ?_
                        obtain ⟨b124, eb124, h⟩ := Ok.bind h
                        refine BW.get (by decide +kernel : decode tX9_init.2.1 206 = .ok (.getfield 28, 3)) ciX9 (k := 7) (by decide) lkF_X9_28 (toR_V eb124) ?_
                        refine BW.run [.iload 4] (pc' := 211) (lv' := [(0, .ref a0), (1, .int x1), (2, .int x2), (3, .int x3), (4, .int (10 : Int32))]) (st' := [.int (10 : Int32), .ref b124]) (by decide +kernel) rfl rfl ?_
                        obtain ⟨⟨b125, s126⟩, es126, h⟩ := Ok.bind h
                        refine BW.newB (by decide +kernel : decode tX9_init.2.1 211 = .ok (.new 26, 3)) ciX2 lkC_X9_26 ins2 ini2 (Nat.le_trans (by decide) hCm.1) (Nat.le_trans (by decide) hCm.2.1) es126 ?_
                        show BW G tX9_init E 64 2373 214 [(0, .ref a0), (1, .int x1), (2, .int x2), (3, .int x3), (4, .int (10 : Int32))] (.ref b125 :: [.int (10 : Int32), .ref b124]) s126
                        refine BW.run [.dup] (pc' := 215) (lv' := [(0, .ref a0), (1, .int x1), (2, .int x2), (3, .int x3), (4, .int (10 : Int32))]) (st' := [.ref b125, .ref b125, .int (10 : Int32), .ref b124]) (by decide +kernel) rfl rfl ?_
                        refine BW.callIN (As := []) (st := [.ref b125, .int (10 : Int32), .ref b124]) (by decide +kernel : decode tX9_init.2.1 215 = .ok (.invokespecial 110, 3)) (DX2_init (Ok.bindK h)) mfX2_init rfl lkM_X9_110 imX2_init rfl rfl rfl (Nat.le_of_ble_eq_true rfl) ⟨Nat.le_trans (by decide) hRm.1, Nat.le_trans (by decide) hRm.2⟩ ⟨Nat.le_trans (by decide) hCm.1, Nat.le_trans (by decide) hCm.2.1⟩ ?_
                        rintro _ s127 ⟨rfl, h⟩
                        show BW G tX9_init E 64 2373 218 [(0, .ref a0), (1, .int x1), (2, .int x2), (3, .int x3), (4, .int (10 : Int32))] [.ref b125, .int (10 : Int32), .ref b124] s127
                        obtain ⟨_, us128, h⟩ := Ok.bind h
                        obtain ⟨s128, es128, h⟩ := Ok.bind h
                        refine BW.aast (by decide +kernel : decode tX9_init.2.1 218 = .ok (.aastore, 1)) (by decide) ciX2 rfl (isO_spec us128).choose_spec es128 ?_
                        refine BW.run [.iinc 4 1] (pc' := 222) (lv' := [(0, .ref a0), (1, .int x1), (2, .int x2), (3, .int x3), (4, .int (11 : Int32))]) (st' := []) (by decide +kernel) rfl rfl ?_
                        refine BW.goto 195 (by decide +kernel : decode tX9_init.2.1 222 = .ok (.goto (-27), 3)) (by decide) ?_
                        refine BW.run [.iload 4, .aload_n 0] (pc' := 198) (lv' := [(0, .ref a0), (1, .int x1), (2, .int x2), (3, .int x3), (4, .int (11 : Int32))]) (st' := [.ref a0, .int (11 : Int32)]) (by decide +kernel) rfl rfl ?_
                        obtain ⟨b129, eb129, h⟩ := Ok.bind h
                        refine BW.get (by decide +kernel : decode tX9_init.2.1 198 = .ok (.getfield 28, 3)) ciX9 (k := 7) (by decide) lkF_X9_28 (toR_V eb129) ?_
                        obtain ⟨v130, ev130, h⟩ := Ok.bind h
                        refine BW.alen (by decide +kernel : decode tX9_init.2.1 201 = .ok (.arraylength, 1)) (t := 14) (by decide) ev130 ?_
                        refine BW.icmp_ge 225 (by decide +kernel : decode tX9_init.2.1 202 = .ok (.if_icmp .ge 23, 3)) (by decide) (fun hc => ?_) (fun hc => ?_)
                        · have h := (Ok.ite h).1 hc
                          exact BW.vret (by decide +kernel : decode tX9_init.2.1 225 = .ok (.return_, 1)) rfl (Nat.le_trans (by decide) hCm.2.2.1) (Nat.le_trans (by decide) hCm.2.2.2) (hQ _ (Ok.some h))
                        · have h := (Ok.ite h).2 hc
                          refine BW.run [.aload_n 0] (pc' := 206) (lv' := [(0, .ref a0), (1, .int x1), (2, .int x2), (3, .int x3), (4, .int (11 : Int32))]) (st' := [.ref a0]) (by decide +kernel) rfl rfl ?_
                          obtain ⟨b131, eb131, h⟩ := Ok.bind h
                          refine BW.get (by decide +kernel : decode tX9_init.2.1 206 = .ok (.getfield 28, 3)) ciX9 (k := 7) (by decide) lkF_X9_28 (toR_V eb131) ?_
                          refine BW.run [.iload 4] (pc' := 211) (lv' := [(0, .ref a0), (1, .int x1), (2, .int x2), (3, .int x3), (4, .int (11 : Int32))]) (st' := [.int (11 : Int32), .ref b131]) (by decide +kernel) rfl rfl ?_
                          obtain ⟨⟨b132, s133⟩, es133, h⟩ := Ok.bind h
                          refine BW.newB (by decide +kernel : decode tX9_init.2.1 211 = .ok (.new 26, 3)) ciX2 lkC_X9_26 ins2 ini2 (Nat.le_trans (by decide) hCm.1) (Nat.le_trans (by decide) hCm.2.1) es133 ?_
                          show BW G tX9_init E 65 2378 214 [(0, .ref a0), (1, .int x1), (2, .int x2), (3, .int x3), (4, .int (11 : Int32))] (.ref b132 :: [.int (11 : Int32), .ref b131]) s133
                          refine BW.run [.dup] (pc' := 215) (lv' := [(0, .ref a0), (1, .int x1), (2, .int x2), (3, .int x3), (4, .int (11 : Int32))]) (st' := [.ref b132, .ref b132, .int (11 : Int32), .ref b131]) (by decide +kernel) rfl rfl ?_
                          refine BW.callIN (As := []) (st := [.ref b132, .int (11 : Int32), .ref b131]) (by decide +kernel : decode tX9_init.2.1 215 = .ok (.invokespecial 110, 3)) (DX2_init (Ok.bindK h)) mfX2_init rfl lkM_X9_110 imX2_init rfl rfl rfl (Nat.le_of_ble_eq_true rfl) ⟨Nat.le_trans (by decide) hRm.1, Nat.le_trans (by decide) hRm.2⟩ ⟨Nat.le_trans (by decide) hCm.1, Nat.le_trans (by decide) hCm.2.1⟩ ?_
                          rintro _ s134 ⟨rfl, h⟩
                          show BW G tX9_init E 65 2378 218 [(0, .ref a0), (1, .int x1), (2, .int x2), (3, .int x3), (4, .int (11 : Int32))] [.ref b132, .int (11 : Int32), .ref b131] s134
                          obtain ⟨_, us135, h⟩ := Ok.bind h
                          obtain ⟨s135, es135, h⟩ := Ok.bind h
                          refine BW.aast (by decide +kernel : decode tX9_init.2.1 218 = .ok (.aastore, 1)) (by decide) ciX2 rfl (isO_spec us135).choose_spec es135 ?_
                          refine BW.run [.iinc 4 1] (pc' := 222) (lv' := [(0, .ref a0), (1, .int x1), (2, .int x2), (3, .int x3), (4, .int (12 : Int32))]) (st' := []) (by decide +kernel) rfl rfl ?_
                          refine BW.goto 195 (by decide +kernel : decode tX9_init.2.1 222 = .ok (.goto (-27), 3)) (by decide) ?_
                          refine BW.run [.iload 4, .aload_n 0] (pc' := 198) (lv' := [(0, .ref a0), (1, .int x1), (2, .int x2), (3, .int x3), (4, .int (12 : Int32))]) (st' := [.ref a0, .int (12 : Int32)]) (by decide +kernel) rfl rfl ?_
                          obtain ⟨b136, eb136, h⟩ := Ok.bind h
                          refine BW.get (by decide +kernel : decode tX9_init.2.1 198 = .ok (.getfield 28, 3)) ciX9 (k := 7) (by decide) lkF_X9_28 (toR_V eb136) ?_
                          obtain ⟨v137, ev137, h⟩ := Ok.bind h
                          refine BW.alen (by decide +kernel : decode tX9_init.2.1 201 = .ok (.arraylength, 1)) (t := 14) (by decide) ev137 ?_
                          refine BW.icmp_ge 225 (by decide +kernel : decode tX9_init.2.1 202 = .ok (.if_icmp .ge 23, 3)) (by decide) (fun hc => ?_) (fun hc => ?_)
                          · have h := (Ok.ite h).1 hc
                            exact BW.vret (by decide +kernel : decode tX9_init.2.1 225 = .ok (.return_, 1)) rfl (Nat.le_trans (by decide) hCm.2.2.1) (Nat.le_trans (by decide) hCm.2.2.2) (hQ _ (Ok.some h))
                          · have h := (Ok.ite h).2 hc
                            refine BW.run [.aload_n 0] (pc' := 206) (lv' := [(0, .ref a0), (1, .int x1), (2, .int x2), (3, .int x3), (4, .int (12 : Int32))]) (st' := [.ref a0]) (by decide +kernel) rfl rfl ?_
                            obtain ⟨b138, eb138, h⟩ := Ok.bind h
                            refine BW.get (by decide +kernel : decode tX9_init.2.1 206 = .ok (.getfield 28, 3)) ciX9 (k := 7) (by decide) lkF_X9_28 (toR_V eb138) ?_
                            refine BW.run [.iload 4] (pc' := 211) (lv' := [(0, .ref a0), (1, .int x1), (2, .int x2), (3, .int x3), (4, .int (12 : Int32))]) (st' := [.int (12 : Int32), .ref b138]) (by decide +kernel) rfl rfl ?_
                            obtain ⟨⟨b139, s140⟩, es140, h⟩ := Ok.bind h
                            refine BW.newB (by decide +kernel : decode tX9_init.2.1 211 = .ok (.new 26, 3)) ciX2 lkC_X9_26 ins2 ini2 (Nat.le_trans (by decide) hCm.1) (Nat.le_trans (by decide) hCm.2.1) es140 ?_
                            show BW G tX9_init E 66 2383 214 [(0, .ref a0), (1, .int x1), (2, .int x2), (3, .int x3), (4, .int (12 : Int32))] (.ref b139 :: [.int (12 : Int32), .ref b138]) s140
                            refine BW.run [.dup] (pc' := 215) (lv' := [(0, .ref a0), (1, .int x1), (2, .int x2), (3, .int x3), (4, .int (12 : Int32))]) (st' := [.ref b139, .ref b139, .int (12 : Int32), .ref b138]) (by decide +kernel) rfl rfl ?_
                            refine BW.callIN (As := []) (st := [.ref b139, .int (12 : Int32), .ref b138]) (by decide +kernel : decode tX9_init.2.1 215 = .ok (.invokespecial 110, 3)) (DX2_init (Ok.bindK h)) mfX2_init rfl lkM_X9_110 imX2_init rfl rfl rfl (Nat.le_of_ble_eq_true rfl) ⟨Nat.le_trans (by decide) hRm.1, Nat.le_trans (by decide) hRm.2⟩ ⟨Nat.le_trans (by decide) hCm.1, Nat.le_trans (by decide) hCm.2.1⟩ ?_
                            rintro _ s141 ⟨rfl, h⟩
                            show BW G tX9_init E 66 2383 218 [(0, .ref a0), (1, .int x1), (2, .int x2), (3, .int x3), (4, .int (12 : Int32))] [.ref b139, .int (12 : Int32), .ref b138] s141
                            obtain ⟨_, us142, h⟩ := Ok.bind h
                            obtain ⟨s142, es142, h⟩ := Ok.bind h
                            refine BW.aast (by decide +kernel : decode tX9_init.2.1 218 = .ok (.aastore, 1)) (by decide) ciX2 rfl (isO_spec us142).choose_spec es142 ?_
                            refine BW.run [.iinc 4 1] (pc' := 222) (lv' := [(0, .ref a0), (1, .int x1), (2, .int x2), (3, .int x3), (4, .int (13 : Int32))]) (st' := []) (by decide +kernel) rfl rfl ?_
                            refine BW.goto 195 (by decide +kernel : decode tX9_init.2.1 222 = .ok (.goto (-27), 3)) (by decide) ?_
                            refine BW.run [.iload 4, .aload_n 0] (pc' := 198) (lv' := [(0, .ref a0), (1, .int x1), (2, .int x2), (3, .int x3), (4, .int (13 : Int32))]) (st' := [.ref a0, .int (13 : Int32)]) (by decide +kernel) rfl rfl ?_
                            obtain ⟨b143, eb143, h⟩ := Ok.bind h
                            refine BW.get (by decide +kernel : decode tX9_init.2.1 198 = .ok (.getfield 28, 3)) ciX9 (k := 7) (by decide) lkF_X9_28 (toR_V eb143) ?_
                            obtain ⟨v144, ev144, h⟩ := Ok.bind h
                            refine BW.alen (by decide +kernel : decode tX9_init.2.1 201 = .ok (.arraylength, 1)) (t := 14) (by decide) ev144 ?_
                            refine BW.icmp_ge 225 (by decide +kernel : decode tX9_init.2.1 202 = .ok (.if_icmp .ge 23, 3)) (by decide) (fun hc => ?_) (fun hc => ?_)
                            · have h := (Ok.ite h).1 hc
                              exact BW.vret (by decide +kernel : decode tX9_init.2.1 225 = .ok (.return_, 1)) rfl (Nat.le_trans (by decide) hCm.2.2.1) (Nat.le_trans (by decide) hCm.2.2.2) (hQ _ (Ok.some h))
                            · have h := (Ok.ite h).2 hc
                              refine BW.run [.aload_n 0] (pc' := 206) (lv' := [(0, .ref a0), (1, .int x1), (2, .int x2), (3, .int x3), (4, .int (13 : Int32))]) (st' := [.ref a0]) (by decide +kernel) rfl rfl ?_
                              obtain ⟨b145, eb145, h⟩ := Ok.bind h
                              refine BW.get (by decide +kernel : decode tX9_init.2.1 206 = .ok (.getfield 28, 3)) ciX9 (k := 7) (by decide) lkF_X9_28 (toR_V eb145) ?_
                              refine BW.run [.iload 4] (pc' := 211) (lv' := [(0, .ref a0), (1, .int x1), (2, .int x2), (3, .int x3), (4, .int (13 : Int32))]) (st' := [.int (13 : Int32), .ref b145]) (by decide +kernel) rfl rfl ?_
                              obtain ⟨⟨b146, s147⟩, es147, h⟩ := Ok.bind h
                              refine BW.newB (by decide +kernel : decode tX9_init.2.1 211 = .ok (.new 26, 3)) ciX2 lkC_X9_26 ins2 ini2 (Nat.le_trans (by decide) hCm.1) (Nat.le_trans (by decide) hCm.2.1) es147 ?_
                              show BW G tX9_init E 67 2388 214 [(0, .ref a0), (1, .int x1), (2, .int x2), (3, .int x3), (4, .int (13 : Int32))] (.ref b146 :: [.int (13 : Int32), .ref b145]) s147
                              refine BW.run [.dup] (pc' := 215) (lv' := [(0, .ref a0), (1, .int x1), (2, .int x2), (3, .int x3), (4, .int (13 : Int32))]) (st' := [.ref b146, .ref b146, .int (13 : Int32), .ref b145]) (by decide +kernel) rfl rfl ?_
                              refine BW.callIN (As := []) (st := [.ref b146, .int (13 : Int32), .ref b145]) (by decide +kernel : decode tX9_init.2.1 215 = .ok (.invokespecial 110, 3)) (DX2_init (Ok.bindK h)) mfX2_init rfl lkM_X9_110 imX2_init rfl rfl rfl (Nat.le_of_ble_eq_true rfl) ⟨Nat.le_trans (by decide) hRm.1, Nat.le_trans (by decide) hRm.2⟩ ⟨Nat.le_trans (by decide) hCm.1, Nat.le_trans (by decide) hCm.2.1⟩ ?_
                              rintro _ s148 ⟨rfl, h⟩
                              show BW G tX9_init E 67 2388 218 [(0, .ref a0), (1, .int x1), (2, .int x2), (3, .int x3), (4, .int (13 : Int32))] [.ref b146, .int (13 : Int32), .ref b145] s148
                              obtain ⟨_, us149, h⟩ := Ok.bind h
                              obtain ⟨s149, es149, h⟩ := Ok.bind h
                              refine BW.aast (by decide +kernel : decode tX9_init.2.1 218 = .ok (.aastore, 1)) (by decide) ciX2 rfl (isO_spec us149).choose_spec es149 ?_
                              refine BW.run [.iinc 4 1] (pc' := 222) (lv' := [(0, .ref a0), (1, .int x1), (2, .int x2), (3, .int x3), (4, .int (14 : Int32))]) (st' := []) (by decide +kernel) rfl rfl ?_
                              refine BW.goto 195 (by decide +kernel : decode tX9_init.2.1 222 = .ok (.goto (-27), 3)) (by decide) ?_
                              refine BW.run [.iload 4, .aload_n 0] (pc' := 198) (lv' := [(0, .ref a0), (1, .int x1), (2, .int x2), (3, .int x3), (4, .int (14 : Int32))]) (st' := [.ref a0, .int (14 : Int32)]) (by decide +kernel) rfl rfl ?_
                              obtain ⟨b150, eb150, h⟩ := Ok.bind h
                              refine BW.get (by decide +kernel : decode tX9_init.2.1 198 = .ok (.getfield 28, 3)) ciX9 (k := 7) (by decide) lkF_X9_28 (toR_V eb150) ?_
                              obtain ⟨v151, ev151, h⟩ := Ok.bind h
                              refine BW.alen (by decide +kernel : decode tX9_init.2.1 201 = .ok (.arraylength, 1)) (t := 14) (by decide) ev151 ?_
                              refine BW.icmp_ge 225 (by decide +kernel : decode tX9_init.2.1 202 = .ok (.if_icmp .ge 23, 3)) (by decide) (fun hc => ?_) (fun hc => ?_)
                              · have h := (Ok.ite h).1 hc
                                exact BW.vret (by decide +kernel : decode tX9_init.2.1 225 = .ok (.return_, 1)) rfl (Nat.le_trans (by decide) hCm.2.2.1) (Nat.le_trans (by decide) hCm.2.2.2) (hQ _ (Ok.some h))
                              · have h := (Ok.ite h).2 hc
                                refine BW.run [.aload_n 0] (pc' := 206) (lv' := [(0, .ref a0), (1, .int x1), (2, .int x2), (3, .int x3), (4, .int (14 : Int32))]) (st' := [.ref a0]) (by decide +kernel) rfl rfl ?_
                                obtain ⟨b152, eb152, h⟩ := Ok.bind h
                                refine BW.get (by decide +kernel : decode tX9_init.2.1 206 = .ok (.getfield 28, 3)) ciX9 (k := 7) (by decide) lkF_X9_28 (toR_V eb152) ?_
                                refine BW.run [.iload 4] (pc' := 211) (lv' := [(0, .ref a0), (1, .int x1), (2, .int x2), (3, .int x3), (4, .int (14 : Int32))]) (st' := [.int (14 : Int32), .ref b152]) (by decide +kernel) rfl rfl ?_
                                obtain ⟨⟨b153, s154⟩, es154, h⟩ := Ok.bind h
                                refine BW.newB (by decide +kernel : decode tX9_init.2.1 211 = .ok (.new 26, 3)) ciX2 lkC_X9_26 ins2 ini2 (Nat.le_trans (by decide) hCm.1) (Nat.le_trans (by decide) hCm.2.1) es154 ?_
                                show BW G tX9_init E 68 2393 214 [(0, .ref a0), (1, .int x1), (2, .int x2), (3, .int x3), (4, .int (14 : Int32))] (.ref b153 :: [.int (14 : Int32), .ref b152]) s154
                                refine BW.run [.dup] (pc' := 215) (lv' := [(0, .ref a0), (1, .int x1), (2, .int x2), (3, .int x3), (4, .int (14 : Int32))]) (st' := [.ref b153, .ref b153, .int (14 : Int32), .ref b152]) (by decide +kernel) rfl rfl ?_
                                refine BW.callIN (As := []) (st := [.ref b153, .int (14 : Int32), .ref b152]) (by decide +kernel : decode tX9_init.2.1 215 = .ok (.invokespecial 110, 3)) (DX2_init (Ok.bindK h)) mfX2_init rfl lkM_X9_110 imX2_init rfl rfl rfl (Nat.le_of_ble_eq_true rfl) ⟨Nat.le_trans (by decide) hRm.1, Nat.le_trans (by decide) hRm.2⟩ ⟨Nat.le_trans (by decide) hCm.1, Nat.le_trans (by decide) hCm.2.1⟩ ?_
                                rintro _ s155 ⟨rfl, h⟩
                                show BW G tX9_init E 68 2393 218 [(0, .ref a0), (1, .int x1), (2, .int x2), (3, .int x3), (4, .int (14 : Int32))] [.ref b153, .int (14 : Int32), .ref b152] s155
                                obtain ⟨_, us156, h⟩ := Ok.bind h
                                obtain ⟨s156, es156, h⟩ := Ok.bind h
                                refine BW.aast (by decide +kernel : decode tX9_init.2.1 218 = .ok (.aastore, 1)) (by decide) ciX2 rfl (isO_spec us156).choose_spec es156 ?_
                                refine BW.run [.iinc 4 1] (pc' := 222) (lv' := [(0, .ref a0), (1, .int x1), (2, .int x2), (3, .int x3), (4, .int (15 : Int32))]) (st' := []) (by decide +kernel) rfl rfl ?_
                                refine BW.goto 195 (by decide +kernel : decode tX9_init.2.1 222 = .ok (.goto (-27), 3)) (by decide) ?_
                                refine BW.run [.iload 4, .aload_n 0] (pc' := 198) (lv' := [(0, .ref a0), (1, .int x1), (2, .int x2), (3, .int x3), (4, .int (15 : Int32))]) (st' := [.ref a0, .int (15 : Int32)]) (by decide +kernel) rfl rfl ?_
                                obtain ⟨b157, eb157, h⟩ := Ok.bind h
                                refine BW.get (by decide +kernel : decode tX9_init.2.1 198 = .ok (.getfield 28, 3)) ciX9 (k := 7) (by decide) lkF_X9_28 (toR_V eb157) ?_
                                obtain ⟨v158, ev158, h⟩ := Ok.bind h
                                refine BW.alen (by decide +kernel : decode tX9_init.2.1 201 = .ok (.arraylength, 1)) (t := 14) (by decide) ev158 ?_
                                refine BW.icmp_ge 225 (by decide +kernel : decode tX9_init.2.1 202 = .ok (.if_icmp .ge 23, 3)) (by decide) (fun hc => ?_) (fun hc => ?_)
                                · have h := (Ok.ite h).1 hc
                                  exact BW.vret (by decide +kernel : decode tX9_init.2.1 225 = .ok (.return_, 1)) rfl (Nat.le_trans (by decide) hCm.2.2.1) (Nat.le_trans (by decide) hCm.2.2.2) (hQ _ (Ok.some h))
                                · have h := (Ok.ite h).2 hc
                                  refine BW.run [.aload_n 0] (pc' := 206) (lv' := [(0, .ref a0), (1, .int x1), (2, .int x2), (3, .int x3), (4, .int (15 : Int32))]) (st' := [.ref a0]) (by decide +kernel) rfl rfl ?_
                                  obtain ⟨b159, eb159, h⟩ := Ok.bind h
                                  refine BW.get (by decide +kernel : decode tX9_init.2.1 206 = .ok (.getfield 28, 3)) ciX9 (k := 7) (by decide) lkF_X9_28 (toR_V eb159) ?_
                                  refine BW.run [.iload 4] (pc' := 211) (lv' := [(0, .ref a0), (1, .int x1), (2, .int x2), (3, .int x3), (4, .int (15 : Int32))]) (st' := [.int (15 : Int32), .ref b159]) (by decide +kernel) rfl rfl ?_
                                  obtain ⟨⟨b160, s161⟩, es161, h⟩ := Ok.bind h
                                  refine BW.newB (by decide +kernel : decode tX9_init.2.1 211 = .ok (.new 26, 3)) ciX2 lkC_X9_26 ins2 ini2 (Nat.le_trans (by decide) hCm.1) (Nat.le_trans (by decide) hCm.2.1) es161 ?_
                                  show BW G tX9_init E 69 2398 214 [(0, .ref a0), (1, .int x1), (2, .int x2), (3, .int x3), (4, .int (15 : Int32))] (.ref b160 :: [.int (15 : Int32), .ref b159]) s161
                                  refine BW.run [.dup] (pc' := 215) (lv' := [(0, .ref a0), (1, .int x1), (2, .int x2), (3, .int x3), (4, .int (15 : Int32))]) (st' := [.ref b160, .ref b160, .int (15 : Int32), .ref b159]) (by decide +kernel) rfl rfl ?_
                                  refine BW.callIN (As := []) (st := [.ref b160, .int (15 : Int32), .ref b159]) (by decide +kernel : decode tX9_init.2.1 215 = .ok (.invokespecial 110, 3)) (DX2_init (Ok.bindK h)) mfX2_init rfl lkM_X9_110 imX2_init rfl rfl rfl (Nat.le_of_ble_eq_true rfl) ⟨Nat.le_trans (by decide) hRm.1, Nat.le_trans (by decide) hRm.2⟩ ⟨Nat.le_trans (by decide) hCm.1, Nat.le_trans (by decide) hCm.2.1⟩ ?_
                                  rintro _ s162 ⟨rfl, h⟩
                                  show BW G tX9_init E 69 2398 218 [(0, .ref a0), (1, .int x1), (2, .int x2), (3, .int x3), (4, .int (15 : Int32))] [.ref b160, .int (15 : Int32), .ref b159] s162
                                  obtain ⟨_, us163, h⟩ := Ok.bind h
                                  obtain ⟨s163, es163, h⟩ := Ok.bind h
                                  refine BW.aast (by decide +kernel : decode tX9_init.2.1 218 = .ok (.aastore, 1)) (by decide) ciX2 rfl (isO_spec us163).choose_spec es163 ?_
                                  refine BW.run [.iinc 4 1] (pc' := 222) (lv' := [(0, .ref a0), (1, .int x1), (2, .int x2), (3, .int x3), (4, .int (16 : Int32))]) (st' := []) (by decide +kernel) rfl rfl ?_
                                  refine BW.goto 195 (by decide +kernel : decode tX9_init.2.1 222 = .ok (.goto (-27), 3)) (by decide) ?_
                                  refine BW.run [.iload 4, .aload_n 0] (pc' := 198) (lv' := [(0, .ref a0), (1, .int x1), (2, .int x2), (3, .int x3), (4, .int (16 : Int32))]) (st' := [.ref a0, .int (16 : Int32)]) (by decide +kernel) rfl rfl ?_
                                  obtain ⟨b164, eb164, h⟩ := Ok.bind h
                                  refine BW.get (by decide +kernel : decode tX9_init.2.1 198 = .ok (.getfield 28, 3)) ciX9 (k := 7) (by decide) lkF_X9_28 (toR_V eb164) ?_
                                  obtain ⟨v165, ev165, h⟩ := Ok.bind h
                                  refine BW.alen (by decide +kernel : decode tX9_init.2.1 201 = .ok (.arraylength, 1)) (t := 14) (by decide) ev165 ?_
                                  refine BW.icmp_ge 225 (by decide +kernel : decode tX9_init.2.1 202 = .ok (.if_icmp .ge 23, 3)) (by decide) (fun hc => ?_) (fun hc => ?_)
                                  · have h := (Ok.ite h).1 hc
                                    exact BW.vret (by decide +kernel : decode tX9_init.2.1 225 = .ok (.return_, 1)) rfl (Nat.le_trans (by decide) hCm.2.2.1) (Nat.le_trans (by decide) hCm.2.2.2) (hQ _ (Ok.some h))
                                  · have h := (Ok.ite h).2 hc
                                    refine BW.run [.aload_n 0] (pc' := 206) (lv' := [(0, .ref a0), (1, .int x1), (2, .int x2), (3, .int x3), (4, .int (16 : Int32))]) (st' := [.ref a0]) (by decide +kernel) rfl rfl ?_
                                    obtain ⟨b166, eb166, h⟩ := Ok.bind h
                                    refine BW.get (by decide +kernel : decode tX9_init.2.1 206 = .ok (.getfield 28, 3)) ciX9 (k := 7) (by decide) lkF_X9_28 (toR_V eb166) ?_
                                    refine BW.run [.iload 4] (pc' := 211) (lv' := [(0, .ref a0), (1, .int x1), (2, .int x2), (3, .int x3), (4, .int (16 : Int32))]) (st' := [.int (16 : Int32), .ref b166]) (by decide +kernel) rfl rfl ?_
                                    obtain ⟨⟨b167, s168⟩, es168, h⟩ := Ok.bind h
                                    refine BW.newB (by decide +kernel : decode tX9_init.2.1 211 = .ok (.new 26, 3)) ciX2 lkC_X9_26 ins2 ini2 (Nat.le_trans (by decide) hCm.1) (Nat.le_trans (by decide) hCm.2.1) es168 ?_
                                    show BW G tX9_init E 70 2403 214 [(0, .ref a0), (1, .int x1), (2, .int x2), (3, .int x3), (4, .int (16 : Int32))] (.ref b167 :: [.int (16 : Int32), .ref b166]) s168
                                    refine BW.run [.dup] (pc' := 215) (lv' := [(0, .ref a0), (1, .int x1), (2, .int x2), (3, .int x3), (4, .int (16 : Int32))]) (st' := [.ref b167, .ref b167, .int (16 : Int32), .ref b166]) (by decide +kernel) rfl rfl ?_
                                    refine BW.callIN (As := []) (st := [.ref b167, .int (16 : Int32), .ref b166]) (by decide +kernel : decode tX9_init.2.1 215 = .ok (.invokespecial 110, 3)) (DX2_init (Ok.bindK h)) mfX2_init rfl lkM_X9_110 imX2_init rfl rfl rfl (Nat.le_of_ble_eq_true rfl) ⟨Nat.le_trans (by decide) hRm.1, Nat.le_trans (by decide) hRm.2⟩ ⟨Nat.le_trans (by decide) hCm.1, Nat.le_trans (by decide) hCm.2.1⟩ ?_
                                    rintro _ s169 ⟨rfl, h⟩
                                    show BW G tX9_init E 70 2403 218 [(0, .ref a0), (1, .int x1), (2, .int x2), (3, .int x3), (4, .int (16 : Int32))] [.ref b167, .int (16 : Int32), .ref b166] s169
                                    obtain ⟨_, us170, h⟩ := Ok.bind h
                                    obtain ⟨s170, es170, h⟩ := Ok.bind h
                                    refine BW.aast (by decide +kernel : decode tX9_init.2.1 218 = .ok (.aastore, 1)) (by decide) ciX2 rfl (isO_spec us170).choose_spec es170 ?_
                                    refine BW.run [.iinc 4 1] (pc' := 222) (lv' := [(0, .ref a0), (1, .int x1), (2, .int x2), (3, .int x3), (4, .int (17 : Int32))]) (st' := []) (by decide +kernel) rfl rfl ?_
                                    refine BW.goto 195 (by decide +kernel : decode tX9_init.2.1 222 = .ok (.goto (-27), 3)) (by decide) ?_
                                    refine BW.run [.iload 4, .aload_n 0] (pc' := 198) (lv' := [(0, .ref a0), (1, .int x1), (2, .int x2), (3, .int x3), (4, .int (17 : Int32))]) (st' := [.ref a0, .int (17 : Int32)]) (by decide +kernel) rfl rfl ?_
                                    obtain ⟨b171, eb171, h⟩ := Ok.bind h
                                    refine BW.get (by decide +kernel : decode tX9_init.2.1 198 = .ok (.getfield 28, 3)) ciX9 (k := 7) (by decide) lkF_X9_28 (toR_V eb171) ?_
                                    obtain ⟨v172, ev172, h⟩ := Ok.bind h
                                    refine BW.alen (by decide +kernel : decode tX9_init.2.1 201 = .ok (.arraylength, 1)) (t := 14) (by decide) ev172 ?_
                                    refine BW.icmp_ge 225 (by decide +kernel : decode tX9_init.2.1 202 = .ok (.if_icmp .ge 23, 3)) (by decide) (fun hc => ?_) (fun hc => ?_)
                                    · have h := (Ok.ite h).1 hc
                                      exact BW.vret (by decide +kernel : decode tX9_init.2.1 225 = .ok (.return_, 1)) rfl (Nat.le_trans (by decide) hCm.2.2.1) (Nat.le_trans (by decide) hCm.2.2.2) (hQ _ (Ok.some h))
                                    · have h := (Ok.ite h).2 hc
                                      refine BW.run [.aload_n 0] (pc' := 206) (lv' := [(0, .ref a0), (1, .int x1), (2, .int x2), (3, .int x3), (4, .int (17 : Int32))]) (st' := [.ref a0]) (by decide +kernel) rfl rfl ?_
                                      obtain ⟨b173, eb173, h⟩ := Ok.bind h
                                      refine BW.get (by decide +kernel : decode tX9_init.2.1 206 = .ok (.getfield 28, 3)) ciX9 (k := 7) (by decide) lkF_X9_28 (toR_V eb173) ?_
                                      refine BW.run [.iload 4] (pc' := 211) (lv' := [(0, .ref a0), (1, .int x1), (2, .int x2), (3, .int x3), (4, .int (17 : Int32))]) (st' := [.int (17 : Int32), .ref b173]) (by decide +kernel) rfl rfl ?_
                                      obtain ⟨⟨b174, s175⟩, es175, h⟩ := Ok.bind h
                                      refine BW.newB (by decide +kernel : decode tX9_init.2.1 211 = .ok (.new 26, 3)) ciX2 lkC_X9_26 ins2 ini2 (Nat.le_trans (by decide) hCm.1) (Nat.le_trans (by decide) hCm.2.1) es175 ?_
                                      show BW G tX9_init E 71 2408 214 [(0, .ref a0), (1, .int x1), (2, .int x2), (3, .int x3), (4, .int (17 : Int32))] (.ref b174 :: [.int (17 : Int32), .ref b173]) s175
                                      refine BW.run [.dup] (pc' := 215) (lv' := [(0, .ref a0), (1, .int x1), (2, .int x2), (3, .int x3), (4, .int (17 : Int32))]) (st' := [.ref b174, .ref b174, .int (17 : Int32), .ref b173]) (by decide +kernel) rfl rfl ?_
                                      refine BW.callIN (As := []) (st := [.ref b174, .int (17 : Int32), .ref b173]) (by decide +kernel : decode tX9_init.2.1 215 = .ok (.invokespecial 110, 3)) (DX2_init (Ok.bindK h)) mfX2_init rfl lkM_X9_110 imX2_init rfl rfl rfl (Nat.le_of_ble_eq_true rfl) ⟨Nat.le_trans (by decide) hRm.1, Nat.le_trans (by decide) hRm.2⟩ ⟨Nat.le_trans (by decide) hCm.1, Nat.le_trans (by decide) hCm.2.1⟩ ?_
                                      rintro _ s176 ⟨rfl, h⟩
                                      show BW G tX9_init E 71 2408 218 [(0, .ref a0), (1, .int x1), (2, .int x2), (3, .int x3), (4, .int (17 : Int32))] [.ref b174, .int (17 : Int32), .ref b173] s176
                                      obtain ⟨_, us177, h⟩ := Ok.bind h
                                      obtain ⟨s177, es177, h⟩ := Ok.bind h
                                      refine BW.aast (by decide +kernel : decode tX9_init.2.1 218 = .ok (.aastore, 1)) (by decide) ciX2 rfl (isO_spec us177).choose_spec es177 ?_
                                      refine BW.run [.iinc 4 1] (pc' := 222) (lv' := [(0, .ref a0), (1, .int x1), (2, .int x2), (3, .int x3), (4, .int (18 : Int32))]) (st' := []) (by decide +kernel) rfl rfl ?_
                                      refine BW.goto 195 (by decide +kernel : decode tX9_init.2.1 222 = .ok (.goto (-27), 3)) (by decide) ?_
                                      refine BW.run [.iload 4, .aload_n 0] (pc' := 198) (lv' := [(0, .ref a0), (1, .int x1), (2, .int x2), (3, .int x3), (4, .int (18 : Int32))]) (st' := [.ref a0, .int (18 : Int32)]) (by decide +kernel) rfl rfl ?_
                                      obtain ⟨b178, eb178, h⟩ := Ok.bind h
                                      refine BW.get (by decide +kernel : decode tX9_init.2.1 198 = .ok (.getfield 28, 3)) ciX9 (k := 7) (by decide) lkF_X9_28 (toR_V eb178) ?_
                                      obtain ⟨v179, ev179, h⟩ := Ok.bind h
                                      refine BW.alen (by decide +kernel : decode tX9_init.2.1 201 = .ok (.arraylength, 1)) (t := 14) (by decide) ev179 ?_
                                      refine BW.icmp_ge 225 (by decide +kernel : decode tX9_init.2.1 202 = .ok (.if_icmp .ge 23, 3)) (by decide) (fun hc => ?_) (fun hc => ?_)
                                      · have h := (Ok.ite h).1 hc
                                        exact BW.vret (by decide +kernel : decode tX9_init.2.1 225 = .ok (.return_, 1)) rfl (Nat.le_trans (by decide) hCm.2.2.1) (Nat.le_trans (by decide) hCm.2.2.2) (hQ _ (Ok.some h))
                                      · have h := (Ok.ite h).2 hc
                                        refine BW.run [.aload_n 0] (pc' := 206) (lv' := [(0, .ref a0), (1, .int x1), (2, .int x2), (3, .int x3), (4, .int (18 : Int32))]) (st' := [.ref a0]) (by decide +kernel) rfl rfl ?_
                                        obtain ⟨b180, eb180, h⟩ := Ok.bind h
                                        refine BW.get (by decide +kernel : decode tX9_init.2.1 206 = .ok (.getfield 28, 3)) ciX9 (k := 7) (by decide) lkF_X9_28 (toR_V eb180) ?_
                                        refine BW.run [.iload 4] (pc' := 211) (lv' := [(0, .ref a0), (1, .int x1), (2, .int x2), (3, .int x3), (4, .int (18 : Int32))]) (st' := [.int (18 : Int32), .ref b180]) (by decide +kernel) rfl rfl ?_
                                        obtain ⟨⟨b181, s182⟩, es182, h⟩ := Ok.bind h
                                        refine BW.newB (by decide +kernel : decode tX9_init.2.1 211 = .ok (.new 26, 3)) ciX2 lkC_X9_26 ins2 ini2 (Nat.le_trans (by decide) hCm.1) (Nat.le_trans (by decide) hCm.2.1) es182 ?_
                                        show BW G tX9_init E 72 2413 214 [(0, .ref a0), (1, .int x1), (2, .int x2), (3, .int x3), (4, .int (18 : Int32))] (.ref b181 :: [.int (18 : Int32), .ref b180]) s182
                                        refine BW.run [.dup] (pc' := 215) (lv' := [(0, .ref a0), (1, .int x1), (2, .int x2), (3, .int x3), (4, .int (18 : Int32))]) (st' := [.ref b181, .ref b181, .int (18 : Int32), .ref b180]) (by decide +kernel) rfl rfl ?_
                                        refine BW.callIN (As := []) (st := [.ref b181, .int (18 : Int32), .ref b180]) (by decide +kernel : decode tX9_init.2.1 215 = .ok (.invokespecial 110, 3)) (DX2_init (Ok.bindK h)) mfX2_init rfl lkM_X9_110 imX2_init rfl rfl rfl (Nat.le_of_ble_eq_true rfl) ⟨Nat.le_trans (by decide) hRm.1, Nat.le_trans (by decide) hRm.2⟩ ⟨Nat.le_trans (by decide) hCm.1, Nat.le_trans (by decide) hCm.2.1⟩ ?_
                                        rintro _ s183 ⟨rfl, h⟩
                                        show BW G tX9_init E 72 2413 218 [(0, .ref a0), (1, .int x1), (2, .int x2), (3, .int x3), (4, .int (18 : Int32))] [.ref b181, .int (18 : Int32), .ref b180] s183
                                        obtain ⟨_, us184, h⟩ := Ok.bind h
                                        obtain ⟨s184, es184, h⟩ := Ok.bind h
                                        refine BW.aast (by decide +kernel : decode tX9_init.2.1 218 = .ok (.aastore, 1)) (by decide) ciX2 rfl (isO_spec us184).choose_spec es184 ?_
                                        refine BW.run [.iinc 4 1] (pc' := 222) (lv' := [(0, .ref a0), (1, .int x1), (2, .int x2), (3, .int x3), (4, .int (19 : Int32))]) (st' := []) (by decide +kernel) rfl rfl ?_
                                        refine BW.goto 195 (by decide +kernel : decode tX9_init.2.1 222 = .ok (.goto (-27), 3)) (by decide) ?_
                                        refine BW.run [.iload 4, .aload_n 0] (pc' := 198) (lv' := [(0, .ref a0), (1, .int x1), (2, .int x2), (3, .int x3), (4, .int (19 : Int32))]) (st' := [.ref a0, .int (19 : Int32)]) (by decide +kernel) rfl rfl ?_
                                        obtain ⟨b185, eb185, h⟩ := Ok.bind h
                                        refine BW.get (by decide +kernel : decode tX9_init.2.1 198 = .ok (.getfield 28, 3)) ciX9 (k := 7) (by decide) lkF_X9_28 (toR_V eb185) ?_
                                        obtain ⟨v186, ev186, h⟩ := Ok.bind h
                                        refine BW.alen (by decide +kernel : decode tX9_init.2.1 201 = .ok (.arraylength, 1)) (t := 14) (by decide) ev186 ?_
                                        refine BW.icmp_ge 225 (by decide +kernel : decode tX9_init.2.1 202 = .ok (.if_icmp .ge 23, 3)) (by decide) (fun hc => ?_) (fun hc => ?_)
                                        · have h := (Ok.ite h).1 hc
                                          exact BW.vret (by decide +kernel : decode tX9_init.2.1 225 = .ok (.return_, 1)) rfl (Nat.le_trans (by decide) hCm.2.2.1) (Nat.le_trans (by decide) hCm.2.2.2) (hQ _ (Ok.some h))
                                        · have h := (Ok.ite h).2 hc
                                          refine BW.run [.aload_n 0] (pc' := 206) (lv' := [(0, .ref a0), (1, .int x1), (2, .int x2), (3, .int x3), (4, .int (19 : Int32))]) (st' := [.ref a0]) (by decide +kernel) rfl rfl ?_
                                          obtain ⟨b187, eb187, h⟩ := Ok.bind h
                                          refine BW.get (by decide +kernel : decode tX9_init.2.1 206 = .ok (.getfield 28, 3)) ciX9 (k := 7) (by decide) lkF_X9_28 (toR_V eb187) ?_
                                          refine BW.run [.iload 4] (pc' := 211) (lv' := [(0, .ref a0), (1, .int x1), (2, .int x2), (3, .int x3), (4, .int (19 : Int32))]) (st' := [.int (19 : Int32), .ref b187]) (by decide +kernel) rfl rfl ?_
                                          obtain ⟨⟨b188, s189⟩, es189, h⟩ := Ok.bind h
                                          refine BW.newB (by decide +kernel : decode tX9_init.2.1 211 = .ok (.new 26, 3)) ciX2 lkC_X9_26 ins2 ini2 (Nat.le_trans (by decide) hCm.1) (Nat.le_trans (by decide) hCm.2.1) es189 ?_
                                          show BW G tX9_init E 73 2418 214 [(0, .ref a0), (1, .int x1), (2, .int x2), (3, .int x3), (4, .int (19 : Int32))] (.ref b188 :: [.int (19 : Int32), .ref b187]) s189
                                          refine BW.run [.dup] (pc' := 215) (lv' := [(0, .ref a0), (1, .int x1), (2, .int x2), (3, .int x3), (4, .int (19 : Int32))]) (st' := [.ref b188, .ref b188, .int (19 : Int32), .ref b187]) (by decide +kernel) rfl rfl ?_
                                          refine BW.callIN (As := []) (st := [.ref b188, .int (19 : Int32), .ref b187]) (by decide +kernel : decode tX9_init.2.1 215 = .ok (.invokespecial 110, 3)) (DX2_init (Ok.bindK h)) mfX2_init rfl lkM_X9_110 imX2_init rfl rfl rfl (Nat.le_of_ble_eq_true rfl) ⟨Nat.le_trans (by decide) hRm.1, Nat.le_trans (by decide) hRm.2⟩ ⟨Nat.le_trans (by decide) hCm.1, Nat.le_trans (by decide) hCm.2.1⟩ ?_
                                          rintro _ s190 ⟨rfl, h⟩
                                          show BW G tX9_init E 73 2418 218 [(0, .ref a0), (1, .int x1), (2, .int x2), (3, .int x3), (4, .int (19 : Int32))] [.ref b188, .int (19 : Int32), .ref b187] s190
                                          obtain ⟨_, us191, h⟩ := Ok.bind h
                                          obtain ⟨s191, es191, h⟩ := Ok.bind h
                                          refine BW.aast (by decide +kernel : decode tX9_init.2.1 218 = .ok (.aastore, 1)) (by decide) ciX2 rfl (isO_spec us191).choose_spec es191 ?_
                                          refine BW.run [.iinc 4 1] (pc' := 222) (lv' := [(0, .ref a0), (1, .int x1), (2, .int x2), (3, .int x3), (4, .int (20 : Int32))]) (st' := []) (by decide +kernel) rfl rfl ?_
                                          refine BW.goto 195 (by decide +kernel : decode tX9_init.2.1 222 = .ok (.goto (-27), 3)) (by decide) ?_
                                          refine BW.run [.iload 4, .aload_n 0] (pc' := 198) (lv' := [(0, .ref a0), (1, .int x1), (2, .int x2), (3, .int x3), (4, .int (20 : Int32))]) (st' := [.ref a0, .int (20 : Int32)]) (by decide +kernel) rfl rfl ?_
                                          obtain ⟨b192, eb192, h⟩ := Ok.bind h
                                          refine BW.get (by decide +kernel : decode tX9_init.2.1 198 = .ok (.getfield 28, 3)) ciX9 (k := 7) (by decide) lkF_X9_28 (toR_V eb192) ?_
                                          obtain ⟨v193, ev193, h⟩ := Ok.bind h
                                          refine BW.alen (by decide +kernel : decode tX9_init.2.1 201 = .ok (.arraylength, 1)) (t := 14) (by decide) ev193 ?_
                                          refine BW.icmp_ge 225 (by decide +kernel : decode tX9_init.2.1 202 = .ok (.if_icmp .ge 23, 3)) (by decide) (fun hc => ?_) (fun hc => ?_)
                                          · have h := (Ok.ite h).1 hc
                                            exact BW.vret (by decide +kernel : decode tX9_init.2.1 225 = .ok (.return_, 1)) rfl (Nat.le_trans (by decide) hCm.2.2.1) (Nat.le_trans (by decide) hCm.2.2.2) (hQ _ (Ok.some h))
                                          · have h := (Ok.ite h).2 hc
                                            refine BW.run [.aload_n 0] (pc' := 206) (lv' := [(0, .ref a0), (1, .int x1), (2, .int x2), (3, .int x3), (4, .int (20 : Int32))]) (st' := [.ref a0]) (by decide +kernel) rfl rfl ?_
                                            obtain ⟨b194, eb194, h⟩ := Ok.bind h
                                            refine BW.get (by decide +kernel : decode tX9_init.2.1 206 = .ok (.getfield 28, 3)) ciX9 (k := 7) (by decide) lkF_X9_28 (toR_V eb194) ?_
                                            refine BW.run [.iload 4] (pc' := 211) (lv' := [(0, .ref a0), (1, .int x1), (2, .int x2), (3, .int x3), (4, .int (20 : Int32))]) (st' := [.int (20 : Int32), .ref b194]) (by decide +kernel) rfl rfl ?_
                                            obtain ⟨⟨b195, s196⟩, es196, h⟩ := Ok.bind h
                                            refine BW.newB (by decide +kernel : decode tX9_init.2.1 211 = .ok (.new 26, 3)) ciX2 lkC_X9_26 ins2 ini2 (Nat.le_trans (by decide) hCm.1) (Nat.le_trans (by decide) hCm.2.1) es196 ?_
                                            show BW G tX9_init E 74 2423 214 [(0, .ref a0), (1, .int x1), (2, .int x2), (3, .int x3), (4, .int (20 : Int32))] (.ref b195 :: [.int (20 : Int32), .ref b194]) s196
                                            refine BW.run [.dup] (pc' := 215) (lv' := [(0, .ref a0), (1, .int x1), (2, .int x2), (3, .int x3), (4, .int (20 : Int32))]) (st' := [.ref b195, .ref b195, .int (20 : Int32), .ref b194]) (by decide +kernel) rfl rfl ?_
                                            refine BW.callIN (As := []) (st := [.ref b195, .int (20 : Int32), .ref b194]) (by decide +kernel : decode tX9_init.2.1 215 = .ok (.invokespecial 110, 3)) (DX2_init (Ok.bindK h)) mfX2_init rfl lkM_X9_110 imX2_init rfl rfl rfl (Nat.le_of_ble_eq_true rfl) ⟨Nat.le_trans (by decide) hRm.1, Nat.le_trans (by decide) hRm.2⟩ ⟨Nat.le_trans (by decide) hCm.1, Nat.le_trans (by decide) hCm.2.1⟩ ?_
                                            rintro _ s197 ⟨rfl, h⟩
                                            show BW G tX9_init E 74 2423 218 [(0, .ref a0), (1, .int x1), (2, .int x2), (3, .int x3), (4, .int (20 : Int32))] [.ref b195, .int (20 : Int32), .ref b194] s197
                                            obtain ⟨_, us198, h⟩ := Ok.bind h
                                            obtain ⟨s198, es198, h⟩ := Ok.bind h
                                            refine BW.aast (by decide +kernel : decode tX9_init.2.1 218 = .ok (.aastore, 1)) (by decide) ciX2 rfl (isO_spec us198).choose_spec es198 ?_
                                            refine BW.run [.iinc 4 1] (pc' := 222) (lv' := [(0, .ref a0), (1, .int x1), (2, .int x2), (3, .int x3), (4, .int (21 : Int32))]) (st' := []) (by decide +kernel) rfl rfl ?_
                                            refine BW.goto 195 (by decide +kernel : decode tX9_init.2.1 222 = .ok (.goto (-27), 3)) (by decide) ?_
                                            exact (Ok.no h).elim
set_option maxRecDepth 100000 in
set_option maxHeartbeats 4000000 in
theorem DX9_init {G : Cx} {n : Nat} {P : Sg → Prop} {s0 : Sg} {a0 : Nat} {x1 : Int32} {x2 : Int32} {x3 : Int32} (h : Ok (mX9_init n s0 a0 x1 x2 x3) P) : BM G tX9_init 3 61 74 2423 [.ref a0, .int x1, .int x2, .int x3] s0 (fun v s => v = none ∧ P s) := by
  refine BM.of (by decide +kernel) (Nat.le_of_ble_eq_true rfl) ?_
  exact bX9_init (E := (({ frames := 3, cells := 74, slots := 2423, locals := 61 }), Aof s0, 74, 2423, (fun v s => v = none ∧ P s))) ⟨Nat.le_refl _, Nat.le_refl _⟩ ⟨Nat.le_refl _, Nat.le_refl _, Nat.le_refl _, Nat.le_refl _⟩ (fun s hp => ⟨rfl, hp⟩) h
def mX9_orders (n : Nat) (s0 : Sg) (a0 : Nat) (x1 : Int32) (x2 : Int32) : Option (Int32 × Sg) :=
  (isO 9 s0 a0).bind fun _ =>
  if x2 < (-1 : Int32) then (
    some ((-1 : Int32), s0)
  ) else (
    (toI (gV 9 s0 a0 6)).bind fun v1 =>
    if (6 : Int32) < v1 then (
      some ((-1 : Int32), s0)
    ) else (
      (mX9_canBe n s0 a0 x1).bind fun (v3, s2) =>
      if v3 = 0 then (
        some ((-1 : Int32), s2)
      ) else (
        (toR (gV 9 s2 a0 14)).bind fun b5 =>
        (toR (gV 9 s2 a0 11)).bind fun b6 =>
        (toI (gV 9 s2 a0 6)).bind fun v7 =>
        (mX6_seek n s2 b5 b6 v7 x2).bind fun s8 =>
        if x2 = (-1 : Int32) then (
          (toR (gV 9 s8 a0 14)).bind fun b11 =>
          (toI (gV 6 s8 b11 3)).bind fun v12 =>
          some (v12, s8)
        ) else (
          (toR (gV 9 s8 a0 14)).bind fun b9 =>
          (toI (gV 6 s8 b9 4)).bind fun v10 =>
          some (v10, s8)
        )
      )
    )
  )
theorem bX9_orders {G : Cx} {E : Ev} {n : Nat} (hRm : 26 ≤ E.1.frames ∧ 622 ≤ E.1.locals) {P : Int32 × Sg → Prop} (hQ : ∀ r s, P (r, s) → E.2.2.2.2 (some (.int r)) s) {s0 : Sg} {a0 : Nat} {x1 : Int32} {x2 : Int32} (h : Ok (mX9_orders n s0 a0 x1 x2) P) : BW G tX9_orders E 0 0 0 [(0, .ref a0), (1, .int x1), (2, .int x2)] [] s0 := by
  unfold mX9_orders at h
  obtain ⟨_, _, h⟩ := Ok.bind h
  refine BW.run [.iload_n 2, .iconst (-1)] (pc' := 2) (lv' := [(0, .ref a0), (1, .int x1), (2, .int x2)]) (st' := [.int (-1 : Int32), .int x2]) (by decide +kernel) rfl rfl ?_
  refine BW.icmp_lt 22 (by decide +kernel : decode tX9_orders.2.1 2 = .ok (.if_icmp .lt 20, 3)) (by decide) (fun hc => ?_) (fun hc => ?_)
  · have h := (Ok.ite h).1 hc
    refine BW.run [.iconst (-1)] (pc' := 23) (lv' := [(0, .ref a0), (1, .int x1), (2, .int x2)]) (st' := [.int (-1 : Int32)]) (by decide +kernel) rfl rfl ?_
    exact BW.iret (by decide +kernel : decode tX9_orders.2.1 23 = .ok (.ireturn, 1)) rfl (Nat.zero_le _) (Nat.zero_le _) (hQ _ _ (Ok.some h))
  · have h := (Ok.ite h).2 hc
    refine BW.run [.aload_n 0] (pc' := 6) (lv' := [(0, .ref a0), (1, .int x1), (2, .int x2)]) (st' := [.ref a0]) (by decide +kernel) rfl rfl ?_
    obtain ⟨v1, ev1, h⟩ := Ok.bind h
    refine BW.get (by decide +kernel : decode tX9_orders.2.1 6 = .ok (.getfield 22, 3)) ciX9 (k := 6) (by decide) lkF_X9_22 (toI_V ev1) ?_
    refine BW.run [.bipush 6] (pc' := 11) (lv' := [(0, .ref a0), (1, .int x1), (2, .int x2)]) (st' := [.int (6 : Int32), .int v1]) (by decide +kernel) rfl rfl ?_
    refine BW.icmp_gt 22 (by decide +kernel : decode tX9_orders.2.1 11 = .ok (.if_icmp .gt 11, 3)) (by decide) (fun hc => ?_) (fun hc => ?_)
    · have h := (Ok.ite h).1 hc
      refine BW.run [.iconst (-1)] (pc' := 23) (lv' := [(0, .ref a0), (1, .int x1), (2, .int x2)]) (st' := [.int (-1 : Int32)]) (by decide +kernel) rfl rfl ?_
      exact BW.iret (by decide +kernel : decode tX9_orders.2.1 23 = .ok (.ireturn, 1)) rfl (Nat.zero_le _) (Nat.zero_le _) (hQ _ _ (Ok.some h))
    · have h := (Ok.ite h).2 hc
      refine BW.run [.aload_n 0, .iload_n 1] (pc' := 16) (lv' := [(0, .ref a0), (1, .int x1), (2, .int x2)]) (st' := [.int x1, .ref a0]) (by decide +kernel) rfl rfl ?_
      refine BW.callV (As := [.int x1]) (st := []) (by decide +kernel : decode tX9_orders.2.1 16 = .ok (.invokevirtual 223, 3)) (DX9_canBe (Ok.bindK h)) mfX9_canBe lkM_X9_223 imX9_canBe selX9_canBe ciX9 (oX9_canBe (Ok.bindK h)).choose_spec rfl rfl (Nat.le_of_ble_eq_true rfl) ⟨Nat.le_trans (by decide) hRm.1, Nat.le_trans (by decide) hRm.2⟩ ⟨Nat.zero_le _, Nat.zero_le _⟩ ?_
      rintro _ s2 ⟨v3, rfl, h⟩
      show BW G tX9_orders E 0 0 19 [(0, .ref a0), (1, .int x1), (2, .int x2)] [.int v3] s2
      refine BW.if_ne 24 (by decide +kernel : decode tX9_orders.2.1 19 = .ok (.ifCond .ne 5, 3)) (by decide) (fun hc => ?_) (fun hc => ?_)
      · have h := (Ok.ite h).2 hc
        refine BW.run [.aload_n 0] (pc' := 25) (lv' := [(0, .ref a0), (1, .int x1), (2, .int x2)]) (st' := [.ref a0]) (by decide +kernel) rfl rfl ?_
        obtain ⟨b5, eb5, h⟩ := Ok.bind h
        refine BW.get (by decide +kernel : decode tX9_orders.2.1 25 = .ok (.getfield 66, 3)) ciX9 (k := 14) (by decide) lkF_X9_66 (toR_V eb5) ?_
        refine BW.run [.aload_n 0] (pc' := 29) (lv' := [(0, .ref a0), (1, .int x1), (2, .int x2)]) (st' := [.ref a0, .ref b5]) (by decide +kernel) rfl rfl ?_
        obtain ⟨b6, eb6, h⟩ := Ok.bind h
        refine BW.get (by decide +kernel : decode tX9_orders.2.1 29 = .ok (.getfield 45, 3)) ciX9 (k := 11) (by decide) lkF_X9_45 (toR_V eb6) ?_
        refine BW.run [.aload_n 0] (pc' := 33) (lv' := [(0, .ref a0), (1, .int x1), (2, .int x2)]) (st' := [.ref a0, .ref b6, .ref b5]) (by decide +kernel) rfl rfl ?_
        obtain ⟨v7, ev7, h⟩ := Ok.bind h
        refine BW.get (by decide +kernel : decode tX9_orders.2.1 33 = .ok (.getfield 22, 3)) ciX9 (k := 6) (by decide) lkF_X9_22 (toI_V ev7) ?_
        refine BW.run [.iload_n 2] (pc' := 37) (lv' := [(0, .ref a0), (1, .int x1), (2, .int x2)]) (st' := [.int x2, .int v7, .ref b6, .ref b5]) (by decide +kernel) rfl rfl ?_
        refine BW.callV (As := [.ref b6, .int v7, .int x2]) (st := []) (by decide +kernel : decode tX9_orders.2.1 37 = .ok (.invokevirtual 312, 3)) (DX6_seek (Ok.bindK h)) mfX6_seek lkM_X9_312 imX6_seek selX6_seek ciX6 (oX6_seek (Ok.bindK h)).choose_spec rfl rfl (Nat.le_of_ble_eq_true rfl) ⟨Nat.le_trans (by decide) hRm.1, Nat.le_trans (by decide) hRm.2⟩ ⟨Nat.zero_le _, Nat.zero_le _⟩ ?_
        rintro _ s8 ⟨rfl, h⟩
        show BW G tX9_orders E 0 0 40 [(0, .ref a0), (1, .int x1), (2, .int x2)] [] s8
        refine BW.run [.iload_n 2, .iconst (-1)] (pc' := 42) (lv' := [(0, .ref a0), (1, .int x1), (2, .int x2)]) (st' := [.int (-1 : Int32), .int x2]) (by decide +kernel) rfl rfl ?_
        refine BW.icmp_ne 55 (by decide +kernel : decode tX9_orders.2.1 42 = .ok (.if_icmp .ne 13, 3)) (by decide) (fun hc => ?_) (fun hc => ?_)
        · have h := (Ok.ite h).2 hc
          refine BW.run [.aload_n 0] (pc' := 56) (lv' := [(0, .ref a0), (1, .int x1), (2, .int x2)]) (st' := [.ref a0]) (by decide +kernel) rfl rfl ?_
          obtain ⟨b9, eb9, h⟩ := Ok.bind h
          refine BW.get (by decide +kernel : decode tX9_orders.2.1 56 = .ok (.getfield 66, 3)) ciX9 (k := 14) (by decide) lkF_X9_66 (toR_V eb9) ?_
          obtain ⟨v10, ev10, h⟩ := Ok.bind h
          refine BW.getN (by decide +kernel : decode tX9_orders.2.1 59 = .ok (.getfield 319, 3)) ciX6 (k := 4) (by decide) lkF_X9_319 (toI_V ev10) ?_
          exact BW.iret (by decide +kernel : decode tX9_orders.2.1 62 = .ok (.ireturn, 1)) rfl (Nat.zero_le _) (Nat.zero_le _) (hQ _ _ (Ok.some h))
        · have h := (Ok.ite h).1 hc
          refine BW.run [.aload_n 0] (pc' := 46) (lv' := [(0, .ref a0), (1, .int x1), (2, .int x2)]) (st' := [.ref a0]) (by decide +kernel) rfl rfl ?_
          obtain ⟨b11, eb11, h⟩ := Ok.bind h
          refine BW.get (by decide +kernel : decode tX9_orders.2.1 46 = .ok (.getfield 66, 3)) ciX9 (k := 14) (by decide) lkF_X9_66 (toR_V eb11) ?_
          obtain ⟨v12, ev12, h⟩ := Ok.bind h
          refine BW.getN (by decide +kernel : decode tX9_orders.2.1 49 = .ok (.getfield 316, 3)) ciX6 (k := 3) (by decide) lkF_X9_316 (toI_V ev12) ?_
          refine BW.goto 62 (by decide +kernel : decode tX9_orders.2.1 52 = .ok (.goto 10, 3)) (by decide) ?_
          exact BW.iret (by decide +kernel : decode tX9_orders.2.1 62 = .ok (.ireturn, 1)) rfl (Nat.zero_le _) (Nat.zero_le _) (hQ _ _ (Ok.some h))
      · have h := (Ok.ite h).1 hc
        refine BW.run [.iconst (-1)] (pc' := 23) (lv' := [(0, .ref a0), (1, .int x1), (2, .int x2)]) (st' := [.int (-1 : Int32)]) (by decide +kernel) rfl rfl ?_
        exact BW.iret (by decide +kernel : decode tX9_orders.2.1 23 = .ok (.ireturn, 1)) rfl (Nat.zero_le _) (Nat.zero_le _) (hQ _ _ (Ok.some h))
theorem oX9_orders {n : Nat} {P : Int32 × Sg → Prop} {s0 : Sg} {a0 : Nat} {x1 : Int32} {x2 : Int32} (h : Ok (mX9_orders n s0 a0 x1 x2) P) : ∃ n0, s0.2.1 a0 = some (9, n0) := by
  unfold mX9_orders at h
  exact Ok.isO h
theorem DX9_orders {G : Cx} {n : Nat} {P : Int32 × Sg → Prop} {s0 : Sg} {a0 : Nat} {x1 : Int32} {x2 : Int32} (h : Ok (mX9_orders n s0 a0 x1 x2) P) : BM G tX9_orders 26 622 0 0 [.ref a0, .int x1, .int x2] s0 (fun v s => ∃ r, v = some (.int r) ∧ P (r, s)) := by
  refine BM.of (by decide +kernel) (Nat.le_of_ble_eq_true rfl) ?_
  exact bX9_orders (E := (({ frames := 26, cells := 0, slots := 0, locals := 622 }), Aof s0, 0, 0, (fun v s => ∃ r, v = some (.int r) ∧ P (r, s)))) ⟨Nat.le_refl _, Nat.le_refl _⟩ (fun r s hp => ⟨r, rfl, hp⟩) h
set_option maxRecDepth 100000 in
set_option maxHeartbeats 4000000 in
def mX9_walk_26 (n : Nat) (s0 : Sg) (t0 : Int32) (a0 : Nat) (x1 : Int32) (x2 : Int32) : Option (Int32 × Sg) :=
  if t0 = 0 then (
    some ((-1 : Int32), s0)
  ) else (
    (toI (gV 9 s0 a0 6)).bind fun v1 =>
    if (8 : Int32) ≤ v1 then (
      some ((-1 : Int32), s0)
    ) else (
      (toR (gV 9 s0 a0 3)).bind fun b2 =>
      (toI (gV 9 s0 a0 0)).bind fun v3 =>
      (toI (gV 9 s0 a0 1)).bind fun v4 =>
      (mX7_wrongAt n s0 b2 v3 v4).bind fun (v6, s5) =>
      if v6 = (-1 : Int32) then (
        (nwO 8 9 (fun j => defaultValue (tyX8 j)) s5).bind fun (b8, s9) =>
        (toR (gV 9 s9 a0 3)).bind fun b10 =>
        (toI (gV 7 s9 b10 4)).bind fun v11 =>
        (toR (gV 9 s9 a0 3)).bind fun b12 =>
        (toI (gV 7 s9 b12 5)).bind fun v13 =>
        (mX9_cellAt n s9 a0 v11 v13).bind fun (v15, s14) =>
        (mX8_init n s14 b8 x1 x2 v15).bind fun s17 =>
        (toR (gV 9 s17 a0 4)).bind fun b18 =>
        (toR (gV 9 s17 a0 3)).bind fun b19 =>
        (mX5_play n s17 b18 b19 b8).bind fun s20 =>
        (mX8_listPlaces n s20 b8).bind fun s21 =>
        (toR (gV 9 s21 a0 3)).bind fun b22 =>
        (mX7_cut n s21 b22 (0 : Int32)).bind fun (v24, s23) =>
        (toR (gV 9 s23 a0 5)).bind fun b26 =>
        (toI (gV 9 s23 a0 6)).bind fun v27 =>
        (isO 8 s23 b8).bind fun _ =>
        (sV 13 s23 b26 v27 (.ref b8)).bind fun s28 =>
        (toI (gV 9 s28 a0 6)).bind fun v29 =>
        (pV 9 s28 a0 6 (.int (v29 + (1 : Int32)))).bind fun s30 =>
        (toI (gV 9 s30 a0 6)).bind fun v31 =>
        some ((v31 - (1 : Int32)), s30)
      ) else (
        some ((-1 : Int32), s5)
      )
    )
  )
set_option maxRecDepth 100000 in
set_option maxHeartbeats 4000000 in
theorem bX9_walk_26 {G : Cx} {E : Ev} {n : Nat} (hRm : 4 ≤ E.1.frames ∧ 94 ≤ E.1.locals) (hCm : 4 ≤ E.1.cells ∧ 387 ≤ E.1.slots ∧ 4 ≤ E.2.2.1 ∧ 387 ≤ E.2.2.2.1) {s0 : Sg} {t0 : Int32} {a0 : Nat} {x1 : Int32} {x2 : Int32} {P : Int32 × Sg → Prop} (hQ : ∀ r s, P (r, s) → E.2.2.2.2 (some (.int r)) s) (h : Ok (mX9_walk_26 n s0 t0 a0 x1 x2) P) : BW G tX9_walk E 0 0 26 [(0, .ref a0), (1, .int x1), (2, .int x2)] [.int t0] s0 := by
  unfold mX9_walk_26 at h
  refine BW.run [.istore_n 3, .iload_n 3] (pc' := 28) (lv' := [(0, .ref a0), (1, .int x1), (2, .int x2), (3, .int t0)]) (st' := [.int t0]) (by decide +kernel) rfl rfl ?_
  refine BW.if_eq 59 (by decide +kernel : decode tX9_walk.2.1 28 = .ok (.ifCond .eq 31, 3)) (by decide) (fun hc => ?_) (fun hc => ?_)
  · have h := (Ok.ite h).1 hc
    refine BW.run [.iconst (-1)] (pc' := 60) (lv' := [(0, .ref a0), (1, .int x1), (2, .int x2), (3, .int t0)]) (st' := [.int (-1 : Int32)]) (by decide +kernel) rfl rfl ?_
    exact BW.iret (by decide +kernel : decode tX9_walk.2.1 60 = .ok (.ireturn, 1)) rfl (Nat.le_trans (by decide) hCm.2.2.1) (Nat.le_trans (by decide) hCm.2.2.2) (hQ _ _ (Ok.some h))
  · have h := (Ok.ite h).2 hc
    refine BW.run [.aload_n 0] (pc' := 32) (lv' := [(0, .ref a0), (1, .int x1), (2, .int x2), (3, .int t0)]) (st' := [.ref a0]) (by decide +kernel) rfl rfl ?_
    obtain ⟨v1, ev1, h⟩ := Ok.bind h
    refine BW.get (by decide +kernel : decode tX9_walk.2.1 32 = .ok (.getfield 22, 3)) ciX9 (k := 6) (by decide) lkF_X9_22 (toI_V ev1) ?_
    refine BW.run [.bipush 8] (pc' := 37) (lv' := [(0, .ref a0), (1, .int x1), (2, .int x2), (3, .int t0)]) (st' := [.int (8 : Int32), .int v1]) (by decide +kernel) rfl rfl ?_
    refine BW.icmp_ge 59 (by decide +kernel : decode tX9_walk.2.1 37 = .ok (.if_icmp .ge 22, 3)) (by decide) (fun hc => ?_) (fun hc => ?_)
    · have h := (Ok.ite h).1 hc
      refine BW.run [.iconst (-1)] (pc' := 60) (lv' := [(0, .ref a0), (1, .int x1), (2, .int x2), (3, .int t0)]) (st' := [.int (-1 : Int32)]) (by decide +kernel) rfl rfl ?_
      exact BW.iret (by decide +kernel : decode tX9_walk.2.1 60 = .ok (.ireturn, 1)) rfl (Nat.le_trans (by decide) hCm.2.2.1) (Nat.le_trans (by decide) hCm.2.2.2) (hQ _ _ (Ok.some h))
    · have h := (Ok.ite h).2 hc
      refine BW.run [.aload_n 0] (pc' := 41) (lv' := [(0, .ref a0), (1, .int x1), (2, .int x2), (3, .int t0)]) (st' := [.ref a0]) (by decide +kernel) rfl rfl ?_
      obtain ⟨b2, eb2, h⟩ := Ok.bind h
      refine BW.get (by decide +kernel : decode tX9_walk.2.1 41 = .ok (.getfield 12, 3)) ciX9 (k := 3) (by decide) lkF_X9_12 (toR_V eb2) ?_
      refine BW.run [.aload_n 0] (pc' := 45) (lv' := [(0, .ref a0), (1, .int x1), (2, .int x2), (3, .int t0)]) (st' := [.ref a0, .ref b2]) (by decide +kernel) rfl rfl ?_
      obtain ⟨v3, ev3, h⟩ := Ok.bind h
      refine BW.get (by decide +kernel : decode tX9_walk.2.1 45 = .ok (.getfield 92, 3)) ciX9 (k := 0) (by decide) lkF_X9_92 (toI_V ev3) ?_
      refine BW.run [.aload_n 0] (pc' := 49) (lv' := [(0, .ref a0), (1, .int x1), (2, .int x2), (3, .int t0)]) (st' := [.ref a0, .int v3, .ref b2]) (by decide +kernel) rfl rfl ?_
      obtain ⟨v4, ev4, h⟩ := Ok.bind h
      refine BW.get (by decide +kernel : decode tX9_walk.2.1 49 = .ok (.getfield 95, 3)) ciX9 (k := 1) (by decide) lkF_X9_95 (toI_V ev4) ?_
      refine BW.callV (As := [.int v3, .int v4]) (st := []) (by decide +kernel : decode tX9_walk.2.1 52 = .ok (.invokevirtual 121, 3)) (DX7_wrongAt (Ok.bindK h)) mfX7_wrongAt lkM_X9_121 imX7_wrongAt selX7_wrongAt ciX7 (oX7_wrongAt (Ok.bindK h)).choose_spec rfl rfl (Nat.le_of_ble_eq_true rfl) ⟨Nat.le_trans (by decide) hRm.1, Nat.le_trans (by decide) hRm.2⟩ ⟨Nat.le_trans (by decide) hCm.1, Nat.le_trans (by decide) hCm.2.1⟩ ?_
      rintro _ s5 ⟨v6, rfl, h⟩
      show BW G tX9_walk E 0 0 55 [(0, .ref a0), (1, .int x1), (2, .int x2), (3, .int t0)] [.int v6] s5
      refine BW.run [.iconst (-1)] (pc' := 56) (lv' := [(0, .ref a0), (1, .int x1), (2, .int x2), (3, .int t0)]) (st' := [.int (-1 : Int32), .int v6]) (by decide +kernel) rfl rfl ?_
      refine BW.icmp_eq 61 (by decide +kernel : decode tX9_walk.2.1 56 = .ok (.if_icmp .eq 5, 3)) (by decide) (fun hc => ?_) (fun hc => ?_)
      · have h := (Ok.ite h).1 hc
        obtain ⟨⟨b8, s9⟩, es9, h⟩ := Ok.bind h
        refine BW.newB (by decide +kernel : decode tX9_walk.2.1 61 = .ok (.new 16, 3)) ciX8 lkC_X9_16 ins8 ini8 (Nat.le_trans (by decide) hCm.1) (Nat.le_trans (by decide) hCm.2.1) es9 ?_
        show BW G tX9_walk E 1 9 64 [(0, .ref a0), (1, .int x1), (2, .int x2), (3, .int t0)] (.ref b8 :: []) s9
        refine BW.run [.dup, .iload_n 1, .iload_n 2, .aload_n 0, .aload_n 0] (pc' := 69) (lv' := [(0, .ref a0), (1, .int x1), (2, .int x2), (3, .int t0)]) (st' := [.ref a0, .ref a0, .int x2, .int x1, .ref b8, .ref b8]) (by decide +kernel) rfl rfl ?_
        obtain ⟨b10, eb10, h⟩ := Ok.bind h
        refine BW.get (by decide +kernel : decode tX9_walk.2.1 69 = .ok (.getfield 12, 3)) ciX9 (k := 3) (by decide) lkF_X9_12 (toR_V eb10) ?_
        obtain ⟨v11, ev11, h⟩ := Ok.bind h
        refine BW.getN (by decide +kernel : decode tX9_walk.2.1 72 = .ok (.getfield 124, 3)) ciX7 (k := 4) (by decide) lkF_X9_124 (toI_V ev11) ?_
        refine BW.run [.aload_n 0] (pc' := 76) (lv' := [(0, .ref a0), (1, .int x1), (2, .int x2), (3, .int t0)]) (st' := [.ref a0, .int v11, .ref a0, .int x2, .int x1, .ref b8, .ref b8]) (by decide +kernel) rfl rfl ?_
        obtain ⟨b12, eb12, h⟩ := Ok.bind h
        refine BW.get (by decide +kernel : decode tX9_walk.2.1 76 = .ok (.getfield 12, 3)) ciX9 (k := 3) (by decide) lkF_X9_12 (toR_V eb12) ?_
        obtain ⟨v13, ev13, h⟩ := Ok.bind h
        refine BW.getN (by decide +kernel : decode tX9_walk.2.1 79 = .ok (.getfield 127, 3)) ciX7 (k := 5) (by decide) lkF_X9_127 (toI_V ev13) ?_
        refine BW.callV (As := [.int v11, .int v13]) (st := [.int x2, .int x1, .ref b8, .ref b8]) (by decide +kernel : decode tX9_walk.2.1 82 = .ok (.invokevirtual 130, 3)) (DX9_cellAt (Ok.bindK h)) mfX9_cellAt lkM_X9_130 imX9_cellAt selX9_cellAt ciX9 (oX9_cellAt (Ok.bindK h)).choose_spec rfl rfl (Nat.le_of_ble_eq_true rfl) ⟨Nat.le_trans (by decide) hRm.1, Nat.le_trans (by decide) hRm.2⟩ ⟨Nat.le_trans (by decide) hCm.1, Nat.le_trans (by decide) hCm.2.1⟩ ?_
        rintro _ s14 ⟨v15, rfl, h⟩
        show BW G tX9_walk E 1 9 85 [(0, .ref a0), (1, .int x1), (2, .int x2), (3, .int t0)] [.int v15, .int x2, .int x1, .ref b8, .ref b8] s14
        refine BW.callI (As := [.int x1, .int x2, .int v15]) (st := [.ref b8]) (by decide +kernel : decode tX9_walk.2.1 85 = .ok (.invokespecial 133, 3)) (DX8_init (Ok.bindK h)) mfX8_init rfl lkM_X9_133 imX8_init rfl rfl rfl (Nat.le_of_ble_eq_true rfl) ⟨Nat.le_trans (by decide) hRm.1, Nat.le_trans (by decide) hRm.2⟩ ⟨Nat.le_trans (by decide) hCm.1, Nat.le_trans (by decide) hCm.2.1⟩ ?_
        rintro _ s17 ⟨rfl, h⟩
        show BW G tX9_walk E 4 387 88 [(0, .ref a0), (1, .int x1), (2, .int x2), (3, .int t0)] [.ref b8] s17
        refine BW.run [.astore 4, .aload_n 0] (pc' := 91) (lv' := [(0, .ref a0), (1, .int x1), (2, .int x2), (3, .int t0), (4, .ref b8)]) (st' := [.ref a0]) (by decide +kernel) rfl rfl ?_
        obtain ⟨b18, eb18, h⟩ := Ok.bind h
        refine BW.get (by decide +kernel : decode tX9_walk.2.1 91 = .ok (.getfield 106, 3)) ciX9 (k := 4) (by decide) lkF_X9_106 (toR_V eb18) ?_
        refine BW.run [.aload_n 0] (pc' := 95) (lv' := [(0, .ref a0), (1, .int x1), (2, .int x2), (3, .int t0), (4, .ref b8)]) (st' := [.ref a0, .ref b18]) (by decide +kernel) rfl rfl ?_
        obtain ⟨b19, eb19, h⟩ := Ok.bind h
        refine BW.get (by decide +kernel : decode tX9_walk.2.1 95 = .ok (.getfield 12, 3)) ciX9 (k := 3) (by decide) lkF_X9_12 (toR_V eb19) ?_
        refine BW.run [.aload 4] (pc' := 100) (lv' := [(0, .ref a0), (1, .int x1), (2, .int x2), (3, .int t0), (4, .ref b8)]) (st' := [.ref b8, .ref b19, .ref b18]) (by decide +kernel) rfl rfl ?_
        refine BW.callV (As := [.ref b19, .ref b8]) (st := []) (by decide +kernel : decode tX9_walk.2.1 100 = .ok (.invokevirtual 136, 3)) (DX5_play (Ok.bindK h)) mfX5_play lkM_X9_136 imX5_play selX5_play ciX5 (oX5_play (Ok.bindK h)).choose_spec rfl rfl (Nat.le_of_ble_eq_true rfl) ⟨Nat.le_trans (by decide) hRm.1, Nat.le_trans (by decide) hRm.2⟩ ⟨Nat.le_trans (by decide) hCm.1, Nat.le_trans (by decide) hCm.2.1⟩ ?_
        rintro _ s20 ⟨rfl, h⟩
        show BW G tX9_walk E 4 387 103 [(0, .ref a0), (1, .int x1), (2, .int x2), (3, .int t0), (4, .ref b8)] [] s20
        refine BW.run [.aload 4] (pc' := 105) (lv' := [(0, .ref a0), (1, .int x1), (2, .int x2), (3, .int t0), (4, .ref b8)]) (st' := [.ref b8]) (by decide +kernel) rfl rfl ?_
        refine BW.callV (As := []) (st := []) (by decide +kernel : decode tX9_walk.2.1 105 = .ok (.invokevirtual 140, 3)) (DX8_listPlaces (Ok.bindK h)) mfX8_listPlaces lkM_X9_140 imX8_listPlaces selX8_listPlaces ciX8 (oX8_listPlaces (Ok.bindK h)).choose_spec rfl rfl (Nat.le_of_ble_eq_true rfl) ⟨Nat.le_trans (by decide) hRm.1, Nat.le_trans (by decide) hRm.2⟩ ⟨Nat.le_trans (by decide) hCm.1, Nat.le_trans (by decide) hCm.2.1⟩ ?_
        rintro _ s21 ⟨rfl, h⟩
        show BW G tX9_walk E 4 387 108 [(0, .ref a0), (1, .int x1), (2, .int x2), (3, .int t0), (4, .ref b8)] [] s21
        refine BW.run [.aload_n 0] (pc' := 109) (lv' := [(0, .ref a0), (1, .int x1), (2, .int x2), (3, .int t0), (4, .ref b8)]) (st' := [.ref a0]) (by decide +kernel) rfl rfl ?_
        obtain ⟨b22, eb22, h⟩ := Ok.bind h
        refine BW.get (by decide +kernel : decode tX9_walk.2.1 109 = .ok (.getfield 12, 3)) ciX9 (k := 3) (by decide) lkF_X9_12 (toR_V eb22) ?_
        refine BW.run [.iconst 0] (pc' := 113) (lv' := [(0, .ref a0), (1, .int x1), (2, .int x2), (3, .int t0), (4, .ref b8)]) (st' := [.int (0 : Int32), .ref b22]) (by decide +kernel) rfl rfl ?_
        refine BW.callV (As := [.int (0 : Int32)]) (st := []) (by decide +kernel : decode tX9_walk.2.1 113 = .ok (.invokevirtual 118, 3)) (DX7_cut (Ok.bindK h)) mfX7_cut lkM_X9_118 imX7_cut selX7_cut ciX7 (oX7_cut (Ok.bindK h)).choose_spec rfl rfl (Nat.le_of_ble_eq_true rfl) ⟨Nat.le_trans (by decide) hRm.1, Nat.le_trans (by decide) hRm.2⟩ ⟨Nat.le_trans (by decide) hCm.1, Nat.le_trans (by decide) hCm.2.1⟩ ?_
        rintro _ s23 ⟨v24, rfl, h⟩
        show BW G tX9_walk E 4 387 116 [(0, .ref a0), (1, .int x1), (2, .int x2), (3, .int t0), (4, .ref b8)] [.int v24] s23
        refine BW.run [.pop, .aload_n 0] (pc' := 118) (lv' := [(0, .ref a0), (1, .int x1), (2, .int x2), (3, .int t0), (4, .ref b8)]) (st' := [.ref a0]) (by decide +kernel) rfl rfl ?_
        obtain ⟨b26, eb26, h⟩ := Ok.bind h
        refine BW.get (by decide +kernel : decode tX9_walk.2.1 118 = .ok (.getfield 18, 3)) ciX9 (k := 5) (by decide) lkF_X9_18 (toR_V eb26) ?_
        refine BW.run [.aload_n 0] (pc' := 122) (lv' := [(0, .ref a0), (1, .int x1), (2, .int x2), (3, .int t0), (4, .ref b8)]) (st' := [.ref a0, .ref b26]) (by decide +kernel) rfl rfl ?_
        obtain ⟨v27, ev27, h⟩ := Ok.bind h
        refine BW.get (by decide +kernel : decode tX9_walk.2.1 122 = .ok (.getfield 22, 3)) ciX9 (k := 6) (by decide) lkF_X9_22 (toI_V ev27) ?_
        refine BW.run [.aload 4] (pc' := 127) (lv' := [(0, .ref a0), (1, .int x1), (2, .int x2), (3, .int t0), (4, .ref b8)]) (st' := [.ref b8, .int v27, .ref b26]) (by decide +kernel) rfl rfl ?_
        obtain ⟨_, us28, h⟩ := Ok.bind h
        obtain ⟨s28, es28, h⟩ := Ok.bind h
        refine BW.aast (by decide +kernel : decode tX9_walk.2.1 127 = .ok (.aastore, 1)) (by decide) ciX8 rfl (isO_spec us28).choose_spec es28 ?_
        refine BW.run [.aload_n 0, .dup] (pc' := 130) (lv' := [(0, .ref a0), (1, .int x1), (2, .int x2), (3, .int t0), (4, .ref b8)]) (st' := [.ref a0, .ref a0]) (by decide +kernel) rfl rfl ?_
        obtain ⟨v29, ev29, h⟩ := Ok.bind h
        refine BW.get (by decide +kernel : decode tX9_walk.2.1 130 = .ok (.getfield 22, 3)) ciX9 (k := 6) (by decide) lkF_X9_22 (toI_V ev29) ?_
        refine BW.run [.iconst 1, .iadd] (pc' := 135) (lv' := [(0, .ref a0), (1, .int x1), (2, .int x2), (3, .int t0), (4, .ref b8)]) (st' := [.int (v29 + (1 : Int32)), .ref a0]) (by decide +kernel) rfl rfl ?_
        obtain ⟨s30, es30, h⟩ := Ok.bind h
        refine BW.put (by decide +kernel : decode tX9_walk.2.1 135 = .ok (.putfield 22, 3)) ciX9 (k := 6) (by decide) lkF_X9_22 rfl rfl rfl es30 ?_
        refine BW.run [.aload_n 0] (pc' := 139) (lv' := [(0, .ref a0), (1, .int x1), (2, .int x2), (3, .int t0), (4, .ref b8)]) (st' := [.ref a0]) (by decide +kernel) rfl rfl ?_
        obtain ⟨v31, ev31, h⟩ := Ok.bind h
        refine BW.get (by decide +kernel : decode tX9_walk.2.1 139 = .ok (.getfield 22, 3)) ciX9 (k := 6) (by decide) lkF_X9_22 (toI_V ev31) ?_
        refine BW.run [.iconst 1, .isub] (pc' := 144) (lv' := [(0, .ref a0), (1, .int x1), (2, .int x2), (3, .int t0), (4, .ref b8)]) (st' := [.int (v31 - (1 : Int32))]) (by decide +kernel) rfl rfl ?_
        exact BW.iret (by decide +kernel : decode tX9_walk.2.1 144 = .ok (.ireturn, 1)) rfl (Nat.le_trans (by decide) hCm.2.2.1) (Nat.le_trans (by decide) hCm.2.2.2) (hQ _ _ (Ok.some h))
      · have h := (Ok.ite h).2 hc
        refine BW.run [.iconst (-1)] (pc' := 60) (lv' := [(0, .ref a0), (1, .int x1), (2, .int x2), (3, .int t0)]) (st' := [.int (-1 : Int32)]) (by decide +kernel) rfl rfl ?_
        exact BW.iret (by decide +kernel : decode tX9_walk.2.1 60 = .ok (.ireturn, 1)) rfl (Nat.le_trans (by decide) hCm.2.2.1) (Nat.le_trans (by decide) hCm.2.2.2) (hQ _ _ (Ok.some h))
set_option maxRecDepth 100000 in
set_option maxHeartbeats 4000000 in
def mX9_walk_25 (n : Nat) (s0 : Sg) (a0 : Nat) (x1 : Int32) (x2 : Int32) : Option (Int32 × Sg) :=
  mX9_walk_26 n s0 (0 : Int32) a0 x1 x2
set_option maxRecDepth 100000 in
set_option maxHeartbeats 4000000 in
theorem bX9_walk_25 {G : Cx} {E : Ev} {n : Nat} (hRm : 4 ≤ E.1.frames ∧ 94 ≤ E.1.locals) (hCm : 4 ≤ E.1.cells ∧ 387 ≤ E.1.slots ∧ 4 ≤ E.2.2.1 ∧ 387 ≤ E.2.2.2.1) {s0 : Sg} {a0 : Nat} {x1 : Int32} {x2 : Int32} {P : Int32 × Sg → Prop} (hQ : ∀ r s, P (r, s) → E.2.2.2.2 (some (.int r)) s) (h : Ok (mX9_walk_25 n s0 a0 x1 x2) P) : BW G tX9_walk E 0 0 25 [(0, .ref a0), (1, .int x1), (2, .int x2)] [] s0 := by
  unfold mX9_walk_25 at h
  refine BW.run [.iconst 0] (pc' := 26) (lv' := [(0, .ref a0), (1, .int x1), (2, .int x2)]) (st' := [.int (0 : Int32)]) (by decide +kernel) rfl rfl ?_
  exact bX9_walk_26 hRm hCm hQ h
set_option maxRecDepth 100000 in
set_option maxHeartbeats 4000000 in
def mX9_walk (n : Nat) (s0 : Sg) (a0 : Nat) (x1 : Int32) (x2 : Int32) : Option (Int32 × Sg) :=
  (isO 9 s0 a0).bind fun _ =>
  if x1 < (1 : Int32) then (
    mX9_walk_25 n s0 a0 x1 x2
  ) else (
    if (9 : Int32) < x1 then (
      mX9_walk_25 n s0 a0 x1 x2
    ) else (
      if x2 < 0 then (
        mX9_walk_25 n s0 a0 x1 x2
      ) else (
        if (9 : Int32) < x2 then (
          mX9_walk_25 n s0 a0 x1 x2
        ) else (
          mX9_walk_26 n s0 (1 : Int32) a0 x1 x2
        )
      )
    )
  )
set_option maxRecDepth 100000 in
set_option maxHeartbeats 4000000 in
theorem bX9_walk {G : Cx} {E : Ev} {n : Nat} (hRm : 4 ≤ E.1.frames ∧ 94 ≤ E.1.locals) (hCm : 4 ≤ E.1.cells ∧ 387 ≤ E.1.slots ∧ 4 ≤ E.2.2.1 ∧ 387 ≤ E.2.2.2.1) {P : Int32 × Sg → Prop} (hQ : ∀ r s, P (r, s) → E.2.2.2.2 (some (.int r)) s) {s0 : Sg} {a0 : Nat} {x1 : Int32} {x2 : Int32} (h : Ok (mX9_walk n s0 a0 x1 x2) P) : BW G tX9_walk E 0 0 0 [(0, .ref a0), (1, .int x1), (2, .int x2)] [] s0 := by
  unfold mX9_walk at h
  obtain ⟨_, _, h⟩ := Ok.bind h
  refine BW.run [.iload_n 1, .iconst 1] (pc' := 2) (lv' := [(0, .ref a0), (1, .int x1), (2, .int x2)]) (st' := [.int (1 : Int32), .int x1]) (by decide +kernel) rfl rfl ?_
  refine BW.icmp_lt 25 (by decide +kernel : decode tX9_walk.2.1 2 = .ok (.if_icmp .lt 23, 3)) (by decide) (fun hc => ?_) (fun hc => ?_)
  · have h := (Ok.ite h).1 hc
    exact bX9_walk_25 hRm hCm hQ h
  · have h := (Ok.ite h).2 hc
    refine BW.run [.iload_n 1, .bipush 9] (pc' := 8) (lv' := [(0, .ref a0), (1, .int x1), (2, .int x2)]) (st' := [.int (9 : Int32), .int x1]) (by decide +kernel) rfl rfl ?_
    refine BW.icmp_gt 25 (by decide +kernel : decode tX9_walk.2.1 8 = .ok (.if_icmp .gt 17, 3)) (by decide) (fun hc => ?_) (fun hc => ?_)
    · have h := (Ok.ite h).1 hc
      exact bX9_walk_25 hRm hCm hQ h
    · have h := (Ok.ite h).2 hc
      refine BW.run [.iload_n 2] (pc' := 12) (lv' := [(0, .ref a0), (1, .int x1), (2, .int x2)]) (st' := [.int x2]) (by decide +kernel) rfl rfl ?_
      refine BW.if_lt 25 (by decide +kernel : decode tX9_walk.2.1 12 = .ok (.ifCond .lt 13, 3)) (by decide) (fun hc => ?_) (fun hc => ?_)
      · have h := (Ok.ite h).1 hc
        exact bX9_walk_25 hRm hCm hQ h
      · have h := (Ok.ite h).2 hc
        refine BW.run [.iload_n 2, .bipush 9] (pc' := 18) (lv' := [(0, .ref a0), (1, .int x1), (2, .int x2)]) (st' := [.int (9 : Int32), .int x2]) (by decide +kernel) rfl rfl ?_
        refine BW.icmp_gt 25 (by decide +kernel : decode tX9_walk.2.1 18 = .ok (.if_icmp .gt 7, 3)) (by decide) (fun hc => ?_) (fun hc => ?_)
        · have h := (Ok.ite h).1 hc
          exact bX9_walk_25 hRm hCm hQ h
        · have h := (Ok.ite h).2 hc
          refine BW.run [.iconst 1] (pc' := 22) (lv' := [(0, .ref a0), (1, .int x1), (2, .int x2)]) (st' := [.int (1 : Int32)]) (by decide +kernel) rfl rfl ?_
          refine BW.goto 26 (by decide +kernel : decode tX9_walk.2.1 22 = .ok (.goto 4, 3)) (by decide) ?_
          exact bX9_walk_26 hRm hCm hQ h
set_option maxRecDepth 100000 in
set_option maxHeartbeats 4000000 in
theorem oX9_walk {n : Nat} {P : Int32 × Sg → Prop} {s0 : Sg} {a0 : Nat} {x1 : Int32} {x2 : Int32} (h : Ok (mX9_walk n s0 a0 x1 x2) P) : ∃ n0, s0.2.1 a0 = some (9, n0) := by
  unfold mX9_walk at h
  exact Ok.isO h
set_option maxRecDepth 100000 in
set_option maxHeartbeats 4000000 in
theorem DX9_walk {G : Cx} {n : Nat} {P : Int32 × Sg → Prop} {s0 : Sg} {a0 : Nat} {x1 : Int32} {x2 : Int32} (h : Ok (mX9_walk n s0 a0 x1 x2) P) : BM G tX9_walk 4 94 4 387 [.ref a0, .int x1, .int x2] s0 (fun v s => ∃ r, v = some (.int r) ∧ P (r, s)) := by
  refine BM.of (by decide +kernel) (Nat.le_of_ble_eq_true rfl) ?_
  exact bX9_walk (E := (({ frames := 4, cells := 4, slots := 387, locals := 94 }), Aof s0, 4, 387, (fun v s => ∃ r, v = some (.int r) ∧ P (r, s)))) ⟨Nat.le_refl _, Nat.le_refl _⟩ ⟨Nat.le_refl _, Nat.le_refl _, Nat.le_refl _, Nat.le_refl _⟩ (fun r s hp => ⟨r, rfl, hp⟩) h
def mX9_walkers (n : Nat) (s0 : Sg) (a0 : Nat) (x1 : Int32) : Option (Int32 × Sg) :=
  (isO 9 s0 a0).bind fun _ =>
  (toI (gV 9 s0 a0 6)).bind fun v1 =>
  if (6 : Int32) < v1 then (
    some ((-1 : Int32), s0)
  ) else (
    (mX9_canBe n s0 a0 x1).bind fun (v3, s2) =>
    if v3 = 0 then (
      some ((-1 : Int32), s2)
    ) else (
      (toI (gV 9 s2 a0 6)).bind fun v5 =>
      (toR (gV 9 s2 a0 13)).bind fun b6 =>
      (toR (gV 9 s2 a0 11)).bind fun b7 =>
      (toR (gV 9 s2 a0 5)).bind fun b8 =>
      (toI (gV 9 s2 a0 6)).bind fun v9 =>
      (mX0_mostLinks n s2 b6 b7 b8 v9).bind fun (v11, s10) =>
      some ((v5 - v11), s10)
    )
  )
theorem bX9_walkers {G : Cx} {E : Ev} {n : Nat} (hRm : 25 ≤ E.1.frames ∧ 640 ≤ E.1.locals) {P : Int32 × Sg → Prop} (hQ : ∀ r s, P (r, s) → E.2.2.2.2 (some (.int r)) s) {s0 : Sg} {a0 : Nat} {x1 : Int32} (h : Ok (mX9_walkers n s0 a0 x1) P) : BW G tX9_walkers E 0 0 0 [(0, .ref a0), (1, .int x1)] [] s0 := by
  unfold mX9_walkers at h
  obtain ⟨_, _, h⟩ := Ok.bind h
  refine BW.run [.aload_n 0] (pc' := 1) (lv' := [(0, .ref a0), (1, .int x1)]) (st' := [.ref a0]) (by decide +kernel) rfl rfl ?_
  obtain ⟨v1, ev1, h⟩ := Ok.bind h
  refine BW.get (by decide +kernel : decode tX9_walkers.2.1 1 = .ok (.getfield 22, 3)) ciX9 (k := 6) (by decide) lkF_X9_22 (toI_V ev1) ?_
  refine BW.run [.bipush 6] (pc' := 6) (lv' := [(0, .ref a0), (1, .int x1)]) (st' := [.int (6 : Int32), .int v1]) (by decide +kernel) rfl rfl ?_
  refine BW.icmp_gt 17 (by decide +kernel : decode tX9_walkers.2.1 6 = .ok (.if_icmp .gt 11, 3)) (by decide) (fun hc => ?_) (fun hc => ?_)
  · have h := (Ok.ite h).1 hc
    refine BW.run [.iconst (-1)] (pc' := 18) (lv' := [(0, .ref a0), (1, .int x1)]) (st' := [.int (-1 : Int32)]) (by decide +kernel) rfl rfl ?_
    exact BW.iret (by decide +kernel : decode tX9_walkers.2.1 18 = .ok (.ireturn, 1)) rfl (Nat.zero_le _) (Nat.zero_le _) (hQ _ _ (Ok.some h))
  · have h := (Ok.ite h).2 hc
    refine BW.run [.aload_n 0, .iload_n 1] (pc' := 11) (lv' := [(0, .ref a0), (1, .int x1)]) (st' := [.int x1, .ref a0]) (by decide +kernel) rfl rfl ?_
    refine BW.callV (As := [.int x1]) (st := []) (by decide +kernel : decode tX9_walkers.2.1 11 = .ok (.invokevirtual 223, 3)) (DX9_canBe (Ok.bindK h)) mfX9_canBe lkM_X9_223 imX9_canBe selX9_canBe ciX9 (oX9_canBe (Ok.bindK h)).choose_spec rfl rfl (Nat.le_of_ble_eq_true rfl) ⟨Nat.le_trans (by decide) hRm.1, Nat.le_trans (by decide) hRm.2⟩ ⟨Nat.zero_le _, Nat.zero_le _⟩ ?_
    rintro _ s2 ⟨v3, rfl, h⟩
    show BW G tX9_walkers E 0 0 14 [(0, .ref a0), (1, .int x1)] [.int v3] s2
    refine BW.if_ne 19 (by decide +kernel : decode tX9_walkers.2.1 14 = .ok (.ifCond .ne 5, 3)) (by decide) (fun hc => ?_) (fun hc => ?_)
    · have h := (Ok.ite h).2 hc
      refine BW.run [.aload_n 0] (pc' := 20) (lv' := [(0, .ref a0), (1, .int x1)]) (st' := [.ref a0]) (by decide +kernel) rfl rfl ?_
      obtain ⟨v5, ev5, h⟩ := Ok.bind h
      refine BW.get (by decide +kernel : decode tX9_walkers.2.1 20 = .ok (.getfield 22, 3)) ciX9 (k := 6) (by decide) lkF_X9_22 (toI_V ev5) ?_
      refine BW.run [.aload_n 0] (pc' := 24) (lv' := [(0, .ref a0), (1, .int x1)]) (st' := [.ref a0, .int v5]) (by decide +kernel) rfl rfl ?_
      obtain ⟨b6, eb6, h⟩ := Ok.bind h
      refine BW.get (by decide +kernel : decode tX9_walkers.2.1 24 = .ok (.getfield 59, 3)) ciX9 (k := 13) (by decide) lkF_X9_59 (toR_V eb6) ?_
      refine BW.run [.aload_n 0] (pc' := 28) (lv' := [(0, .ref a0), (1, .int x1)]) (st' := [.ref a0, .ref b6, .int v5]) (by decide +kernel) rfl rfl ?_
      obtain ⟨b7, eb7, h⟩ := Ok.bind h
      refine BW.get (by decide +kernel : decode tX9_walkers.2.1 28 = .ok (.getfield 45, 3)) ciX9 (k := 11) (by decide) lkF_X9_45 (toR_V eb7) ?_
      refine BW.run [.aload_n 0] (pc' := 32) (lv' := [(0, .ref a0), (1, .int x1)]) (st' := [.ref a0, .ref b7, .ref b6, .int v5]) (by decide +kernel) rfl rfl ?_
      obtain ⟨b8, eb8, h⟩ := Ok.bind h
      refine BW.get (by decide +kernel : decode tX9_walkers.2.1 32 = .ok (.getfield 18, 3)) ciX9 (k := 5) (by decide) lkF_X9_18 (toR_V eb8) ?_
      refine BW.run [.aload_n 0] (pc' := 36) (lv' := [(0, .ref a0), (1, .int x1)]) (st' := [.ref a0, .ref b8, .ref b7, .ref b6, .int v5]) (by decide +kernel) rfl rfl ?_
      obtain ⟨v9, ev9, h⟩ := Ok.bind h
      refine BW.get (by decide +kernel : decode tX9_walkers.2.1 36 = .ok (.getfield 22, 3)) ciX9 (k := 6) (by decide) lkF_X9_22 (toI_V ev9) ?_
      refine BW.callV (As := [.ref b7, .ref b8, .int v9]) (st := [.int v5]) (by decide +kernel : decode tX9_walkers.2.1 39 = .ok (.invokevirtual 280, 3)) (DX0_mostLinks (Ok.bindK h)) mfX0_mostLinks lkM_X9_280 imX0_mostLinks selX0_mostLinks ciX0 (oX0_mostLinks (Ok.bindK h)).choose_spec rfl rfl (Nat.le_of_ble_eq_true rfl) ⟨Nat.le_trans (by decide) hRm.1, Nat.le_trans (by decide) hRm.2⟩ ⟨Nat.zero_le _, Nat.zero_le _⟩ ?_
      rintro _ s10 ⟨v11, rfl, h⟩
      show BW G tX9_walkers E 0 0 42 [(0, .ref a0), (1, .int x1)] [.int v11, .int v5] s10
      refine BW.run [.isub] (pc' := 43) (lv' := [(0, .ref a0), (1, .int x1)]) (st' := [.int (v5 - v11)]) (by decide +kernel) rfl rfl ?_
      exact BW.iret (by decide +kernel : decode tX9_walkers.2.1 43 = .ok (.ireturn, 1)) rfl (Nat.zero_le _) (Nat.zero_le _) (hQ _ _ (Ok.some h))
    · have h := (Ok.ite h).1 hc
      refine BW.run [.iconst (-1)] (pc' := 18) (lv' := [(0, .ref a0), (1, .int x1)]) (st' := [.int (-1 : Int32)]) (by decide +kernel) rfl rfl ?_
      exact BW.iret (by decide +kernel : decode tX9_walkers.2.1 18 = .ok (.ireturn, 1)) rfl (Nat.zero_le _) (Nat.zero_le _) (hQ _ _ (Ok.some h))
theorem oX9_walkers {n : Nat} {P : Int32 × Sg → Prop} {s0 : Sg} {a0 : Nat} {x1 : Int32} (h : Ok (mX9_walkers n s0 a0 x1) P) : ∃ n0, s0.2.1 a0 = some (9, n0) := by
  unfold mX9_walkers at h
  exact Ok.isO h
theorem DX9_walkers {G : Cx} {n : Nat} {P : Int32 × Sg → Prop} {s0 : Sg} {a0 : Nat} {x1 : Int32} (h : Ok (mX9_walkers n s0 a0 x1) P) : BM G tX9_walkers 25 640 0 0 [.ref a0, .int x1] s0 (fun v s => ∃ r, v = some (.int r) ∧ P (r, s)) := by
  refine BM.of (by decide +kernel) (Nat.le_of_ble_eq_true rfl) ?_
  exact bX9_walkers (E := (({ frames := 25, cells := 0, slots := 0, locals := 640 }), Aof s0, 0, 0, (fun v s => ∃ r, v = some (.int r) ∧ P (r, s)))) ⟨Nat.le_refl _, Nat.le_refl _⟩ (fun r s hp => ⟨r, rfl, hp⟩) h
