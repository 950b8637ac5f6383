def mX10_stand (n : Nat) (s0 : Sg) (a0 : Nat) : Option (Sg) :=
  (isO 10 s0 a0).bind fun _ =>
  (toI (gV 10 s0 a0 11)).bind fun v1 =>
  (pV 10 s0 a0 11 (.int (v1 + (1 : Int32)))).bind fun s2 =>
  (toR (gV 10 s2 a0 9)).bind fun b3 =>
  (toI (gV 10 s2 a0 11)).bind fun v4 =>
  (toI (gV 10 s2 a0 14)).bind fun v5 =>
  (toI (gV 10 s2 a0 13)).bind fun v6 =>
  (sV 11 s2 b3 v4 (.int (((16 : Int32) * v5) + v6))).bind fun s7 =>
  some s7
theorem bX10_stand {G : Cx} {E : Ev} {n : Nat} (hRm : 0 ≤ E.1.frames ∧ 0 ≤ E.1.locals) {P : Sg → Prop} (hQ : ∀ s, P s → E.2.2.2.2 none s) {s0 : Sg} {a0 : Nat} (h : Ok (mX10_stand n s0 a0) P) : BW G tX10_stand E 0 0 0 [(0, .ref a0)] [] s0 := by
  unfold mX10_stand at h
  obtain ⟨_, _, h⟩ := Ok.bind h
  refine BW.run [.aload_n 0, .dup] (pc' := 2) (lv' := [(0, .ref a0)]) (st' := [.ref a0, .ref a0]) (by decide +kernel) rfl rfl ?_
  obtain ⟨v1, ev1, h⟩ := Ok.bind h
  refine BW.get (by decide +kernel : decode tX10_stand.2.1 2 = .ok (.getfield 135, 3)) ciX10 (k := 11) (by decide) lkF_X10_135 (toI_V ev1) ?_
  refine BW.run [.iconst 1, .iadd] (pc' := 7) (lv' := [(0, .ref a0)]) (st' := [.int (v1 + (1 : Int32)), .ref a0]) (by decide +kernel) rfl rfl ?_
  obtain ⟨s2, es2, h⟩ := Ok.bind h
  refine BW.put (by decide +kernel : decode tX10_stand.2.1 7 = .ok (.putfield 135, 3)) ciX10 (k := 11) (by decide) lkF_X10_135 rfl rfl rfl es2 ?_
  refine BW.run [.aload_n 0] (pc' := 11) (lv' := [(0, .ref a0)]) (st' := [.ref a0]) (by decide +kernel) rfl rfl ?_
  obtain ⟨b3, eb3, h⟩ := Ok.bind h
  refine BW.get (by decide +kernel : decode tX10_stand.2.1 11 = .ok (.getfield 22, 3)) ciX10 (k := 9) (by decide) lkF_X10_22 (toR_V eb3) ?_
  refine BW.run [.aload_n 0] (pc' := 15) (lv' := [(0, .ref a0)]) (st' := [.ref a0, .ref b3]) (by decide +kernel) rfl rfl ?_
  obtain ⟨v4, ev4, h⟩ := Ok.bind h
  refine BW.get (by decide +kernel : decode tX10_stand.2.1 15 = .ok (.getfield 135, 3)) ciX10 (k := 11) (by decide) lkF_X10_135 (toI_V ev4) ?_
  refine BW.run [.bipush 16, .aload_n 0] (pc' := 21) (lv' := [(0, .ref a0)]) (st' := [.ref a0, .int (16 : Int32), .int v4, .ref b3]) (by decide +kernel) rfl rfl ?_
  obtain ⟨v5, ev5, h⟩ := Ok.bind h
  refine BW.get (by decide +kernel : decode tX10_stand.2.1 21 = .ok (.getfield 138, 3)) ciX10 (k := 14) (by decide) lkF_X10_138 (toI_V ev5) ?_
  refine BW.run [.imul, .aload_n 0] (pc' := 26) (lv' := [(0, .ref a0)]) (st' := [.ref a0, .int ((16 : Int32) * v5), .int v4, .ref b3]) (by decide +kernel) rfl rfl ?_
  obtain ⟨v6, ev6, h⟩ := Ok.bind h
  refine BW.get (by decide +kernel : decode tX10_stand.2.1 26 = .ok (.getfield 141, 3)) ciX10 (k := 13) (by decide) lkF_X10_141 (toI_V ev6) ?_
  refine BW.run [.iadd] (pc' := 30) (lv' := [(0, .ref a0)]) (st' := [.int (((16 : Int32) * v5) + v6), .int v4, .ref b3]) (by decide +kernel) rfl rfl ?_
  obtain ⟨s7, es7, h⟩ := Ok.bind h
  refine BW.iast (by decide +kernel : decode tX10_stand.2.1 30 = .ok (.iastore, 1)) es7 ?_
  exact BW.vret (by decide +kernel : decode tX10_stand.2.1 31 = .ok (.return_, 1)) rfl (Nat.zero_le _) (Nat.zero_le _) (hQ _ (Ok.some h))
theorem oX10_stand {n : Nat} {P : Sg → Prop} {s0 : Sg} {a0 : Nat} (h : Ok (mX10_stand n s0 a0) P) : ∃ n0, s0.2.1 a0 = some (10, n0) := by
  unfold mX10_stand at h
  exact Ok.isO h
theorem DX10_stand {G : Cx} {n : Nat} {P : Sg → Prop} {s0 : Sg} {a0 : Nat} (h : Ok (mX10_stand n s0 a0) P) : BM G tX10_stand 0 0 0 0 [.ref a0] s0 (fun v s => v = none ∧ P s) := by
  refine BM.of (by decide +kernel) (Nat.le_of_ble_eq_true rfl) ?_
  exact bX10_stand (E := (({ frames := 0, cells := 0, slots := 0, locals := 0 }), Aof s0, 0, 0, (fun v s => v = none ∧ P s))) ⟨Nat.le_refl _, Nat.le_refl _⟩ (fun s hp => ⟨rfl, hp⟩) h
def mX10_step_203 (n : Nat) (s0 : Sg) (a0 : Nat) : Option (Sg) :=
  (mX10_stand n s0 a0).bind fun s2 =>
  some s2
theorem bX10_step_203 {G : Cx} {E : Ev} {n : Nat} (hRm : 1 ≤ E.1.frames ∧ 22 ≤ E.1.locals) {s0 : Sg} {a0 : Nat} {P : Sg → Prop} (hQ : ∀ s, P s → E.2.2.2.2 none s) (h : Ok (mX10_step_203 n s0 a0) P) : BW G tX10_step E 0 0 203 [(0, .ref a0)] [] s0 := by
  unfold mX10_step_203 at h
  refine BW.run [.aload_n 0] (pc' := 204) (lv' := [(0, .ref a0)]) (st' := [.ref a0]) (by decide +kernel) rfl rfl ?_
  refine BW.callV (As := []) (st := []) (by decide +kernel : decode tX10_step.2.1 204 = .ok (.invokevirtual 151, 3)) (DX10_stand (Ok.bindK h)) mfX10_stand lkM_X10_151 imX10_stand selX10_stand ciX10 (oX10_stand (Ok.bindK h)).choose_spec rfl rfl (Nat.le_of_ble_eq_true rfl) ⟨Nat.le_trans (by decide) hRm.1, Nat.le_trans (by decide) hRm.2⟩ ⟨Nat.zero_le _, Nat.zero_le _⟩ ?_
  rintro _ s2 ⟨rfl, h⟩
  show BW G tX10_step E 0 0 207 [(0, .ref a0)] [] s2
  exact BW.vret (by decide +kernel : decode tX10_step.2.1 207 = .ok (.return_, 1)) rfl (Nat.zero_le _) (Nat.zero_le _) (hQ _ (Ok.some h))
def mX10_step_132 (n : Nat) (s0 : Sg) (t0 : Int32) (t1 : Int32) (a0 : Nat) (x2 : Int32) : Option (Sg) :=
  nm (t1 + t0) fun v6 =>
  (toI (gV 10 s0 a0 1)).bind fun v7 =>
  (mX10_in n s0 x2 (0 : Int32) (v7 - (1 : Int32))).bind fun (v9, s8) =>
  if v9 = 0 then (
    mX10_step_203 n s8 a0
  ) else (
    (toI (gV 10 s8 a0 2)).bind fun v11 =>
    (mX10_in n s8 v6 (0 : Int32) (v11 - (1 : Int32))).bind fun (v13, s12) =>
    if v13 = 0 then (
      mX10_step_203 n s12 a0
    ) else (
      (toR (gV 10 s12 a0 10)).bind fun b15 =>
      (toI (gV 10 s12 a0 12)).bind fun v16 =>
      (toI (gV 10 s12 a0 14)).bind fun v17 =>
      (toI (gV 10 s12 a0 13)).bind fun v18 =>
      (sV 11 s12 b15 v16 (.int (((16 : Int32) * v17) + v18))).bind fun s19 =>
      (toI (gV 10 s19 a0 12)).bind fun v20 =>
      (pV 10 s19 a0 12 (.int (v20 + (1 : Int32)))).bind fun s21 =>
      (pV 10 s21 a0 13 (.int x2)).bind fun s22 =>
      (pV 10 s22 a0 14 (.int v6)).bind fun s23 =>
      mX10_step_203 n s23 a0
    )
  )
theorem bX10_step_132 {G : Cx} {E : Ev} {n : Nat} (hRm : 1 ≤ E.1.frames ∧ 22 ≤ E.1.locals) {s0 : Sg} {t0 : Int32} {t1 : Int32} {a0 : Nat} {x2 : Int32} {P : Sg → Prop} (hQ : ∀ s, P s → E.2.2.2.2 none s) (h : Ok (mX10_step_132 n s0 t0 t1 a0 x2) P) : BW G tX10_step E 0 0 132 [(0, .ref a0), (2, .int x2)] [.int t0, .int t1] s0 := by
  unfold mX10_step_132 at h
  refine BW.run [.iadd] (pc' := 133) (lv' := [(0, .ref a0), (2, .int x2)]) (st' := [.int (t1 + t0)]) (by decide +kernel) rfl rfl ?_
  obtain ⟨v6, wv6, h⟩ := Ok.nm h
  refine BW.nm wv6 ?_
  refine BW.run [.istore_n 3, .iload_n 2, .iconst 0, .aload_n 0] (pc' := 137) (lv' := [(0, .ref a0), (2, .int x2), (3, .int v6)]) (st' := [.ref a0, .int (0 : Int32), .int x2]) (by decide +kernel) rfl rfl ?_
  obtain ⟨v7, ev7, h⟩ := Ok.bind h
  refine BW.get (by decide +kernel : decode tX10_step.2.1 137 = .ok (.getfield 77, 3)) ciX10 (k := 1) (by decide) lkF_X10_77 (toI_V ev7) ?_
  refine BW.run [.iconst 1, .isub] (pc' := 142) (lv' := [(0, .ref a0), (2, .int x2), (3, .int v6)]) (st' := [.int (v7 - (1 : Int32)), .int (0 : Int32), .int x2]) (by decide +kernel) rfl rfl ?_
  refine BW.callS (As := [.int x2, .int (0 : Int32), .int (v7 - (1 : Int32))]) (st := []) (by decide +kernel : decode tX10_step.2.1 142 = .ok (.invokestatic 147, 3)) (DX10_in (Ok.bindK h)) mfX10_in lkM_X10_147 smX10_in rfl rfl (Nat.le_of_ble_eq_true rfl) ⟨Nat.le_trans (by decide) hRm.1, Nat.le_trans (by decide) hRm.2⟩ ⟨Nat.zero_le _, Nat.zero_le _⟩ ?_
  rintro _ s8 ⟨v9, rfl, h⟩
  show BW G tX10_step E 0 0 145 [(0, .ref a0), (2, .int x2), (3, .int v6)] [.int v9] s8
  refine BW.if_eq 203 (by decide +kernel : decode tX10_step.2.1 145 = .ok (.ifCond .eq 58, 3)) (by decide) (fun hc => ?_) (fun hc => ?_)
  · have h := (Ok.ite h).1 hc
    refine BW.sub [0] rfl ?_
    exact bX10_step_203 hRm hQ h
  · have h := (Ok.ite h).2 hc
    refine BW.run [.iload_n 3, .iconst 0, .aload_n 0] (pc' := 151) (lv' := [(0, .ref a0), (2, .int x2), (3, .int v6)]) (st' := [.ref a0, .int (0 : Int32), .int v6]) (by decide +kernel) rfl rfl ?_
    obtain ⟨v11, ev11, h⟩ := Ok.bind h
    refine BW.get (by decide +kernel : decode tX10_step.2.1 151 = .ok (.getfield 81, 3)) ciX10 (k := 2) (by decide) lkF_X10_81 (toI_V ev11) ?_
    refine BW.run [.iconst 1, .isub] (pc' := 156) (lv' := [(0, .ref a0), (2, .int x2), (3, .int v6)]) (st' := [.int (v11 - (1 : Int32)), .int (0 : Int32), .int v6]) (by decide +kernel) rfl rfl ?_
    refine BW.callS (As := [.int v6, .int (0 : Int32), .int (v11 - (1 : Int32))]) (st := []) (by decide +kernel : decode tX10_step.2.1 156 = .ok (.invokestatic 147, 3)) (DX10_in (Ok.bindK h)) mfX10_in lkM_X10_147 smX10_in rfl rfl (Nat.le_of_ble_eq_true rfl) ⟨Nat.le_trans (by decide) hRm.1, Nat.le_trans (by decide) hRm.2⟩ ⟨Nat.zero_le _, Nat.zero_le _⟩ ?_
    rintro _ s12 ⟨v13, rfl, h⟩
    show BW G tX10_step E 0 0 159 [(0, .ref a0), (2, .int x2), (3, .int v6)] [.int v13] s12
    refine BW.if_eq 203 (by decide +kernel : decode tX10_step.2.1 159 = .ok (.ifCond .eq 44, 3)) (by decide) (fun hc => ?_) (fun hc => ?_)
    · have h := (Ok.ite h).1 hc
      refine BW.sub [0] rfl ?_
      exact bX10_step_203 hRm hQ h
    · have h := (Ok.ite h).2 hc
      refine BW.run [.aload_n 0] (pc' := 163) (lv' := [(0, .ref a0), (2, .int x2), (3, .int v6)]) (st' := [.ref a0]) (by decide +kernel) rfl rfl ?_
      obtain ⟨b15, eb15, h⟩ := Ok.bind h
      refine BW.get (by decide +kernel : decode tX10_step.2.1 163 = .ok (.getfield 25, 3)) ciX10 (k := 10) (by decide) lkF_X10_25 (toR_V eb15) ?_
      refine BW.run [.aload_n 0] (pc' := 167) (lv' := [(0, .ref a0), (2, .int x2), (3, .int v6)]) (st' := [.ref a0, .ref b15]) (by decide +kernel) rfl rfl ?_
      obtain ⟨v16, ev16, h⟩ := Ok.bind h
      refine BW.get (by decide +kernel : decode tX10_step.2.1 167 = .ok (.getfield 144, 3)) ciX10 (k := 12) (by decide) lkF_X10_144 (toI_V ev16) ?_
      refine BW.run [.bipush 16, .aload_n 0] (pc' := 173) (lv' := [(0, .ref a0), (2, .int x2), (3, .int v6)]) (st' := [.ref a0, .int (16 : Int32), .int v16, .ref b15]) (by decide +kernel) rfl rfl ?_
      obtain ⟨v17, ev17, h⟩ := Ok.bind h
      refine BW.get (by decide +kernel : decode tX10_step.2.1 173 = .ok (.getfield 138, 3)) ciX10 (k := 14) (by decide) lkF_X10_138 (toI_V ev17) ?_
      refine BW.run [.imul, .aload_n 0] (pc' := 178) (lv' := [(0, .ref a0), (2, .int x2), (3, .int v6)]) (st' := [.ref a0, .int ((16 : Int32) * v17), .int v16, .ref b15]) (by decide +kernel) rfl rfl ?_
      obtain ⟨v18, ev18, h⟩ := Ok.bind h
      refine BW.get (by decide +kernel : decode tX10_step.2.1 178 = .ok (.getfield 141, 3)) ciX10 (k := 13) (by decide) lkF_X10_141 (toI_V ev18) ?_
      refine BW.run [.iadd] (pc' := 182) (lv' := [(0, .ref a0), (2, .int x2), (3, .int v6)]) (st' := [.int (((16 : Int32) * v17) + v18), .int v16, .ref b15]) (by decide +kernel) rfl rfl ?_
      obtain ⟨s19, es19, h⟩ := Ok.bind h
      refine BW.iast (by decide +kernel : decode tX10_step.2.1 182 = .ok (.iastore, 1)) es19 ?_
      refine BW.run [.aload_n 0, .dup] (pc' := 185) (lv' := [(0, .ref a0), (2, .int x2), (3, .int v6)]) (st' := [.ref a0, .ref a0]) (by decide +kernel) rfl rfl ?_
      obtain ⟨v20, ev20, h⟩ := Ok.bind h
      refine BW.get (by decide +kernel : decode tX10_step.2.1 185 = .ok (.getfield 144, 3)) ciX10 (k := 12) (by decide) lkF_X10_144 (toI_V ev20) ?_
      refine BW.run [.iconst 1, .iadd] (pc' := 190) (lv' := [(0, .ref a0), (2, .int x2), (3, .int v6)]) (st' := [.int (v20 + (1 : Int32)), .ref a0]) (by decide +kernel) rfl rfl ?_
      obtain ⟨s21, es21, h⟩ := Ok.bind h
      refine BW.put (by decide +kernel : decode tX10_step.2.1 190 = .ok (.putfield 144, 3)) ciX10 (k := 12) (by decide) lkF_X10_144 rfl rfl rfl es21 ?_
      refine BW.run [.aload_n 0, .iload_n 2] (pc' := 195) (lv' := [(0, .ref a0), (2, .int x2), (3, .int v6)]) (st' := [.int x2, .ref a0]) (by decide +kernel) rfl rfl ?_
      obtain ⟨s22, es22, h⟩ := Ok.bind h
      refine BW.put (by decide +kernel : decode tX10_step.2.1 195 = .ok (.putfield 141, 3)) ciX10 (k := 13) (by decide) lkF_X10_141 rfl rfl rfl es22 ?_
      refine BW.run [.aload_n 0, .iload_n 3] (pc' := 200) (lv' := [(0, .ref a0), (2, .int x2), (3, .int v6)]) (st' := [.int v6, .ref a0]) (by decide +kernel) rfl rfl ?_
      obtain ⟨s23, es23, h⟩ := Ok.bind h
      refine BW.put (by decide +kernel : decode tX10_step.2.1 200 = .ok (.putfield 138, 3)) ciX10 (k := 14) (by decide) lkF_X10_138 rfl rfl rfl es23 ?_
      refine BW.sub [0] rfl ?_
      exact bX10_step_203 hRm hQ h
def mX10_step_105 (n : Nat) (s0 : Sg) (t0 : Int32) (t1 : Int32) (a0 : Nat) (x1 : Int32) : Option (Sg) :=
  nm (t1 + t0) fun v4 =>
  (toI (gV 10 s0 a0 14)).bind fun v5 =>
  if x1 = (115 : Int32) then (
    mX10_step_132 n s0 (1 : Int32) v5 a0 v4
  ) else (
    if x1 = (110 : Int32) then (
      mX10_step_132 n s0 (-1 : Int32) v5 a0 v4
    ) else (
      mX10_step_132 n s0 (0 : Int32) v5 a0 v4
    )
  )
theorem bX10_step_105 {G : Cx} {E : Ev} {n : Nat} (hRm : 1 ≤ E.1.frames ∧ 22 ≤ E.1.locals) {s0 : Sg} {t0 : Int32} {t1 : Int32} {a0 : Nat} {x1 : Int32} {P : Sg → Prop} (hQ : ∀ s, P s → E.2.2.2.2 none s) (h : Ok (mX10_step_105 n s0 t0 t1 a0 x1) P) : BW G tX10_step E 0 0 105 [(0, .ref a0), (1, .int x1)] [.int t0, .int t1] s0 := by
  unfold mX10_step_105 at h
  refine BW.run [.iadd] (pc' := 106) (lv' := [(0, .ref a0), (1, .int x1)]) (st' := [.int (t1 + t0)]) (by decide +kernel) rfl rfl ?_
  obtain ⟨v4, wv4, h⟩ := Ok.nm h
  refine BW.nm wv4 ?_
  refine BW.run [.istore_n 2, .aload_n 0] (pc' := 108) (lv' := [(0, .ref a0), (1, .int x1), (2, .int v4)]) (st' := [.ref a0]) (by decide +kernel) rfl rfl ?_
  obtain ⟨v5, ev5, h⟩ := Ok.bind h
  refine BW.get (by decide +kernel : decode tX10_step.2.1 108 = .ok (.getfield 138, 3)) ciX10 (k := 14) (by decide) lkF_X10_138 (toI_V ev5) ?_
  refine BW.run [.iload_n 1, .bipush 115] (pc' := 114) (lv' := [(0, .ref a0), (1, .int x1), (2, .int v4)]) (st' := [.int (115 : Int32), .int x1, .int v5]) (by decide +kernel) rfl rfl ?_
  refine BW.icmp_ne 121 (by decide +kernel : decode tX10_step.2.1 114 = .ok (.if_icmp .ne 7, 3)) (by decide) (fun hc => ?_) (fun hc => ?_)
  · have h := (Ok.ite h).2 hc
    refine BW.run [.iload_n 1, .bipush 110] (pc' := 124) (lv' := [(0, .ref a0), (1, .int x1), (2, .int v4)]) (st' := [.int (110 : Int32), .int x1, .int v5]) (by decide +kernel) rfl rfl ?_
    refine BW.icmp_ne 131 (by decide +kernel : decode tX10_step.2.1 124 = .ok (.if_icmp .ne 7, 3)) (by decide) (fun hc => ?_) (fun hc => ?_)
    · have h := (Ok.ite h).2 hc
      refine BW.run [.iconst 0] (pc' := 132) (lv' := [(0, .ref a0), (1, .int x1), (2, .int v4)]) (st' := [.int (0 : Int32), .int v5]) (by decide +kernel) rfl rfl ?_
      refine BW.sub [0, 2] rfl ?_
      exact bX10_step_132 hRm hQ h
    · have h := (Ok.ite h).1 hc
      refine BW.run [.iconst (-1)] (pc' := 128) (lv' := [(0, .ref a0), (1, .int x1), (2, .int v4)]) (st' := [.int (-1 : Int32), .int v5]) (by decide +kernel) rfl rfl ?_
      refine BW.goto 132 (by decide +kernel : decode tX10_step.2.1 128 = .ok (.goto 4, 3)) (by decide) ?_
      refine BW.sub [0, 2] rfl ?_
      exact bX10_step_132 hRm hQ h
  · have h := (Ok.ite h).1 hc
    refine BW.run [.iconst 1] (pc' := 118) (lv' := [(0, .ref a0), (1, .int x1), (2, .int v4)]) (st' := [.int (1 : Int32), .int v5]) (by decide +kernel) rfl rfl ?_
    refine BW.goto 132 (by decide +kernel : decode tX10_step.2.1 118 = .ok (.goto 14, 3)) (by decide) ?_
    refine BW.sub [0, 2] rfl ?_
    exact bX10_step_132 hRm hQ h
def mX10_step_68 (n : Nat) (s0 : Sg) (a0 : Nat) (x1 : Int32) : Option (Sg) :=
  if x1 = (98 : Int32) then (
    mX10_step_203 n s0 a0
  ) else (
    if x1 = (122 : Int32) then (
      mX10_step_203 n s0 a0
    ) else (
      (toI (gV 10 s0 a0 13)).bind fun v3 =>
      if x1 = (101 : Int32) then (
        mX10_step_105 n s0 (1 : Int32) v3 a0 x1
      ) else (
        if x1 = (119 : Int32) then (
          mX10_step_105 n s0 (-1 : Int32) v3 a0 x1
        ) else (
          mX10_step_105 n s0 (0 : Int32) v3 a0 x1
        )
      )
    )
  )
theorem bX10_step_68 {G : Cx} {E : Ev} {n : Nat} (hRm : 1 ≤ E.1.frames ∧ 22 ≤ E.1.locals) {s0 : Sg} {a0 : Nat} {x1 : Int32} {P : Sg → Prop} (hQ : ∀ s, P s → E.2.2.2.2 none s) (h : Ok (mX10_step_68 n s0 a0 x1) P) : BW G tX10_step E 0 0 68 [(0, .ref a0), (1, .int x1)] [] s0 := by
  unfold mX10_step_68 at h
  refine BW.run [.iload_n 1, .bipush 98] (pc' := 71) (lv' := [(0, .ref a0), (1, .int x1)]) (st' := [.int (98 : Int32), .int x1]) (by decide +kernel) rfl rfl ?_
  refine BW.icmp_eq 203 (by decide +kernel : decode tX10_step.2.1 71 = .ok (.if_icmp .eq 132, 3)) (by decide) (fun hc => ?_) (fun hc => ?_)
  · have h := (Ok.ite h).1 hc
    refine BW.sub [0] rfl ?_
    exact bX10_step_203 hRm hQ h
  · have h := (Ok.ite h).2 hc
    refine BW.run [.iload_n 1, .bipush 122] (pc' := 77) (lv' := [(0, .ref a0), (1, .int x1)]) (st' := [.int (122 : Int32), .int x1]) (by decide +kernel) rfl rfl ?_
    refine BW.icmp_eq 203 (by decide +kernel : decode tX10_step.2.1 77 = .ok (.if_icmp .eq 126, 3)) (by decide) (fun hc => ?_) (fun hc => ?_)
    · have h := (Ok.ite h).1 hc
      refine BW.sub [0] rfl ?_
      exact bX10_step_203 hRm hQ h
    · have h := (Ok.ite h).2 hc
      refine BW.run [.aload_n 0] (pc' := 81) (lv' := [(0, .ref a0), (1, .int x1)]) (st' := [.ref a0]) (by decide +kernel) rfl rfl ?_
      obtain ⟨v3, ev3, h⟩ := Ok.bind h
      refine BW.get (by decide +kernel : decode tX10_step.2.1 81 = .ok (.getfield 141, 3)) ciX10 (k := 13) (by decide) lkF_X10_141 (toI_V ev3) ?_
      refine BW.run [.iload_n 1, .bipush 101] (pc' := 87) (lv' := [(0, .ref a0), (1, .int x1)]) (st' := [.int (101 : Int32), .int x1, .int v3]) (by decide +kernel) rfl rfl ?_
      refine BW.icmp_ne 94 (by decide +kernel : decode tX10_step.2.1 87 = .ok (.if_icmp .ne 7, 3)) (by decide) (fun hc => ?_) (fun hc => ?_)
      · have h := (Ok.ite h).2 hc
        refine BW.run [.iload_n 1, .bipush 119] (pc' := 97) (lv' := [(0, .ref a0), (1, .int x1)]) (st' := [.int (119 : Int32), .int x1, .int v3]) (by decide +kernel) rfl rfl ?_
        refine BW.icmp_ne 104 (by decide +kernel : decode tX10_step.2.1 97 = .ok (.if_icmp .ne 7, 3)) (by decide) (fun hc => ?_) (fun hc => ?_)
        · have h := (Ok.ite h).2 hc
          refine BW.run [.iconst 0] (pc' := 105) (lv' := [(0, .ref a0), (1, .int x1)]) (st' := [.int (0 : Int32), .int v3]) (by decide +kernel) rfl rfl ?_
          exact bX10_step_105 hRm hQ h
        · have h := (Ok.ite h).1 hc
          refine BW.run [.iconst (-1)] (pc' := 101) (lv' := [(0, .ref a0), (1, .int x1)]) (st' := [.int (-1 : Int32), .int v3]) (by decide +kernel) rfl rfl ?_
          refine BW.goto 105 (by decide +kernel : decode tX10_step.2.1 101 = .ok (.goto 4, 3)) (by decide) ?_
          exact bX10_step_105 hRm hQ h
      · have h := (Ok.ite h).1 hc
        refine BW.run [.iconst 1] (pc' := 91) (lv' := [(0, .ref a0), (1, .int x1)]) (st' := [.int (1 : Int32), .int v3]) (by decide +kernel) rfl rfl ?_
        refine BW.goto 105 (by decide +kernel : decode tX10_step.2.1 91 = .ok (.goto 14, 3)) (by decide) ?_
        exact bX10_step_105 hRm hQ h
def mX10_step (n : Nat) (s0 : Sg) (a0 : Nat) (x1 : Int32) : Option (Sg) :=
  (isO 10 s0 a0).bind fun _ =>
  (toI (gV 10 s0 a0 11)).bind fun v1 =>
  if v1 = (60 : Int32) then (
    some s0
  ) else (
    if x1 = (98 : Int32) then (
      (toI (gV 10 s0 a0 12)).bind fun v24 =>
      if v24 ≤ 0 then (
        mX10_step_68 n s0 a0 x1
      ) else (
        (toI (gV 10 s0 a0 12)).bind fun v25 =>
        (pV 10 s0 a0 12 (.int (v25 - (1 : Int32)))).bind fun s26 =>
        (toR (gV 10 s26 a0 10)).bind fun b27 =>
        (toI (gV 10 s26 a0 12)).bind fun v28 =>
        (toI (aV 11 s26 b27 v28)).bind fun v29 =>
        (pV 10 s26 a0 14 (.int (v29 / (16 : Int32)))).bind fun s30 =>
        (toR (gV 10 s30 a0 10)).bind fun b31 =>
        (toI (gV 10 s30 a0 12)).bind fun v32 =>
        (toI (aV 11 s30 b31 v32)).bind fun v33 =>
        (pV 10 s30 a0 13 (.int (v33 - v33 / (16 : Int32) * (16 : Int32)))).bind fun s34 =>
        mX10_step_203 n s34 a0
      )
    ) else (
      mX10_step_68 n s0 a0 x1
    )
  )
theorem bX10_step {G : Cx} {E : Ev} {n : Nat} (hRm : 1 ≤ E.1.frames ∧ 22 ≤ E.1.locals) {P : Sg → Prop} (hQ : ∀ s, P s → E.2.2.2.2 none s) {s0 : Sg} {a0 : Nat} {x1 : Int32} (h : Ok (mX10_step n s0 a0 x1) P) : BW G tX10_step E 0 0 0 [(0, .ref a0), (1, .int x1)] [] s0 := by
  unfold mX10_step at h
  obtain ⟨_, _, h⟩ := Ok.bind h
  refine BW.run [.aload_n 0] (pc' := 1) (lv' := [(0, .ref a0), (1, .int x1)]) (st' := [.ref a0]) (by decide +kernel) rfl rfl ?_
  obtain ⟨v1, ev1, h⟩ := Ok.bind h
  refine BW.get (by decide +kernel : decode tX10_step.2.1 1 = .ok (.getfield 135, 3)) ciX10 (k := 11) (by decide) lkF_X10_135 (toI_V ev1) ?_
  refine BW.run [.bipush 60] (pc' := 6) (lv' := [(0, .ref a0), (1, .int x1)]) (st' := [.int (60 : Int32), .int v1]) (by decide +kernel) rfl rfl ?_
  refine BW.icmp_ne 10 (by decide +kernel : decode tX10_step.2.1 6 = .ok (.if_icmp .ne 4, 3)) (by decide) (fun hc => ?_) (fun hc => ?_)
  · have h := (Ok.ite h).2 hc
    refine BW.run [.iload_n 1, .bipush 98] (pc' := 13) (lv' := [(0, .ref a0), (1, .int x1)]) (st' := [.int (98 : Int32), .int x1]) (by decide +kernel) rfl rfl ?_
    refine BW.icmp_ne 68 (by decide +kernel : decode tX10_step.2.1 13 = .ok (.if_icmp .ne 55, 3)) (by decide) (fun hc => ?_) (fun hc => ?_)
    · have h := (Ok.ite h).2 hc
      exact bX10_step_68 hRm hQ h
    · have h := (Ok.ite h).1 hc
      refine BW.run [.aload_n 0] (pc' := 17) (lv' := [(0, .ref a0), (1, .int x1)]) (st' := [.ref a0]) (by decide +kernel) rfl rfl ?_
      obtain ⟨v24, ev24, h⟩ := Ok.bind h
      refine BW.get (by decide +kernel : decode tX10_step.2.1 17 = .ok (.getfield 144, 3)) ciX10 (k := 12) (by decide) lkF_X10_144 (toI_V ev24) ?_
      refine BW.if_le 68 (by decide +kernel : decode tX10_step.2.1 20 = .ok (.ifCond .le 48, 3)) (by decide) (fun hc => ?_) (fun hc => ?_)
      · have h := (Ok.ite h).1 hc
        exact bX10_step_68 hRm hQ h
      · have h := (Ok.ite h).2 hc
        refine BW.run [.aload_n 0, .dup] (pc' := 25) (lv' := [(0, .ref a0), (1, .int x1)]) (st' := [.ref a0, .ref a0]) (by decide +kernel) rfl rfl ?_
        obtain ⟨v25, ev25, h⟩ := Ok.bind h
        refine BW.get (by decide +kernel : decode tX10_step.2.1 25 = .ok (.getfield 144, 3)) ciX10 (k := 12) (by decide) lkF_X10_144 (toI_V ev25) ?_
        refine BW.run [.iconst 1, .isub] (pc' := 30) (lv' := [(0, .ref a0), (1, .int x1)]) (st' := [.int (v25 - (1 : Int32)), .ref a0]) (by decide +kernel) rfl rfl ?_
        obtain ⟨s26, es26, h⟩ := Ok.bind h
        refine BW.put (by decide +kernel : decode tX10_step.2.1 30 = .ok (.putfield 144, 3)) ciX10 (k := 12) (by decide) lkF_X10_144 rfl rfl rfl es26 ?_
        refine BW.run [.aload_n 0, .aload_n 0] (pc' := 35) (lv' := [(0, .ref a0), (1, .int x1)]) (st' := [.ref a0, .ref a0]) (by decide +kernel) rfl rfl ?_
        obtain ⟨b27, eb27, h⟩ := Ok.bind h
        refine BW.get (by decide +kernel : decode tX10_step.2.1 35 = .ok (.getfield 25, 3)) ciX10 (k := 10) (by decide) lkF_X10_25 (toR_V eb27) ?_
        refine BW.run [.aload_n 0] (pc' := 39) (lv' := [(0, .ref a0), (1, .int x1)]) (st' := [.ref a0, .ref b27, .ref a0]) (by decide +kernel) rfl rfl ?_
        obtain ⟨v28, ev28, h⟩ := Ok.bind h
        refine BW.get (by decide +kernel : decode tX10_step.2.1 39 = .ok (.getfield 144, 3)) ciX10 (k := 12) (by decide) lkF_X10_144 (toI_V ev28) ?_
        obtain ⟨v29, ev29, h⟩ := Ok.bind h
        refine BW.iald (by decide +kernel : decode tX10_step.2.1 42 = .ok (.iaload, 1)) (toI_V ev29) ?_
        refine BW.run [.bipush 16] (pc' := 45) (lv' := [(0, .ref a0), (1, .int x1)]) (st' := [.int (16 : Int32), .int v29, .ref a0]) (by decide +kernel) rfl rfl ?_
        refine BW.idiv (by decide +kernel : decode tX10_step.2.1 45 = .ok (.idiv, 1)) (by decide) ?_
        obtain ⟨s30, es30, h⟩ := Ok.bind h
        refine BW.put (by decide +kernel : decode tX10_step.2.1 46 = .ok (.putfield 138, 3)) ciX10 (k := 14) (by decide) lkF_X10_138 rfl rfl rfl es30 ?_
        refine BW.run [.aload_n 0, .aload_n 0] (pc' := 51) (lv' := [(0, .ref a0), (1, .int x1)]) (st' := [.ref a0, .ref a0]) (by decide +kernel) rfl rfl ?_
        obtain ⟨b31, eb31, h⟩ := Ok.bind h
        refine BW.get (by decide +kernel : decode tX10_step.2.1 51 = .ok (.getfield 25, 3)) ciX10 (k := 10) (by decide) lkF_X10_25 (toR_V eb31) ?_
        refine BW.run [.aload_n 0] (pc' := 55) (lv' := [(0, .ref a0), (1, .int x1)]) (st' := [.ref a0, .ref b31, .ref a0]) (by decide +kernel) rfl rfl ?_
        obtain ⟨v32, ev32, h⟩ := Ok.bind h
        refine BW.get (by decide +kernel : decode tX10_step.2.1 55 = .ok (.getfield 144, 3)) ciX10 (k := 12) (by decide) lkF_X10_144 (toI_V ev32) ?_
        obtain ⟨v33, ev33, h⟩ := Ok.bind h
        refine BW.iald (by decide +kernel : decode tX10_step.2.1 58 = .ok (.iaload, 1)) (toI_V ev33) ?_
        refine BW.run [.bipush 16] (pc' := 61) (lv' := [(0, .ref a0), (1, .int x1)]) (st' := [.int (16 : Int32), .int v33, .ref a0]) (by decide +kernel) rfl rfl ?_
        refine BW.irem (by decide +kernel : decode tX10_step.2.1 61 = .ok (.irem, 1)) (by decide) ?_
        obtain ⟨s34, es34, h⟩ := Ok.bind h
        refine BW.put (by decide +kernel : decode tX10_step.2.1 62 = .ok (.putfield 141, 3)) ciX10 (k := 13) (by decide) lkF_X10_141 rfl rfl rfl es34 ?_
        refine BW.goto 203 (by decide +kernel : decode tX10_step.2.1 65 = .ok (.goto 138, 3)) (by decide) ?_
        refine BW.sub [0] rfl ?_
        exact bX10_step_203 hRm hQ h
  · have h := (Ok.ite h).1 hc
    exact BW.vret (by decide +kernel : decode tX10_step.2.1 9 = .ok (.return_, 1)) rfl (Nat.zero_le _) (Nat.zero_le _) (hQ _ (Ok.some h))
theorem oX10_step {n : Nat} {P : Sg → Prop} {s0 : Sg} {a0 : Nat} {x1 : Int32} (h : Ok (mX10_step n s0 a0 x1) P) : ∃ n0, s0.2.1 a0 = some (10, n0) := by
  unfold mX10_step at h
  exact Ok.isO h
theorem DX10_step {G : Cx} {n : Nat} {P : Sg → Prop} {s0 : Sg} {a0 : Nat} {x1 : Int32} (h : Ok (mX10_step n s0 a0 x1) P) : BM G tX10_step 1 22 0 0 [.ref a0, .int x1] s0 (fun v s => v = none ∧ P s) := by
  refine BM.of (by decide +kernel) (Nat.le_of_ble_eq_true rfl) ?_
  exact bX10_step (E := (({ frames := 1, cells := 0, slots := 0, locals := 22 }), Aof s0, 0, 0, (fun v s => v = none ∧ P s))) ⟨Nat.le_refl _, Nat.le_refl _⟩ (fun s hp => ⟨rfl, hp⟩) h
def mX10_isDigit (n : Nat) (s0 : Sg) (x0 : Int32) : Option (Int32 × Sg) :=
  if x0 < (48 : Int32) then (
    some ((0 : Int32), s0)
  ) else (
    if (57 : Int32) < x0 then (
      some ((0 : Int32), s0)
    ) else (
      some ((1 : Int32), s0)
    )
  )
theorem bX10_isDigit {G : Cx} {E : Ev} {n : Nat} (hRm : 0 ≤ E.1.frames ∧ 0 ≤ E.1.locals) {P : Int32 × Sg → Prop} (hQ : ∀ r s, P (r, s) → E.2.2.2.2 (some (.int r)) s) {s0 : Sg} {x0 : Int32} (h : Ok (mX10_isDigit n s0 x0) P) : BW G tX10_isDigit E 0 0 0 [(0, .int x0)] [] s0 := by
  unfold mX10_isDigit at h
  refine BW.run [.iload_n 0, .bipush 48] (pc' := 3) (lv' := [(0, .int x0)]) (st' := [.int (48 : Int32), .int x0]) (by decide +kernel) rfl rfl ?_
  refine BW.icmp_lt 16 (by decide +kernel : decode tX10_isDigit.2.1 3 = .ok (.if_icmp .lt 13, 3)) (by decide) (fun hc => ?_) (fun hc => ?_)
  · have h := (Ok.ite h).1 hc
    refine BW.run [.iconst 0] (pc' := 17) (lv' := [(0, .int x0)]) (st' := [.int (0 : Int32)]) (by decide +kernel) rfl rfl ?_
    exact BW.zret (by decide +kernel : decode tX10_isDigit.2.1 17 = .ok (.ireturn, 1)) rfl (Or.inl rfl) (Nat.zero_le _) (Nat.zero_le _) (hQ _ _ (Ok.some h))
  · have h := (Ok.ite h).2 hc
    refine BW.run [.iload_n 0, .bipush 57] (pc' := 9) (lv' := [(0, .int x0)]) (st' := [.int (57 : Int32), .int x0]) (by decide +kernel) rfl rfl ?_
    refine BW.icmp_gt 16 (by decide +kernel : decode tX10_isDigit.2.1 9 = .ok (.if_icmp .gt 7, 3)) (by decide) (fun hc => ?_) (fun hc => ?_)
    · have h := (Ok.ite h).1 hc
      refine BW.run [.iconst 0] (pc' := 17) (lv' := [(0, .int x0)]) (st' := [.int (0 : Int32)]) (by decide +kernel) rfl rfl ?_
      exact BW.zret (by decide +kernel : decode tX10_isDigit.2.1 17 = .ok (.ireturn, 1)) rfl (Or.inl rfl) (Nat.zero_le _) (Nat.zero_le _) (hQ _ _ (Ok.some h))
    · have h := (Ok.ite h).2 hc
      refine BW.run [.iconst 1] (pc' := 13) (lv' := [(0, .int x0)]) (st' := [.int (1 : Int32)]) (by decide +kernel) rfl rfl ?_
      refine BW.goto 17 (by decide +kernel : decode tX10_isDigit.2.1 13 = .ok (.goto 4, 3)) (by decide) ?_
      exact BW.zret (by decide +kernel : decode tX10_isDigit.2.1 17 = .ok (.ireturn, 1)) rfl (Or.inr rfl) (Nat.zero_le _) (Nat.zero_le _) (hQ _ _ (Ok.some h))
theorem DX10_isDigit {G : Cx} {n : Nat} {P : Int32 × Sg → Prop} {s0 : Sg} {x0 : Int32} (h : Ok (mX10_isDigit n s0 x0) P) : BM G tX10_isDigit 0 0 0 0 [.int x0] s0 (fun v s => ∃ r, v = some (.int r) ∧ P (r, s)) := by
  refine BM.of (by decide +kernel) (Nat.le_of_ble_eq_true rfl) ?_
  exact bX10_isDigit (E := (({ frames := 0, cells := 0, slots := 0, locals := 0 }), Aof s0, 0, 0, (fun v s => ∃ r, v = some (.int r) ∧ P (r, s)))) ⟨Nat.le_refl _, Nat.le_refl _⟩ (fun r s hp => ⟨r, rfl, hp⟩) h
def mX10_number_18 (n : Nat) (s0 : Sg) (a0 : Nat) : Option (Int32 × Sg) :=
  (mX10_bad n s0 a0).bind fun s2 =>
  some ((0 : Int32), s2)
theorem bX10_number_18 {G : Cx} {E : Ev} {n : Nat} (hRm : 2 ≤ E.1.frames ∧ 40 ≤ E.1.locals) {s0 : Sg} {a0 : Nat} {P : Int32 × Sg → Prop} (hQ : ∀ r s, P (r, s) → E.2.2.2.2 (some (.int r)) s) (h : Ok (mX10_number_18 n s0 a0) P) : BW G tX10_number E 0 0 18 [(0, .ref a0)] [] s0 := by
  unfold mX10_number_18 at h
  refine BW.run [.aload_n 0] (pc' := 19) (lv' := [(0, .ref a0)]) (st' := [.ref a0]) (by decide +kernel) rfl rfl ?_
  refine BW.callV (As := []) (st := []) (by decide +kernel : decode tX10_number.2.1 19 = .ok (.invokevirtual 110, 3)) (DX10_bad (Ok.bindK h)) mfX10_bad lkM_X10_110 imX10_bad selX10_bad ciX10 (oX10_bad (Ok.bindK h)).choose_spec rfl rfl (Nat.le_of_ble_eq_true rfl) ⟨Nat.le_trans (by decide) hRm.1, Nat.le_trans (by decide) hRm.2⟩ ⟨Nat.zero_le _, Nat.zero_le _⟩ ?_
  rintro _ s2 ⟨rfl, h⟩
  show BW G tX10_number E 0 0 22 [(0, .ref a0)] [] s2
  refine BW.run [.iconst 0] (pc' := 23) (lv' := [(0, .ref a0)]) (st' := [.int (0 : Int32)]) (by decide +kernel) rfl rfl ?_
  exact BW.iret (by decide +kernel : decode tX10_number.2.1 23 = .ok (.ireturn, 1)) rfl (Nat.zero_le _) (Nat.zero_le _) (hQ _ _ (Ok.some h))
def mX10_number_75 (n : Nat) (s0 : Sg) (a0 : Nat) (x1 : Int32) (x2 : Int32) : Option (Int32 × Sg) :=
  if x2 ≤ x1 then (
    (mX10_here n s0 a0).bind fun (v22, s21) =>
    (mX10_isDigit n s21 v22).bind fun (v25, s24) =>
    if v25 = 0 then (
      some (x2, s24)
    ) else (
      (mX10_bad n s24 a0).bind fun s27 =>
      some (x2, s27)
    )
  ) else (
    (toI (gV 10 s0 a0 6)).bind fun v28 =>
    (pV 10 s0 a0 6 (.int (v28 - (1 : Int32)))).bind fun s29 =>
    (mX10_bad n s29 a0).bind fun s30 =>
    some ((0 : Int32), s30)
  )
theorem bX10_number_75 {G : Cx} {E : Ev} {n : Nat} (hRm : 2 ≤ E.1.frames ∧ 40 ≤ E.1.locals) {s0 : Sg} {a0 : Nat} {x1 : Int32} {x2 : Int32} {P : Int32 × Sg → Prop} (hQ : ∀ r s, P (r, s) → E.2.2.2.2 (some (.int r)) s) (h : Ok (mX10_number_75 n s0 a0 x1 x2) P) : BW G tX10_number E 0 0 75 [(0, .ref a0), (1, .int x1), (2, .int x2)] [] s0 := by
  unfold mX10_number_75 at h
  refine BW.run [.iload_n 2, .iload_n 1] (pc' := 77) (lv' := [(0, .ref a0), (1, .int x1), (2, .int x2)]) (st' := [.int x1, .int x2]) (by decide +kernel) rfl rfl ?_
  refine BW.icmp_le 96 (by decide +kernel : decode tX10_number.2.1 77 = .ok (.if_icmp .le 19, 3)) (by decide) (fun hc => ?_) (fun hc => ?_)
  · have h := (Ok.ite h).1 hc
    refine BW.run [.aload_n 0] (pc' := 97) (lv' := [(0, .ref a0), (1, .int x1), (2, .int x2)]) (st' := [.ref a0]) (by decide +kernel) rfl rfl ?_
    refine BW.callV (As := []) (st := []) (by decide +kernel : decode tX10_number.2.1 97 = .ok (.invokevirtual 100, 3)) (DX10_here (Ok.bindK h)) mfX10_here lkM_X10_100 imX10_here selX10_here ciX10 (oX10_here (Ok.bindK h)).choose_spec rfl rfl (Nat.le_of_ble_eq_true rfl) ⟨Nat.le_trans (by decide) hRm.1, Nat.le_trans (by decide) hRm.2⟩ ⟨Nat.zero_le _, Nat.zero_le _⟩ ?_
    rintro _ s21 ⟨v22, rfl, h⟩
    show BW G tX10_number E 0 0 100 [(0, .ref a0), (1, .int x1), (2, .int x2)] [.int v22] s21
    refine BW.callS (As := [.int v22]) (st := []) (by decide +kernel : decode tX10_number.2.1 100 = .ok (.invokestatic 113, 3)) (DX10_isDigit (Ok.bindK h)) mfX10_isDigit lkM_X10_113 smX10_isDigit rfl rfl (Nat.le_of_ble_eq_true rfl) ⟨Nat.le_trans (by decide) hRm.1, Nat.le_trans (by decide) hRm.2⟩ ⟨Nat.zero_le _, Nat.zero_le _⟩ ?_
    rintro _ s24 ⟨v25, rfl, h⟩
    show BW G tX10_number E 0 0 103 [(0, .ref a0), (1, .int x1), (2, .int x2)] [.int v25] s24
    refine BW.if_eq 110 (by decide +kernel : decode tX10_number.2.1 103 = .ok (.ifCond .eq 7, 3)) (by decide) (fun hc => ?_) (fun hc => ?_)
    · have h := (Ok.ite h).1 hc
      refine BW.run [.iload_n 2] (pc' := 111) (lv' := [(0, .ref a0), (1, .int x1), (2, .int x2)]) (st' := [.int x2]) (by decide +kernel) rfl rfl ?_
      exact BW.iret (by decide +kernel : decode tX10_number.2.1 111 = .ok (.ireturn, 1)) rfl (Nat.zero_le _) (Nat.zero_le _) (hQ _ _ (Ok.some h))
    · have h := (Ok.ite h).2 hc
      refine BW.run [.aload_n 0] (pc' := 107) (lv' := [(0, .ref a0), (1, .int x1), (2, .int x2)]) (st' := [.ref a0]) (by decide +kernel) rfl rfl ?_
      refine BW.callV (As := []) (st := []) (by decide +kernel : decode tX10_number.2.1 107 = .ok (.invokevirtual 110, 3)) (DX10_bad (Ok.bindK h)) mfX10_bad lkM_X10_110 imX10_bad selX10_bad ciX10 (oX10_bad (Ok.bindK h)).choose_spec rfl rfl (Nat.le_of_ble_eq_true rfl) ⟨Nat.le_trans (by decide) hRm.1, Nat.le_trans (by decide) hRm.2⟩ ⟨Nat.zero_le _, Nat.zero_le _⟩ ?_
      rintro _ s27 ⟨rfl, h⟩
      show BW G tX10_number E 0 0 110 [(0, .ref a0), (1, .int x1), (2, .int x2)] [] s27
      refine BW.run [.iload_n 2] (pc' := 111) (lv' := [(0, .ref a0), (1, .int x1), (2, .int x2)]) (st' := [.int x2]) (by decide +kernel) rfl rfl ?_
      exact BW.iret (by decide +kernel : decode tX10_number.2.1 111 = .ok (.ireturn, 1)) rfl (Nat.zero_le _) (Nat.zero_le _) (hQ _ _ (Ok.some h))
  · have h := (Ok.ite h).2 hc
    refine BW.run [.aload_n 0, .dup] (pc' := 82) (lv' := [(0, .ref a0), (1, .int x1), (2, .int x2)]) (st' := [.ref a0, .ref a0]) (by decide +kernel) rfl rfl ?_
    obtain ⟨v28, ev28, h⟩ := Ok.bind h
    refine BW.get (by decide +kernel : decode tX10_number.2.1 82 = .ok (.getfield 97, 3)) ciX10 (k := 6) (by decide) lkF_X10_97 (toI_V ev28) ?_
    refine BW.run [.iconst 1, .isub] (pc' := 87) (lv' := [(0, .ref a0), (1, .int x1), (2, .int x2)]) (st' := [.int (v28 - (1 : Int32)), .ref a0]) (by decide +kernel) rfl rfl ?_
    obtain ⟨s29, es29, h⟩ := Ok.bind h
    refine BW.put (by decide +kernel : decode tX10_number.2.1 87 = .ok (.putfield 97, 3)) ciX10 (k := 6) (by decide) lkF_X10_97 rfl rfl rfl es29 ?_
    refine BW.run [.aload_n 0] (pc' := 91) (lv' := [(0, .ref a0), (1, .int x1), (2, .int x2)]) (st' := [.ref a0]) (by decide +kernel) rfl rfl ?_
    refine BW.callV (As := []) (st := []) (by decide +kernel : decode tX10_number.2.1 91 = .ok (.invokevirtual 110, 3)) (DX10_bad (Ok.bindK h)) mfX10_bad lkM_X10_110 imX10_bad selX10_bad ciX10 (oX10_bad (Ok.bindK h)).choose_spec rfl rfl (Nat.le_of_ble_eq_true rfl) ⟨Nat.le_trans (by decide) hRm.1, Nat.le_trans (by decide) hRm.2⟩ ⟨Nat.zero_le _, Nat.zero_le _⟩ ?_
    rintro _ s30 ⟨rfl, h⟩
    show BW G tX10_number E 0 0 94 [(0, .ref a0), (1, .int x1), (2, .int x2)] [] s30
    refine BW.run [.iconst 0] (pc' := 95) (lv' := [(0, .ref a0), (1, .int x1), (2, .int x2)]) (st' := [.int (0 : Int32)]) (by decide +kernel) rfl rfl ?_
    exact BW.iret (by decide +kernel : decode tX10_number.2.1 95 = .ok (.ireturn, 1)) rfl (Nat.zero_le _) (Nat.zero_le _) (hQ _ _ (Ok.some h))
def mX10_number (n : Nat) (s0 : Sg) (a0 : Nat) (x1 : Int32) : Option (Int32 × Sg) :=
  (isO 10 s0 a0).bind fun _ =>
  (toI (gV 10 s0 a0 7)).bind fun v1 =>
  if v1 = (-1 : Int32) then (
    (mX10_look n s0 a0).bind fun (v4, s3) =>
    (mX10_isDigit n s3 v4).bind fun (v7, s6) =>
    if v7 = 0 then (
      mX10_number_18 n s6 a0
    ) else (
      (mX10_here n s6 a0).bind fun (v10, s9) =>
      nm (v10 - (48 : Int32)) fun v12 =>
      (toI (gV 10 s9 a0 6)).bind fun v13 =>
      (pV 10 s9 a0 6 (.int (v13 + (1 : Int32)))).bind fun s14 =>
      (mX10_here n s14 a0).bind fun (v16, s15) =>
      (mX10_isDigit n s15 v16).bind fun (v19, s18) =>
      if v19 = 0 then (
        mX10_number_75 n s18 a0 x1 v12
      ) else (
        (mX10_here n s18 a0).bind fun (v32, s31) =>
        nm ((((10 : Int32) * v12) + v32) - (48 : Int32)) fun v34 =>
        (toI (gV 10 s31 a0 6)).bind fun v35 =>
        (pV 10 s31 a0 6 (.int (v35 + (1 : Int32)))).bind fun s36 =>
        mX10_number_75 n s36 a0 x1 v34
      )
    )
  ) else (
    mX10_number_18 n s0 a0
  )
theorem bX10_number {G : Cx} {E : Ev} {n : Nat} (hRm : 2 ≤ E.1.frames ∧ 40 ≤ E.1.locals) {P : Int32 × Sg → Prop} (hQ : ∀ r s, P (r, s) → E.2.2.2.2 (some (.int r)) s) {s0 : Sg} {a0 : Nat} {x1 : Int32} (h : Ok (mX10_number n s0 a0 x1) P) : BW G tX10_number E 0 0 0 [(0, .ref a0), (1, .int x1)] [] s0 := by
  unfold mX10_number at h
  obtain ⟨_, _, h⟩ := Ok.bind h
  refine BW.run [.aload_n 0] (pc' := 1) (lv' := [(0, .ref a0), (1, .int x1)]) (st' := [.ref a0]) (by decide +kernel) rfl rfl ?_
  obtain ⟨v1, ev1, h⟩ := Ok.bind h
  refine BW.get (by decide +kernel : decode tX10_number.2.1 1 = .ok (.getfield 104, 3)) ciX10 (k := 7) (by decide) lkF_X10_104 (toI_V ev1) ?_
  refine BW.run [.iconst (-1)] (pc' := 5) (lv' := [(0, .ref a0), (1, .int x1)]) (st' := [.int (-1 : Int32), .int v1]) (by decide +kernel) rfl rfl ?_
  refine BW.icmp_ne 18 (by decide +kernel : decode tX10_number.2.1 5 = .ok (.if_icmp .ne 13, 3)) (by decide) (fun hc => ?_) (fun hc => ?_)
  · have h := (Ok.ite h).2 hc
    refine BW.sub [0] rfl ?_
    exact bX10_number_18 hRm hQ h
  · have h := (Ok.ite h).1 hc
    refine BW.run [.aload_n 0] (pc' := 9) (lv' := [(0, .ref a0), (1, .int x1)]) (st' := [.ref a0]) (by decide +kernel) rfl rfl ?_
    refine BW.callV (As := []) (st := []) (by decide +kernel : decode tX10_number.2.1 9 = .ok (.invokevirtual 107, 3)) (DX10_look (Ok.bindK h)) mfX10_look lkM_X10_107 imX10_look selX10_look ciX10 (oX10_look (Ok.bindK h)).choose_spec rfl rfl (Nat.le_of_ble_eq_true rfl) ⟨Nat.le_trans (by decide) hRm.1, Nat.le_trans (by decide) hRm.2⟩ ⟨Nat.zero_le _, Nat.zero_le _⟩ ?_
    rintro _ s3 ⟨v4, rfl, h⟩
    show BW G tX10_number E 0 0 12 [(0, .ref a0), (1, .int x1)] [.int v4] s3
    refine BW.callS (As := [.int v4]) (st := []) (by decide +kernel : decode tX10_number.2.1 12 = .ok (.invokestatic 113, 3)) (DX10_isDigit (Ok.bindK h)) mfX10_isDigit lkM_X10_113 smX10_isDigit rfl rfl (Nat.le_of_ble_eq_true rfl) ⟨Nat.le_trans (by decide) hRm.1, Nat.le_trans (by decide) hRm.2⟩ ⟨Nat.zero_le _, Nat.zero_le _⟩ ?_
    rintro _ s6 ⟨v7, rfl, h⟩
    show BW G tX10_number E 0 0 15 [(0, .ref a0), (1, .int x1)] [.int v7] s6
    refine BW.if_ne 24 (by decide +kernel : decode tX10_number.2.1 15 = .ok (.ifCond .ne 9, 3)) (by decide) (fun hc => ?_) (fun hc => ?_)
    · have h := (Ok.ite h).2 hc
      refine BW.run [.aload_n 0] (pc' := 25) (lv' := [(0, .ref a0), (1, .int x1)]) (st' := [.ref a0]) (by decide +kernel) rfl rfl ?_
      refine BW.callV (As := []) (st := []) (by decide +kernel : decode tX10_number.2.1 25 = .ok (.invokevirtual 100, 3)) (DX10_here (Ok.bindK h)) mfX10_here lkM_X10_100 imX10_here selX10_here ciX10 (oX10_here (Ok.bindK h)).choose_spec rfl rfl (Nat.le_of_ble_eq_true rfl) ⟨Nat.le_trans (by decide) hRm.1, Nat.le_trans (by decide) hRm.2⟩ ⟨Nat.zero_le _, Nat.zero_le _⟩ ?_
      rintro _ s9 ⟨v10, rfl, h⟩
      show BW G tX10_number E 0 0 28 [(0, .ref a0), (1, .int x1)] [.int v10] s9
      refine BW.run [.bipush 48, .isub] (pc' := 31) (lv' := [(0, .ref a0), (1, .int x1)]) (st' := [.int (v10 - (48 : Int32))]) (by decide +kernel) rfl rfl ?_
      obtain ⟨v12, wv12, h⟩ := Ok.nm h
      refine BW.nm wv12 ?_
      refine BW.run [.istore_n 2, .aload_n 0, .dup] (pc' := 34) (lv' := [(0, .ref a0), (1, .int x1), (2, .int v12)]) (st' := [.ref a0, .ref a0]) (by decide +kernel) rfl rfl ?_
      obtain ⟨v13, ev13, h⟩ := Ok.bind h
      refine BW.get (by decide +kernel : decode tX10_number.2.1 34 = .ok (.getfield 97, 3)) ciX10 (k := 6) (by decide) lkF_X10_97 (toI_V ev13) ?_
      refine BW.run [.iconst 1, .iadd] (pc' := 39) (lv' := [(0, .ref a0), (1, .int x1), (2, .int v12)]) (st' := [.int (v13 + (1 : Int32)), .ref a0]) (by decide +kernel) rfl rfl ?_
      obtain ⟨s14, es14, h⟩ := Ok.bind h
      refine BW.put (by decide +kernel : decode tX10_number.2.1 39 = .ok (.putfield 97, 3)) ciX10 (k := 6) (by decide) lkF_X10_97 rfl rfl rfl es14 ?_
      refine BW.run [.aload_n 0] (pc' := 43) (lv' := [(0, .ref a0), (1, .int x1), (2, .int v12)]) (st' := [.ref a0]) (by decide +kernel) rfl rfl ?_
      refine BW.callV (As := []) (st := []) (by decide +kernel : decode tX10_number.2.1 43 = .ok (.invokevirtual 100, 3)) (DX10_here (Ok.bindK h)) mfX10_here lkM_X10_100 imX10_here selX10_here ciX10 (oX10_here (Ok.bindK h)).choose_spec rfl rfl (Nat.le_of_ble_eq_true rfl) ⟨Nat.le_trans (by decide) hRm.1, Nat.le_trans (by decide) hRm.2⟩ ⟨Nat.zero_le _, Nat.zero_le _⟩ ?_
      rintro _ s15 ⟨v16, rfl, h⟩
      show BW G tX10_number E 0 0 46 [(0, .ref a0), (1, .int x1), (2, .int v12)] [.int v16] s15
      refine BW.callS (As := [.int v16]) (st := []) (by decide +kernel : decode tX10_number.2.1 46 = .ok (.invokestatic 113, 3)) (DX10_isDigit (Ok.bindK h)) mfX10_isDigit lkM_X10_113 smX10_isDigit rfl rfl (Nat.le_of_ble_eq_true rfl) ⟨Nat.le_trans (by decide) hRm.1, Nat.le_trans (by decide) hRm.2⟩ ⟨Nat.zero_le _, Nat.zero_le _⟩ ?_
      rintro _ s18 ⟨v19, rfl, h⟩
      show BW G tX10_number E 0 0 49 [(0, .ref a0), (1, .int x1), (2, .int v12)] [.int v19] s18
      refine BW.if_eq 75 (by decide +kernel : decode tX10_number.2.1 49 = .ok (.ifCond .eq 26, 3)) (by decide) (fun hc => ?_) (fun hc => ?_)
      · have h := (Ok.ite h).1 hc
        exact bX10_number_75 hRm hQ h
      · have h := (Ok.ite h).2 hc
        refine BW.run [.bipush 10, .iload_n 2, .imul, .aload_n 0] (pc' := 57) (lv' := [(0, .ref a0), (1, .int x1), (2, .int v12)]) (st' := [.ref a0, .int ((10 : Int32) * v12)]) (by decide +kernel) rfl rfl ?_
        refine BW.callV (As := []) (st := [.int ((10 : Int32) * v12)]) (by decide +kernel : decode tX10_number.2.1 57 = .ok (.invokevirtual 100, 3)) (DX10_here (Ok.bindK h)) mfX10_here lkM_X10_100 imX10_here selX10_here ciX10 (oX10_here (Ok.bindK h)).choose_spec rfl rfl (Nat.le_of_ble_eq_true rfl) ⟨Nat.le_trans (by decide) hRm.1, Nat.le_trans (by decide) hRm.2⟩ ⟨Nat.zero_le _, Nat.zero_le _⟩ ?_
        rintro _ s31 ⟨v32, rfl, h⟩
        show BW G tX10_number E 0 0 60 [(0, .ref a0), (1, .int x1), (2, .int v12)] [.int v32, .int ((10 : Int32) * v12)] s31
        refine BW.run [.iadd, .bipush 48, .isub] (pc' := 64) (lv' := [(0, .ref a0), (1, .int x1), (2, .int v12)]) (st' := [.int ((((10 : Int32) * v12) + v32) - (48 : Int32))]) (by decide +kernel) rfl rfl ?_
        obtain ⟨v34, wv34, h⟩ := Ok.nm h
        refine BW.nm wv34 ?_
        refine BW.run [.istore_n 2, .aload_n 0, .dup] (pc' := 67) (lv' := [(0, .ref a0), (1, .int x1), (2, .int v34)]) (st' := [.ref a0, .ref a0]) (by decide +kernel) rfl rfl ?_
        obtain ⟨v35, ev35, h⟩ := Ok.bind h
        refine BW.get (by decide +kernel : decode tX10_number.2.1 67 = .ok (.getfield 97, 3)) ciX10 (k := 6) (by decide) lkF_X10_97 (toI_V ev35) ?_
        refine BW.run [.iconst 1, .iadd] (pc' := 72) (lv' := [(0, .ref a0), (1, .int x1), (2, .int v34)]) (st' := [.int (v35 + (1 : Int32)), .ref a0]) (by decide +kernel) rfl rfl ?_
        obtain ⟨s36, es36, h⟩ := Ok.bind h
        refine BW.put (by decide +kernel : decode tX10_number.2.1 72 = .ok (.putfield 97, 3)) ciX10 (k := 6) (by decide) lkF_X10_97 rfl rfl rfl es36 ?_
        exact bX10_number_75 hRm hQ h
    · have h := (Ok.ite h).1 hc
      refine BW.sub [0] rfl ?_
      exact bX10_number_18 hRm hQ h
theorem oX10_number {n : Nat} {P : Int32 × Sg → Prop} {s0 : Sg} {a0 : Nat} {x1 : Int32} (h : Ok (mX10_number n s0 a0 x1) P) : ∃ n0, s0.2.1 a0 = some (10, n0) := by
  unfold mX10_number at h
  exact Ok.isO h
theorem DX10_number {G : Cx} {n : Nat} {P : Int32 × Sg → Prop} {s0 : Sg} {a0 : Nat} {x1 : Int32} (h : Ok (mX10_number n s0 a0 x1) P) : BM G tX10_number 2 40 0 0 [.ref a0, .int x1] s0 (fun v s => ∃ r, v = some (.int r) ∧ P (r, s)) := by
  refine BM.of (by decide +kernel) (Nat.le_of_ble_eq_true rfl) ?_
  exact bX10_number (E := (({ frames := 2, cells := 0, slots := 0, locals := 40 }), Aof s0, 0, 0, (fun v s => ∃ r, v = some (.int r) ∧ P (r, s)))) ⟨Nat.le_refl _, Nat.le_refl _⟩ (fun r s hp => ⟨r, rfl, hp⟩) h
def mX10_sign_20 (n : Nat) (s0 : Sg) (a0 : Nat) : Option (Sg) :=
  (toI (gV 10 s0 a0 6)).bind fun v2 =>
  (pV 10 s0 a0 6 (.int (v2 + (1 : Int32)))).bind fun s3 =>
  some s3
theorem bX10_sign_20 {G : Cx} {E : Ev} {n : Nat} (hRm : 2 ≤ E.1.frames ∧ 40 ≤ E.1.locals) {s0 : Sg} {a0 : Nat} {P : Sg → Prop} (hQ : ∀ s, P s → E.2.2.2.2 none s) (h : Ok (mX10_sign_20 n s0 a0) P) : BW G tX10_sign E 0 0 20 [(0, .ref a0)] [] s0 := by
  unfold mX10_sign_20 at h
  refine BW.run [.aload_n 0, .dup] (pc' := 22) (lv' := [(0, .ref a0)]) (st' := [.ref a0, .ref a0]) (by decide +kernel) rfl rfl ?_
  obtain ⟨v2, ev2, h⟩ := Ok.bind h
  refine BW.get (by decide +kernel : decode tX10_sign.2.1 22 = .ok (.getfield 97, 3)) ciX10 (k := 6) (by decide) lkF_X10_97 (toI_V ev2) ?_
  refine BW.run [.iconst 1, .iadd] (pc' := 27) (lv' := [(0, .ref a0)]) (st' := [.int (v2 + (1 : Int32)), .ref a0]) (by decide +kernel) rfl rfl ?_
  obtain ⟨s3, es3, h⟩ := Ok.bind h
  refine BW.put (by decide +kernel : decode tX10_sign.2.1 27 = .ok (.putfield 97, 3)) ciX10 (k := 6) (by decide) lkF_X10_97 rfl rfl rfl es3 ?_
  exact BW.vret (by decide +kernel : decode tX10_sign.2.1 30 = .ok (.return_, 1)) rfl (Nat.zero_le _) (Nat.zero_le _) (hQ _ (Ok.some h))
def mX10_sign (n : Nat) (s0 : Sg) (a0 : Nat) (x1 : Int32) : Option (Sg) :=
  (isO 10 s0 a0).bind fun _ =>
  (toI (gV 10 s0 a0 7)).bind fun v1 =>
  if v1 = (-1 : Int32) then (
    (mX10_look n s0 a0).bind fun (v5, s4) =>
    if v5 = x1 then (
      mX10_sign_20 n s4 a0
    ) else (
      (mX10_bad n s4 a0).bind fun s7 =>
      mX10_sign_20 n s7 a0
    )
  ) else (
    mX10_sign_20 n s0 a0
  )
theorem bX10_sign {G : Cx} {E : Ev} {n : Nat} (hRm : 2 ≤ E.1.frames ∧ 40 ≤ E.1.locals) {P : Sg → Prop} (hQ : ∀ s, P s → E.2.2.2.2 none s) {s0 : Sg} {a0 : Nat} {x1 : Int32} (h : Ok (mX10_sign n s0 a0 x1) P) : BW G tX10_sign E 0 0 0 [(0, .ref a0), (1, .int x1)] [] s0 := by
  unfold mX10_sign at h
  obtain ⟨_, _, h⟩ := Ok.bind h
  refine BW.run [.aload_n 0] (pc' := 1) (lv' := [(0, .ref a0), (1, .int x1)]) (st' := [.ref a0]) (by decide +kernel) rfl rfl ?_
  obtain ⟨v1, ev1, h⟩ := Ok.bind h
  refine BW.get (by decide +kernel : decode tX10_sign.2.1 1 = .ok (.getfield 104, 3)) ciX10 (k := 7) (by decide) lkF_X10_104 (toI_V ev1) ?_
  refine BW.run [.iconst (-1)] (pc' := 5) (lv' := [(0, .ref a0), (1, .int x1)]) (st' := [.int (-1 : Int32), .int v1]) (by decide +kernel) rfl rfl ?_
  refine BW.icmp_ne 20 (by decide +kernel : decode tX10_sign.2.1 5 = .ok (.if_icmp .ne 15, 3)) (by decide) (fun hc => ?_) (fun hc => ?_)
  · have h := (Ok.ite h).2 hc
    refine BW.sub [0] rfl ?_
    exact bX10_sign_20 hRm hQ h
  · have h := (Ok.ite h).1 hc
    refine BW.run [.aload_n 0] (pc' := 9) (lv' := [(0, .ref a0), (1, .int x1)]) (st' := [.ref a0]) (by decide +kernel) rfl rfl ?_
    refine BW.callV (As := []) (st := []) (by decide +kernel : decode tX10_sign.2.1 9 = .ok (.invokevirtual 107, 3)) (DX10_look (Ok.bindK h)) mfX10_look lkM_X10_107 imX10_look selX10_look ciX10 (oX10_look (Ok.bindK h)).choose_spec rfl rfl (Nat.le_of_ble_eq_true rfl) ⟨Nat.le_trans (by decide) hRm.1, Nat.le_trans (by decide) hRm.2⟩ ⟨Nat.zero_le _, Nat.zero_le _⟩ ?_
    rintro _ s4 ⟨v5, rfl, h⟩
    show BW G tX10_sign E 0 0 12 [(0, .ref a0), (1, .int x1)] [.int v5] s4
    refine BW.run [.iload_n 1] (pc' := 13) (lv' := [(0, .ref a0), (1, .int x1)]) (st' := [.int x1, .int v5]) (by decide +kernel) rfl rfl ?_
    refine BW.icmp_eq 20 (by decide +kernel : decode tX10_sign.2.1 13 = .ok (.if_icmp .eq 7, 3)) (by decide) (fun hc => ?_) (fun hc => ?_)
    · have h := (Ok.ite h).1 hc
      refine BW.sub [0] rfl ?_
      exact bX10_sign_20 hRm hQ h
    · have h := (Ok.ite h).2 hc
      refine BW.run [.aload_n 0] (pc' := 17) (lv' := [(0, .ref a0), (1, .int x1)]) (st' := [.ref a0]) (by decide +kernel) rfl rfl ?_
      refine BW.callV (As := []) (st := []) (by decide +kernel : decode tX10_sign.2.1 17 = .ok (.invokevirtual 110, 3)) (DX10_bad (Ok.bindK h)) mfX10_bad lkM_X10_110 imX10_bad selX10_bad ciX10 (oX10_bad (Ok.bindK h)).choose_spec rfl rfl (Nat.le_of_ble_eq_true rfl) ⟨Nat.le_trans (by decide) hRm.1, Nat.le_trans (by decide) hRm.2⟩ ⟨Nat.zero_le _, Nat.zero_le _⟩ ?_
      rintro _ s7 ⟨rfl, h⟩
      show BW G tX10_sign E 0 0 20 [(0, .ref a0), (1, .int x1)] [] s7
      refine BW.sub [0] rfl ?_
      exact bX10_sign_20 hRm hQ h
theorem oX10_sign {n : Nat} {P : Sg → Prop} {s0 : Sg} {a0 : Nat} {x1 : Int32} (h : Ok (mX10_sign n s0 a0 x1) P) : ∃ n0, s0.2.1 a0 = some (10, n0) := by
  unfold mX10_sign at h
  exact Ok.isO h
theorem DX10_sign {G : Cx} {n : Nat} {P : Sg → Prop} {s0 : Sg} {a0 : Nat} {x1 : Int32} (h : Ok (mX10_sign n s0 a0 x1) P) : BM G tX10_sign 2 40 0 0 [.ref a0, .int x1] s0 (fun v s => v = none ∧ P s) := by
  refine BM.of (by decide +kernel) (Nat.le_of_ble_eq_true rfl) ?_
  exact bX10_sign (E := (({ frames := 2, cells := 0, slots := 0, locals := 40 }), Aof s0, 0, 0, (fun v s => v = none ∧ P s))) ⟨Nat.le_refl _, Nat.le_refl _⟩ (fun s hp => ⟨rfl, hp⟩) h
def mX10_feed_35 (n : Nat) (s0 : Sg) (t0 : Int32) (t1 : Int32) (x1 : Int32) (x2 : Int32) (x3 : Int32) (x4 : Int32) (x5 : Int32) (x7 : Int32) : Option ((Sg × Int32 × Int32) ⊕ (Sg × Int32)) :=
  nm (t1 + t0) fun v4 =>
  some (.inl (s0, v4, (x7 + (1 : Int32))))
theorem bX10_feed_35 {G : Cx} {E : Ev} {n : Nat} (hRm : 1 ≤ E.1.frames ∧ 26 ≤ E.1.locals) {a0 : Nat} {s0 : Sg} {t0 : Int32} {t1 : Int32} {x1 : Int32} {x2 : Int32} {x3 : Int32} {x4 : Int32} {x5 : Int32} {x7 : Int32} {P : (Sg × Int32 × Int32) ⊕ (Sg × Int32) → Prop} (hC : ∀ (s : Sg) (c6 : Int32) (c7 : Int32), P (.inl (s, c6, c7)) → BW G tX10_feed E 0 0 6 [(0, .ref a0), (1, .int x1), (2, .int x2), (3, .int x3), (4, .int x4), (5, .int x5), (6, .int c6), (7, .int c7)] [] s) (hE : ∀ (s : Sg) (c6 : Int32), P (.inr (s, c6)) → BW G tX10_feed E 0 0 44 [(0, .ref a0), (1, .int x1), (2, .int x2), (3, .int x3), (4, .int x4), (5, .int x5), (6, .int c6)] [] s)  (h : Ok (mX10_feed_35 n s0 t0 t1 x1 x2 x3 x4 x5 x7) P) : BW G tX10_feed E 0 0 35 [(0, .ref a0), (1, .int x1), (2, .int x2), (3, .int x3), (4, .int x4), (5, .int x5), (7, .int x7)] [.int t0, .int t1] s0 := by
  unfold mX10_feed_35 at h
  refine BW.run [.iadd] (pc' := 36) (lv' := [(0, .ref a0), (1, .int x1), (2, .int x2), (3, .int x3), (4, .int x4), (5, .int x5), (7, .int x7)]) (st' := [.int (t1 + t0)]) (by decide +kernel) rfl rfl ?_
  obtain ⟨v4, wv4, h⟩ := Ok.nm h
  refine BW.nm wv4 ?_
  refine BW.run [.istore 6, .iinc 7 1] (pc' := 41) (lv' := [(0, .ref a0), (1, .int x1), (2, .int x2), (3, .int x3), (4, .int x4), (5, .int x5), (6, .int v4), (7, .int (x7 + (1 : Int32)))]) (st' := []) (by decide +kernel) rfl rfl ?_
  refine BW.goto 6 (by decide +kernel : decode tX10_feed.2.1 41 = .ok (.goto (-35), 3)) (by decide) ?_
  exact hC _ _ _ (Ok.some h)
def mX10_feed_L6 (n : Nat) (x1 : Int32) (x2 : Int32) (x3 : Int32) (x4 : Int32) (x5 : Int32) : (Sg × Int32 × Int32) → Option ((Sg × Int32 × Int32) ⊕ (Sg × Int32))
  | (s0, x6, x7) =>
    if (20 : Int32) ≤ x7 then (
      some (.inr (s0, x6))
    ) else (
      (mX10_byteOf n s0 x1 x2 x3 x4 x5 x7).bind fun (v2, s1) =>
      if v2 = 0 then (
        mX10_feed_35 n s1 (0 : Int32) x6 x1 x2 x3 x4 x5 x7
      ) else (
        mX10_feed_35 n s1 (1 : Int32) x6 x1 x2 x3 x4 x5 x7
      )
    )
theorem bX10_feed_L6 {G : Cx} {E : Ev} {n : Nat} (hRm : 1 ≤ E.1.frames ∧ 26 ≤ E.1.locals) {a0 : Nat} {x1 : Int32} {x2 : Int32} {x3 : Int32} {x4 : Int32} {x5 : Int32} {P : (Sg × Int32 × Int32) ⊕ (Sg × Int32) → Prop} (hC : ∀ (s : Sg) (c6 : Int32) (c7 : Int32), P (.inl (s, c6, c7)) → BW G tX10_feed E 0 0 6 [(0, .ref a0), (1, .int x1), (2, .int x2), (3, .int x3), (4, .int x4), (5, .int x5), (6, .int c6), (7, .int c7)] [] s) (hE : ∀ (s : Sg) (c6 : Int32), P (.inr (s, c6)) → BW G tX10_feed E 0 0 44 [(0, .ref a0), (1, .int x1), (2, .int x2), (3, .int x3), (4, .int x4), (5, .int x5), (6, .int c6)] [] s) {s0 : Sg} {x6 : Int32} {x7 : Int32} (h : Ok (mX10_feed_L6 n x1 x2 x3 x4 x5 (s0, x6, x7)) P) : BW G tX10_feed E 0 0 6 [(0, .ref a0), (1, .int x1), (2, .int x2), (3, .int x3), (4, .int x4), (5, .int x5), (6, .int x6), (7, .int x7)] [] s0 := by
  unfold mX10_feed_L6 at h
  refine BW.run [.iload 7, .bipush 20] (pc' := 10) (lv' := [(0, .ref a0), (1, .int x1), (2, .int x2), (3, .int x3), (4, .int x4), (5, .int x5), (6, .int x6), (7, .int x7)]) (st' := [.int (20 : Int32), .int x7]) (by decide +kernel) rfl rfl ?_
  refine BW.icmp_ge 44 (by decide +kernel : decode tX10_feed.2.1 10 = .ok (.if_icmp .ge 34, 3)) (by decide) (fun hc => ?_) (fun hc => ?_)
  · have h := (Ok.ite h).1 hc
    refine BW.sub [0, 1, 2, 3, 4, 5, 6] rfl ?_
    exact hE _ _ (Ok.some h)
  · have h := (Ok.ite h).2 hc
    refine BW.run [.iload 6, .iload_n 1, .iload_n 2, .iload_n 3, .iload 4, .iload 5, .iload 7] (pc' := 24) (lv' := [(0, .ref a0), (1, .int x1), (2, .int x2), (3, .int x3), (4, .int x4), (5, .int x5), (6, .int x6), (7, .int x7)]) (st' := [.int x7, .int x5, .int x4, .int x3, .int x2, .int x1, .int x6]) (by decide +kernel) rfl rfl ?_
    refine BW.callS (As := [.int x1, .int x2, .int x3, .int x4, .int x5, .int x7]) (st := [.int x6]) (by decide +kernel : decode tX10_feed.2.1 24 = .ok (.invokestatic 90, 3)) (DX10_byteOf (Ok.bindK h)) mfX10_byteOf lkM_X10_90 smX10_byteOf rfl rfl (Nat.le_of_ble_eq_true rfl) ⟨Nat.le_trans (by decide) hRm.1, Nat.le_trans (by decide) hRm.2⟩ ⟨Nat.zero_le _, Nat.zero_le _⟩ ?_
    rintro _ s1 ⟨v2, rfl, h⟩
    show BW G tX10_feed E 0 0 27 [(0, .ref a0), (1, .int x1), (2, .int x2), (3, .int x3), (4, .int x4), (5, .int x5), (6, .int x6), (7, .int x7)] [.int v2, .int x6] s1
    refine BW.if_eq 34 (by decide +kernel : decode tX10_feed.2.1 27 = .ok (.ifCond .eq 7, 3)) (by decide) (fun hc => ?_) (fun hc => ?_)
    · have h := (Ok.ite h).1 hc
      refine BW.run [.iconst 0] (pc' := 35) (lv' := [(0, .ref a0), (1, .int x1), (2, .int x2), (3, .int x3), (4, .int x4), (5, .int x5), (6, .int x6), (7, .int x7)]) (st' := [.int (0 : Int32), .int x6]) (by decide +kernel) rfl rfl ?_
      refine BW.sub [0, 1, 2, 3, 4, 5, 7] rfl ?_
      exact bX10_feed_35 hRm hC hE h
    · have h := (Ok.ite h).2 hc
      refine BW.run [.iconst 1] (pc' := 31) (lv' := [(0, .ref a0), (1, .int x1), (2, .int x2), (3, .int x3), (4, .int x4), (5, .int x5), (6, .int x6), (7, .int x7)]) (st' := [.int (1 : Int32), .int x6]) (by decide +kernel) rfl rfl ?_
      refine BW.goto 35 (by decide +kernel : decode tX10_feed.2.1 31 = .ok (.goto 4, 3)) (by decide) ?_
      refine BW.sub [0, 1, 2, 3, 4, 5, 7] rfl ?_
      exact bX10_feed_35 hRm hC hE h
theorem bX10_feed_W6 {G : Cx} {E : Ev} {n : Nat} (hRm : 1 ≤ E.1.frames ∧ 26 ≤ E.1.locals) {a0 : Nat} {x1 : Int32} {x2 : Int32} {x3 : Int32} {x4 : Int32} {x5 : Int32} {K : (Sg × Int32) → Prop} (hE : ∀ (s : Sg) (c6 : Int32), K (s, c6) → BW G tX10_feed E 0 0 44 [(0, .ref a0), (1, .int x1), (2, .int x2), (3, .int x3), (4, .int x4), (5, .int x5), (6, .int c6)] [] s) : ∀ (f : Nat) (c : Sg × Int32 × Int32), Ok (loopM (mX10_feed_L6 n x1 x2 x3 x4 x5) f c) K → match c with | (s0, x6, x7) => BW G tX10_feed E 0 0 6 [(0, .ref a0), (1, .int x1), (2, .int x2), (3, .int x3), (4, .int x4), (5, .int x5), (6, .int x6), (7, .int x7)] [] s0 := by
  intro f
  induction f with
  | zero => intro c h; exact (Ok.no h).elim
  | succ f ih =>
    intro c h
    obtain ⟨s0, x6, x7⟩ := c
    exact bX10_feed_L6 (P := loopP (mX10_feed_L6 n x1 x2 x3 x4 x5) f K) hRm (fun s c6 c7 h => ih (s, c6, c7) h) hE (loopM_ok h)
def mX10_feed_109 (n : Nat) (s0 : Sg) (a0 : Nat) (x1 : Int32) (x2 : Int32) (x3 : Int32) (x4 : Int32) (x5 : Int32) (x7 : Int32) : Option ((Sg × Int32) ⊕ (Sg)) :=
  some (.inl (s0, (x7 + (1 : Int32))))
theorem bX10_feed_109 {G : Cx} {E : Ev} {n : Nat} (hRm : 1 ≤ E.1.frames ∧ 26 ≤ E.1.locals) {s0 : Sg} {a0 : Nat} {x1 : Int32} {x2 : Int32} {x3 : Int32} {x4 : Int32} {x5 : Int32} {x7 : Int32} {P : (Sg × Int32) ⊕ (Sg) → Prop} (hC : ∀ (s : Sg) (c7 : Int32), P (.inl (s, c7)) → BW G tX10_feed E 0 0 62 [(0, .ref a0), (1, .int x1), (2, .int x2), (3, .int x3), (4, .int x4), (5, .int x5), (7, .int c7)] [] s) (hE : ∀ (s : Sg), P (.inr s) → BW G tX10_feed E 0 0 115 [(0, .ref a0)] [] s)  (h : Ok (mX10_feed_109 n s0 a0 x1 x2 x3 x4 x5 x7) P) : BW G tX10_feed E 0 0 109 [(0, .ref a0), (1, .int x1), (2, .int x2), (3, .int x3), (4, .int x4), (5, .int x5), (7, .int x7)] [] s0 := by
  unfold mX10_feed_109 at h
  refine BW.run [.iinc 7 1] (pc' := 112) (lv' := [(0, .ref a0), (1, .int x1), (2, .int x2), (3, .int x3), (4, .int x4), (5, .int x5), (7, .int (x7 + (1 : Int32)))]) (st' := []) (by decide +kernel) rfl rfl ?_
  refine BW.goto 62 (by decide +kernel : decode tX10_feed.2.1 112 = .ok (.goto (-50), 3)) (by decide) ?_
  exact hC _ _ (Ok.some h)
def mX10_feed_L62 (n : Nat) (a0 : Nat) (x1 : Int32) (x2 : Int32) (x3 : Int32) (x4 : Int32) (x5 : Int32) : (Sg × Int32) → Option ((Sg × Int32) ⊕ (Sg))
  | (s0, x7) =>
    if (20 : Int32) ≤ x7 then (
      some (.inr s0)
    ) else (
      (mX10_byteOf n s0 x1 x2 x3 x4 x5 x7).bind fun (v10, s9) =>
      if v10 = 0 then (
        mX10_feed_109 n s9 a0 x1 x2 x3 x4 x5 x7
      ) else (
        (toR (gV 10 s9 a0 4)).bind fun b12 =>
        (toI (gV 10 s9 a0 5)).bind fun v13 =>
        (sV 11 s9 b12 v13 (.int v10)).bind fun s14 =>
        (toI (gV 10 s14 a0 5)).bind fun v15 =>
        (pV 10 s14 a0 5 (.int (v15 + (1 : Int32)))).bind fun s16 =>
        mX10_feed_109 n s16 a0 x1 x2 x3 x4 x5 x7
      )
    )
theorem bX10_feed_L62 {G : Cx} {E : Ev} {n : Nat} (hRm : 1 ≤ E.1.frames ∧ 26 ≤ E.1.locals) {a0 : Nat} {x1 : Int32} {x2 : Int32} {x3 : Int32} {x4 : Int32} {x5 : Int32} {P : (Sg × Int32) ⊕ (Sg) → Prop} (hC : ∀ (s : Sg) (c7 : Int32), P (.inl (s, c7)) → BW G tX10_feed E 0 0 62 [(0, .ref a0), (1, .int x1), (2, .int x2), (3, .int x3), (4, .int x4), (5, .int x5), (7, .int c7)] [] s) (hE : ∀ (s : Sg), P (.inr s) → BW G tX10_feed E 0 0 115 [(0, .ref a0)] [] s) {s0 : Sg} {x7 : Int32} (h : Ok (mX10_feed_L62 n a0 x1 x2 x3 x4 x5 (s0, x7)) P) : BW G tX10_feed E 0 0 62 [(0, .ref a0), (1, .int x1), (2, .int x2), (3, .int x3), (4, .int x4), (5, .int x5), (7, .int x7)] [] s0 := by
  unfold mX10_feed_L62 at h
  refine BW.run [.iload 7, .bipush 20] (pc' := 66) (lv' := [(0, .ref a0), (1, .int x1), (2, .int x2), (3, .int x3), (4, .int x4), (5, .int x5), (7, .int x7)]) (st' := [.int (20 : Int32), .int x7]) (by decide +kernel) rfl rfl ?_
  refine BW.icmp_ge 115 (by decide +kernel : decode tX10_feed.2.1 66 = .ok (.if_icmp .ge 49, 3)) (by decide) (fun hc => ?_) (fun hc => ?_)
  · have h := (Ok.ite h).1 hc
    refine BW.sub [0] rfl ?_
    exact hE _ (Ok.some h)
  · have h := (Ok.ite h).2 hc
    refine BW.run [.iload_n 1, .iload_n 2, .iload_n 3, .iload 4, .iload 5, .iload 7] (pc' := 78) (lv' := [(0, .ref a0), (1, .int x1), (2, .int x2), (3, .int x3), (4, .int x4), (5, .int x5), (7, .int x7)]) (st' := [.int x7, .int x5, .int x4, .int x3, .int x2, .int x1]) (by decide +kernel) rfl rfl ?_
    refine BW.callS (As := [.int x1, .int x2, .int x3, .int x4, .int x5, .int x7]) (st := []) (by decide +kernel : decode tX10_feed.2.1 78 = .ok (.invokestatic 90, 3)) (DX10_byteOf (Ok.bindK h)) mfX10_byteOf lkM_X10_90 smX10_byteOf rfl rfl (Nat.le_of_ble_eq_true rfl) ⟨Nat.le_trans (by decide) hRm.1, Nat.le_trans (by decide) hRm.2⟩ ⟨Nat.zero_le _, Nat.zero_le _⟩ ?_
    rintro _ s9 ⟨v10, rfl, h⟩
    show BW G tX10_feed E 0 0 81 [(0, .ref a0), (1, .int x1), (2, .int x2), (3, .int x3), (4, .int x4), (5, .int x5), (7, .int x7)] [.int v10] s9
    refine BW.run [.istore 8, .iload 8] (pc' := 85) (lv' := [(0, .ref a0), (1, .int x1), (2, .int x2), (3, .int x3), (4, .int x4), (5, .int x5), (7, .int x7), (8, .int v10)]) (st' := [.int v10]) (by decide +kernel) rfl rfl ?_
    refine BW.if_eq 109 (by decide +kernel : decode tX10_feed.2.1 85 = .ok (.ifCond .eq 24, 3)) (by decide) (fun hc => ?_) (fun hc => ?_)
    · have h := (Ok.ite h).1 hc
      refine BW.sub [0, 1, 2, 3, 4, 5, 6] rfl ?_
      exact bX10_feed_109 hRm hC hE h
    · have h := (Ok.ite h).2 hc
      refine BW.run [.aload_n 0] (pc' := 89) (lv' := [(0, .ref a0), (1, .int x1), (2, .int x2), (3, .int x3), (4, .int x4), (5, .int x5), (7, .int x7), (8, .int v10)]) (st' := [.ref a0]) (by decide +kernel) rfl rfl ?_
      obtain ⟨b12, eb12, h⟩ := Ok.bind h
      refine BW.get (by decide +kernel : decode tX10_feed.2.1 89 = .ok (.getfield 18, 3)) ciX10 (k := 4) (by decide) lkF_X10_18 (toR_V eb12) ?_
      refine BW.run [.aload_n 0] (pc' := 93) (lv' := [(0, .ref a0), (1, .int x1), (2, .int x2), (3, .int x3), (4, .int x4), (5, .int x5), (7, .int x7), (8, .int v10)]) (st' := [.ref a0, .ref b12]) (by decide +kernel) rfl rfl ?_
      obtain ⟨v13, ev13, h⟩ := Ok.bind h
      refine BW.get (by decide +kernel : decode tX10_feed.2.1 93 = .ok (.getfield 94, 3)) ciX10 (k := 5) (by decide) lkF_X10_94 (toI_V ev13) ?_
      refine BW.run [.iload 8] (pc' := 98) (lv' := [(0, .ref a0), (1, .int x1), (2, .int x2), (3, .int x3), (4, .int x4), (5, .int x5), (7, .int x7), (8, .int v10)]) (st' := [.int v10, .int v13, .ref b12]) (by decide +kernel) rfl rfl ?_
      obtain ⟨s14, es14, h⟩ := Ok.bind h
      refine BW.iast (by decide +kernel : decode tX10_feed.2.1 98 = .ok (.iastore, 1)) es14 ?_
      refine BW.run [.aload_n 0, .dup] (pc' := 101) (lv' := [(0, .ref a0), (1, .int x1), (2, .int x2), (3, .int x3), (4, .int x4), (5, .int x5), (7, .int x7), (8, .int v10)]) (st' := [.ref a0, .ref a0]) (by decide +kernel) rfl rfl ?_
      obtain ⟨v15, ev15, h⟩ := Ok.bind h
      refine BW.get (by decide +kernel : decode tX10_feed.2.1 101 = .ok (.getfield 94, 3)) ciX10 (k := 5) (by decide) lkF_X10_94 (toI_V ev15) ?_
      refine BW.run [.iconst 1, .iadd] (pc' := 106) (lv' := [(0, .ref a0), (1, .int x1), (2, .int x2), (3, .int x3), (4, .int x4), (5, .int x5), (7, .int x7), (8, .int v10)]) (st' := [.int (v15 + (1 : Int32)), .ref a0]) (by decide +kernel) rfl rfl ?_
      obtain ⟨s16, es16, h⟩ := Ok.bind h
      refine BW.put (by decide +kernel : decode tX10_feed.2.1 106 = .ok (.putfield 94, 3)) ciX10 (k := 5) (by decide) lkF_X10_94 rfl rfl rfl es16 ?_
      refine BW.sub [0, 1, 2, 3, 4, 5, 6] rfl ?_
      exact bX10_feed_109 hRm hC hE h
theorem bX10_feed_W62 {G : Cx} {E : Ev} {n : Nat} (hRm : 1 ≤ E.1.frames ∧ 26 ≤ E.1.locals) {a0 : Nat} {x1 : Int32} {x2 : Int32} {x3 : Int32} {x4 : Int32} {x5 : Int32} {K : (Sg) → Prop} (hE : ∀ (s : Sg), K s → BW G tX10_feed E 0 0 115 [(0, .ref a0)] [] s) : ∀ (f : Nat) (c : Sg × Int32), Ok (loopM (mX10_feed_L62 n a0 x1 x2 x3 x4 x5) f c) K → match c with | (s0, x7) => BW G tX10_feed E 0 0 62 [(0, .ref a0), (1, .int x1), (2, .int x2), (3, .int x3), (4, .int x4), (5, .int x5), (7, .int x7)] [] s0 := by
  intro f
  induction f with
  | zero => intro c h; exact (Ok.no h).elim
  | succ f ih =>
    intro c h
    obtain ⟨s0, x7⟩ := c
    exact bX10_feed_L62 (P := loopP (mX10_feed_L62 n a0 x1 x2 x3 x4 x5) f K) hRm (fun s c7 h => ih (s, c7) h) hE (loopM_ok h)
def mX10_feed (n : Nat) (s0 : Sg) (a0 : Nat) (x1 : Int32) (x2 : Int32) (x3 : Int32) (x4 : Int32) (x5 : Int32) : Option (Int32 × Sg) :=
  (isO 10 s0 a0).bind fun _ =>
  (loopM (mX10_feed_L6 n x1 x2 x3 x4 x5) n (s0, (0 : Int32), (0 : Int32))).bind fun (s5, v6) =>
  (toI (gV 10 s5 a0 5)).bind fun v8 =>
  if (v8 + v6) ≤ (160 : Int32) then (
    (loopM (mX10_feed_L62 n a0 x1 x2 x3 x4 x5) n (s5, (0 : Int32))).bind fun s17 =>
    (toI (gV 10 s17 a0 5)).bind fun v19 =>
    some (v19, s17)
  ) else (
    some ((-1 : Int32), s5)
  )
theorem bX10_feed {G : Cx} {E : Ev} {n : Nat} (hRm : 1 ≤ E.1.frames ∧ 26 ≤ E.1.locals) {P : Int32 × Sg → Prop} (hQ : ∀ r s, P (r, s) → E.2.2.2.2 (some (.int r)) s) {s0 : Sg} {a0 : Nat} {x1 : Int32} {x2 : Int32} {x3 : Int32} {x4 : Int32} {x5 : Int32} (h : Ok (mX10_feed n s0 a0 x1 x2 x3 x4 x5) P) : BW G tX10_feed E 0 0 0 [(0, .ref a0), (1, .int x1), (2, .int x2), (3, .int x3), (4, .int x4), (5, .int x5)] [] s0 := by
  unfold mX10_feed at h
  obtain ⟨_, _, h⟩ := Ok.bind h
  refine BW.run [.iconst 0, .istore 6, .iconst 0, .istore 7] (pc' := 6) (lv' := [(0, .ref a0), (1, .int x1), (2, .int x2), (3, .int x3), (4, .int x4), (5, .int x5), (6, .int (0 : Int32)), (7, .int (0 : Int32))]) (st' := []) (by decide +kernel) rfl rfl ?_
  refine bX10_feed_W6 hRm (a0 := a0) (x1 := x1) (x2 := x2) (x3 := x3) (x4 := x4) (x5 := x5) (fun s5 v6 h => ?_) n (s0, (0 : Int32), (0 : Int32)) (Ok.bindK h)
  refine BW.run [.aload_n 0] (pc' := 45) (lv' := [(0, .ref a0), (1, .int x1), (2, .int x2), (3, .int x3), (4, .int x4), (5, .int x5), (6, .int v6)]) (st' := [.ref a0]) (by decide +kernel) rfl rfl ?_
  obtain ⟨v8, ev8, h⟩ := Ok.bind h
  refine BW.get (by decide +kernel : decode tX10_feed.2.1 45 = .ok (.getfield 94, 3)) ciX10 (k := 5) (by decide) lkF_X10_94 (toI_V ev8) ?_
  refine BW.run [.iload 6, .iadd, .sipush 160] (pc' := 54) (lv' := [(0, .ref a0), (1, .int x1), (2, .int x2), (3, .int x3), (4, .int x4), (5, .int x5), (6, .int v6)]) (st' := [.int (160 : Int32), .int (v8 + v6)]) (by decide +kernel) rfl rfl ?_
  refine BW.icmp_le 59 (by decide +kernel : decode tX10_feed.2.1 54 = .ok (.if_icmp .le 5, 3)) (by decide) (fun hc => ?_) (fun hc => ?_)
  · have h := (Ok.ite h).1 hc
    refine BW.run [.iconst 0, .istore 7] (pc' := 62) (lv' := [(0, .ref a0), (1, .int x1), (2, .int x2), (3, .int x3), (4, .int x4), (5, .int x5), (6, .int v6), (7, .int (0 : Int32))]) (st' := []) (by decide +kernel) rfl rfl ?_
    refine BW.sub [0, 1, 2, 3, 4, 5, 7] rfl ?_
    refine bX10_feed_W62 hRm (a0 := a0) (x1 := x1) (x2 := x2) (x3 := x3) (x4 := x4) (x5 := x5) (fun s17 h => ?_) n (s5, (0 : Int32)) (Ok.bindK h)
    refine BW.run [.aload_n 0] (pc' := 116) (lv' := [(0, .ref a0)]) (st' := [.ref a0]) (by decide +kernel) rfl rfl ?_
    obtain ⟨v19, ev19, h⟩ := Ok.bind h
    refine BW.get (by decide +kernel : decode tX10_feed.2.1 116 = .ok (.getfield 94, 3)) ciX10 (k := 5) (by decide) lkF_X10_94 (toI_V ev19) ?_
    exact BW.iret (by decide +kernel : decode tX10_feed.2.1 119 = .ok (.ireturn, 1)) rfl (Nat.zero_le _) (Nat.zero_le _) (hQ _ _ (Ok.some h))
  · have h := (Ok.ite h).2 hc
    refine BW.run [.iconst (-1)] (pc' := 58) (lv' := [(0, .ref a0), (1, .int x1), (2, .int x2), (3, .int x3), (4, .int x4), (5, .int x5), (6, .int v6)]) (st' := [.int (-1 : Int32)]) (by decide +kernel) rfl rfl ?_
    exact BW.iret (by decide +kernel : decode tX10_feed.2.1 58 = .ok (.ireturn, 1)) rfl (Nat.zero_le _) (Nat.zero_le _) (hQ _ _ (Ok.some h))
theorem oX10_feed {n : Nat} {P : Int32 × Sg → Prop} {s0 : Sg} {a0 : Nat} {x1 : Int32} {x2 : Int32} {x3 : Int32} {x4 : Int32} {x5 : Int32} (h : Ok (mX10_feed n s0 a0 x1 x2 x3 x4 x5) P) : ∃ n0, s0.2.1 a0 = some (10, n0) := by
  unfold mX10_feed at h
  exact Ok.isO h
theorem DX10_feed {G : Cx} {n : Nat} {P : Int32 × Sg → Prop} {s0 : Sg} {a0 : Nat} {x1 : Int32} {x2 : Int32} {x3 : Int32} {x4 : Int32} {x5 : Int32} (h : Ok (mX10_feed n s0 a0 x1 x2 x3 x4 x5) P) : BM G tX10_feed 1 26 0 0 [.ref a0, .int x1, .int x2, .int x3, .int x4, .int x5] s0 (fun v s => ∃ r, v = some (.int r) ∧ P (r, s)) := by
  refine BM.of (by decide +kernel) (Nat.le_of_ble_eq_true rfl) ?_
  exact bX10_feed (E := (({ frames := 1, cells := 0, slots := 0, locals := 26 }), Aof s0, 0, 0, (fun v s => ∃ r, v = some (.int r) ∧ P (r, s)))) ⟨Nat.le_refl _, Nat.le_refl _⟩ (fun r s hp => ⟨r, rfl, hp⟩) h
def mX10_spanNow_L4 (n : Nat) (a0 : Nat) : (Sg × Int32 × Int32) → Option ((Sg × Int32 × Int32) ⊕ (Sg × Int32))
  | (s0, x1, x2) =>
    (toI (gV 10 s0 a0 20)).bind fun v1 =>
    if v1 ≤ x2 then (
      some (.inr (s0, x1))
    ) else (
      (mX10_high n s0 a0 x2).bind fun (v3, s2) =>
      (mX10_low n s2 a0 x2).bind fun (v6, s5) =>
      nm (x1 + (v3 - v6)) fun v8 =>
      some (.inl (s5, v8, (x2 + (1 : Int32))))
    )
theorem bX10_spanNow_L4 {G : Cx} {E : Ev} {n : Nat} (hRm : 1 ≤ E.1.frames ∧ 21 ≤ E.1.locals) {a0 : Nat} {P : (Sg × Int32 × Int32) ⊕ (Sg × Int32) → Prop} (hC : ∀ (s : Sg) (c1 : Int32) (c2 : Int32), P (.inl (s, c1, c2)) → BW G tX10_spanNow E 0 0 4 [(0, .ref a0), (1, .int c1), (2, .int c2)] [] s) (hE : ∀ (s : Sg) (c1 : Int32), P (.inr (s, c1)) → BW G tX10_spanNow E 0 0 32 [(1, .int c1)] [] s) {s0 : Sg} {x1 : Int32} {x2 : Int32} (h : Ok (mX10_spanNow_L4 n a0 (s0, x1, x2)) P) : BW G tX10_spanNow E 0 0 4 [(0, .ref a0), (1, .int x1), (2, .int x2)] [] s0 := by
  unfold mX10_spanNow_L4 at h
  refine BW.run [.iload_n 2, .aload_n 0] (pc' := 6) (lv' := [(0, .ref a0), (1, .int x1), (2, .int x2)]) (st' := [.ref a0, .int x2]) (by decide +kernel) rfl rfl ?_
  obtain ⟨v1, ev1, h⟩ := Ok.bind h
  refine BW.get (by decide +kernel : decode tX10_spanNow.2.1 6 = .ok (.getfield 165, 3)) ciX10 (k := 20) (by decide) lkF_X10_165 (toI_V ev1) ?_
  refine BW.icmp_ge 32 (by decide +kernel : decode tX10_spanNow.2.1 9 = .ok (.if_icmp .ge 23, 3)) (by decide) (fun hc => ?_) (fun hc => ?_)
  · have h := (Ok.ite h).1 hc
    refine BW.sub [1] rfl ?_
    exact hE _ _ (Ok.some h)
  · have h := (Ok.ite h).2 hc
    refine BW.run [.iload_n 1, .aload_n 0, .iload_n 2] (pc' := 15) (lv' := [(0, .ref a0), (1, .int x1), (2, .int x2)]) (st' := [.int x2, .ref a0, .int x1]) (by decide +kernel) rfl rfl ?_
    refine BW.callV (As := [.int x2]) (st := [.int x1]) (by decide +kernel : decode tX10_spanNow.2.1 15 = .ok (.invokevirtual 238, 3)) (DX10_high (Ok.bindK h)) mfX10_high lkM_X10_238 imX10_high selX10_high ciX10 (oX10_high (Ok.bindK h)).choose_spec rfl rfl (Nat.le_of_ble_eq_true rfl) ⟨Nat.le_trans (by decide) hRm.1, Nat.le_trans (by decide) hRm.2⟩ ⟨Nat.zero_le _, Nat.zero_le _⟩ ?_
    rintro _ s2 ⟨v3, rfl, h⟩
    show BW G tX10_spanNow E 0 0 18 [(0, .ref a0), (1, .int x1), (2, .int x2)] [.int v3, .int x1] s2
    refine BW.run [.aload_n 0, .iload_n 2] (pc' := 20) (lv' := [(0, .ref a0), (1, .int x1), (2, .int x2)]) (st' := [.int x2, .ref a0, .int v3, .int x1]) (by decide +kernel) rfl rfl ?_
    refine BW.callV (As := [.int x2]) (st := [.int v3, .int x1]) (by decide +kernel : decode tX10_spanNow.2.1 20 = .ok (.invokevirtual 235, 3)) (DX10_low (Ok.bindK h)) mfX10_low lkM_X10_235 imX10_low selX10_low ciX10 (oX10_low (Ok.bindK h)).choose_spec rfl rfl (Nat.le_of_ble_eq_true rfl) ⟨Nat.le_trans (by decide) hRm.1, Nat.le_trans (by decide) hRm.2⟩ ⟨Nat.zero_le _, Nat.zero_le _⟩ ?_
    rintro _ s5 ⟨v6, rfl, h⟩
    show BW G tX10_spanNow E 0 0 23 [(0, .ref a0), (1, .int x1), (2, .int x2)] [.int v6, .int v3, .int x1] s5
    refine BW.run [.isub, .iadd] (pc' := 25) (lv' := [(0, .ref a0), (1, .int x1), (2, .int x2)]) (st' := [.int (x1 + (v3 - v6))]) (by decide +kernel) rfl rfl ?_
    obtain ⟨v8, wv8, h⟩ := Ok.nm h
    refine BW.nm wv8 ?_
    refine BW.run [.istore_n 1, .iinc 2 1] (pc' := 29) (lv' := [(0, .ref a0), (1, .int v8), (2, .int (x2 + (1 : Int32)))]) (st' := []) (by decide +kernel) rfl rfl ?_
    refine BW.goto 4 (by decide +kernel : decode tX10_spanNow.2.1 29 = .ok (.goto (-25), 3)) (by decide) ?_
    exact hC _ _ _ (Ok.some h)
theorem bX10_spanNow_W4 {G : Cx} {E : Ev} {n : Nat} (hRm : 1 ≤ E.1.frames ∧ 21 ≤ E.1.locals) {a0 : Nat} {K : (Sg × Int32) → Prop} (hE : ∀ (s : Sg) (c1 : Int32), K (s, c1) → BW G tX10_spanNow E 0 0 32 [(1, .int c1)] [] s) : ∀ (f : Nat) (c : Sg × Int32 × Int32), Ok (loopM (mX10_spanNow_L4 n a0) f c) K → match c with | (s0, x1, x2) => BW G tX10_spanNow E 0 0 4 [(0, .ref a0), (1, .int x1), (2, .int x2)] [] s0 := by
  intro f
  induction f with
  | zero => intro c h; exact (Ok.no h).elim
  | succ f ih =>
    intro c h
    obtain ⟨s0, x1, x2⟩ := c
    exact bX10_spanNow_L4 (P := loopP (mX10_spanNow_L4 n a0) f K) hRm (fun s c1 c2 h => ih (s, c1, c2) h) hE (loopM_ok h)
def mX10_spanNow (n : Nat) (s0 : Sg) (a0 : Nat) : Option (Int32 × Sg) :=
  (isO 10 s0 a0).bind fun _ =>
  (loopM (mX10_spanNow_L4 n a0) n (s0, (0 : Int32), (0 : Int32))).bind fun (s9, v10) =>
  some (v10, s9)
theorem bX10_spanNow {G : Cx} {E : Ev} {n : Nat} (hRm : 1 ≤ E.1.frames ∧ 21 ≤ E.1.locals) {P : Int32 × Sg → Prop} (hQ : ∀ r s, P (r, s) → E.2.2.2.2 (some (.int r)) s) {s0 : Sg} {a0 : Nat} (h : Ok (mX10_spanNow n s0 a0) P) : BW G tX10_spanNow E 0 0 0 [(0, .ref a0)] [] s0 := by
  unfold mX10_spanNow at h
  obtain ⟨_, _, h⟩ := Ok.bind h
  refine BW.run [.iconst 0, .istore_n 1, .iconst 0, .istore_n 2] (pc' := 4) (lv' := [(0, .ref a0), (1, .int (0 : Int32)), (2, .int (0 : Int32))]) (st' := []) (by decide +kernel) rfl rfl ?_
  refine bX10_spanNow_W4 hRm (a0 := a0) (fun s9 v10 h => ?_) n (s0, (0 : Int32), (0 : Int32)) (Ok.bindK h)
  refine BW.run [.iload_n 1] (pc' := 33) (lv' := [(1, .int v10)]) (st' := [.int v10]) (by decide +kernel) rfl rfl ?_
  exact BW.iret (by decide +kernel : decode tX10_spanNow.2.1 33 = .ok (.ireturn, 1)) rfl (Nat.zero_le _) (Nat.zero_le _) (hQ _ _ (Ok.some h))
theorem oX10_spanNow {n : Nat} {P : Int32 × Sg → Prop} {s0 : Sg} {a0 : Nat} (h : Ok (mX10_spanNow n s0 a0) P) : ∃ n0, s0.2.1 a0 = some (10, n0) := by
  unfold mX10_spanNow at h
  exact Ok.isO h
theorem DX10_spanNow {G : Cx} {n : Nat} {P : Int32 × Sg → Prop} {s0 : Sg} {a0 : Nat} (h : Ok (mX10_spanNow n s0 a0) P) : BM G tX10_spanNow 1 21 0 0 [.ref a0] s0 (fun v s => ∃ r, v = some (.int r) ∧ P (r, s)) := by
  refine BM.of (by decide +kernel) (Nat.le_of_ble_eq_true rfl) ?_
  exact bX10_spanNow (E := (({ frames := 1, cells := 0, slots := 0, locals := 21 }), Aof s0, 0, 0, (fun v s => ∃ r, v = some (.int r) ∧ P (r, s)))) ⟨Nat.le_refl _, Nat.le_refl _⟩ (fun r s hp => ⟨r, rfl, hp⟩) h
def mX10_spanWith (n : Nat) (s0 : Sg) (a0 : Nat) (x1 : Int32) (x2 : Int32) (x3 : Int32) (x4 : Int32) : Option (Int32 × Sg) :=
  (isO 10 s0 a0).bind fun _ =>
  (mX10_lay n s0 a0 x1).bind fun s1 =>
  (mX10_above n s1 a0 x2 x3 x4).bind fun s2 =>
  (mX10_close n s2 a0).bind fun (v4, s3) =>
  if v4 = 0 then (
    some ((0 : Int32), s3)
  ) else (
    (mX10_spanNow n s3 a0).bind fun (v7, s6) =>
    some (v7, s6)
  )
theorem bX10_spanWith {G : Cx} {E : Ev} {n : Nat} (hRm : 7 ≤ E.1.frames ∧ 157 ≤ E.1.locals) {P : Int32 × Sg → Prop} (hQ : ∀ r s, P (r, s) → E.2.2.2.2 (some (.int r)) s) {s0 : Sg} {a0 : Nat} {x1 : Int32} {x2 : Int32} {x3 : Int32} {x4 : Int32} (h : Ok (mX10_spanWith n s0 a0 x1 x2 x3 x4) P) : BW G tX10_spanWith E 0 0 0 [(0, .ref a0), (1, .int x1), (2, .int x2), (3, .int x3), (4, .int x4)] [] s0 := by
  unfold mX10_spanWith at h
  obtain ⟨_, _, h⟩ := Ok.bind h
  refine BW.run [.aload_n 0, .iload_n 1] (pc' := 2) (lv' := [(0, .ref a0), (1, .int x1), (2, .int x2), (3, .int x3), (4, .int x4)]) (st' := [.int x1, .ref a0]) (by decide +kernel) rfl rfl ?_
  refine BW.callV (As := [.int x1]) (st := []) (by decide +kernel : decode tX10_spanWith.2.1 2 = .ok (.invokevirtual 214, 3)) (DX10_lay (Ok.bindK h)) mfX10_lay lkM_X10_214 imX10_lay selX10_lay ciX10 (oX10_lay (Ok.bindK h)).choose_spec rfl rfl (Nat.le_of_ble_eq_true rfl) ⟨Nat.le_trans (by decide) hRm.1, Nat.le_trans (by decide) hRm.2⟩ ⟨Nat.zero_le _, Nat.zero_le _⟩ ?_
  rintro _ s1 ⟨rfl, h⟩
  show BW G tX10_spanWith E 0 0 5 [(0, .ref a0), (1, .int x1), (2, .int x2), (3, .int x3), (4, .int x4)] [] s1
  refine BW.run [.aload_n 0, .iload_n 2, .iload_n 3, .iload 4] (pc' := 10) (lv' := [(0, .ref a0), (1, .int x1), (2, .int x2), (3, .int x3), (4, .int x4)]) (st' := [.int x4, .int x3, .int x2, .ref a0]) (by decide +kernel) rfl rfl ?_
  refine BW.callV (As := [.int x2, .int x3, .int x4]) (st := []) (by decide +kernel : decode tX10_spanWith.2.1 10 = .ok (.invokevirtual 205, 3)) (DX10_above (Ok.bindK h)) mfX10_above lkM_X10_205 imX10_above selX10_above ciX10 (oX10_above (Ok.bindK h)).choose_spec rfl rfl (Nat.le_of_ble_eq_true rfl) ⟨Nat.le_trans (by decide) hRm.1, Nat.le_trans (by decide) hRm.2⟩ ⟨Nat.zero_le _, Nat.zero_le _⟩ ?_
  rintro _ s2 ⟨rfl, h⟩
  show BW G tX10_spanWith E 0 0 13 [(0, .ref a0), (1, .int x1), (2, .int x2), (3, .int x3), (4, .int x4)] [] s2
  refine BW.run [.aload_n 0] (pc' := 14) (lv' := [(0, .ref a0), (1, .int x1), (2, .int x2), (3, .int x3), (4, .int x4)]) (st' := [.ref a0]) (by decide +kernel) rfl rfl ?_
  refine BW.callV (As := []) (st := []) (by decide +kernel : decode tX10_spanWith.2.1 14 = .ok (.invokevirtual 217, 3)) (DX10_close (Ok.bindK h)) mfX10_close lkM_X10_217 imX10_close selX10_close ciX10 (oX10_close (Ok.bindK h)).choose_spec rfl rfl (Nat.le_of_ble_eq_true rfl) ⟨Nat.le_trans (by decide) hRm.1, Nat.le_trans (by decide) hRm.2⟩ ⟨Nat.zero_le _, Nat.zero_le _⟩ ?_
  rintro _ s3 ⟨v4, rfl, h⟩
  show BW G tX10_spanWith E 0 0 17 [(0, .ref a0), (1, .int x1), (2, .int x2), (3, .int x3), (4, .int x4)] [.int v4] s3
  refine BW.if_eq 27 (by decide +kernel : decode tX10_spanWith.2.1 17 = .ok (.ifCond .eq 10, 3)) (by decide) (fun hc => ?_) (fun hc => ?_)
  · have h := (Ok.ite h).1 hc
    refine BW.run [.iconst 0] (pc' := 28) (lv' := [(0, .ref a0), (1, .int x1), (2, .int x2), (3, .int x3), (4, .int x4)]) (st' := [.int (0 : Int32)]) (by decide +kernel) rfl rfl ?_
    exact BW.iret (by decide +kernel : decode tX10_spanWith.2.1 28 = .ok (.ireturn, 1)) rfl (Nat.zero_le _) (Nat.zero_le _) (hQ _ _ (Ok.some h))
  · have h := (Ok.ite h).2 hc
    refine BW.run [.aload_n 0] (pc' := 21) (lv' := [(0, .ref a0), (1, .int x1), (2, .int x2), (3, .int x3), (4, .int x4)]) (st' := [.ref a0]) (by decide +kernel) rfl rfl ?_
    refine BW.callV (As := []) (st := []) (by decide +kernel : decode tX10_spanWith.2.1 21 = .ok (.invokevirtual 257, 3)) (DX10_spanNow (Ok.bindK h)) mfX10_spanNow lkM_X10_257 imX10_spanNow selX10_spanNow ciX10 (oX10_spanNow (Ok.bindK h)).choose_spec rfl rfl (Nat.le_of_ble_eq_true rfl) ⟨Nat.le_trans (by decide) hRm.1, Nat.le_trans (by decide) hRm.2⟩ ⟨Nat.zero_le _, Nat.zero_le _⟩ ?_
    rintro _ s6 ⟨v7, rfl, h⟩
    show BW G tX10_spanWith E 0 0 24 [(0, .ref a0), (1, .int x1), (2, .int x2), (3, .int x3), (4, .int x4)] [.int v7] s6
    refine BW.goto 28 (by decide +kernel : decode tX10_spanWith.2.1 24 = .ok (.goto 4, 3)) (by decide) ?_
    exact BW.iret (by decide +kernel : decode tX10_spanWith.2.1 28 = .ok (.ireturn, 1)) rfl (Nat.zero_le _) (Nat.zero_le _) (hQ _ _ (Ok.some h))
theorem oX10_spanWith {n : Nat} {P : Int32 × Sg → Prop} {s0 : Sg} {a0 : Nat} {x1 : Int32} {x2 : Int32} {x3 : Int32} {x4 : Int32} (h : Ok (mX10_spanWith n s0 a0 x1 x2 x3 x4) P) : ∃ n0, s0.2.1 a0 = some (10, n0) := by
  unfold mX10_spanWith at h
  exact Ok.isO h
theorem DX10_spanWith {G : Cx} {n : Nat} {P : Int32 × Sg → Prop} {s0 : Sg} {a0 : Nat} {x1 : Int32} {x2 : Int32} {x3 : Int32} {x4 : Int32} (h : Ok (mX10_spanWith n s0 a0 x1 x2 x3 x4) P) : BM G tX10_spanWith 7 157 0 0 [.ref a0, .int x1, .int x2, .int x3, .int x4] s0 (fun v s => ∃ r, v = some (.int r) ∧ P (r, s)) := by
  refine BM.of (by decide +kernel) (Nat.le_of_ble_eq_true rfl) ?_
  exact bX10_spanWith (E := (({ frames := 7, cells := 0, slots := 0, locals := 157 }), Aof s0, 0, 0, (fun v s => ∃ r, v = some (.int r) ∧ P (r, s)))) ⟨Nat.le_refl _, Nat.le_refl _⟩ (fun r s hp => ⟨r, rfl, hp⟩) h
def mX10_sureOf (n : Nat) (s0 : Sg) (a0 : Nat) (x1 : Int32) (x2 : Int32) (x3 : Int32) : Option (Int32 × Sg) :=
  (isO 10 s0 a0).bind fun _ =>
  (mX10_made n s0 a0 x1 x3).bind fun (v2, s1) =>
  (mX10_made n s1 a0 x2 x3).bind fun (v5, s4) =>
  nm (v2 - v5) fun v7 =>
  (mX10_gapLow n s4 a0 x2 x1).bind fun (v9, s8) =>
  if (v9 + v7) ≤ 0 then (
    (mX10_gapHigh n s8 a0 x2 x1).bind fun (v12, s11) =>
    if 0 < (v12 + v7) then (
      some ((-1 : Int32), s11)
    ) else (
      some ((0 : Int32), s11)
    )
  ) else (
    some ((1 : Int32), s8)
  )
theorem bX10_sureOf {G : Cx} {E : Ev} {n : Nat} (hRm : 4 ≤ E.1.frames ∧ 90 ≤ E.1.locals) {P : Int32 × Sg → Prop} (hQ : ∀ r s, P (r, s) → E.2.2.2.2 (some (.int r)) s) {s0 : Sg} {a0 : Nat} {x1 : Int32} {x2 : Int32} {x3 : Int32} (h : Ok (mX10_sureOf n s0 a0 x1 x2 x3) P) : BW G tX10_sureOf E 0 0 0 [(0, .ref a0), (1, .int x1), (2, .int x2), (3, .int x3)] [] s0 := by
  unfold mX10_sureOf at h
  obtain ⟨_, _, h⟩ := Ok.bind h
  refine BW.run [.aload_n 0, .iload_n 1, .iload_n 3] (pc' := 3) (lv' := [(0, .ref a0), (1, .int x1), (2, .int x2), (3, .int x3)]) (st' := [.int x3, .int x1, .ref a0]) (by decide +kernel) rfl rfl ?_
  refine BW.callV (As := [.int x1, .int x3]) (st := []) (by decide +kernel : decode tX10_sureOf.2.1 3 = .ok (.invokevirtual 202, 3)) (DX10_made (Ok.bindK h)) mfX10_made lkM_X10_202 imX10_made selX10_made ciX10 (oX10_made (Ok.bindK h)).choose_spec rfl rfl (Nat.le_of_ble_eq_true rfl) ⟨Nat.le_trans (by decide) hRm.1, Nat.le_trans (by decide) hRm.2⟩ ⟨Nat.zero_le _, Nat.zero_le _⟩ ?_
  rintro _ s1 ⟨v2, rfl, h⟩
  show BW G tX10_sureOf E 0 0 6 [(0, .ref a0), (1, .int x1), (2, .int x2), (3, .int x3)] [.int v2] s1
  refine BW.run [.aload_n 0, .iload_n 2, .iload_n 3] (pc' := 9) (lv' := [(0, .ref a0), (1, .int x1), (2, .int x2), (3, .int x3)]) (st' := [.int x3, .int x2, .ref a0, .int v2]) (by decide +kernel) rfl rfl ?_
  refine BW.callV (As := [.int x2, .int x3]) (st := [.int v2]) (by decide +kernel : decode tX10_sureOf.2.1 9 = .ok (.invokevirtual 202, 3)) (DX10_made (Ok.bindK h)) mfX10_made lkM_X10_202 imX10_made selX10_made ciX10 (oX10_made (Ok.bindK h)).choose_spec rfl rfl (Nat.le_of_ble_eq_true rfl) ⟨Nat.le_trans (by decide) hRm.1, Nat.le_trans (by decide) hRm.2⟩ ⟨Nat.zero_le _, Nat.zero_le _⟩ ?_
  rintro _ s4 ⟨v5, rfl, h⟩
  show BW G tX10_sureOf E 0 0 12 [(0, .ref a0), (1, .int x1), (2, .int x2), (3, .int x3)] [.int v5, .int v2] s4
  refine BW.run [.isub] (pc' := 13) (lv' := [(0, .ref a0), (1, .int x1), (2, .int x2), (3, .int x3)]) (st' := [.int (v2 - v5)]) (by decide +kernel) rfl rfl ?_
  obtain ⟨v7, wv7, h⟩ := Ok.nm h
  refine BW.nm wv7 ?_
  refine BW.run [.istore 4, .aload_n 0, .iload_n 2, .iload_n 1] (pc' := 18) (lv' := [(0, .ref a0), (1, .int x1), (2, .int x2), (3, .int x3), (4, .int v7)]) (st' := [.int x1, .int x2, .ref a0]) (by decide +kernel) rfl rfl ?_
  refine BW.callV (As := [.int x2, .int x1]) (st := []) (by decide +kernel : decode tX10_sureOf.2.1 18 = .ok (.invokevirtual 241, 3)) (DX10_gapLow (Ok.bindK h)) mfX10_gapLow lkM_X10_241 imX10_gapLow selX10_gapLow ciX10 (oX10_gapLow (Ok.bindK h)).choose_spec rfl rfl (Nat.le_of_ble_eq_true rfl) ⟨Nat.le_trans (by decide) hRm.1, Nat.le_trans (by decide) hRm.2⟩ ⟨Nat.zero_le _, Nat.zero_le _⟩ ?_
  rintro _ s8 ⟨v9, rfl, h⟩
  show BW G tX10_sureOf E 0 0 21 [(0, .ref a0), (1, .int x1), (2, .int x2), (3, .int x3), (4, .int v7)] [.int v9] s8
  refine BW.run [.iload 4, .iadd] (pc' := 24) (lv' := [(0, .ref a0), (1, .int x1), (2, .int x2), (3, .int x3), (4, .int v7)]) (st' := [.int (v9 + v7)]) (by decide +kernel) rfl rfl ?_
  refine BW.if_le 31 (by decide +kernel : decode tX10_sureOf.2.1 24 = .ok (.ifCond .le 7, 3)) (by decide) (fun hc => ?_) (fun hc => ?_)
  · have h := (Ok.ite h).1 hc
    refine BW.run [.aload_n 0, .iload_n 2, .iload_n 1] (pc' := 34) (lv' := [(0, .ref a0), (1, .int x1), (2, .int x2), (3, .int x3), (4, .int v7)]) (st' := [.int x1, .int x2, .ref a0]) (by decide +kernel) rfl rfl ?_
    refine BW.callV (As := [.int x2, .int x1]) (st := []) (by decide +kernel : decode tX10_sureOf.2.1 34 = .ok (.invokevirtual 244, 3)) (DX10_gapHigh (Ok.bindK h)) mfX10_gapHigh lkM_X10_244 imX10_gapHigh selX10_gapHigh ciX10 (oX10_gapHigh (Ok.bindK h)).choose_spec rfl rfl (Nat.le_of_ble_eq_true rfl) ⟨Nat.le_trans (by decide) hRm.1, Nat.le_trans (by decide) hRm.2⟩ ⟨Nat.zero_le _, Nat.zero_le _⟩ ?_
    rintro _ s11 ⟨v12, rfl, h⟩
    show BW G tX10_sureOf E 0 0 37 [(0, .ref a0), (1, .int x1), (2, .int x2), (3, .int x3), (4, .int v7)] [.int v12] s11
    refine BW.run [.iload 4, .iadd] (pc' := 40) (lv' := [(0, .ref a0), (1, .int x1), (2, .int x2), (3, .int x3), (4, .int v7)]) (st' := [.int (v12 + v7)]) (by decide +kernel) rfl rfl ?_
    refine BW.if_gt 47 (by decide +kernel : decode tX10_sureOf.2.1 40 = .ok (.ifCond .gt 7, 3)) (by decide) (fun hc => ?_) (fun hc => ?_)
    · have h := (Ok.ite h).1 hc
      refine BW.run [.iconst (-1)] (pc' := 48) (lv' := [(0, .ref a0), (1, .int x1), (2, .int x2), (3, .int x3), (4, .int v7)]) (st' := [.int (-1 : Int32)]) (by decide +kernel) rfl rfl ?_
      exact BW.iret (by decide +kernel : decode tX10_sureOf.2.1 48 = .ok (.ireturn, 1)) rfl (Nat.zero_le _) (Nat.zero_le _) (hQ _ _ (Ok.some h))
    · have h := (Ok.ite h).2 hc
      refine BW.run [.iconst 0] (pc' := 44) (lv' := [(0, .ref a0), (1, .int x1), (2, .int x2), (3, .int x3), (4, .int v7)]) (st' := [.int (0 : Int32)]) (by decide +kernel) rfl rfl ?_
      refine BW.goto 48 (by decide +kernel : decode tX10_sureOf.2.1 44 = .ok (.goto 4, 3)) (by decide) ?_
      exact BW.iret (by decide +kernel : decode tX10_sureOf.2.1 48 = .ok (.ireturn, 1)) rfl (Nat.zero_le _) (Nat.zero_le _) (hQ _ _ (Ok.some h))
  · have h := (Ok.ite h).2 hc
    refine BW.run [.iconst 1] (pc' := 28) (lv' := [(0, .ref a0), (1, .int x1), (2, .int x2), (3, .int x3), (4, .int v7)]) (st' := [.int (1 : Int32)]) (by decide +kernel) rfl rfl ?_
    refine BW.goto 48 (by decide +kernel : decode tX10_sureOf.2.1 28 = .ok (.goto 20, 3)) (by decide) ?_
    exact BW.iret (by decide +kernel : decode tX10_sureOf.2.1 48 = .ok (.ireturn, 1)) rfl (Nat.zero_le _) (Nat.zero_le _) (hQ _ _ (Ok.some h))
theorem oX10_sureOf {n : Nat} {P : Int32 × Sg → Prop} {s0 : Sg} {a0 : Nat} {x1 : Int32} {x2 : Int32} {x3 : Int32} (h : Ok (mX10_sureOf n s0 a0 x1 x2 x3) P) : ∃ n0, s0.2.1 a0 = some (10, n0) := by
  unfold mX10_sureOf at h
  exact Ok.isO h
theorem DX10_sureOf {G : Cx} {n : Nat} {P : Int32 × Sg → Prop} {s0 : Sg} {a0 : Nat} {x1 : Int32} {x2 : Int32} {x3 : Int32} (h : Ok (mX10_sureOf n s0 a0 x1 x2 x3) P) : BM G tX10_sureOf 4 90 0 0 [.ref a0, .int x1, .int x2, .int x3] s0 (fun v s => ∃ r, v = some (.int r) ∧ P (r, s)) := by
  refine BM.of (by decide +kernel) (Nat.le_of_ble_eq_true rfl) ?_
  exact bX10_sureOf (E := (({ frames := 4, cells := 0, slots := 0, locals := 90 }), Aof s0, 0, 0, (fun v s => ∃ r, v = some (.int r) ∧ P (r, s)))) ⟨Nat.le_refl _, Nat.le_refl _⟩ (fun r s hp => ⟨r, rfl, hp⟩) h
def mX10_weigh_59 (n : Nat) (s0 : Sg) (a0 : Nat) (x2 : Int32) (x3 : Int32) (x4 : Int32) (x5 : Int32) : Option (Sg) :=
  (pV 10 s0 a0 29 (.int x2)).bind fun s15 =>
  (pV 10 s15 a0 30 (.int x3)).bind fun s16 =>
  (pV 10 s16 a0 31 (.int x4)).bind fun s17 =>
  (pV 10 s17 a0 32 (.int x5)).bind fun s18 =>
  some s18
theorem bX10_weigh_59 {G : Cx} {E : Ev} {n : Nat} (hRm : 8 ≤ E.1.frames ∧ 181 ≤ E.1.locals) {s0 : Sg} {a0 : Nat} {x2 : Int32} {x3 : Int32} {x4 : Int32} {x5 : Int32} {P : Sg → Prop} (hQ : ∀ s, P s → E.2.2.2.2 none s) (h : Ok (mX10_weigh_59 n s0 a0 x2 x3 x4 x5) P) : BW G tX10_weigh E 0 0 59 [(0, .ref a0), (2, .int x2), (3, .int x3), (4, .int x4), (5, .int x5)] [] s0 := by
  unfold mX10_weigh_59 at h
  refine BW.run [.aload_n 0, .iload_n 2] (pc' := 61) (lv' := [(0, .ref a0), (2, .int x2), (3, .int x3), (4, .int x4), (5, .int x5)]) (st' := [.int x2, .ref a0]) (by decide +kernel) rfl rfl ?_
  obtain ⟨s15, es15, h⟩ := Ok.bind h
  refine BW.put (by decide +kernel : decode tX10_weigh.2.1 61 = .ok (.putfield 260, 3)) ciX10 (k := 29) (by decide) lkF_X10_260 rfl rfl rfl es15 ?_
  refine BW.run [.aload_n 0, .iload_n 3] (pc' := 66) (lv' := [(0, .ref a0), (2, .int x2), (3, .int x3), (4, .int x4), (5, .int x5)]) (st' := [.int x3, .ref a0]) (by decide +kernel) rfl rfl ?_
  obtain ⟨s16, es16, h⟩ := Ok.bind h
  refine BW.put (by decide +kernel : decode tX10_weigh.2.1 66 = .ok (.putfield 274, 3)) ciX10 (k := 30) (by decide) lkF_X10_274 rfl rfl rfl es16 ?_
  refine BW.run [.aload_n 0, .iload 4] (pc' := 72) (lv' := [(0, .ref a0), (2, .int x2), (3, .int x3), (4, .int x4), (5, .int x5)]) (st' := [.int x4, .ref a0]) (by decide +kernel) rfl rfl ?_
  obtain ⟨s17, es17, h⟩ := Ok.bind h
  refine BW.put (by decide +kernel : decode tX10_weigh.2.1 72 = .ok (.putfield 277, 3)) ciX10 (k := 31) (by decide) lkF_X10_277 rfl rfl rfl es17 ?_
  refine BW.run [.aload_n 0, .iload 5] (pc' := 78) (lv' := [(0, .ref a0), (2, .int x2), (3, .int x3), (4, .int x4), (5, .int x5)]) (st' := [.int x5, .ref a0]) (by decide +kernel) rfl rfl ?_
  obtain ⟨s18, es18, h⟩ := Ok.bind h
  refine BW.put (by decide +kernel : decode tX10_weigh.2.1 78 = .ok (.putfield 271, 3)) ciX10 (k := 32) (by decide) lkF_X10_271 rfl rfl rfl es18 ?_
  exact BW.vret (by decide +kernel : decode tX10_weigh.2.1 81 = .ok (.return_, 1)) rfl (Nat.zero_le _) (Nat.zero_le _) (hQ _ (Ok.some h))
def mX10_weigh (n : Nat) (s0 : Sg) (a0 : Nat) (x1 : Int32) (x2 : Int32) (x3 : Int32) (x4 : Int32) : Option (Sg) :=
  (isO 10 s0 a0).bind fun _ =>
  (mX10_canBe n s0 a0 x1).bind fun (v2, s1) =>
  (mX10_sureOf n s1 a0 x2 x3 x4).bind fun (v5, s4) =>
  if v5 = (-1 : Int32) then (
    (mX10_spanWith n s4 a0 x1 x2 x3 x4).bind fun (v8, s7) =>
    (mX10_spanWith n s7 a0 x1 x3 x2 x4).bind fun (v11, s10) =>
    nm (jmax v8 v11) fun v13 =>
    (toI (gV 10 s10 a0 29)).bind fun v14 =>
    if v14 = (-1 : Int32) then (
      mX10_weigh_59 n s10 a0 x2 x3 x4 v13
    ) else (
      (toI (gV 10 s10 a0 32)).bind fun v19 =>
      if v19 ≤ v13 then (
        some s10
      ) else (
        mX10_weigh_59 n s10 a0 x2 x3 x4 v13
      )
    )
  ) else (
    some s4
  )
theorem bX10_weigh {G : Cx} {E : Ev} {n : Nat} (hRm : 8 ≤ E.1.frames ∧ 181 ≤ E.1.locals) {P : Sg → Prop} (hQ : ∀ s, P s → E.2.2.2.2 none s) {s0 : Sg} {a0 : Nat} {x1 : Int32} {x2 : Int32} {x3 : Int32} {x4 : Int32} (h : Ok (mX10_weigh n s0 a0 x1 x2 x3 x4) P) : BW G tX10_weigh E 0 0 0 [(0, .ref a0), (1, .int x1), (2, .int x2), (3, .int x3), (4, .int x4)] [] s0 := by
  unfold mX10_weigh at h
  obtain ⟨_, _, h⟩ := Ok.bind h
  refine BW.run [.aload_n 0, .iload_n 1] (pc' := 2) (lv' := [(0, .ref a0), (1, .int x1), (2, .int x2), (3, .int x3), (4, .int x4)]) (st' := [.int x1, .ref a0]) (by decide +kernel) rfl rfl ?_
  refine BW.callV (As := [.int x1]) (st := []) (by decide +kernel : decode tX10_weigh.2.1 2 = .ok (.invokevirtual 224, 3)) (DX10_canBe (Ok.bindK h)) mfX10_canBe lkM_X10_224 imX10_canBe selX10_canBe ciX10 (oX10_canBe (Ok.bindK h)).choose_spec rfl rfl (Nat.le_of_ble_eq_true rfl) ⟨Nat.le_trans (by decide) hRm.1, Nat.le_trans (by decide) hRm.2⟩ ⟨Nat.zero_le _, Nat.zero_le _⟩ ?_
  rintro _ s1 ⟨v2, rfl, h⟩
  show BW G tX10_weigh E 0 0 5 [(0, .ref a0), (1, .int x1), (2, .int x2), (3, .int x3), (4, .int x4)] [.int v2] s1
  refine BW.run [.pop, .aload_n 0, .iload_n 2, .iload_n 3, .iload 4] (pc' := 11) (lv' := [(0, .ref a0), (1, .int x1), (2, .int x2), (3, .int x3), (4, .int x4)]) (st' := [.int x4, .int x3, .int x2, .ref a0]) (by decide +kernel) rfl rfl ?_
  refine BW.callV (As := [.int x2, .int x3, .int x4]) (st := []) (by decide +kernel : decode tX10_weigh.2.1 11 = .ok (.invokevirtual 254, 3)) (DX10_sureOf (Ok.bindK h)) mfX10_sureOf lkM_X10_254 imX10_sureOf selX10_sureOf ciX10 (oX10_sureOf (Ok.bindK h)).choose_spec rfl rfl (Nat.le_of_ble_eq_true rfl) ⟨Nat.le_trans (by decide) hRm.1, Nat.le_trans (by decide) hRm.2⟩ ⟨Nat.zero_le _, Nat.zero_le _⟩ ?_
  rintro _ s4 ⟨v5, rfl, h⟩
  show BW G tX10_weigh E 0 0 14 [(0, .ref a0), (1, .int x1), (2, .int x2), (3, .int x3), (4, .int x4)] [.int v5] s4
  refine BW.run [.iconst (-1)] (pc' := 15) (lv' := [(0, .ref a0), (1, .int x1), (2, .int x2), (3, .int x3), (4, .int x4)]) (st' := [.int (-1 : Int32), .int v5]) (by decide +kernel) rfl rfl ?_
  refine BW.icmp_eq 19 (by decide +kernel : decode tX10_weigh.2.1 15 = .ok (.if_icmp .eq 4, 3)) (by decide) (fun hc => ?_) (fun hc => ?_)
  · have h := (Ok.ite h).1 hc
    refine BW.run [.aload_n 0, .iload_n 1, .iload_n 2, .iload_n 3, .iload 4] (pc' := 25) (lv' := [(0, .ref a0), (1, .int x1), (2, .int x2), (3, .int x3), (4, .int x4)]) (st' := [.int x4, .int x3, .int x2, .int x1, .ref a0]) (by decide +kernel) rfl rfl ?_
    refine BW.callV (As := [.int x1, .int x2, .int x3, .int x4]) (st := []) (by decide +kernel : decode tX10_weigh.2.1 25 = .ok (.invokevirtual 267, 3)) (DX10_spanWith (Ok.bindK h)) mfX10_spanWith lkM_X10_267 imX10_spanWith selX10_spanWith ciX10 (oX10_spanWith (Ok.bindK h)).choose_spec rfl rfl (Nat.le_of_ble_eq_true rfl) ⟨Nat.le_trans (by decide) hRm.1, Nat.le_trans (by decide) hRm.2⟩ ⟨Nat.zero_le _, Nat.zero_le _⟩ ?_
    rintro _ s7 ⟨v8, rfl, h⟩
    show BW G tX10_weigh E 0 0 28 [(0, .ref a0), (1, .int x1), (2, .int x2), (3, .int x3), (4, .int x4)] [.int v8] s7
    refine BW.run [.aload_n 0, .iload_n 1, .iload_n 3, .iload_n 2, .iload 4] (pc' := 34) (lv' := [(0, .ref a0), (1, .int x1), (2, .int x2), (3, .int x3), (4, .int x4)]) (st' := [.int x4, .int x2, .int x3, .int x1, .ref a0, .int v8]) (by decide +kernel) rfl rfl ?_
    refine BW.callV (As := [.int x1, .int x3, .int x2, .int x4]) (st := [.int v8]) (by decide +kernel : decode tX10_weigh.2.1 34 = .ok (.invokevirtual 267, 3)) (DX10_spanWith (Ok.bindK h)) mfX10_spanWith lkM_X10_267 imX10_spanWith selX10_spanWith ciX10 (oX10_spanWith (Ok.bindK h)).choose_spec rfl rfl (Nat.le_of_ble_eq_true rfl) ⟨Nat.le_trans (by decide) hRm.1, Nat.le_trans (by decide) hRm.2⟩ ⟨Nat.zero_le _, Nat.zero_le _⟩ ?_
    rintro _ s10 ⟨v11, rfl, h⟩
    show BW G tX10_weigh E 0 0 37 [(0, .ref a0), (1, .int x1), (2, .int x2), (3, .int x3), (4, .int x4)] [.int v11, .int v8] s10
    refine BW.mmax (by decide +kernel : decode tX10_weigh.2.1 37 = .ok (.invokestatic 9, 3)) lkM_X10_9 (Nat.le_of_ble_eq_true rfl) ⟨Nat.le_trans (by decide) hRm.1, Nat.le_trans (by decide) hRm.2⟩ ⟨Nat.zero_le _, Nat.zero_le _⟩ ?_
    obtain ⟨v13, wv13, h⟩ := Ok.nm h
    refine BW.nm wv13 ?_
    refine BW.run [.istore 5, .aload_n 0] (pc' := 43) (lv' := [(0, .ref a0), (1, .int x1), (2, .int x2), (3, .int x3), (4, .int x4), (5, .int v13)]) (st' := [.ref a0]) (by decide +kernel) rfl rfl ?_
    obtain ⟨v14, ev14, h⟩ := Ok.bind h
    refine BW.get (by decide +kernel : decode tX10_weigh.2.1 43 = .ok (.getfield 260, 3)) ciX10 (k := 29) (by decide) lkF_X10_260 (toI_V ev14) ?_
    refine BW.run [.iconst (-1)] (pc' := 47) (lv' := [(0, .ref a0), (1, .int x1), (2, .int x2), (3, .int x3), (4, .int x4), (5, .int v13)]) (st' := [.int (-1 : Int32), .int v14]) (by decide +kernel) rfl rfl ?_
    refine BW.icmp_eq 59 (by decide +kernel : decode tX10_weigh.2.1 47 = .ok (.if_icmp .eq 12, 3)) (by decide) (fun hc => ?_) (fun hc => ?_)
    · have h := (Ok.ite h).1 hc
      refine BW.sub [0, 2, 3, 4, 5] rfl ?_
      exact bX10_weigh_59 hRm hQ h
    · have h := (Ok.ite h).2 hc
      refine BW.run [.iload 5, .aload_n 0] (pc' := 53) (lv' := [(0, .ref a0), (1, .int x1), (2, .int x2), (3, .int x3), (4, .int x4), (5, .int v13)]) (st' := [.ref a0, .int v13]) (by decide +kernel) rfl rfl ?_
      obtain ⟨v19, ev19, h⟩ := Ok.bind h
      refine BW.get (by decide +kernel : decode tX10_weigh.2.1 53 = .ok (.getfield 271, 3)) ciX10 (k := 32) (by decide) lkF_X10_271 (toI_V ev19) ?_
      refine BW.icmp_ge 81 (by decide +kernel : decode tX10_weigh.2.1 56 = .ok (.if_icmp .ge 25, 3)) (by decide) (fun hc => ?_) (fun hc => ?_)
      · have h := (Ok.ite h).1 hc
        exact BW.vret (by decide +kernel : decode tX10_weigh.2.1 81 = .ok (.return_, 1)) rfl (Nat.zero_le _) (Nat.zero_le _) (hQ _ (Ok.some h))
      · have h := (Ok.ite h).2 hc
        refine BW.sub [0, 2, 3, 4, 5] rfl ?_
        exact bX10_weigh_59 hRm hQ h
  · have h := (Ok.ite h).2 hc
    exact BW.vret (by decide +kernel : decode tX10_weigh.2.1 18 = .ok (.return_, 1)) rfl (Nat.zero_le _) (Nat.zero_le _) (hQ _ (Ok.some h))
theorem oX10_weigh {n : Nat} {P : Sg → Prop} {s0 : Sg} {a0 : Nat} {x1 : Int32} {x2 : Int32} {x3 : Int32} {x4 : Int32} (h : Ok (mX10_weigh n s0 a0 x1 x2 x3 x4) P) : ∃ n0, s0.2.1 a0 = some (10, n0) := by
  unfold mX10_weigh at h
  exact Ok.isO h
theorem DX10_weigh {G : Cx} {n : Nat} {P : Sg → Prop} {s0 : Sg} {a0 : Nat} {x1 : Int32} {x2 : Int32} {x3 : Int32} {x4 : Int32} (h : Ok (mX10_weigh n s0 a0 x1 x2 x3 x4) P) : BM G tX10_weigh 8 181 0 0 [.ref a0, .int x1, .int x2, .int x3, .int x4] s0 (fun v s => v = none ∧ P s) := by
  refine BM.of (by decide +kernel) (Nat.le_of_ble_eq_true rfl) ?_
  exact bX10_weigh (E := (({ frames := 8, cells := 0, slots := 0, locals := 181 }), Aof s0, 0, 0, (fun v s => v = none ∧ P s))) ⟨Nat.le_refl _, Nat.le_refl _⟩ (fun s hp => ⟨rfl, hp⟩) h
def mX10_findLook_58 (n : Nat) (s0 : Sg) (a0 : Nat) (x1 : Int32) (x2 : Int32) (x3 : Int32) (x4 : Int32) : Option ((Sg × Int32) ⊕ (Sg)) :=
  some (.inl (s0, (x4 + (1 : Int32))))
theorem bX10_findLook_58 {G : Cx} {E : Ev} {n : Nat} (hRm : 9 ≤ E.1.frames ∧ 206 ≤ E.1.locals) {s0 : Sg} {a0 : Nat} {x1 : Int32} {x2 : Int32} {x3 : Int32} {x4 : Int32} {P : (Sg × Int32) ⊕ (Sg) → Prop} (hC : ∀ (s : Sg) (c4 : Int32), P (.inl (s, c4)) → BW G tX10_findLook E 0 0 30 [(0, .ref a0), (1, .int x1), (2, .int x2), (3, .int x3), (4, .int c4)] [] s) (hE : ∀ (s : Sg), P (.inr s) → BW G tX10_findLook E 0 0 64 [(0, .ref a0), (1, .int x1), (2, .int x2), (3, .int x3)] [] s)  (h : Ok (mX10_findLook_58 n s0 a0 x1 x2 x3 x4) P) : BW G tX10_findLook E 0 0 58 [(0, .ref a0), (1, .int x1), (2, .int x2), (3, .int x3), (4, .int x4)] [] s0 := by
  unfold mX10_findLook_58 at h
  refine BW.run [.iinc 4 1] (pc' := 61) (lv' := [(0, .ref a0), (1, .int x1), (2, .int x2), (3, .int x3), (4, .int (x4 + (1 : Int32)))]) (st' := []) (by decide +kernel) rfl rfl ?_
  refine BW.goto 30 (by decide +kernel : decode tX10_findLook.2.1 61 = .ok (.goto (-31), 3)) (by decide) ?_
  exact hC _ _ (Ok.some h)
def mX10_findLook_L30 (n : Nat) (a0 : Nat) (x1 : Int32) (x2 : Int32) (x3 : Int32) : (Sg × Int32) → Option ((Sg × Int32) ⊕ (Sg))
  | (s0, x4) =>
    if (256 : Int32) ≤ x4 then (
      some (.inr s0)
    ) else (
      (mX10_cross n s0 a0 x2 x3 x4).bind fun (v6, s5) =>
      if v6 = 0 then (
        mX10_findLook_58 n s5 a0 x1 x2 x3 x4
      ) else (
        (mX10_weigh n s5 a0 x1 x2 x3 x4).bind fun s8 =>
        mX10_findLook_58 n s8 a0 x1 x2 x3 x4
      )
    )
theorem bX10_findLook_L30 {G : Cx} {E : Ev} {n : Nat} (hRm : 9 ≤ E.1.frames ∧ 206 ≤ E.1.locals) {a0 : Nat} {x1 : Int32} {x2 : Int32} {x3 : Int32} {P : (Sg × Int32) ⊕ (Sg) → Prop} (hC : ∀ (s : Sg) (c4 : Int32), P (.inl (s, c4)) → BW G tX10_findLook E 0 0 30 [(0, .ref a0), (1, .int x1), (2, .int x2), (3, .int x3), (4, .int c4)] [] s) (hE : ∀ (s : Sg), P (.inr s) → BW G tX10_findLook E 0 0 64 [(0, .ref a0), (1, .int x1), (2, .int x2), (3, .int x3)] [] s) {s0 : Sg} {x4 : Int32} (h : Ok (mX10_findLook_L30 n a0 x1 x2 x3 (s0, x4)) P) : BW G tX10_findLook E 0 0 30 [(0, .ref a0), (1, .int x1), (2, .int x2), (3, .int x3), (4, .int x4)] [] s0 := by
  unfold mX10_findLook_L30 at h
  refine BW.run [.iload 4, .sipush 256] (pc' := 35) (lv' := [(0, .ref a0), (1, .int x1), (2, .int x2), (3, .int x3), (4, .int x4)]) (st' := [.int (256 : Int32), .int x4]) (by decide +kernel) rfl rfl ?_
  refine BW.icmp_ge 64 (by decide +kernel : decode tX10_findLook.2.1 35 = .ok (.if_icmp .ge 29, 3)) (by decide) (fun hc => ?_) (fun hc => ?_)
  · have h := (Ok.ite h).1 hc
    refine BW.sub [0, 1, 2, 3] rfl ?_
    exact hE _ (Ok.some h)
  · have h := (Ok.ite h).2 hc
    refine BW.run [.aload_n 0, .iload_n 2, .iload_n 3, .iload 4] (pc' := 43) (lv' := [(0, .ref a0), (1, .int x1), (2, .int x2), (3, .int x3), (4, .int x4)]) (st' := [.int x4, .int x3, .int x2, .ref a0]) (by decide +kernel) rfl rfl ?_
    refine BW.callV (As := [.int x2, .int x3, .int x4]) (st := []) (by decide +kernel : decode tX10_findLook.2.1 43 = .ok (.invokevirtual 251, 3)) (DX10_cross (Ok.bindK h)) mfX10_cross lkM_X10_251 imX10_cross selX10_cross ciX10 (oX10_cross (Ok.bindK h)).choose_spec rfl rfl (Nat.le_of_ble_eq_true rfl) ⟨Nat.le_trans (by decide) hRm.1, Nat.le_trans (by decide) hRm.2⟩ ⟨Nat.zero_le _, Nat.zero_le _⟩ ?_
    rintro _ s5 ⟨v6, rfl, h⟩
    show BW G tX10_findLook E 0 0 46 [(0, .ref a0), (1, .int x1), (2, .int x2), (3, .int x3), (4, .int x4)] [.int v6] s5
    refine BW.if_eq 58 (by decide +kernel : decode tX10_findLook.2.1 46 = .ok (.ifCond .eq 12, 3)) (by decide) (fun hc => ?_) (fun hc => ?_)
    · have h := (Ok.ite h).1 hc
      exact bX10_findLook_58 hRm hC hE h
    · have h := (Ok.ite h).2 hc
      refine BW.run [.aload_n 0, .iload_n 1, .iload_n 2, .iload_n 3, .iload 4] (pc' := 55) (lv' := [(0, .ref a0), (1, .int x1), (2, .int x2), (3, .int x3), (4, .int x4)]) (st' := [.int x4, .int x3, .int x2, .int x1, .ref a0]) (by decide +kernel) rfl rfl ?_
      refine BW.callV (As := [.int x1, .int x2, .int x3, .int x4]) (st := []) (by decide +kernel : decode tX10_findLook.2.1 55 = .ok (.invokevirtual 263, 3)) (DX10_weigh (Ok.bindK h)) mfX10_weigh lkM_X10_263 imX10_weigh selX10_weigh ciX10 (oX10_weigh (Ok.bindK h)).choose_spec rfl rfl (Nat.le_of_ble_eq_true rfl) ⟨Nat.le_trans (by decide) hRm.1, Nat.le_trans (by decide) hRm.2⟩ ⟨Nat.zero_le _, Nat.zero_le _⟩ ?_
      rintro _ s8 ⟨rfl, h⟩
      show BW G tX10_findLook E 0 0 58 [(0, .ref a0), (1, .int x1), (2, .int x2), (3, .int x3), (4, .int x4)] [] s8
      exact bX10_findLook_58 hRm hC hE h
theorem bX10_findLook_W30 {G : Cx} {E : Ev} {n : Nat} (hRm : 9 ≤ E.1.frames ∧ 206 ≤ E.1.locals) {a0 : Nat} {x1 : Int32} {x2 : Int32} {x3 : Int32} {K : (Sg) → Prop} (hE : ∀ (s : Sg), K s → BW G tX10_findLook E 0 0 64 [(0, .ref a0), (1, .int x1), (2, .int x2), (3, .int x3)] [] s) : ∀ (f : Nat) (c : Sg × Int32), Ok (loopM (mX10_findLook_L30 n a0 x1 x2 x3) f c) K → match c with | (s0, x4) => BW G tX10_findLook E 0 0 30 [(0, .ref a0), (1, .int x1), (2, .int x2), (3, .int x3), (4, .int x4)] [] s0 := by
  intro f
  induction f with
  | zero => intro c h; exact (Ok.no h).elim
  | succ f ih =>
    intro c h
    obtain ⟨s0, x4⟩ := c
    exact bX10_findLook_L30 (P := loopP (mX10_findLook_L30 n a0 x1 x2 x3) f K) hRm (fun s c4 h => ih (s, c4) h) hE (loopM_ok h)
def mX10_findLook_L19 (n : Nat) (a0 : Nat) (x1 : Int32) (x2 : Int32) : (Sg × Int32) → Option ((Sg × Int32) ⊕ (Sg))
  | (s0, x3) =>
    (toI (gV 10 s0 a0 20)).bind fun v4 =>
    if v4 ≤ x3 then (
      some (.inr s0)
    ) else (
      (loopM (mX10_findLook_L30 n a0 x1 x2 x3) n (s0, (0 : Int32))).bind fun s9 =>
      some (.inl (s9, (x3 + (1 : Int32))))
    )
theorem bX10_findLook_L19 {G : Cx} {E : Ev} {n : Nat} (hRm : 9 ≤ E.1.frames ∧ 206 ≤ E.1.locals) {a0 : Nat} {x1 : Int32} {x2 : Int32} {P : (Sg × Int32) ⊕ (Sg) → Prop} (hC : ∀ (s : Sg) (c3 : Int32), P (.inl (s, c3)) → BW G tX10_findLook E 0 0 19 [(0, .ref a0), (1, .int x1), (2, .int x2), (3, .int c3)] [] s) (hE : ∀ (s : Sg), P (.inr s) → BW G tX10_findLook E 0 0 70 [(0, .ref a0), (1, .int x1), (2, .int x2)] [] s) {s0 : Sg} {x3 : Int32} (h : Ok (mX10_findLook_L19 n a0 x1 x2 (s0, x3)) P) : BW G tX10_findLook E 0 0 19 [(0, .ref a0), (1, .int x1), (2, .int x2), (3, .int x3)] [] s0 := by
  unfold mX10_findLook_L19 at h
  refine BW.run [.iload_n 3, .aload_n 0] (pc' := 21) (lv' := [(0, .ref a0), (1, .int x1), (2, .int x2), (3, .int x3)]) (st' := [.ref a0, .int x3]) (by decide +kernel) rfl rfl ?_
  obtain ⟨v4, ev4, h⟩ := Ok.bind h
  refine BW.get (by decide +kernel : decode tX10_findLook.2.1 21 = .ok (.getfield 165, 3)) ciX10 (k := 20) (by decide) lkF_X10_165 (toI_V ev4) ?_
  refine BW.icmp_ge 70 (by decide +kernel : decode tX10_findLook.2.1 24 = .ok (.if_icmp .ge 46, 3)) (by decide) (fun hc => ?_) (fun hc => ?_)
  · have h := (Ok.ite h).1 hc
    refine BW.sub [0, 1, 2] rfl ?_
    exact hE _ (Ok.some h)
  · have h := (Ok.ite h).2 hc
    refine BW.run [.iconst 0, .istore 4] (pc' := 30) (lv' := [(0, .ref a0), (1, .int x1), (2, .int x2), (3, .int x3), (4, .int (0 : Int32))]) (st' := []) (by decide +kernel) rfl rfl ?_
    refine bX10_findLook_W30 hRm (a0 := a0) (x1 := x1) (x2 := x2) (x3 := x3) (fun s9 h => ?_) n (s0, (0 : Int32)) (Ok.bindK h)
    refine BW.run [.iinc 3 1] (pc' := 67) (lv' := [(0, .ref a0), (1, .int x1), (2, .int x2), (3, .int (x3 + (1 : Int32)))]) (st' := []) (by decide +kernel) rfl rfl ?_
    refine BW.goto 19 (by decide +kernel : decode tX10_findLook.2.1 67 = .ok (.goto (-48), 3)) (by decide) ?_
    exact hC _ _ (Ok.some h)
theorem bX10_findLook_W19 {G : Cx} {E : Ev} {n : Nat} (hRm : 9 ≤ E.1.frames ∧ 206 ≤ E.1.locals) {a0 : Nat} {x1 : Int32} {x2 : Int32} {K : (Sg) → Prop} (hE : ∀ (s : Sg), K s → BW G tX10_findLook E 0 0 70 [(0, .ref a0), (1, .int x1), (2, .int x2)] [] s) : ∀ (f : Nat) (c : Sg × Int32), Ok (loopM (mX10_findLook_L19 n a0 x1 x2) f c) K → match c with | (s0, x3) => BW G tX10_findLook E 0 0 19 [(0, .ref a0), (1, .int x1), (2, .int x2), (3, .int x3)] [] s0 := by
  intro f
  induction f with
  | zero => intro c h; exact (Ok.no h).elim
  | succ f ih =>
    intro c h
    obtain ⟨s0, x3⟩ := c
    exact bX10_findLook_L19 (P := loopP (mX10_findLook_L19 n a0 x1 x2) f K) hRm (fun s c3 h => ih (s, c3) h) hE (loopM_ok h)
def mX10_findLook_L7 (n : Nat) (a0 : Nat) (x1 : Int32) : (Sg × Int32) → Option ((Sg × Int32) ⊕ (Sg))
  | (s0, x2) =>
    (toI (gV 10 s0 a0 20)).bind fun v2 =>
    if v2 ≤ x2 then (
      some (.inr s0)
    ) else (
      nm (x2 + (1 : Int32)) fun v3 =>
      (loopM (mX10_findLook_L19 n a0 x1 x2) n (s0, v3)).bind fun s11 =>
      some (.inl (s11, (x2 + (1 : Int32))))
    )
theorem bX10_findLook_L7 {G : Cx} {E : Ev} {n : Nat} (hRm : 9 ≤ E.1.frames ∧ 206 ≤ E.1.locals) {a0 : Nat} {x1 : Int32} {P : (Sg × Int32) ⊕ (Sg) → Prop} (hC : ∀ (s : Sg) (c2 : Int32), P (.inl (s, c2)) → BW G tX10_findLook E 0 0 7 [(0, .ref a0), (1, .int x1), (2, .int c2)] [] s) (hE : ∀ (s : Sg), P (.inr s) → BW G tX10_findLook E 0 0 76 [] [] s) {s0 : Sg} {x2 : Int32} (h : Ok (mX10_findLook_L7 n a0 x1 (s0, x2)) P) : BW G tX10_findLook E 0 0 7 [(0, .ref a0), (1, .int x1), (2, .int x2)] [] s0 := by
  unfold mX10_findLook_L7 at h
  refine BW.run [.iload_n 2, .aload_n 0] (pc' := 9) (lv' := [(0, .ref a0), (1, .int x1), (2, .int x2)]) (st' := [.ref a0, .int x2]) (by decide +kernel) rfl rfl ?_
  obtain ⟨v2, ev2, h⟩ := Ok.bind h
  refine BW.get (by decide +kernel : decode tX10_findLook.2.1 9 = .ok (.getfield 165, 3)) ciX10 (k := 20) (by decide) lkF_X10_165 (toI_V ev2) ?_
  refine BW.icmp_ge 76 (by decide +kernel : decode tX10_findLook.2.1 12 = .ok (.if_icmp .ge 64, 3)) (by decide) (fun hc => ?_) (fun hc => ?_)
  · have h := (Ok.ite h).1 hc
    refine BW.sub [] rfl ?_
    exact hE _ (Ok.some h)
  · have h := (Ok.ite h).2 hc
    refine BW.run [.iload_n 2, .iconst 1, .iadd] (pc' := 18) (lv' := [(0, .ref a0), (1, .int x1), (2, .int x2)]) (st' := [.int (x2 + (1 : Int32))]) (by decide +kernel) rfl rfl ?_
    obtain ⟨v3, wv3, h⟩ := Ok.nm h
    refine BW.nm wv3 ?_
    refine BW.run [.istore_n 3] (pc' := 19) (lv' := [(0, .ref a0), (1, .int x1), (2, .int x2), (3, .int v3)]) (st' := []) (by decide +kernel) rfl rfl ?_
    refine bX10_findLook_W19 hRm (a0 := a0) (x1 := x1) (x2 := x2) (fun s11 h => ?_) n (s0, v3) (Ok.bindK h)
    refine BW.run [.iinc 2 1] (pc' := 73) (lv' := [(0, .ref a0), (1, .int x1), (2, .int (x2 + (1 : Int32)))]) (st' := []) (by decide +kernel) rfl rfl ?_
    refine BW.goto 7 (by decide +kernel : decode tX10_findLook.2.1 73 = .ok (.goto (-66), 3)) (by decide) ?_
    exact hC _ _ (Ok.some h)
theorem bX10_findLook_W7 {G : Cx} {E : Ev} {n : Nat} (hRm : 9 ≤ E.1.frames ∧ 206 ≤ E.1.locals) {a0 : Nat} {x1 : Int32} {K : (Sg) → Prop} (hE : ∀ (s : Sg), K s → BW G tX10_findLook E 0 0 76 [] [] s) : ∀ (f : Nat) (c : Sg × Int32), Ok (loopM (mX10_findLook_L7 n a0 x1) f c) K → match c with | (s0, x2) => BW G tX10_findLook E 0 0 7 [(0, .ref a0), (1, .int x1), (2, .int x2)] [] s0 := by
  intro f
  induction f with
  | zero => intro c h; exact (Ok.no h).elim
  | succ f ih =>
    intro c h
    obtain ⟨s0, x2⟩ := c
    exact bX10_findLook_L7 (P := loopP (mX10_findLook_L7 n a0 x1) f K) hRm (fun s c2 h => ih (s, c2) h) hE (loopM_ok h)
def mX10_findLook (n : Nat) (s0 : Sg) (a0 : Nat) (x1 : Int32) : Option (Sg) :=
  (isO 10 s0 a0).bind fun _ =>
  (pV 10 s0 a0 29 (.int (-1 : Int32))).bind fun s1 =>
  (loopM (mX10_findLook_L7 n a0 x1) n (s1, (0 : Int32))).bind fun s13 =>
  some s13
theorem bX10_findLook {G : Cx} {E : Ev} {n : Nat} (hRm : 9 ≤ E.1.frames ∧ 206 ≤ E.1.locals) {P : Sg → Prop} (hQ : ∀ s, P s → E.2.2.2.2 none s) {s0 : Sg} {a0 : Nat} {x1 : Int32} (h : Ok (mX10_findLook n s0 a0 x1) P) : BW G tX10_findLook E 0 0 0 [(0, .ref a0), (1, .int x1)] [] s0 := by
  unfold mX10_findLook at h
  obtain ⟨_, _, h⟩ := Ok.bind h
  refine BW.run [.aload_n 0, .iconst (-1)] (pc' := 2) (lv' := [(0, .ref a0), (1, .int x1)]) (st' := [.int (-1 : Int32), .ref a0]) (by decide +kernel) rfl rfl ?_
  obtain ⟨s1, es1, h⟩ := Ok.bind h
  refine BW.put (by decide +kernel : decode tX10_findLook.2.1 2 = .ok (.putfield 260, 3)) ciX10 (k := 29) (by decide) lkF_X10_260 rfl rfl rfl es1 ?_
  refine BW.run [.iconst 0, .istore_n 2] (pc' := 7) (lv' := [(0, .ref a0), (1, .int x1), (2, .int (0 : Int32))]) (st' := []) (by decide +kernel) rfl rfl ?_
  refine bX10_findLook_W7 hRm (a0 := a0) (x1 := x1) (fun s13 h => ?_) n (s1, (0 : Int32)) (Ok.bindK h)
  exact BW.vret (by decide +kernel : decode tX10_findLook.2.1 76 = .ok (.return_, 1)) rfl (Nat.zero_le _) (Nat.zero_le _) (hQ _ (Ok.some h))
theorem oX10_findLook {n : Nat} {P : Sg → Prop} {s0 : Sg} {a0 : Nat} {x1 : Int32} (h : Ok (mX10_findLook n s0 a0 x1) P) : ∃ n0, s0.2.1 a0 = some (10, n0) := by
  unfold mX10_findLook at h
  exact Ok.isO h
theorem DX10_findLook {G : Cx} {n : Nat} {P : Sg → Prop} {s0 : Sg} {a0 : Nat} {x1 : Int32} (h : Ok (mX10_findLook n s0 a0 x1) P) : BM G tX10_findLook 9 206 0 0 [.ref a0, .int x1] s0 (fun v s => v = none ∧ P s) := by
  refine BM.of (by decide +kernel) (Nat.le_of_ble_eq_true rfl) ?_
  exact bX10_findLook (E := (({ frames := 9, cells := 0, slots := 0, locals := 206 }), Aof s0, 0, 0, (fun v s => v = none ∧ P s))) ⟨Nat.le_refl _, Nat.le_refl _⟩ (fun s hp => ⟨rfl, hp⟩) h
def mX10_gap_65 (n : Nat) (s0 : Sg)  : Option (Int32 × Sg) :=
  some ((-100000 : Int32), s0)
theorem bX10_gap_65 {G : Cx} {E : Ev} {n : Nat} (hRm : 8 ≤ E.1.frames ∧ 178 ≤ E.1.locals) {s0 : Sg}  {P : Int32 × Sg → Prop} (hQ : ∀ r s, P (r, s) → E.2.2.2.2 (some (.int r)) s) (h : Ok (mX10_gap_65 n s0 ) P) : BW G tX10_gap E 0 0 65 [] [] s0 := by
  unfold mX10_gap_65 at h
  refine BW.ldc (by decide +kernel : decode tX10_gap.2.1 65 = .ok (.ldc 247, 2)) (x := (-100000 : Int32)) lkK_X10_247 ?_
  exact BW.iret (by decide +kernel : decode tX10_gap.2.1 67 = .ok (.ireturn, 1)) rfl (Nat.zero_le _) (Nat.zero_le _) (hQ _ _ (Ok.some h))
def mX10_gap (n : Nat) (s0 : Sg) (a0 : Nat) (x1 : Int32) (x2 : Int32) (x3 : Int32) (x4 : Int32) : Option (Int32 × Sg) :=
  (isO 10 s0 a0).bind fun _ =>
  (mX10_isSet n s0 a0 x1).bind fun (v2, s1) =>
  if v2 = 0 then (
    mX10_gap_65 n s1 
  ) else (
    (mX10_isWalk n s1 a0 x2).bind fun (v5, s4) =>
    if v5 = 0 then (
      mX10_gap_65 n s4 
    ) else (
      (mX10_isWalk n s4 a0 x3).bind fun (v8, s7) =>
      if v8 = 0 then (
        mX10_gap_65 n s7 
      ) else (
        (mX10_in n s7 x4 (0 : Int32) (1 : Int32)).bind fun (v11, s10) =>
        if v11 = 0 then (
          mX10_gap_65 n s10 
        ) else (
          (mX10_canBe n s10 a0 x1).bind fun (v14, s13) =>
          if v14 = 0 then (
            mX10_gap_65 n s13 
          ) else (
            if x4 = 0 then (
              (mX10_gapLow n s13 a0 x2 x3).bind fun (v20, s19) =>
              some (v20, s19)
            ) else (
              (mX10_gapHigh n s13 a0 x2 x3).bind fun (v17, s16) =>
              some (v17, s16)
            )
          )
        )
      )
    )
  )
theorem bX10_gap {G : Cx} {E : Ev} {n : Nat} (hRm : 8 ≤ E.1.frames ∧ 178 ≤ E.1.locals) {P : Int32 × Sg → Prop} (hQ : ∀ r s, P (r, s) → E.2.2.2.2 (some (.int r)) s) {s0 : Sg} {a0 : Nat} {x1 : Int32} {x2 : Int32} {x3 : Int32} {x4 : Int32} (h : Ok (mX10_gap n s0 a0 x1 x2 x3 x4) P) : BW G tX10_gap E 0 0 0 [(0, .ref a0), (1, .int x1), (2, .int x2), (3, .int x3), (4, .int x4)] [] s0 := by
  unfold mX10_gap at h
  obtain ⟨_, _, h⟩ := Ok.bind h
  refine BW.run [.aload_n 0, .iload_n 1] (pc' := 2) (lv' := [(0, .ref a0), (1, .int x1), (2, .int x2), (3, .int x3), (4, .int x4)]) (st' := [.int x1, .ref a0]) (by decide +kernel) rfl rfl ?_
  refine BW.callV (As := [.int x1]) (st := []) (by decide +kernel : decode tX10_gap.2.1 2 = .ok (.invokevirtual 221, 3)) (DX10_isSet (Ok.bindK h)) mfX10_isSet lkM_X10_221 imX10_isSet selX10_isSet ciX10 (oX10_isSet (Ok.bindK h)).choose_spec rfl rfl (Nat.le_of_ble_eq_true rfl) ⟨Nat.le_trans (by decide) hRm.1, Nat.le_trans (by decide) hRm.2⟩ ⟨Nat.zero_le _, Nat.zero_le _⟩ ?_
  rintro _ s1 ⟨v2, rfl, h⟩
  show BW G tX10_gap E 0 0 5 [(0, .ref a0), (1, .int x1), (2, .int x2), (3, .int x3), (4, .int x4)] [.int v2] s1
  refine BW.if_eq 65 (by decide +kernel : decode tX10_gap.2.1 5 = .ok (.ifCond .eq 60, 3)) (by decide) (fun hc => ?_) (fun hc => ?_)
  · have h := (Ok.ite h).1 hc
    refine BW.sub [] rfl ?_
    exact bX10_gap_65 hRm hQ h
  · have h := (Ok.ite h).2 hc
    refine BW.run [.aload_n 0, .iload_n 2] (pc' := 10) (lv' := [(0, .ref a0), (1, .int x1), (2, .int x2), (3, .int x3), (4, .int x4)]) (st' := [.int x2, .ref a0]) (by decide +kernel) rfl rfl ?_
    refine BW.callV (As := [.int x2]) (st := []) (by decide +kernel : decode tX10_gap.2.1 10 = .ok (.invokevirtual 171, 3)) (DX10_isWalk (Ok.bindK h)) mfX10_isWalk lkM_X10_171 imX10_isWalk selX10_isWalk ciX10 (oX10_isWalk (Ok.bindK h)).choose_spec rfl rfl (Nat.le_of_ble_eq_true rfl) ⟨Nat.le_trans (by decide) hRm.1, Nat.le_trans (by decide) hRm.2⟩ ⟨Nat.zero_le _, Nat.zero_le _⟩ ?_
    rintro _ s4 ⟨v5, rfl, h⟩
    show BW G tX10_gap E 0 0 13 [(0, .ref a0), (1, .int x1), (2, .int x2), (3, .int x3), (4, .int x4)] [.int v5] s4
    refine BW.if_eq 65 (by decide +kernel : decode tX10_gap.2.1 13 = .ok (.ifCond .eq 52, 3)) (by decide) (fun hc => ?_) (fun hc => ?_)
    · have h := (Ok.ite h).1 hc
      refine BW.sub [] rfl ?_
      exact bX10_gap_65 hRm hQ h
    · have h := (Ok.ite h).2 hc
      refine BW.run [.aload_n 0, .iload_n 3] (pc' := 18) (lv' := [(0, .ref a0), (1, .int x1), (2, .int x2), (3, .int x3), (4, .int x4)]) (st' := [.int x3, .ref a0]) (by decide +kernel) rfl rfl ?_
      refine BW.callV (As := [.int x3]) (st := []) (by decide +kernel : decode tX10_gap.2.1 18 = .ok (.invokevirtual 171, 3)) (DX10_isWalk (Ok.bindK h)) mfX10_isWalk lkM_X10_171 imX10_isWalk selX10_isWalk ciX10 (oX10_isWalk (Ok.bindK h)).choose_spec rfl rfl (Nat.le_of_ble_eq_true rfl) ⟨Nat.le_trans (by decide) hRm.1, Nat.le_trans (by decide) hRm.2⟩ ⟨Nat.zero_le _, Nat.zero_le _⟩ ?_
      rintro _ s7 ⟨v8, rfl, h⟩
      show BW G tX10_gap E 0 0 21 [(0, .ref a0), (1, .int x1), (2, .int x2), (3, .int x3), (4, .int x4)] [.int v8] s7
      refine BW.if_eq 65 (by decide +kernel : decode tX10_gap.2.1 21 = .ok (.ifCond .eq 44, 3)) (by decide) (fun hc => ?_) (fun hc => ?_)
      · have h := (Ok.ite h).1 hc
        refine BW.sub [] rfl ?_
        exact bX10_gap_65 hRm hQ h
      · have h := (Ok.ite h).2 hc
        refine BW.run [.iload 4, .iconst 0, .iconst 1] (pc' := 28) (lv' := [(0, .ref a0), (1, .int x1), (2, .int x2), (3, .int x3), (4, .int x4)]) (st' := [.int (1 : Int32), .int (0 : Int32), .int x4]) (by decide +kernel) rfl rfl ?_
        refine BW.callS (As := [.int x4, .int (0 : Int32), .int (1 : Int32)]) (st := []) (by decide +kernel : decode tX10_gap.2.1 28 = .ok (.invokestatic 147, 3)) (DX10_in (Ok.bindK h)) mfX10_in lkM_X10_147 smX10_in rfl rfl (Nat.le_of_ble_eq_true rfl) ⟨Nat.le_trans (by decide) hRm.1, Nat.le_trans (by decide) hRm.2⟩ ⟨Nat.zero_le _, Nat.zero_le _⟩ ?_
        rintro _ s10 ⟨v11, rfl, h⟩
        show BW G tX10_gap E 0 0 31 [(0, .ref a0), (1, .int x1), (2, .int x2), (3, .int x3), (4, .int x4)] [.int v11] s10
        refine BW.if_eq 65 (by decide +kernel : decode tX10_gap.2.1 31 = .ok (.ifCond .eq 34, 3)) (by decide) (fun hc => ?_) (fun hc => ?_)
        · have h := (Ok.ite h).1 hc
          refine BW.sub [] rfl ?_
          exact bX10_gap_65 hRm hQ h
        · have h := (Ok.ite h).2 hc
          refine BW.run [.aload_n 0, .iload_n 1] (pc' := 36) (lv' := [(0, .ref a0), (1, .int x1), (2, .int x2), (3, .int x3), (4, .int x4)]) (st' := [.int x1, .ref a0]) (by decide +kernel) rfl rfl ?_
          refine BW.callV (As := [.int x1]) (st := []) (by decide +kernel : decode tX10_gap.2.1 36 = .ok (.invokevirtual 224, 3)) (DX10_canBe (Ok.bindK h)) mfX10_canBe lkM_X10_224 imX10_canBe selX10_canBe ciX10 (oX10_canBe (Ok.bindK h)).choose_spec rfl rfl (Nat.le_of_ble_eq_true rfl) ⟨Nat.le_trans (by decide) hRm.1, Nat.le_trans (by decide) hRm.2⟩ ⟨Nat.zero_le _, Nat.zero_le _⟩ ?_
          rintro _ s13 ⟨v14, rfl, h⟩
          show BW G tX10_gap E 0 0 39 [(0, .ref a0), (1, .int x1), (2, .int x2), (3, .int x3), (4, .int x4)] [.int v14] s13
          refine BW.if_eq 65 (by decide +kernel : decode tX10_gap.2.1 39 = .ok (.ifCond .eq 26, 3)) (by decide) (fun hc => ?_) (fun hc => ?_)
          · have h := (Ok.ite h).1 hc
            refine BW.sub [] rfl ?_
            exact bX10_gap_65 hRm hQ h
          · have h := (Ok.ite h).2 hc
            refine BW.run [.iload 4] (pc' := 44) (lv' := [(0, .ref a0), (1, .int x1), (2, .int x2), (3, .int x3), (4, .int x4)]) (st' := [.int x4]) (by decide +kernel) rfl rfl ?_
            refine BW.if_ne 56 (by decide +kernel : decode tX10_gap.2.1 44 = .ok (.ifCond .ne 12, 3)) (by decide) (fun hc => ?_) (fun hc => ?_)
            · have h := (Ok.ite h).2 hc
              refine BW.run [.aload_n 0, .iload_n 2, .iload_n 3] (pc' := 59) (lv' := [(0, .ref a0), (1, .int x1), (2, .int x2), (3, .int x3), (4, .int x4)]) (st' := [.int x3, .int x2, .ref a0]) (by decide +kernel) rfl rfl ?_
              refine BW.callV (As := [.int x2, .int x3]) (st := []) (by decide +kernel : decode tX10_gap.2.1 59 = .ok (.invokevirtual 244, 3)) (DX10_gapHigh (Ok.bindK h)) mfX10_gapHigh lkM_X10_244 imX10_gapHigh selX10_gapHigh ciX10 (oX10_gapHigh (Ok.bindK h)).choose_spec rfl rfl (Nat.le_of_ble_eq_true rfl) ⟨Nat.le_trans (by decide) hRm.1, Nat.le_trans (by decide) hRm.2⟩ ⟨Nat.zero_le _, Nat.zero_le _⟩ ?_
              rintro _ s16 ⟨v17, rfl, h⟩
              show BW G tX10_gap E 0 0 62 [(0, .ref a0), (1, .int x1), (2, .int x2), (3, .int x3), (4, .int x4)] [.int v17] s16
              refine BW.goto 67 (by decide +kernel : decode tX10_gap.2.1 62 = .ok (.goto 5, 3)) (by decide) ?_
              exact BW.iret (by decide +kernel : decode tX10_gap.2.1 67 = .ok (.ireturn, 1)) rfl (Nat.zero_le _) (Nat.zero_le _) (hQ _ _ (Ok.some h))
            · have h := (Ok.ite h).1 hc
              refine BW.run [.aload_n 0, .iload_n 2, .iload_n 3] (pc' := 50) (lv' := [(0, .ref a0), (1, .int x1), (2, .int x2), (3, .int x3), (4, .int x4)]) (st' := [.int x3, .int x2, .ref a0]) (by decide +kernel) rfl rfl ?_
              refine BW.callV (As := [.int x2, .int x3]) (st := []) (by decide +kernel : decode tX10_gap.2.1 50 = .ok (.invokevirtual 241, 3)) (DX10_gapLow (Ok.bindK h)) mfX10_gapLow lkM_X10_241 imX10_gapLow selX10_gapLow ciX10 (oX10_gapLow (Ok.bindK h)).choose_spec rfl rfl (Nat.le_of_ble_eq_true rfl) ⟨Nat.le_trans (by decide) hRm.1, Nat.le_trans (by decide) hRm.2⟩ ⟨Nat.zero_le _, Nat.zero_le _⟩ ?_
              rintro _ s19 ⟨v20, rfl, h⟩
              show BW G tX10_gap E 0 0 53 [(0, .ref a0), (1, .int x1), (2, .int x2), (3, .int x3), (4, .int x4)] [.int v20] s19
              refine BW.goto 67 (by decide +kernel : decode tX10_gap.2.1 53 = .ok (.goto 14, 3)) (by decide) ?_
              exact BW.iret (by decide +kernel : decode tX10_gap.2.1 67 = .ok (.ireturn, 1)) rfl (Nat.zero_le _) (Nat.zero_le _) (hQ _ _ (Ok.some h))
theorem oX10_gap {n : Nat} {P : Int32 × Sg → Prop} {s0 : Sg} {a0 : Nat} {x1 : Int32} {x2 : Int32} {x3 : Int32} {x4 : Int32} (h : Ok (mX10_gap n s0 a0 x1 x2 x3 x4) P) : ∃ n0, s0.2.1 a0 = some (10, n0) := by
  unfold mX10_gap at h
  exact Ok.isO h
theorem DX10_gap {G : Cx} {n : Nat} {P : Int32 × Sg → Prop} {s0 : Sg} {a0 : Nat} {x1 : Int32} {x2 : Int32} {x3 : Int32} {x4 : Int32} (h : Ok (mX10_gap n s0 a0 x1 x2 x3 x4) P) : BM G tX10_gap 8 178 0 0 [.ref a0, .int x1, .int x2, .int x3, .int x4] s0 (fun v s => ∃ r, v = some (.int r) ∧ P (r, s)) := by
  refine BM.of (by decide +kernel) (Nat.le_of_ble_eq_true rfl) ?_
  exact bX10_gap (E := (({ frames := 8, cells := 0, slots := 0, locals := 178 }), Aof s0, 0, 0, (fun v s => ∃ r, v = some (.int r) ∧ P (r, s)))) ⟨Nat.le_refl _, Nat.le_refl _⟩ (fun r s hp => ⟨r, rfl, hp⟩) h
def mX10_holds (n : Nat) (s0 : Sg) (a0 : Nat) (x1 : Int32) : Option (Int32 × Sg) :=
  (isO 10 s0 a0).bind fun _ =>
  (toR (gV 10 s0 a0 23)).bind fun b1 =>
  (toI (aV 11 s0 b1 x1)).bind fun v2 =>
  (toR (gV 10 s0 a0 22)).bind fun b3 =>
  (toI (aV 11 s0 b3 x1)).bind fun v4 =>
  if v4 = (0 : Int32) then (
    (toR (gV 10 s0 a0 19)).bind fun b5 =>
    (toI (aV 11 s0 b5 v2)).bind fun v6 =>
    (toR (gV 10 s0 a0 25)).bind fun b7 =>
    (toI (aV 11 s0 b7 x1)).bind fun v8 =>
    (mX10_made n s0 a0 v2 v8).bind fun (v10, s9) =>
    (toR (gV 10 s9 a0 19)).bind fun b12 =>
    (toR (gV 10 s9 a0 24)).bind fun b13 =>
    (toI (aV 11 s9 b13 x1)).bind fun v14 =>
    (toI (aV 11 s9 b12 v14)).bind fun v15 =>
    (toR (gV 10 s9 a0 24)).bind fun b16 =>
    (toI (aV 11 s9 b16 x1)).bind fun v17 =>
    (toR (gV 10 s9 a0 25)).bind fun b18 =>
    (toI (aV 11 s9 b18 x1)).bind fun v19 =>
    (mX10_made n s9 a0 v17 v19).bind fun (v21, s20) =>
    if (v6 + v10) ≤ (v15 + v21) then (
      some ((0 : Int32), s20)
    ) else (
      some ((1 : Int32), s20)
    )
  ) else (
  if v4 = (1 : Int32) then (
    (toR (gV 10 s0 a0 19)).bind fun b23 =>
    (toI (aV 11 s0 b23 v2)).bind fun v24 =>
    (toR (gV 10 s0 a0 25)).bind fun b25 =>
    (toI (aV 11 s0 b25 x1)).bind fun v26 =>
    if v24 ≤ v26 then (
      some ((0 : Int32), s0)
    ) else (
      some ((1 : Int32), s0)
    )
  ) else (
  if v4 = (2 : Int32) then (
    (toR (gV 10 s0 a0 19)).bind fun b27 =>
    (toI (aV 11 s0 b27 v2)).bind fun v28 =>
    (toR (gV 10 s0 a0 25)).bind fun b29 =>
    (toI (aV 11 s0 b29 x1)).bind fun v30 =>
    if v30 < v28 then (
      some ((0 : Int32), s0)
    ) else (
      some ((1 : Int32), s0)
    )
  ) else (
  if v4 = (3 : Int32) then (
    (toR (gV 10 s0 a0 19)).bind fun b31 =>
    (toI (aV 11 s0 b31 v2)).bind fun v32 =>
    (toR (gV 10 s0 a0 25)).bind fun b33 =>
    (toI (aV 11 s0 b33 x1)).bind fun v34 =>
    (toR (gV 10 s0 a0 26)).bind fun b35 =>
    (toI (aV 11 s0 b35 x1)).bind fun v36 =>
    (mX10_in n s0 v32 v34 v36).bind fun (v38, s37) =>
    if v38 = 0 ∨ v38 = 1 then some (v38, s37) else none
  ) else (
    (toR (gV 10 s0 a0 19)).bind fun b40 =>
    (toI (aV 11 s0 b40 v2)).bind fun v41 =>
    (toR (gV 10 s0 a0 19)).bind fun b42 =>
    (toR (gV 10 s0 a0 24)).bind fun b43 =>
    (toI (aV 11 s0 b43 x1)).bind fun v44 =>
    (toI (aV 11 s0 b42 v44)).bind fun v45 =>
    (toR (gV 10 s0 a0 25)).bind fun b46 =>
    (toI (aV 11 s0 b46 x1)).bind fun v47 =>
    if v41 < (v45 + v47) then (
      some ((0 : Int32), s0)
    ) else (
      some ((1 : Int32), s0)
    )
  ))))
theorem bX10_holds {G : Cx} {E : Ev} {n : Nat} (hRm : 4 ≤ E.1.frames ∧ 90 ≤ E.1.locals) {P : Int32 × Sg → Prop} (hQ : ∀ r s, P (r, s) → E.2.2.2.2 (some (.int r)) s) {s0 : Sg} {a0 : Nat} {x1 : Int32} (h : Ok (mX10_holds n s0 a0 x1) P) : BW G tX10_holds E 0 0 0 [(0, .ref a0), (1, .int x1)] [] s0 := by
  unfold mX10_holds at h
  obtain ⟨_, _, h⟩ := Ok.bind h
  refine BW.run [.aload_n 0] (pc' := 1) (lv' := [(0, .ref a0), (1, .int x1)]) (st' := [.ref a0]) (by decide +kernel) rfl rfl ?_
  obtain ⟨b1, eb1, h⟩ := Ok.bind h
  refine BW.get (by decide +kernel : decode tX10_holds.2.1 1 = .ok (.getfield 49, 3)) ciX10 (k := 23) (by decide) lkF_X10_49 (toR_V eb1) ?_
  refine BW.run [.iload_n 1] (pc' := 5) (lv' := [(0, .ref a0), (1, .int x1)]) (st' := [.int x1, .ref b1]) (by decide +kernel) rfl rfl ?_
  obtain ⟨v2, ev2, h⟩ := Ok.bind h
  refine BW.iald (by decide +kernel : decode tX10_holds.2.1 5 = .ok (.iaload, 1)) (toI_V ev2) ?_
  refine BW.run [.istore_n 2, .aload_n 0] (pc' := 8) (lv' := [(0, .ref a0), (1, .int x1), (2, .int v2)]) (st' := [.ref a0]) (by decide +kernel) rfl rfl ?_
  obtain ⟨b3, eb3, h⟩ := Ok.bind h
  refine BW.get (by decide +kernel : decode tX10_holds.2.1 8 = .ok (.getfield 46, 3)) ciX10 (k := 22) (by decide) lkF_X10_46 (toR_V eb3) ?_
  refine BW.run [.iload_n 1] (pc' := 12) (lv' := [(0, .ref a0), (1, .int x1), (2, .int v2)]) (st' := [.int x1, .ref b3]) (by decide +kernel) rfl rfl ?_
  obtain ⟨v4, ev4, h⟩ := Ok.bind h
  refine BW.iald (by decide +kernel : decode tX10_holds.2.1 12 = .ok (.iaload, 1)) (toI_V ev4) ?_
  by_cases hc0 : v4 = (0 : Int32)
  · have h := (Ok.ite h).1 hc0
    refine BW.tblIn (off := 31) 44 (by decide +kernel : decode tX10_holds.2.1 13 = .ok (.tableswitch 150 0 3 #[31, 86, 107, 128], 31)) (by rw [hc0]; decide) (by rw [hc0]; decide) (by rw [hc0]; rfl) (by decide) ?_
    refine BW.run [.aload_n 0] (pc' := 45) (lv' := [(0, .ref a0), (1, .int x1), (2, .int v2)]) (st' := [.ref a0]) (by decide +kernel) rfl rfl ?_
    obtain ⟨b5, eb5, h⟩ := Ok.bind h
    refine BW.get (by decide +kernel : decode tX10_holds.2.1 45 = .ok (.getfield 40, 3)) ciX10 (k := 19) (by decide) lkF_X10_40 (toR_V eb5) ?_
    refine BW.run [.iload_n 2] (pc' := 49) (lv' := [(0, .ref a0), (1, .int x1), (2, .int v2)]) (st' := [.int v2, .ref b5]) (by decide +kernel) rfl rfl ?_
    obtain ⟨v6, ev6, h⟩ := Ok.bind h
    refine BW.iald (by decide +kernel : decode tX10_holds.2.1 49 = .ok (.iaload, 1)) (toI_V ev6) ?_
    refine BW.run [.aload_n 0, .iload_n 2, .aload_n 0] (pc' := 53) (lv' := [(0, .ref a0), (1, .int x1), (2, .int v2)]) (st' := [.ref a0, .int v2, .ref a0, .int v6]) (by decide +kernel) rfl rfl ?_
    obtain ⟨b7, eb7, h⟩ := Ok.bind h
    refine BW.get (by decide +kernel : decode tX10_holds.2.1 53 = .ok (.getfield 55, 3)) ciX10 (k := 25) (by decide) lkF_X10_55 (toR_V eb7) ?_
    refine BW.run [.iload_n 1] (pc' := 57) (lv' := [(0, .ref a0), (1, .int x1), (2, .int v2)]) (st' := [.int x1, .ref b7, .int v2, .ref a0, .int v6]) (by decide +kernel) rfl rfl ?_
    obtain ⟨v8, ev8, h⟩ := Ok.bind h
    refine BW.iald (by decide +kernel : decode tX10_holds.2.1 57 = .ok (.iaload, 1)) (toI_V ev8) ?_
    refine BW.callV (As := [.int v2, .int v8]) (st := [.int v6]) (by decide +kernel : decode tX10_holds.2.1 58 = .ok (.invokevirtual 202, 3)) (DX10_made (Ok.bindK h)) mfX10_made lkM_X10_202 imX10_made selX10_made ciX10 (oX10_made (Ok.bindK h)).choose_spec rfl rfl (Nat.le_of_ble_eq_true rfl) ⟨Nat.le_trans (by decide) hRm.1, Nat.le_trans (by decide) hRm.2⟩ ⟨Nat.zero_le _, Nat.zero_le _⟩ ?_
    rintro _ s9 ⟨v10, rfl, h⟩
    show BW G tX10_holds E 0 0 61 [(0, .ref a0), (1, .int x1), (2, .int v2)] [.int v10, .int v6] s9
    refine BW.run [.iadd, .aload_n 0] (pc' := 63) (lv' := [(0, .ref a0), (1, .int x1), (2, .int v2)]) (st' := [.ref a0, .int (v6 + v10)]) (by decide +kernel) rfl rfl ?_
    obtain ⟨b12, eb12, h⟩ := Ok.bind h
    refine BW.get (by decide +kernel : decode tX10_holds.2.1 63 = .ok (.getfield 40, 3)) ciX10 (k := 19) (by decide) lkF_X10_40 (toR_V eb12) ?_
    refine BW.run [.aload_n 0] (pc' := 67) (lv' := [(0, .ref a0), (1, .int x1), (2, .int v2)]) (st' := [.ref a0, .ref b12, .int (v6 + v10)]) (by decide +kernel) rfl rfl ?_
    obtain ⟨b13, eb13, h⟩ := Ok.bind h
    refine BW.get (by decide +kernel : decode tX10_holds.2.1 67 = .ok (.getfield 52, 3)) ciX10 (k := 24) (by decide) lkF_X10_52 (toR_V eb13) ?_
    refine BW.run [.iload_n 1] (pc' := 71) (lv' := [(0, .ref a0), (1, .int x1), (2, .int v2)]) (st' := [.int x1, .ref b13, .ref b12, .int (v6 + v10)]) (by decide +kernel) rfl rfl ?_
    obtain ⟨v14, ev14, h⟩ := Ok.bind h
    refine BW.iald (by decide +kernel : decode tX10_holds.2.1 71 = .ok (.iaload, 1)) (toI_V ev14) ?_
    obtain ⟨v15, ev15, h⟩ := Ok.bind h
    refine BW.iald (by decide +kernel : decode tX10_holds.2.1 72 = .ok (.iaload, 1)) (toI_V ev15) ?_
    refine BW.run [.aload_n 0, .aload_n 0] (pc' := 75) (lv' := [(0, .ref a0), (1, .int x1), (2, .int v2)]) (st' := [.ref a0, .ref a0, .int v15, .int (v6 + v10)]) (by decide +kernel) rfl rfl ?_
    obtain ⟨b16, eb16, h⟩ := Ok.bind h
    refine BW.get (by decide +kernel : decode tX10_holds.2.1 75 = .ok (.getfield 52, 3)) ciX10 (k := 24) (by decide) lkF_X10_52 (toR_V eb16) ?_
    refine BW.run [.iload_n 1] (pc' := 79) (lv' := [(0, .ref a0), (1, .int x1), (2, .int v2)]) (st' := [.int x1, .ref b16, .ref a0, .int v15, .int (v6 + v10)]) (by decide +kernel) rfl rfl ?_
    obtain ⟨v17, ev17, h⟩ := Ok.bind h
    refine BW.iald (by decide +kernel : decode tX10_holds.2.1 79 = .ok (.iaload, 1)) (toI_V ev17) ?_
    refine BW.run [.aload_n 0] (pc' := 81) (lv' := [(0, .ref a0), (1, .int x1), (2, .int v2)]) (st' := [.ref a0, .int v17, .ref a0, .int v15, .int (v6 + v10)]) (by decide +kernel) rfl rfl ?_
    obtain ⟨b18, eb18, h⟩ := Ok.bind h
    refine BW.get (by decide +kernel : decode tX10_holds.2.1 81 = .ok (.getfield 55, 3)) ciX10 (k := 25) (by decide) lkF_X10_55 (toR_V eb18) ?_
    refine BW.run [.iload_n 1] (pc' := 85) (lv' := [(0, .ref a0), (1, .int x1), (2, .int v2)]) (st' := [.int x1, .ref b18, .int v17, .ref a0, .int v15, .int (v6 + v10)]) (by decide +kernel) rfl rfl ?_
    obtain ⟨v19, ev19, h⟩ := Ok.bind h
    refine BW.iald (by decide +kernel : decode tX10_holds.2.1 85 = .ok (.iaload, 1)) (toI_V ev19) ?_
    refine BW.callV (As := [.int v17, .int v19]) (st := [.int v15, .int (v6 + v10)]) (by decide +kernel : decode tX10_holds.2.1 86 = .ok (.invokevirtual 202, 3)) (DX10_made (Ok.bindK h)) mfX10_made lkM_X10_202 imX10_made selX10_made ciX10 (oX10_made (Ok.bindK h)).choose_spec rfl rfl (Nat.le_of_ble_eq_true rfl) ⟨Nat.le_trans (by decide) hRm.1, Nat.le_trans (by decide) hRm.2⟩ ⟨Nat.zero_le _, Nat.zero_le _⟩ ?_
    rintro _ s20 ⟨v21, rfl, h⟩
    show BW G tX10_holds E 0 0 89 [(0, .ref a0), (1, .int x1), (2, .int v2)] [.int v21, .int v15, .int (v6 + v10)] s20
    refine BW.run [.iadd] (pc' := 90) (lv' := [(0, .ref a0), (1, .int x1), (2, .int v2)]) (st' := [.int (v15 + v21), .int (v6 + v10)]) (by decide +kernel) rfl rfl ?_
    refine BW.icmp_le 97 (by decide +kernel : decode tX10_holds.2.1 90 = .ok (.if_icmp .le 7, 3)) (by decide) (fun hc => ?_) (fun hc => ?_)
    · have h := (Ok.ite h).1 hc
      refine BW.run [.iconst 0] (pc' := 98) (lv' := [(0, .ref a0), (1, .int x1), (2, .int v2)]) (st' := [.int (0 : Int32)]) (by decide +kernel) rfl rfl ?_
      exact BW.zret (by decide +kernel : decode tX10_holds.2.1 98 = .ok (.ireturn, 1)) rfl (Or.inl rfl) (Nat.zero_le _) (Nat.zero_le _) (hQ _ _ (Ok.some h))
    · have h := (Ok.ite h).2 hc
      refine BW.run [.iconst 1] (pc' := 94) (lv' := [(0, .ref a0), (1, .int x1), (2, .int v2)]) (st' := [.int (1 : Int32)]) (by decide +kernel) rfl rfl ?_
      refine BW.goto 98 (by decide +kernel : decode tX10_holds.2.1 94 = .ok (.goto 4, 3)) (by decide) ?_
      exact BW.zret (by decide +kernel : decode tX10_holds.2.1 98 = .ok (.ireturn, 1)) rfl (Or.inr rfl) (Nat.zero_le _) (Nat.zero_le _) (hQ _ _ (Ok.some h))
  · have h := (Ok.ite h).2 hc0
    by_cases hc1 : v4 = (1 : Int32)
    · have h := (Ok.ite h).1 hc1
      refine BW.tblIn (off := 86) 99 (by decide +kernel : decode tX10_holds.2.1 13 = .ok (.tableswitch 150 0 3 #[31, 86, 107, 128], 31)) (by rw [hc1]; decide) (by rw [hc1]; decide) (by rw [hc1]; rfl) (by decide) ?_
      refine BW.run [.aload_n 0] (pc' := 100) (lv' := [(0, .ref a0), (1, .int x1), (2, .int v2)]) (st' := [.ref a0]) (by decide +kernel) rfl rfl ?_
      obtain ⟨b23, eb23, h⟩ := Ok.bind h
      refine BW.get (by decide +kernel : decode tX10_holds.2.1 100 = .ok (.getfield 40, 3)) ciX10 (k := 19) (by decide) lkF_X10_40 (toR_V eb23) ?_
      refine BW.run [.iload_n 2] (pc' := 104) (lv' := [(0, .ref a0), (1, .int x1), (2, .int v2)]) (st' := [.int v2, .ref b23]) (by decide +kernel) rfl rfl ?_
      obtain ⟨v24, ev24, h⟩ := Ok.bind h
      refine BW.iald (by decide +kernel : decode tX10_holds.2.1 104 = .ok (.iaload, 1)) (toI_V ev24) ?_
      refine BW.run [.aload_n 0] (pc' := 106) (lv' := [(0, .ref a0), (1, .int x1), (2, .int v2)]) (st' := [.ref a0, .int v24]) (by decide +kernel) rfl rfl ?_
      obtain ⟨b25, eb25, h⟩ := Ok.bind h
      refine BW.get (by decide +kernel : decode tX10_holds.2.1 106 = .ok (.getfield 55, 3)) ciX10 (k := 25) (by decide) lkF_X10_55 (toR_V eb25) ?_
      refine BW.run [.iload_n 1] (pc' := 110) (lv' := [(0, .ref a0), (1, .int x1), (2, .int v2)]) (st' := [.int x1, .ref b25, .int v24]) (by decide +kernel) rfl rfl ?_
      obtain ⟨v26, ev26, h⟩ := Ok.bind h
      refine BW.iald (by decide +kernel : decode tX10_holds.2.1 110 = .ok (.iaload, 1)) (toI_V ev26) ?_
      refine BW.icmp_le 118 (by decide +kernel : decode tX10_holds.2.1 111 = .ok (.if_icmp .le 7, 3)) (by decide) (fun hc => ?_) (fun hc => ?_)
      · have h := (Ok.ite h).1 hc
        refine BW.run [.iconst 0] (pc' := 119) (lv' := [(0, .ref a0), (1, .int x1), (2, .int v2)]) (st' := [.int (0 : Int32)]) (by decide +kernel) rfl rfl ?_
        exact BW.zret (by decide +kernel : decode tX10_holds.2.1 119 = .ok (.ireturn, 1)) rfl (Or.inl rfl) (Nat.zero_le _) (Nat.zero_le _) (hQ _ _ (Ok.some h))
      · have h := (Ok.ite h).2 hc
        refine BW.run [.iconst 1] (pc' := 115) (lv' := [(0, .ref a0), (1, .int x1), (2, .int v2)]) (st' := [.int (1 : Int32)]) (by decide +kernel) rfl rfl ?_
        refine BW.goto 119 (by decide +kernel : decode tX10_holds.2.1 115 = .ok (.goto 4, 3)) (by decide) ?_
        exact BW.zret (by decide +kernel : decode tX10_holds.2.1 119 = .ok (.ireturn, 1)) rfl (Or.inr rfl) (Nat.zero_le _) (Nat.zero_le _) (hQ _ _ (Ok.some h))
    · have h := (Ok.ite h).2 hc1
      by_cases hc2 : v4 = (2 : Int32)
      · have h := (Ok.ite h).1 hc2
        refine BW.tblIn (off := 107) 120 (by decide +kernel : decode tX10_holds.2.1 13 = .ok (.tableswitch 150 0 3 #[31, 86, 107, 128], 31)) (by rw [hc2]; decide) (by rw [hc2]; decide) (by rw [hc2]; rfl) (by decide) ?_
        refine BW.run [.aload_n 0] (pc' := 121) (lv' := [(0, .ref a0), (1, .int x1), (2, .int v2)]) (st' := [.ref a0]) (by decide +kernel) rfl rfl ?_
        obtain ⟨b27, eb27, h⟩ := Ok.bind h
        refine BW.get (by decide +kernel : decode tX10_holds.2.1 121 = .ok (.getfield 40, 3)) ciX10 (k := 19) (by decide) lkF_X10_40 (toR_V eb27) ?_
        refine BW.run [.iload_n 2] (pc' := 125) (lv' := [(0, .ref a0), (1, .int x1), (2, .int v2)]) (st' := [.int v2, .ref b27]) (by decide +kernel) rfl rfl ?_
        obtain ⟨v28, ev28, h⟩ := Ok.bind h
        refine BW.iald (by decide +kernel : decode tX10_holds.2.1 125 = .ok (.iaload, 1)) (toI_V ev28) ?_
        refine BW.run [.aload_n 0] (pc' := 127) (lv' := [(0, .ref a0), (1, .int x1), (2, .int v2)]) (st' := [.ref a0, .int v28]) (by decide +kernel) rfl rfl ?_
        obtain ⟨b29, eb29, h⟩ := Ok.bind h
        refine BW.get (by decide +kernel : decode tX10_holds.2.1 127 = .ok (.getfield 55, 3)) ciX10 (k := 25) (by decide) lkF_X10_55 (toR_V eb29) ?_
        refine BW.run [.iload_n 1] (pc' := 131) (lv' := [(0, .ref a0), (1, .int x1), (2, .int v2)]) (st' := [.int x1, .ref b29, .int v28]) (by decide +kernel) rfl rfl ?_
        obtain ⟨v30, ev30, h⟩ := Ok.bind h
        refine BW.iald (by decide +kernel : decode tX10_holds.2.1 131 = .ok (.iaload, 1)) (toI_V ev30) ?_
        refine BW.icmp_gt 139 (by decide +kernel : decode tX10_holds.2.1 132 = .ok (.if_icmp .gt 7, 3)) (by decide) (fun hc => ?_) (fun hc => ?_)
        · have h := (Ok.ite h).1 hc
          refine BW.run [.iconst 0] (pc' := 140) (lv' := [(0, .ref a0), (1, .int x1), (2, .int v2)]) (st' := [.int (0 : Int32)]) (by decide +kernel) rfl rfl ?_
          exact BW.zret (by decide +kernel : decode tX10_holds.2.1 140 = .ok (.ireturn, 1)) rfl (Or.inl rfl) (Nat.zero_le _) (Nat.zero_le _) (hQ _ _ (Ok.some h))
        · have h := (Ok.ite h).2 hc
          refine BW.run [.iconst 1] (pc' := 136) (lv' := [(0, .ref a0), (1, .int x1), (2, .int v2)]) (st' := [.int (1 : Int32)]) (by decide +kernel) rfl rfl ?_
          refine BW.goto 140 (by decide +kernel : decode tX10_holds.2.1 136 = .ok (.goto 4, 3)) (by decide) ?_
          exact BW.zret (by decide +kernel : decode tX10_holds.2.1 140 = .ok (.ireturn, 1)) rfl (Or.inr rfl) (Nat.zero_le _) (Nat.zero_le _) (hQ _ _ (Ok.some h))
      · have h := (Ok.ite h).2 hc2
        by_cases hc3 : v4 = (3 : Int32)
        · have h := (Ok.ite h).1 hc3
          refine BW.tblIn (off := 128) 141 (by decide +kernel : decode tX10_holds.2.1 13 = .ok (.tableswitch 150 0 3 #[31, 86, 107, 128], 31)) (by rw [hc3]; decide) (by rw [hc3]; decide) (by rw [hc3]; rfl) (by decide) ?_
          refine BW.run [.aload_n 0] (pc' := 142) (lv' := [(0, .ref a0), (1, .int x1), (2, .int v2)]) (st' := [.ref a0]) (by decide +kernel) rfl rfl ?_
          obtain ⟨b31, eb31, h⟩ := Ok.bind h
          refine BW.get (by decide +kernel : decode tX10_holds.2.1 142 = .ok (.getfield 40, 3)) ciX10 (k := 19) (by decide) lkF_X10_40 (toR_V eb31) ?_
          refine BW.run [.iload_n 2] (pc' := 146) (lv' := [(0, .ref a0), (1, .int x1), (2, .int v2)]) (st' := [.int v2, .ref b31]) (by decide +kernel) rfl rfl ?_
          obtain ⟨v32, ev32, h⟩ := Ok.bind h
          refine BW.iald (by decide +kernel : decode tX10_holds.2.1 146 = .ok (.iaload, 1)) (toI_V ev32) ?_
          refine BW.run [.aload_n 0] (pc' := 148) (lv' := [(0, .ref a0), (1, .int x1), (2, .int v2)]) (st' := [.ref a0, .int v32]) (by decide +kernel) rfl rfl ?_
          obtain ⟨b33, eb33, h⟩ := Ok.bind h
          refine BW.get (by decide +kernel : decode tX10_holds.2.1 148 = .ok (.getfield 55, 3)) ciX10 (k := 25) (by decide) lkF_X10_55 (toR_V eb33) ?_
          refine BW.run [.iload_n 1] (pc' := 152) (lv' := [(0, .ref a0), (1, .int x1), (2, .int v2)]) (st' := [.int x1, .ref b33, .int v32]) (by decide +kernel) rfl rfl ?_
          obtain ⟨v34, ev34, h⟩ := Ok.bind h
          refine BW.iald (by decide +kernel : decode tX10_holds.2.1 152 = .ok (.iaload, 1)) (toI_V ev34) ?_
          refine BW.run [.aload_n 0] (pc' := 154) (lv' := [(0, .ref a0), (1, .int x1), (2, .int v2)]) (st' := [.ref a0, .int v34, .int v32]) (by decide +kernel) rfl rfl ?_
          obtain ⟨b35, eb35, h⟩ := Ok.bind h
          refine BW.get (by decide +kernel : decode tX10_holds.2.1 154 = .ok (.getfield 58, 3)) ciX10 (k := 26) (by decide) lkF_X10_58 (toR_V eb35) ?_
          refine BW.run [.iload_n 1] (pc' := 158) (lv' := [(0, .ref a0), (1, .int x1), (2, .int v2)]) (st' := [.int x1, .ref b35, .int v34, .int v32]) (by decide +kernel) rfl rfl ?_
          obtain ⟨v36, ev36, h⟩ := Ok.bind h
          refine BW.iald (by decide +kernel : decode tX10_holds.2.1 158 = .ok (.iaload, 1)) (toI_V ev36) ?_
          refine BW.callS (As := [.int v32, .int v34, .int v36]) (st := []) (by decide +kernel : decode tX10_holds.2.1 159 = .ok (.invokestatic 147, 3)) (DX10_in (Ok.bindK h)) mfX10_in lkM_X10_147 smX10_in rfl rfl (Nat.le_of_ble_eq_true rfl) ⟨Nat.le_trans (by decide) hRm.1, Nat.le_trans (by decide) hRm.2⟩ ⟨Nat.zero_le _, Nat.zero_le _⟩ ?_
          rintro _ s37 ⟨v38, rfl, h⟩
          show BW G tX10_holds E 0 0 162 [(0, .ref a0), (1, .int x1), (2, .int v2)] [.int v38] s37
          obtain ⟨hz, h⟩ := Ok.guard h
          exact BW.zret (by decide +kernel : decode tX10_holds.2.1 162 = .ok (.ireturn, 1)) rfl hz (Nat.zero_le _) (Nat.zero_le _) (hQ _ _ (Ok.some h))
        · have h := (Ok.ite h).2 hc3
          refine BW.tblOut 163 (by decide +kernel : decode tX10_holds.2.1 13 = .ok (.tableswitch 150 0 3 #[31, 86, 107, 128], 31)) (by have z0 : v4.toInt ≠ 0 := Int32_nek hc0 (by decide); have z1 : v4.toInt ≠ 1 := Int32_nek hc1 (by decide); have z2 : v4.toInt ≠ 2 := Int32_nek hc2 (by decide); have z3 : v4.toInt ≠ 3 := Int32_nek hc3 (by decide); omega) (by decide) ?_
          refine BW.run [.aload_n 0] (pc' := 164) (lv' := [(0, .ref a0), (1, .int x1), (2, .int v2)]) (st' := [.ref a0]) (by decide +kernel) rfl rfl ?_
          obtain ⟨b40, eb40, h⟩ := Ok.bind h
          refine BW.get (by decide +kernel : decode tX10_holds.2.1 164 = .ok (.getfield 40, 3)) ciX10 (k := 19) (by decide) lkF_X10_40 (toR_V eb40) ?_
          refine BW.run [.iload_n 2] (pc' := 168) (lv' := [(0, .ref a0), (1, .int x1), (2, .int v2)]) (st' := [.int v2, .ref b40]) (by decide +kernel) rfl rfl ?_
          obtain ⟨v41, ev41, h⟩ := Ok.bind h
          refine BW.iald (by decide +kernel : decode tX10_holds.2.1 168 = .ok (.iaload, 1)) (toI_V ev41) ?_
          refine BW.run [.aload_n 0] (pc' := 170) (lv' := [(0, .ref a0), (1, .int x1), (2, .int v2)]) (st' := [.ref a0, .int v41]) (by decide +kernel) rfl rfl ?_
          obtain ⟨b42, eb42, h⟩ := Ok.bind h
          refine BW.get (by decide +kernel : decode tX10_holds.2.1 170 = .ok (.getfield 40, 3)) ciX10 (k := 19) (by decide) lkF_X10_40 (toR_V eb42) ?_
          refine BW.run [.aload_n 0] (pc' := 174) (lv' := [(0, .ref a0), (1, .int x1), (2, .int v2)]) (st' := [.ref a0, .ref b42, .int v41]) (by decide +kernel) rfl rfl ?_
          obtain ⟨b43, eb43, h⟩ := Ok.bind h
          refine BW.get (by decide +kernel : decode tX10_holds.2.1 174 = .ok (.getfield 52, 3)) ciX10 (k := 24) (by decide) lkF_X10_52 (toR_V eb43) ?_
          refine BW.run [.iload_n 1] (pc' := 178) (lv' := [(0, .ref a0), (1, .int x1), (2, .int v2)]) (st' := [.int x1, .ref b43, .ref b42, .int v41]) (by decide +kernel) rfl rfl ?_
          obtain ⟨v44, ev44, h⟩ := Ok.bind h
          refine BW.iald (by decide +kernel : decode tX10_holds.2.1 178 = .ok (.iaload, 1)) (toI_V ev44) ?_
          obtain ⟨v45, ev45, h⟩ := Ok.bind h
          refine BW.iald (by decide +kernel : decode tX10_holds.2.1 179 = .ok (.iaload, 1)) (toI_V ev45) ?_
          refine BW.run [.aload_n 0] (pc' := 181) (lv' := [(0, .ref a0), (1, .int x1), (2, .int v2)]) (st' := [.ref a0, .int v45, .int v41]) (by decide +kernel) rfl rfl ?_
          obtain ⟨b46, eb46, h⟩ := Ok.bind h
          refine BW.get (by decide +kernel : decode tX10_holds.2.1 181 = .ok (.getfield 55, 3)) ciX10 (k := 25) (by decide) lkF_X10_55 (toR_V eb46) ?_
          refine BW.run [.iload_n 1] (pc' := 185) (lv' := [(0, .ref a0), (1, .int x1), (2, .int v2)]) (st' := [.int x1, .ref b46, .int v45, .int v41]) (by decide +kernel) rfl rfl ?_
          obtain ⟨v47, ev47, h⟩ := Ok.bind h
          refine BW.iald (by decide +kernel : decode tX10_holds.2.1 185 = .ok (.iaload, 1)) (toI_V ev47) ?_
          refine BW.run [.iadd] (pc' := 187) (lv' := [(0, .ref a0), (1, .int x1), (2, .int v2)]) (st' := [.int (v45 + v47), .int v41]) (by decide +kernel) rfl rfl ?_
          refine BW.icmp_lt 194 (by decide +kernel : decode tX10_holds.2.1 187 = .ok (.if_icmp .lt 7, 3)) (by decide) (fun hc => ?_) (fun hc => ?_)
          · have h := (Ok.ite h).1 hc
            refine BW.run [.iconst 0] (pc' := 195) (lv' := [(0, .ref a0), (1, .int x1), (2, .int v2)]) (st' := [.int (0 : Int32)]) (by decide +kernel) rfl rfl ?_
            exact BW.zret (by decide +kernel : decode tX10_holds.2.1 195 = .ok (.ireturn, 1)) rfl (Or.inl rfl) (Nat.zero_le _) (Nat.zero_le _) (hQ _ _ (Ok.some h))
          · have h := (Ok.ite h).2 hc
            refine BW.run [.iconst 1] (pc' := 191) (lv' := [(0, .ref a0), (1, .int x1), (2, .int v2)]) (st' := [.int (1 : Int32)]) (by decide +kernel) rfl rfl ?_
            refine BW.goto 195 (by decide +kernel : decode tX10_holds.2.1 191 = .ok (.goto 4, 3)) (by decide) ?_
            exact BW.zret (by decide +kernel : decode tX10_holds.2.1 195 = .ok (.ireturn, 1)) rfl (Or.inr rfl) (Nat.zero_le _) (Nat.zero_le _) (hQ _ _ (Ok.some h))
theorem oX10_holds {n : Nat} {P : Int32 × Sg → Prop} {s0 : Sg} {a0 : Nat} {x1 : Int32} (h : Ok (mX10_holds n s0 a0 x1) P) : ∃ n0, s0.2.1 a0 = some (10, n0) := by
  unfold mX10_holds at h
  exact Ok.isO h
theorem DX10_holds {G : Cx} {n : Nat} {P : Int32 × Sg → Prop} {s0 : Sg} {a0 : Nat} {x1 : Int32} (h : Ok (mX10_holds n s0 a0 x1) P) : BM G tX10_holds 4 90 0 0 [.ref a0, .int x1] s0 (fun v s => ∃ r, v = some (.int r) ∧ P (r, s)) := by
  refine BM.of (by decide +kernel) (Nat.le_of_ble_eq_true rfl) ?_
  exact bX10_holds (E := (({ frames := 4, cells := 0, slots := 0, locals := 90 }), Aof s0, 0, 0, (fun v s => ∃ r, v = some (.int r) ∧ P (r, s)))) ⟨Nat.le_refl _, Nat.le_refl _⟩ (fun r s hp => ⟨r, rfl, hp⟩) h
def mX10_within (n : Nat) (s0 : Sg) (x0 : Int32) (x1 : Int32) (x2 : Int32) : Option (Int32 × Sg) :=
  some ((jmax x1 (jmin x2 x0)), s0)
theorem bX10_within {G : Cx} {E : Ev} {n : Nat} (hRm : 1 ≤ E.1.frames ∧ 21 ≤ E.1.locals) {P : Int32 × Sg → Prop} (hQ : ∀ r s, P (r, s) → E.2.2.2.2 (some (.int r)) s) {s0 : Sg} {x0 : Int32} {x1 : Int32} {x2 : Int32} (h : Ok (mX10_within n s0 x0 x1 x2) P) : BW G tX10_within E 0 0 0 [(0, .int x0), (1, .int x1), (2, .int x2)] [] s0 := by
  unfold mX10_within at h
  refine BW.run [.iload_n 1, .iload_n 2, .iload_n 0] (pc' := 3) (lv' := [(0, .int x0), (1, .int x1), (2, .int x2)]) (st' := [.int x0, .int x2, .int x1]) (by decide +kernel) rfl rfl ?_
  refine BW.mmin (by decide +kernel : decode tX10_within.2.1 3 = .ok (.invokestatic 3, 3)) lkM_X10_3 (Nat.le_of_ble_eq_true rfl) ⟨Nat.le_trans (by decide) hRm.1, Nat.le_trans (by decide) hRm.2⟩ ⟨Nat.zero_le _, Nat.zero_le _⟩ ?_
  refine BW.mmax (by decide +kernel : decode tX10_within.2.1 6 = .ok (.invokestatic 9, 3)) lkM_X10_9 (Nat.le_of_ble_eq_true rfl) ⟨Nat.le_trans (by decide) hRm.1, Nat.le_trans (by decide) hRm.2⟩ ⟨Nat.zero_le _, Nat.zero_le _⟩ ?_
  exact BW.iret (by decide +kernel : decode tX10_within.2.1 9 = .ok (.ireturn, 1)) rfl (Nat.zero_le _) (Nat.zero_le _) (hQ _ _ (Ok.some h))
theorem DX10_within {G : Cx} {n : Nat} {P : Int32 × Sg → Prop} {s0 : Sg} {x0 : Int32} {x1 : Int32} {x2 : Int32} (h : Ok (mX10_within n s0 x0 x1 x2) P) : BM G tX10_within 1 21 0 0 [.int x0, .int x1, .int x2] s0 (fun v s => ∃ r, v = some (.int r) ∧ P (r, s)) := by
  refine BM.of (by decide +kernel) (Nat.le_of_ble_eq_true rfl) ?_
  exact bX10_within (E := (({ frames := 1, cells := 0, slots := 0, locals := 21 }), Aof s0, 0, 0, (fun v s => ∃ r, v = some (.int r) ∧ P (r, s)))) ⟨Nat.le_refl _, Nat.le_refl _⟩ (fun r s hp => ⟨r, rfl, hp⟩) h
def mX10_isTaken_L2 (n : Nat) (a0 : Nat) (x1 : Int32) (x2 : Int32) : (Sg × Int32) → Option ((Sg × Int32) ⊕ ((Sg) ⊕ (Int32 × Sg)))
  | (s0, x3) =>
    if x2 ≤ x3 then (
      some (.inr (.inl s0))
    ) else (
      (toR (gV 10 s0 a0 33)).bind fun b1 =>
      (toI (aV 11 s0 b1 x3)).bind fun v2 =>
      if v2 = x1 then (
        some (.inr (.inr ((1 : Int32), s0)))
      ) else (
        some (.inl (s0, (x3 + (1 : Int32))))
      )
    )
theorem bX10_isTaken_L2 {G : Cx} {E : Ev} {n : Nat} (hRm : 0 ≤ E.1.frames ∧ 0 ≤ E.1.locals) {a0 : Nat} {x1 : Int32} {x2 : Int32} {P : (Sg × Int32) ⊕ ((Sg) ⊕ (Int32 × Sg)) → Prop} (hC : ∀ (s : Sg) (c3 : Int32), P (.inl (s, c3)) → BW G tX10_isTaken E 0 0 2 [(0, .ref a0), (1, .int x1), (2, .int x2), (3, .int c3)] [] s) (hE : ∀ (s : Sg), P (.inr (.inl s)) → BW G tX10_isTaken E 0 0 25 [] [] s) (hQ : ∀ r s, P (.inr (.inr (r, s))) → E.2.2.2.2 (some (.int r)) s) {s0 : Sg} {x3 : Int32} (h : Ok (mX10_isTaken_L2 n a0 x1 x2 (s0, x3)) P) : BW G tX10_isTaken E 0 0 2 [(0, .ref a0), (1, .int x1), (2, .int x2), (3, .int x3)] [] s0 := by
  unfold mX10_isTaken_L2 at h
  refine BW.run [.iload_n 3, .iload_n 2] (pc' := 4) (lv' := [(0, .ref a0), (1, .int x1), (2, .int x2), (3, .int x3)]) (st' := [.int x2, .int x3]) (by decide +kernel) rfl rfl ?_
  refine BW.icmp_ge 25 (by decide +kernel : decode tX10_isTaken.2.1 4 = .ok (.if_icmp .ge 21, 3)) (by decide) (fun hc => ?_) (fun hc => ?_)
  · have h := (Ok.ite h).1 hc
    refine BW.sub [] rfl ?_
    exact hE _ (Ok.some h)
  · have h := (Ok.ite h).2 hc
    refine BW.run [.aload_n 0] (pc' := 8) (lv' := [(0, .ref a0), (1, .int x1), (2, .int x2), (3, .int x3)]) (st' := [.ref a0]) (by decide +kernel) rfl rfl ?_
    obtain ⟨b1, eb1, h⟩ := Ok.bind h
    refine BW.get (by decide +kernel : decode tX10_isTaken.2.1 8 = .ok (.getfield 64, 3)) ciX10 (k := 33) (by decide) lkF_X10_64 (toR_V eb1) ?_
    refine BW.run [.iload_n 3] (pc' := 12) (lv' := [(0, .ref a0), (1, .int x1), (2, .int x2), (3, .int x3)]) (st' := [.int x3, .ref b1]) (by decide +kernel) rfl rfl ?_
    obtain ⟨v2, ev2, h⟩ := Ok.bind h
    refine BW.iald (by decide +kernel : decode tX10_isTaken.2.1 12 = .ok (.iaload, 1)) (toI_V ev2) ?_
    refine BW.run [.iload_n 1] (pc' := 14) (lv' := [(0, .ref a0), (1, .int x1), (2, .int x2), (3, .int x3)]) (st' := [.int x1, .int v2]) (by decide +kernel) rfl rfl ?_
    refine BW.icmp_ne 19 (by decide +kernel : decode tX10_isTaken.2.1 14 = .ok (.if_icmp .ne 5, 3)) (by decide) (fun hc => ?_) (fun hc => ?_)
    · have h := (Ok.ite h).2 hc
      refine BW.run [.iinc 3 1] (pc' := 22) (lv' := [(0, .ref a0), (1, .int x1), (2, .int x2), (3, .int (x3 + (1 : Int32)))]) (st' := []) (by decide +kernel) rfl rfl ?_
      refine BW.goto 2 (by decide +kernel : decode tX10_isTaken.2.1 22 = .ok (.goto (-20), 3)) (by decide) ?_
      exact hC _ _ (Ok.some h)
    · have h := (Ok.ite h).1 hc
      refine BW.run [.iconst 1] (pc' := 18) (lv' := [(0, .ref a0), (1, .int x1), (2, .int x2), (3, .int x3)]) (st' := [.int (1 : Int32)]) (by decide +kernel) rfl rfl ?_
      exact BW.zret (by decide +kernel : decode tX10_isTaken.2.1 18 = .ok (.ireturn, 1)) rfl (Or.inr rfl) (Nat.zero_le _) (Nat.zero_le _) (hQ _ _ (Ok.some h))
theorem bX10_isTaken_W2 {G : Cx} {E : Ev} {n : Nat} (hRm : 0 ≤ E.1.frames ∧ 0 ≤ E.1.locals) {a0 : Nat} {x1 : Int32} {x2 : Int32} {K : ((Sg) ⊕ (Int32 × Sg)) → Prop} (hE : ∀ (s : Sg), K (.inl s) → BW G tX10_isTaken E 0 0 25 [] [] s) (hQ : ∀ r s, K (.inr (r, s)) → E.2.2.2.2 (some (.int r)) s) : ∀ (f : Nat) (c : Sg × Int32), Ok (loopM (mX10_isTaken_L2 n a0 x1 x2) f c) K → match c with | (s0, x3) => BW G tX10_isTaken E 0 0 2 [(0, .ref a0), (1, .int x1), (2, .int x2), (3, .int x3)] [] s0 := by
  intro f
  induction f with
  | zero => intro c h; exact (Ok.no h).elim
  | succ f ih =>
    intro c h
    obtain ⟨s0, x3⟩ := c
    exact bX10_isTaken_L2 (P := loopP (mX10_isTaken_L2 n a0 x1 x2) f K) hRm (fun s c3 h => ih (s, c3) h) hE hQ (loopM_ok h)
def mX10_isTaken (n : Nat) (s0 : Sg) (a0 : Nat) (x1 : Int32) (x2 : Int32) : Option (Int32 × Sg) :=
  (isO 10 s0 a0).bind fun _ =>
  (loopM (mX10_isTaken_L2 n a0 x1 x2) n (s0, (0 : Int32))).bind fun q4 => match q4 with
  | .inl s3 => (
    some ((0 : Int32), s3)
  )
  | .inr (r, s) => some (r, s)
theorem bX10_isTaken {G : Cx} {E : Ev} {n : Nat} (hRm : 0 ≤ E.1.frames ∧ 0 ≤ E.1.locals) {P : Int32 × Sg → Prop} (hQ : ∀ r s, P (r, s) → E.2.2.2.2 (some (.int r)) s) {s0 : Sg} {a0 : Nat} {x1 : Int32} {x2 : Int32} (h : Ok (mX10_isTaken n s0 a0 x1 x2) P) : BW G tX10_isTaken E 0 0 0 [(0, .ref a0), (1, .int x1), (2, .int x2)] [] s0 := by
  unfold mX10_isTaken at h
  obtain ⟨_, _, h⟩ := Ok.bind h
  refine BW.run [.iconst 0, .istore_n 3] (pc' := 2) (lv' := [(0, .ref a0), (1, .int x1), (2, .int x2), (3, .int (0 : Int32))]) (st' := []) (by decide +kernel) rfl rfl ?_
  refine bX10_isTaken_W2 hRm (a0 := a0) (x1 := x1) (x2 := x2) (fun s3 h => ?_) (fun r s h => ?_) n (s0, (0 : Int32)) (Ok.bindK h)
  · refine BW.run [.iconst 0] (pc' := 26) (lv' := []) (st' := [.int (0 : Int32)]) (by decide +kernel) rfl rfl ?_
    exact BW.zret (by decide +kernel : decode tX10_isTaken.2.1 26 = .ok (.ireturn, 1)) rfl (Or.inl rfl) (Nat.zero_le _) (Nat.zero_le _) (hQ _ _ (Ok.some h))
  · exact hQ r s (Ok.some h)
theorem oX10_isTaken {n : Nat} {P : Int32 × Sg → Prop} {s0 : Sg} {a0 : Nat} {x1 : Int32} {x2 : Int32} (h : Ok (mX10_isTaken n s0 a0 x1 x2) P) : ∃ n0, s0.2.1 a0 = some (10, n0) := by
  unfold mX10_isTaken at h
  exact Ok.isO h
theorem DX10_isTaken {G : Cx} {n : Nat} {P : Int32 × Sg → Prop} {s0 : Sg} {a0 : Nat} {x1 : Int32} {x2 : Int32} (h : Ok (mX10_isTaken n s0 a0 x1 x2) P) : BM G tX10_isTaken 0 0 0 0 [.ref a0, .int x1, .int x2] s0 (fun v s => ∃ r, v = some (.int r) ∧ P (r, s)) := by
  refine BM.of (by decide +kernel) (Nat.le_of_ble_eq_true rfl) ?_
  exact bX10_isTaken (E := (({ frames := 0, cells := 0, slots := 0, locals := 0 }), Aof s0, 0, 0, (fun v s => ∃ r, v = some (.int r) ∧ P (r, s)))) ⟨Nat.le_refl _, Nat.le_refl _⟩ (fun r s hp => ⟨r, rfl, hp⟩) h
def mX10_judge_39 (n : Nat) (s0 : Sg) (a0 : Nat) (x1 : Int32) (x2 : Int32) : Option ((Sg × Int32) ⊕ ((Sg) ⊕ (Int32 × Sg))) :=
  some (.inl (s0, (x2 + (1 : Int32))))
theorem bX10_judge_39 {G : Cx} {E : Ev} {n : Nat} (hRm : 5 ≤ E.1.frames ∧ 112 ≤ E.1.locals) {s0 : Sg} {a0 : Nat} {x1 : Int32} {x2 : Int32} {P : (Sg × Int32) ⊕ ((Sg) ⊕ (Int32 × Sg)) → Prop} (hC : ∀ (s : Sg) (c2 : Int32), P (.inl (s, c2)) → BW G tX10_judge E 0 0 12 [(0, .ref a0), (1, .int x1), (2, .int c2)] [] s) (hE : ∀ (s : Sg), P (.inr (.inl s)) → BW G tX10_judge E 0 0 45 [] [] s) (hQ : ∀ r s, P (.inr (.inr (r, s))) → E.2.2.2.2 (some (.int r)) s)  (h : Ok (mX10_judge_39 n s0 a0 x1 x2) P) : BW G tX10_judge E 0 0 39 [(0, .ref a0), (1, .int x1), (2, .int x2)] [] s0 := by
  unfold mX10_judge_39 at h
  refine BW.run [.iinc 2 1] (pc' := 42) (lv' := [(0, .ref a0), (1, .int x1), (2, .int (x2 + (1 : Int32)))]) (st' := []) (by decide +kernel) rfl rfl ?_
  refine BW.goto 12 (by decide +kernel : decode tX10_judge.2.1 42 = .ok (.goto (-30), 3)) (by decide) ?_
  exact hC _ _ (Ok.some h)
def mX10_judge_L12 (n : Nat) (a0 : Nat) (x1 : Int32) : (Sg × Int32) → Option ((Sg × Int32) ⊕ ((Sg) ⊕ (Int32 × Sg)))
  | (s0, x2) =>
    (toI (gV 10 s0 a0 27)).bind fun v4 =>
    if v4 ≤ x2 then (
      some (.inr (.inl s0))
    ) else (
      if ((x1 >>> (x2 &&& 31)) &&& (1 : Int32)) = (1 : Int32) then (
        (mX10_holds n s0 a0 x2).bind fun (v6, s5) =>
        if v6 = 0 then (
          some (.inr (.inr (x2, s5)))
        ) else (
          mX10_judge_39 n s5 a0 x1 x2
        )
      ) else (
        mX10_judge_39 n s0 a0 x1 x2
      )
    )
theorem bX10_judge_L12 {G : Cx} {E : Ev} {n : Nat} (hRm : 5 ≤ E.1.frames ∧ 112 ≤ E.1.locals) {a0 : Nat} {x1 : Int32} {P : (Sg × Int32) ⊕ ((Sg) ⊕ (Int32 × Sg)) → Prop} (hC : ∀ (s : Sg) (c2 : Int32), P (.inl (s, c2)) → BW G tX10_judge E 0 0 12 [(0, .ref a0), (1, .int x1), (2, .int c2)] [] s) (hE : ∀ (s : Sg), P (.inr (.inl s)) → BW G tX10_judge E 0 0 45 [] [] s) (hQ : ∀ r s, P (.inr (.inr (r, s))) → E.2.2.2.2 (some (.int r)) s) {s0 : Sg} {x2 : Int32} (h : Ok (mX10_judge_L12 n a0 x1 (s0, x2)) P) : BW G tX10_judge E 0 0 12 [(0, .ref a0), (1, .int x1), (2, .int x2)] [] s0 := by
  unfold mX10_judge_L12 at h
  refine BW.run [.iload_n 2, .aload_n 0] (pc' := 14) (lv' := [(0, .ref a0), (1, .int x1), (2, .int x2)]) (st' := [.ref a0, .int x2]) (by decide +kernel) rfl rfl ?_
  obtain ⟨v4, ev4, h⟩ := Ok.bind h
  refine BW.get (by decide +kernel : decode tX10_judge.2.1 14 = .ok (.getfield 194, 3)) ciX10 (k := 27) (by decide) lkF_X10_194 (toI_V ev4) ?_
  refine BW.icmp_ge 45 (by decide +kernel : decode tX10_judge.2.1 17 = .ok (.if_icmp .ge 28, 3)) (by decide) (fun hc => ?_) (fun hc => ?_)
  · have h := (Ok.ite h).1 hc
    refine BW.sub [] rfl ?_
    exact hE _ (Ok.some h)
  · have h := (Ok.ite h).2 hc
    refine BW.run [.iload_n 1, .iload_n 2, .ishr, .iconst 1, .iand, .iconst 1] (pc' := 26) (lv' := [(0, .ref a0), (1, .int x1), (2, .int x2)]) (st' := [.int (1 : Int32), .int ((x1 >>> (x2 &&& 31)) &&& (1 : Int32))]) (by decide +kernel) rfl rfl ?_
    refine BW.icmp_ne 39 (by decide +kernel : decode tX10_judge.2.1 26 = .ok (.if_icmp .ne 13, 3)) (by decide) (fun hc => ?_) (fun hc => ?_)
    · have h := (Ok.ite h).2 hc
      exact bX10_judge_39 hRm hC hE hQ h
    · have h := (Ok.ite h).1 hc
      refine BW.run [.aload_n 0, .iload_n 2] (pc' := 31) (lv' := [(0, .ref a0), (1, .int x1), (2, .int x2)]) (st' := [.int x2, .ref a0]) (by decide +kernel) rfl rfl ?_
      refine BW.callV (As := [.int x2]) (st := []) (by decide +kernel : decode tX10_judge.2.1 31 = .ok (.invokevirtual 295, 3)) (DX10_holds (Ok.bindK h)) mfX10_holds lkM_X10_295 imX10_holds selX10_holds ciX10 (oX10_holds (Ok.bindK h)).choose_spec rfl rfl (Nat.le_of_ble_eq_true rfl) ⟨Nat.le_trans (by decide) hRm.1, Nat.le_trans (by decide) hRm.2⟩ ⟨Nat.zero_le _, Nat.zero_le _⟩ ?_
      rintro _ s5 ⟨v6, rfl, h⟩
      show BW G tX10_judge E 0 0 34 [(0, .ref a0), (1, .int x1), (2, .int x2)] [.int v6] s5
      refine BW.if_ne 39 (by decide +kernel : decode tX10_judge.2.1 34 = .ok (.ifCond .ne 5, 3)) (by decide) (fun hc => ?_) (fun hc => ?_)
      · have h := (Ok.ite h).2 hc
        exact bX10_judge_39 hRm hC hE hQ h
      · have h := (Ok.ite h).1 hc
        refine BW.run [.iload_n 2] (pc' := 38) (lv' := [(0, .ref a0), (1, .int x1), (2, .int x2)]) (st' := [.int x2]) (by decide +kernel) rfl rfl ?_
        exact BW.iret (by decide +kernel : decode tX10_judge.2.1 38 = .ok (.ireturn, 1)) rfl (Nat.zero_le _) (Nat.zero_le _) (hQ _ _ (Ok.some h))
theorem bX10_judge_W12 {G : Cx} {E : Ev} {n : Nat} (hRm : 5 ≤ E.1.frames ∧ 112 ≤ E.1.locals) {a0 : Nat} {x1 : Int32} {K : ((Sg) ⊕ (Int32 × Sg)) → Prop} (hE : ∀ (s : Sg), K (.inl s) → BW G tX10_judge E 0 0 45 [] [] s) (hQ : ∀ r s, K (.inr (r, s)) → E.2.2.2.2 (some (.int r)) s) : ∀ (f : Nat) (c : Sg × Int32), Ok (loopM (mX10_judge_L12 n a0 x1) f c) K → match c with | (s0, x2) => BW G tX10_judge E 0 0 12 [(0, .ref a0), (1, .int x1), (2, .int x2)] [] s0 := by
  intro f
  induction f with
  | zero => intro c h; exact (Ok.no h).elim
  | succ f ih =>
    intro c h
    obtain ⟨s0, x2⟩ := c
    exact bX10_judge_L12 (P := loopP (mX10_judge_L12 n a0 x1) f K) hRm (fun s c2 h => ih (s, c2) h) hE hQ (loopM_ok h)
def mX10_judge (n : Nat) (s0 : Sg) (a0 : Nat) (x1 : Int32) : Option (Int32 × Sg) :=
  (isO 10 s0 a0).bind fun _ =>
  (mX10_isSet n s0 a0 x1).bind fun (v2, s1) =>
  if v2 = 0 then (
    some ((-1 : Int32), s1)
  ) else (
    (loopM (mX10_judge_L12 n a0 x1) n (s1, (0 : Int32))).bind fun q9 => match q9 with
    | .inl s8 => (
      some ((-1 : Int32), s8)
    )
    | .inr (r, s) => some (r, s)
  )
theorem bX10_judge {G : Cx} {E : Ev} {n : Nat} (hRm : 5 ≤ E.1.frames ∧ 112 ≤ E.1.locals) {P : Int32 × Sg → Prop} (hQ : ∀ r s, P (r, s) → E.2.2.2.2 (some (.int r)) s) {s0 : Sg} {a0 : Nat} {x1 : Int32} (h : Ok (mX10_judge n s0 a0 x1) P) : BW G tX10_judge E 0 0 0 [(0, .ref a0), (1, .int x1)] [] s0 := by
  unfold mX10_judge at h
  obtain ⟨_, _, h⟩ := Ok.bind h
  refine BW.run [.aload_n 0, .iload_n 1] (pc' := 2) (lv' := [(0, .ref a0), (1, .int x1)]) (st' := [.int x1, .ref a0]) (by decide +kernel) rfl rfl ?_
  refine BW.callV (As := [.int x1]) (st := []) (by decide +kernel : decode tX10_judge.2.1 2 = .ok (.invokevirtual 221, 3)) (DX10_isSet (Ok.bindK h)) mfX10_isSet lkM_X10_221 imX10_isSet selX10_isSet ciX10 (oX10_isSet (Ok.bindK h)).choose_spec rfl rfl (Nat.le_of_ble_eq_true rfl) ⟨Nat.le_trans (by decide) hRm.1, Nat.le_trans (by decide) hRm.2⟩ ⟨Nat.zero_le _, Nat.zero_le _⟩ ?_
  rintro _ s1 ⟨v2, rfl, h⟩
  show BW G tX10_judge E 0 0 5 [(0, .ref a0), (1, .int x1)] [.int v2] s1
  refine BW.if_ne 10 (by decide +kernel : decode tX10_judge.2.1 5 = .ok (.ifCond .ne 5, 3)) (by decide) (fun hc => ?_) (fun hc => ?_)
  · have h := (Ok.ite h).2 hc
    refine BW.run [.iconst 0, .istore_n 2] (pc' := 12) (lv' := [(0, .ref a0), (1, .int x1), (2, .int (0 : Int32))]) (st' := []) (by decide +kernel) rfl rfl ?_
    refine bX10_judge_W12 hRm (a0 := a0) (x1 := x1) (fun s8 h => ?_) (fun r s h => ?_) n (s1, (0 : Int32)) (Ok.bindK h)
    · refine BW.run [.iconst (-1)] (pc' := 46) (lv' := []) (st' := [.int (-1 : Int32)]) (by decide +kernel) rfl rfl ?_
      exact BW.iret (by decide +kernel : decode tX10_judge.2.1 46 = .ok (.ireturn, 1)) rfl (Nat.zero_le _) (Nat.zero_le _) (hQ _ _ (Ok.some h))
    · exact hQ r s (Ok.some h)
  · have h := (Ok.ite h).1 hc
    refine BW.run [.iconst (-1)] (pc' := 9) (lv' := [(0, .ref a0), (1, .int x1)]) (st' := [.int (-1 : Int32)]) (by decide +kernel) rfl rfl ?_
    exact BW.iret (by decide +kernel : decode tX10_judge.2.1 9 = .ok (.ireturn, 1)) rfl (Nat.zero_le _) (Nat.zero_le _) (hQ _ _ (Ok.some h))
theorem oX10_judge {n : Nat} {P : Int32 × Sg → Prop} {s0 : Sg} {a0 : Nat} {x1 : Int32} (h : Ok (mX10_judge n s0 a0 x1) P) : ∃ n0, s0.2.1 a0 = some (10, n0) := by
  unfold mX10_judge at h
  exact Ok.isO h
theorem DX10_judge {G : Cx} {n : Nat} {P : Int32 × Sg → Prop} {s0 : Sg} {a0 : Nat} {x1 : Int32} (h : Ok (mX10_judge n s0 a0 x1) P) : BM G tX10_judge 5 112 0 0 [.ref a0, .int x1] s0 (fun v s => ∃ r, v = some (.int r) ∧ P (r, s)) := by
  refine BM.of (by decide +kernel) (Nat.le_of_ble_eq_true rfl) ?_
  exact bX10_judge (E := (({ frames := 5, cells := 0, slots := 0, locals := 112 }), Aof s0, 0, 0, (fun v s => ∃ r, v = some (.int r) ∧ P (r, s)))) ⟨Nat.le_refl _, Nat.le_refl _⟩ (fun r s hp => ⟨r, rfl, hp⟩) h
def mX10_length (n : Nat) (s0 : Sg) (a0 : Nat) (x1 : Int32) : Option (Int32 × Sg) :=
  (isO 10 s0 a0).bind fun _ =>
  (toR (gV 10 s0 a0 17)).bind fun b1 =>
  (toI (aV 11 s0 b1 x1)).bind fun v2 =>
  (toR (gV 10 s0 a0 16)).bind fun b3 =>
  (toI (aV 11 s0 b3 x1)).bind fun v4 =>
  some ((v2 * v4), s0)
theorem bX10_length {G : Cx} {E : Ev} {n : Nat} (hRm : 0 ≤ E.1.frames ∧ 0 ≤ E.1.locals) {P : Int32 × Sg → Prop} (hQ : ∀ r s, P (r, s) → E.2.2.2.2 (some (.int r)) s) {s0 : Sg} {a0 : Nat} {x1 : Int32} (h : Ok (mX10_length n s0 a0 x1) P) : BW G tX10_length E 0 0 0 [(0, .ref a0), (1, .int x1)] [] s0 := by
  unfold mX10_length at h
  obtain ⟨_, _, h⟩ := Ok.bind h
  refine BW.run [.aload_n 0] (pc' := 1) (lv' := [(0, .ref a0), (1, .int x1)]) (st' := [.ref a0]) (by decide +kernel) rfl rfl ?_
  obtain ⟨b1, eb1, h⟩ := Ok.bind h
  refine BW.get (by decide +kernel : decode tX10_length.2.1 1 = .ok (.getfield 34, 3)) ciX10 (k := 17) (by decide) lkF_X10_34 (toR_V eb1) ?_
  refine BW.run [.iload_n 1] (pc' := 5) (lv' := [(0, .ref a0), (1, .int x1)]) (st' := [.int x1, .ref b1]) (by decide +kernel) rfl rfl ?_
  obtain ⟨v2, ev2, h⟩ := Ok.bind h
  refine BW.iald (by decide +kernel : decode tX10_length.2.1 5 = .ok (.iaload, 1)) (toI_V ev2) ?_
  refine BW.run [.aload_n 0] (pc' := 7) (lv' := [(0, .ref a0), (1, .int x1)]) (st' := [.ref a0, .int v2]) (by decide +kernel) rfl rfl ?_
  obtain ⟨b3, eb3, h⟩ := Ok.bind h
  refine BW.get (by decide +kernel : decode tX10_length.2.1 7 = .ok (.getfield 31, 3)) ciX10 (k := 16) (by decide) lkF_X10_31 (toR_V eb3) ?_
  refine BW.run [.iload_n 1] (pc' := 11) (lv' := [(0, .ref a0), (1, .int x1)]) (st' := [.int x1, .ref b3, .int v2]) (by decide +kernel) rfl rfl ?_
  obtain ⟨v4, ev4, h⟩ := Ok.bind h
  refine BW.iald (by decide +kernel : decode tX10_length.2.1 11 = .ok (.iaload, 1)) (toI_V ev4) ?_
  refine BW.run [.imul] (pc' := 13) (lv' := [(0, .ref a0), (1, .int x1)]) (st' := [.int (v2 * v4)]) (by decide +kernel) rfl rfl ?_
  exact BW.iret (by decide +kernel : decode tX10_length.2.1 13 = .ok (.ireturn, 1)) rfl (Nat.zero_le _) (Nat.zero_le _) (hQ _ _ (Ok.some h))
theorem oX10_length {n : Nat} {P : Int32 × Sg → Prop} {s0 : Sg} {a0 : Nat} {x1 : Int32} (h : Ok (mX10_length n s0 a0 x1) P) : ∃ n0, s0.2.1 a0 = some (10, n0) := by
  unfold mX10_length at h
  exact Ok.isO h
theorem DX10_length {G : Cx} {n : Nat} {P : Int32 × Sg → Prop} {s0 : Sg} {a0 : Nat} {x1 : Int32} (h : Ok (mX10_length n s0 a0 x1) P) : BM G tX10_length 0 0 0 0 [.ref a0, .int x1] s0 (fun v s => ∃ r, v = some (.int r) ∧ P (r, s)) := by
  refine BM.of (by decide +kernel) (Nat.le_of_ble_eq_true rfl) ?_
  exact bX10_length (E := (({ frames := 0, cells := 0, slots := 0, locals := 0 }), Aof s0, 0, 0, (fun v s => ∃ r, v = some (.int r) ∧ P (r, s)))) ⟨Nat.le_refl _, Nat.le_refl _⟩ (fun r s hp => ⟨r, rfl, hp⟩) h
def mX10_wordsOf_43 (n : Nat) (s0 : Sg) (t0 : Int32) (t1 : Int32) (a0 : Nat) (x1 : Int32) (x3 : Int32) : Option ((Sg × Int32 × Int32) ⊕ (Sg × Int32)) :=
  nm (t1 ||| t0) fun v4 =>
  some (.inl (s0, v4, (x3 + (1 : Int32))))
theorem bX10_wordsOf_43 {G : Cx} {E : Ev} {n : Nat} (hRm : 0 ≤ E.1.frames ∧ 0 ≤ E.1.locals) {s0 : Sg} {t0 : Int32} {t1 : Int32} {a0 : Nat} {x1 : Int32} {x3 : Int32} {P : (Sg × Int32 × Int32) ⊕ (Sg × Int32) → Prop} (hC : ∀ (s : Sg) (c2 : Int32) (c3 : Int32), P (.inl (s, c2, c3)) → BW G tX10_wordsOf E 0 0 4 [(0, .ref a0), (1, .int x1), (2, .int c2), (3, .int c3)] [] s) (hE : ∀ (s : Sg) (c2 : Int32), P (.inr (s, c2)) → BW G tX10_wordsOf E 0 0 51 [(2, .int c2)] [] s)  (h : Ok (mX10_wordsOf_43 n s0 t0 t1 a0 x1 x3) P) : BW G tX10_wordsOf E 0 0 43 [(0, .ref a0), (1, .int x1), (3, .int x3)] [.int t0, .int t1] s0 := by
  unfold mX10_wordsOf_43 at h
  refine BW.run [.ior] (pc' := 44) (lv' := [(0, .ref a0), (1, .int x1), (3, .int x3)]) (st' := [.int (t1 ||| t0)]) (by decide +kernel) rfl rfl ?_
  obtain ⟨v4, wv4, h⟩ := Ok.nm h
  refine BW.nm wv4 ?_
  refine BW.run [.istore_n 2, .iinc 3 1] (pc' := 48) (lv' := [(0, .ref a0), (1, .int x1), (2, .int v4), (3, .int (x3 + (1 : Int32)))]) (st' := []) (by decide +kernel) rfl rfl ?_
  refine BW.goto 4 (by decide +kernel : decode tX10_wordsOf.2.1 48 = .ok (.goto (-44), 3)) (by decide) ?_
  exact hC _ _ _ (Ok.some h)
def mX10_wordsOf_42 (n : Nat) (s0 : Sg) (t0 : Int32) (a0 : Nat) (x1 : Int32) (x3 : Int32) : Option ((Sg × Int32 × Int32) ⊕ (Sg × Int32)) :=
  mX10_wordsOf_43 n s0 (0 : Int32) t0 a0 x1 x3
theorem bX10_wordsOf_42 {G : Cx} {E : Ev} {n : Nat} (hRm : 0 ≤ E.1.frames ∧ 0 ≤ E.1.locals) {s0 : Sg} {t0 : Int32} {a0 : Nat} {x1 : Int32} {x3 : Int32} {P : (Sg × Int32 × Int32) ⊕ (Sg × Int32) → Prop} (hC : ∀ (s : Sg) (c2 : Int32) (c3 : Int32), P (.inl (s, c2, c3)) → BW G tX10_wordsOf E 0 0 4 [(0, .ref a0), (1, .int x1), (2, .int c2), (3, .int c3)] [] s) (hE : ∀ (s : Sg) (c2 : Int32), P (.inr (s, c2)) → BW G tX10_wordsOf E 0 0 51 [(2, .int c2)] [] s)  (h : Ok (mX10_wordsOf_42 n s0 t0 a0 x1 x3) P) : BW G tX10_wordsOf E 0 0 42 [(0, .ref a0), (1, .int x1), (3, .int x3)] [.int t0] s0 := by
  unfold mX10_wordsOf_42 at h
  refine BW.run [.iconst 0] (pc' := 43) (lv' := [(0, .ref a0), (1, .int x1), (3, .int x3)]) (st' := [.int (0 : Int32), .int t0]) (by decide +kernel) rfl rfl ?_
  exact bX10_wordsOf_43 hRm hC hE h
def mX10_wordsOf_L4 (n : Nat) (a0 : Nat) (x1 : Int32) : (Sg × Int32 × Int32) → Option ((Sg × Int32 × Int32) ⊕ (Sg × Int32))
  | (s0, x2, x3) =>
    (toI (gV 10 s0 a0 27)).bind fun v1 =>
    if v1 ≤ x3 then (
      some (.inr (s0, x2))
    ) else (
      (toR (gV 10 s0 a0 21)).bind fun b2 =>
      (toI (aV 11 s0 b2 x3)).bind fun v3 =>
      if v3 < 0 then (
        mX10_wordsOf_42 n s0 x2 a0 x1 x3
      ) else (
        (toR (gV 10 s0 a0 21)).bind fun b5 =>
        (toI (aV 11 s0 b5 x3)).bind fun v6 =>
        if ((x1 >>> (v6 &&& 31)) &&& (1 : Int32)) = (1 : Int32) then (
          mX10_wordsOf_43 n s0 ((1 : Int32) <<< (x3 &&& 31)) x2 a0 x1 x3
        ) else (
          mX10_wordsOf_42 n s0 x2 a0 x1 x3
        )
      )
    )
theorem bX10_wordsOf_L4 {G : Cx} {E : Ev} {n : Nat} (hRm : 0 ≤ E.1.frames ∧ 0 ≤ E.1.locals) {a0 : Nat} {x1 : Int32} {P : (Sg × Int32 × Int32) ⊕ (Sg × Int32) → Prop} (hC : ∀ (s : Sg) (c2 : Int32) (c3 : Int32), P (.inl (s, c2, c3)) → BW G tX10_wordsOf E 0 0 4 [(0, .ref a0), (1, .int x1), (2, .int c2), (3, .int c3)] [] s) (hE : ∀ (s : Sg) (c2 : Int32), P (.inr (s, c2)) → BW G tX10_wordsOf E 0 0 51 [(2, .int c2)] [] s) {s0 : Sg} {x2 : Int32} {x3 : Int32} (h : Ok (mX10_wordsOf_L4 n a0 x1 (s0, x2, x3)) P) : BW G tX10_wordsOf E 0 0 4 [(0, .ref a0), (1, .int x1), (2, .int x2), (3, .int x3)] [] s0 := by
  unfold mX10_wordsOf_L4 at h
  refine BW.run [.iload_n 3, .aload_n 0] (pc' := 6) (lv' := [(0, .ref a0), (1, .int x1), (2, .int x2), (3, .int x3)]) (st' := [.ref a0, .int x3]) (by decide +kernel) rfl rfl ?_
  obtain ⟨v1, ev1, h⟩ := Ok.bind h
  refine BW.get (by decide +kernel : decode tX10_wordsOf.2.1 6 = .ok (.getfield 194, 3)) ciX10 (k := 27) (by decide) lkF_X10_194 (toI_V ev1) ?_
  refine BW.icmp_ge 51 (by decide +kernel : decode tX10_wordsOf.2.1 9 = .ok (.if_icmp .ge 42, 3)) (by decide) (fun hc => ?_) (fun hc => ?_)
  · have h := (Ok.ite h).1 hc
    refine BW.sub [2] rfl ?_
    exact hE _ _ (Ok.some h)
  · have h := (Ok.ite h).2 hc
    refine BW.run [.iload_n 2, .aload_n 0] (pc' := 14) (lv' := [(0, .ref a0), (1, .int x1), (2, .int x2), (3, .int x3)]) (st' := [.ref a0, .int x2]) (by decide +kernel) rfl rfl ?_
    obtain ⟨b2, eb2, h⟩ := Ok.bind h
    refine BW.get (by decide +kernel : decode tX10_wordsOf.2.1 14 = .ok (.getfield 43, 3)) ciX10 (k := 21) (by decide) lkF_X10_43 (toR_V eb2) ?_
    refine BW.run [.iload_n 3] (pc' := 18) (lv' := [(0, .ref a0), (1, .int x1), (2, .int x2), (3, .int x3)]) (st' := [.int x3, .ref b2, .int x2]) (by decide +kernel) rfl rfl ?_
    obtain ⟨v3, ev3, h⟩ := Ok.bind h
    refine BW.iald (by decide +kernel : decode tX10_wordsOf.2.1 18 = .ok (.iaload, 1)) (toI_V ev3) ?_
    refine BW.if_lt 42 (by decide +kernel : decode tX10_wordsOf.2.1 19 = .ok (.ifCond .lt 23, 3)) (by decide) (fun hc => ?_) (fun hc => ?_)
    · have h := (Ok.ite h).1 hc
      refine BW.sub [0, 1, 3] rfl ?_
      exact bX10_wordsOf_42 hRm hC hE h
    · have h := (Ok.ite h).2 hc
      refine BW.run [.iload_n 1, .aload_n 0] (pc' := 24) (lv' := [(0, .ref a0), (1, .int x1), (2, .int x2), (3, .int x3)]) (st' := [.ref a0, .int x1, .int x2]) (by decide +kernel) rfl rfl ?_
      obtain ⟨b5, eb5, h⟩ := Ok.bind h
      refine BW.get (by decide +kernel : decode tX10_wordsOf.2.1 24 = .ok (.getfield 43, 3)) ciX10 (k := 21) (by decide) lkF_X10_43 (toR_V eb5) ?_
      refine BW.run [.iload_n 3] (pc' := 28) (lv' := [(0, .ref a0), (1, .int x1), (2, .int x2), (3, .int x3)]) (st' := [.int x3, .ref b5, .int x1, .int x2]) (by decide +kernel) rfl rfl ?_
      obtain ⟨v6, ev6, h⟩ := Ok.bind h
      refine BW.iald (by decide +kernel : decode tX10_wordsOf.2.1 28 = .ok (.iaload, 1)) (toI_V ev6) ?_
      refine BW.run [.ishr, .iconst 1, .iand, .iconst 1] (pc' := 33) (lv' := [(0, .ref a0), (1, .int x1), (2, .int x2), (3, .int x3)]) (st' := [.int (1 : Int32), .int ((x1 >>> (v6 &&& 31)) &&& (1 : Int32)), .int x2]) (by decide +kernel) rfl rfl ?_
      refine BW.icmp_ne 42 (by decide +kernel : decode tX10_wordsOf.2.1 33 = .ok (.if_icmp .ne 9, 3)) (by decide) (fun hc => ?_) (fun hc => ?_)
      · have h := (Ok.ite h).2 hc
        refine BW.sub [0, 1, 3] rfl ?_
        exact bX10_wordsOf_42 hRm hC hE h
      · have h := (Ok.ite h).1 hc
        refine BW.run [.iconst 1, .iload_n 3, .ishl] (pc' := 39) (lv' := [(0, .ref a0), (1, .int x1), (2, .int x2), (3, .int x3)]) (st' := [.int ((1 : Int32) <<< (x3 &&& 31)), .int x2]) (by decide +kernel) rfl rfl ?_
        refine BW.goto 43 (by decide +kernel : decode tX10_wordsOf.2.1 39 = .ok (.goto 4, 3)) (by decide) ?_
        refine BW.sub [0, 1, 3] rfl ?_
        exact bX10_wordsOf_43 hRm hC hE h
theorem bX10_wordsOf_W4 {G : Cx} {E : Ev} {n : Nat} (hRm : 0 ≤ E.1.frames ∧ 0 ≤ E.1.locals) {a0 : Nat} {x1 : Int32} {K : (Sg × Int32) → Prop} (hE : ∀ (s : Sg) (c2 : Int32), K (s, c2) → BW G tX10_wordsOf E 0 0 51 [(2, .int c2)] [] s) : ∀ (f : Nat) (c : Sg × Int32 × Int32), Ok (loopM (mX10_wordsOf_L4 n a0 x1) f c) K → match c with | (s0, x2, x3) => BW G tX10_wordsOf E 0 0 4 [(0, .ref a0), (1, .int x1), (2, .int x2), (3, .int x3)] [] s0 := by
  intro f
  induction f with
  | zero => intro c h; exact (Ok.no h).elim
  | succ f ih =>
    intro c h
    obtain ⟨s0, x2, x3⟩ := c
    exact bX10_wordsOf_L4 (P := loopP (mX10_wordsOf_L4 n a0 x1) f K) hRm (fun s c2 c3 h => ih (s, c2, c3) h) hE (loopM_ok h)
def mX10_wordsOf (n : Nat) (s0 : Sg) (a0 : Nat) (x1 : Int32) : Option (Int32 × Sg) :=
  (isO 10 s0 a0).bind fun _ =>
  (loopM (mX10_wordsOf_L4 n a0 x1) n (s0, (0 : Int32), (0 : Int32))).bind fun (s7, v8) =>
  some (v8, s7)
theorem bX10_wordsOf {G : Cx} {E : Ev} {n : Nat} (hRm : 0 ≤ E.1.frames ∧ 0 ≤ E.1.locals) {P : Int32 × Sg → Prop} (hQ : ∀ r s, P (r, s) → E.2.2.2.2 (some (.int r)) s) {s0 : Sg} {a0 : Nat} {x1 : Int32} (h : Ok (mX10_wordsOf n s0 a0 x1) P) : BW G tX10_wordsOf E 0 0 0 [(0, .ref a0), (1, .int x1)] [] s0 := by
  unfold mX10_wordsOf at h
  obtain ⟨_, _, h⟩ := Ok.bind h
  refine BW.run [.iconst 0, .istore_n 2, .iconst 0, .istore_n 3] (pc' := 4) (lv' := [(0, .ref a0), (1, .int x1), (2, .int (0 : Int32)), (3, .int (0 : Int32))]) (st' := []) (by decide +kernel) rfl rfl ?_
  refine bX10_wordsOf_W4 hRm (a0 := a0) (x1 := x1) (fun s7 v8 h => ?_) n (s0, (0 : Int32), (0 : Int32)) (Ok.bindK h)
  refine BW.run [.iload_n 2] (pc' := 52) (lv' := [(2, .int v8)]) (st' := [.int v8]) (by decide +kernel) rfl rfl ?_
  exact BW.iret (by decide +kernel : decode tX10_wordsOf.2.1 52 = .ok (.ireturn, 1)) rfl (Nat.zero_le _) (Nat.zero_le _) (hQ _ _ (Ok.some h))
theorem oX10_wordsOf {n : Nat} {P : Int32 × Sg → Prop} {s0 : Sg} {a0 : Nat} {x1 : Int32} (h : Ok (mX10_wordsOf n s0 a0 x1) P) : ∃ n0, s0.2.1 a0 = some (10, n0) := by
  unfold mX10_wordsOf at h
  exact Ok.isO h
theorem DX10_wordsOf {G : Cx} {n : Nat} {P : Int32 × Sg → Prop} {s0 : Sg} {a0 : Nat} {x1 : Int32} (h : Ok (mX10_wordsOf n s0 a0 x1) P) : BM G tX10_wordsOf 0 0 0 0 [.ref a0, .int x1] s0 (fun v s => ∃ r, v = some (.int r) ∧ P (r, s)) := by
  refine BM.of (by decide +kernel) (Nat.le_of_ble_eq_true rfl) ?_
  exact bX10_wordsOf (E := (({ frames := 0, cells := 0, slots := 0, locals := 0 }), Aof s0, 0, 0, (fun v s => ∃ r, v = some (.int r) ∧ P (r, s)))) ⟨Nat.le_refl _, Nat.le_refl _⟩ (fun r s hp => ⟨r, rfl, hp⟩) h
def mX10_liars_92 (n : Nat) (s0 : Sg) (a0 : Nat) (x1 : Int32) (x2 : Int32) (x3 : Int32) : Option ((Sg × Int32 × Int32) ⊕ (Sg × Int32)) :=
  some (.inl (s0, x2, (x3 + (1 : Int32))))
theorem bX10_liars_92 {G : Cx} {E : Ev} {n : Nat} (hRm : 8 ≤ E.1.frames ∧ 178 ≤ E.1.locals) {s0 : Sg} {a0 : Nat} {x1 : Int32} {x2 : Int32} {x3 : Int32} {P : (Sg × Int32 × Int32) ⊕ (Sg × Int32) → Prop} (hC : ∀ (s : Sg) (c2 : Int32) (c3 : Int32), P (.inl (s, c2, c3)) → BW G tX10_liars E 0 0 22 [(0, .ref a0), (1, .int x1), (2, .int c2), (3, .int c3)] [] s) (hE : ∀ (s : Sg) (c2 : Int32), P (.inr (s, c2)) → BW G tX10_liars E 0 0 98 [(2, .int c2)] [] s)  (h : Ok (mX10_liars_92 n s0 a0 x1 x2 x3) P) : BW G tX10_liars E 0 0 92 [(0, .ref a0), (1, .int x1), (2, .int x2), (3, .int x3)] [] s0 := by
  unfold mX10_liars_92 at h
  refine BW.run [.iinc 3 1] (pc' := 95) (lv' := [(0, .ref a0), (1, .int x1), (2, .int x2), (3, .int (x3 + (1 : Int32)))]) (st' := []) (by decide +kernel) rfl rfl ?_
  refine BW.goto 22 (by decide +kernel : decode tX10_liars.2.1 95 = .ok (.goto (-73), 3)) (by decide) ?_
  exact hC _ _ _ (Ok.some h)
def mX10_liars_74 (n : Nat) (s0 : Sg) (a0 : Nat) (x1 : Int32) (x2 : Int32) (x3 : Int32) : Option ((Sg × Int32 × Int32) ⊕ (Sg × Int32)) :=
  (mX10_wordsOf n s0 a0 x3).bind fun (v15, s14) =>
  (mX10_canBe n s14 a0 (x1 &&& (v15 ^^^ (-1 : Int32)))).bind fun (v18, s17) =>
  if v18 = 0 then (
    mX10_liars_92 n s17 a0 x1 x2 x3
  ) else (
    mX10_liars_92 n s17 a0 x1 x3 x3
  )
theorem bX10_liars_74 {G : Cx} {E : Ev} {n : Nat} (hRm : 8 ≤ E.1.frames ∧ 178 ≤ E.1.locals) {s0 : Sg} {a0 : Nat} {x1 : Int32} {x2 : Int32} {x3 : Int32} {P : (Sg × Int32 × Int32) ⊕ (Sg × Int32) → Prop} (hC : ∀ (s : Sg) (c2 : Int32) (c3 : Int32), P (.inl (s, c2, c3)) → BW G tX10_liars E 0 0 22 [(0, .ref a0), (1, .int x1), (2, .int c2), (3, .int c3)] [] s) (hE : ∀ (s : Sg) (c2 : Int32), P (.inr (s, c2)) → BW G tX10_liars E 0 0 98 [(2, .int c2)] [] s)  (h : Ok (mX10_liars_74 n s0 a0 x1 x2 x3) P) : BW G tX10_liars E 0 0 74 [(0, .ref a0), (1, .int x1), (2, .int x2), (3, .int x3)] [] s0 := by
  unfold mX10_liars_74 at h
  refine BW.run [.aload_n 0, .iload_n 1, .aload_n 0, .iload_n 3] (pc' := 78) (lv' := [(0, .ref a0), (1, .int x1), (2, .int x2), (3, .int x3)]) (st' := [.int x3, .ref a0, .int x1, .ref a0]) (by decide +kernel) rfl rfl ?_
  refine BW.callV (As := [.int x3]) (st := [.int x1, .ref a0]) (by decide +kernel : decode tX10_liars.2.1 78 = .ok (.invokevirtual 232, 3)) (DX10_wordsOf (Ok.bindK h)) mfX10_wordsOf lkM_X10_232 imX10_wordsOf selX10_wordsOf ciX10 (oX10_wordsOf (Ok.bindK h)).choose_spec rfl rfl (Nat.le_of_ble_eq_true rfl) ⟨Nat.le_trans (by decide) hRm.1, Nat.le_trans (by decide) hRm.2⟩ ⟨Nat.zero_le _, Nat.zero_le _⟩ ?_
  rintro _ s14 ⟨v15, rfl, h⟩
  show BW G tX10_liars E 0 0 81 [(0, .ref a0), (1, .int x1), (2, .int x2), (3, .int x3)] [.int v15, .int x1, .ref a0] s14
  refine BW.run [.iconst (-1), .ixor, .iand] (pc' := 84) (lv' := [(0, .ref a0), (1, .int x1), (2, .int x2), (3, .int x3)]) (st' := [.int (x1 &&& (v15 ^^^ (-1 : Int32))), .ref a0]) (by decide +kernel) rfl rfl ?_
  refine BW.callV (As := [.int (x1 &&& (v15 ^^^ (-1 : Int32)))]) (st := []) (by decide +kernel : decode tX10_liars.2.1 84 = .ok (.invokevirtual 224, 3)) (DX10_canBe (Ok.bindK h)) mfX10_canBe lkM_X10_224 imX10_canBe selX10_canBe ciX10 (oX10_canBe (Ok.bindK h)).choose_spec rfl rfl (Nat.le_of_ble_eq_true rfl) ⟨Nat.le_trans (by decide) hRm.1, Nat.le_trans (by decide) hRm.2⟩ ⟨Nat.zero_le _, Nat.zero_le _⟩ ?_
  rintro _ s17 ⟨v18, rfl, h⟩
  show BW G tX10_liars E 0 0 87 [(0, .ref a0), (1, .int x1), (2, .int x2), (3, .int x3)] [.int v18] s17
  refine BW.if_eq 92 (by decide +kernel : decode tX10_liars.2.1 87 = .ok (.ifCond .eq 5, 3)) (by decide) (fun hc => ?_) (fun hc => ?_)
  · have h := (Ok.ite h).1 hc
    exact bX10_liars_92 hRm hC hE h
  · have h := (Ok.ite h).2 hc
    refine BW.run [.iload_n 3, .istore_n 2] (pc' := 92) (lv' := [(0, .ref a0), (1, .int x1), (2, .int x3), (3, .int x3)]) (st' := []) (by decide +kernel) rfl rfl ?_
    exact bX10_liars_92 hRm hC hE h
def mX10_liars_46 (n : Nat) (s0 : Sg) (t0 : Int32) (a0 : Nat) (x1 : Int32) (x2 : Int32) (x3 : Int32) : Option ((Sg × Int32 × Int32) ⊕ (Sg × Int32)) :=
  nm (x2 ^^^ x3) fun v13 =>
  if 0 < t0 then (
    mX10_liars_74 n s0 a0 x1 x2 x3
  ) else (
    if t0 = 0 then (
      if ((x3 &&& v13) &&& (-v13)) = 0 then (
        mX10_liars_92 n s0 a0 x1 x2 x3
      ) else (
        mX10_liars_74 n s0 a0 x1 x2 x3
      )
    ) else (
      mX10_liars_92 n s0 a0 x1 x2 x3
    )
  )
theorem bX10_liars_46 {G : Cx} {E : Ev} {n : Nat} (hRm : 8 ≤ E.1.frames ∧ 178 ≤ E.1.locals) {s0 : Sg} {t0 : Int32} {a0 : Nat} {x1 : Int32} {x2 : Int32} {x3 : Int32} {P : (Sg × Int32 × Int32) ⊕ (Sg × Int32) → Prop} (hC : ∀ (s : Sg) (c2 : Int32) (c3 : Int32), P (.inl (s, c2, c3)) → BW G tX10_liars E 0 0 22 [(0, .ref a0), (1, .int x1), (2, .int c2), (3, .int c3)] [] s) (hE : ∀ (s : Sg) (c2 : Int32), P (.inr (s, c2)) → BW G tX10_liars E 0 0 98 [(2, .int c2)] [] s)  (h : Ok (mX10_liars_46 n s0 t0 a0 x1 x2 x3) P) : BW G tX10_liars E 0 0 46 [(0, .ref a0), (1, .int x1), (2, .int x2), (3, .int x3)] [.int t0] s0 := by
  unfold mX10_liars_46 at h
  refine BW.run [.istore 4, .iload_n 2, .iload_n 3, .ixor] (pc' := 51) (lv' := [(0, .ref a0), (1, .int x1), (2, .int x2), (3, .int x3), (4, .int t0)]) (st' := [.int (x2 ^^^ x3)]) (by decide +kernel) rfl rfl ?_
  obtain ⟨v13, wv13, h⟩ := Ok.nm h
  refine BW.nm wv13 ?_
  refine BW.run [.istore 5, .iload 4] (pc' := 55) (lv' := [(0, .ref a0), (1, .int x1), (2, .int x2), (3, .int x3), (4, .int t0), (5, .int v13)]) (st' := [.int t0]) (by decide +kernel) rfl rfl ?_
  refine BW.if_gt 74 (by decide +kernel : decode tX10_liars.2.1 55 = .ok (.ifCond .gt 19, 3)) (by decide) (fun hc => ?_) (fun hc => ?_)
  · have h := (Ok.ite h).1 hc
    refine BW.sub [0, 1, 2, 3] rfl ?_
    exact bX10_liars_74 hRm hC hE h
  · have h := (Ok.ite h).2 hc
    refine BW.run [.iload 4] (pc' := 60) (lv' := [(0, .ref a0), (1, .int x1), (2, .int x2), (3, .int x3), (4, .int t0), (5, .int v13)]) (st' := [.int t0]) (by decide +kernel) rfl rfl ?_
    refine BW.if_ne 92 (by decide +kernel : decode tX10_liars.2.1 60 = .ok (.ifCond .ne 32, 3)) (by decide) (fun hc => ?_) (fun hc => ?_)
    · have h := (Ok.ite h).2 hc
      refine BW.sub [0, 1, 2, 3] rfl ?_
      exact bX10_liars_92 hRm hC hE h
    · have h := (Ok.ite h).1 hc
      refine BW.run [.iload_n 3, .iload 5, .iand, .iload 5, .ineg, .iand] (pc' := 71) (lv' := [(0, .ref a0), (1, .int x1), (2, .int x2), (3, .int x3), (4, .int t0), (5, .int v13)]) (st' := [.int ((x3 &&& v13) &&& (-v13))]) (by decide +kernel) rfl rfl ?_
      refine BW.if_eq 92 (by decide +kernel : decode tX10_liars.2.1 71 = .ok (.ifCond .eq 21, 3)) (by decide) (fun hc => ?_) (fun hc => ?_)
      · have h := (Ok.ite h).1 hc
        refine BW.sub [0, 1, 2, 3] rfl ?_
        exact bX10_liars_92 hRm hC hE h
      · have h := (Ok.ite h).2 hc
        refine BW.sub [0, 1, 2, 3] rfl ?_
        exact bX10_liars_74 hRm hC hE h
def mX10_liars_L22 (n : Nat) (a0 : Nat) (x1 : Int32) : (Sg × Int32 × Int32) → Option ((Sg × Int32 × Int32) ⊕ (Sg × Int32))
  | (s0, x2, x3) =>
    if (64 : Int32) ≤ x3 then (
      some (.inr (s0, x2))
    ) else (
      if x2 = (-1 : Int32) then (
        mX10_liars_46 n s0 (1 : Int32) a0 x1 x2 x3
      ) else (
        (mJ_bitCount n s0 x2).bind fun (v8, s7) =>
        (mJ_bitCount n s7 x3).bind fun (v11, s10) =>
        mX10_liars_46 n s10 (v8 - v11) a0 x1 x2 x3
      )
    )
theorem bX10_liars_L22 {G : Cx} {E : Ev} {n : Nat} (hRm : 8 ≤ E.1.frames ∧ 178 ≤ E.1.locals) {a0 : Nat} {x1 : Int32} {P : (Sg × Int32 × Int32) ⊕ (Sg × Int32) → Prop} (hC : ∀ (s : Sg) (c2 : Int32) (c3 : Int32), P (.inl (s, c2, c3)) → BW G tX10_liars E 0 0 22 [(0, .ref a0), (1, .int x1), (2, .int c2), (3, .int c3)] [] s) (hE : ∀ (s : Sg) (c2 : Int32), P (.inr (s, c2)) → BW G tX10_liars E 0 0 98 [(2, .int c2)] [] s) {s0 : Sg} {x2 : Int32} {x3 : Int32} (h : Ok (mX10_liars_L22 n a0 x1 (s0, x2, x3)) P) : BW G tX10_liars E 0 0 22 [(0, .ref a0), (1, .int x1), (2, .int x2), (3, .int x3)] [] s0 := by
  unfold mX10_liars_L22 at h
  refine BW.run [.iload_n 3, .bipush 64] (pc' := 25) (lv' := [(0, .ref a0), (1, .int x1), (2, .int x2), (3, .int x3)]) (st' := [.int (64 : Int32), .int x3]) (by decide +kernel) rfl rfl ?_
  refine BW.icmp_ge 98 (by decide +kernel : decode tX10_liars.2.1 25 = .ok (.if_icmp .ge 73, 3)) (by decide) (fun hc => ?_) (fun hc => ?_)
  · have h := (Ok.ite h).1 hc
    refine BW.sub [2] rfl ?_
    exact hE _ _ (Ok.some h)
  · have h := (Ok.ite h).2 hc
    refine BW.run [.iload_n 2, .iconst (-1)] (pc' := 30) (lv' := [(0, .ref a0), (1, .int x1), (2, .int x2), (3, .int x3)]) (st' := [.int (-1 : Int32), .int x2]) (by decide +kernel) rfl rfl ?_
    refine BW.icmp_ne 37 (by decide +kernel : decode tX10_liars.2.1 30 = .ok (.if_icmp .ne 7, 3)) (by decide) (fun hc => ?_) (fun hc => ?_)
    · have h := (Ok.ite h).2 hc
      refine BW.run [.iload_n 2] (pc' := 38) (lv' := [(0, .ref a0), (1, .int x1), (2, .int x2), (3, .int x3)]) (st' := [.int x2]) (by decide +kernel) rfl rfl ?_
      refine BW.callS (As := [.int x2]) (st := []) (by decide +kernel : decode tX10_liars.2.1 38 = .ok (.invokestatic 227, 3)) (DJ_bitCount (Ok.bindK h)) mfJ_bitCount lkM_X10_227 smJ_bitCount rfl rfl (Nat.le_of_ble_eq_true rfl) ⟨Nat.le_trans (by decide) hRm.1, Nat.le_trans (by decide) hRm.2⟩ ⟨Nat.zero_le _, Nat.zero_le _⟩ ?_
      rintro _ s7 ⟨v8, rfl, h⟩
      show BW G tX10_liars E 0 0 41 [(0, .ref a0), (1, .int x1), (2, .int x2), (3, .int x3)] [.int v8] s7
      refine BW.run [.iload_n 3] (pc' := 42) (lv' := [(0, .ref a0), (1, .int x1), (2, .int x2), (3, .int x3)]) (st' := [.int x3, .int v8]) (by decide +kernel) rfl rfl ?_
      refine BW.callS (As := [.int x3]) (st := [.int v8]) (by decide +kernel : decode tX10_liars.2.1 42 = .ok (.invokestatic 227, 3)) (DJ_bitCount (Ok.bindK h)) mfJ_bitCount lkM_X10_227 smJ_bitCount rfl rfl (Nat.le_of_ble_eq_true rfl) ⟨Nat.le_trans (by decide) hRm.1, Nat.le_trans (by decide) hRm.2⟩ ⟨Nat.zero_le _, Nat.zero_le _⟩ ?_
      rintro _ s10 ⟨v11, rfl, h⟩
      show BW G tX10_liars E 0 0 45 [(0, .ref a0), (1, .int x1), (2, .int x2), (3, .int x3)] [.int v11, .int v8] s10
      refine BW.run [.isub] (pc' := 46) (lv' := [(0, .ref a0), (1, .int x1), (2, .int x2), (3, .int x3)]) (st' := [.int (v8 - v11)]) (by decide +kernel) rfl rfl ?_
      exact bX10_liars_46 hRm hC hE h
    · have h := (Ok.ite h).1 hc
      refine BW.run [.iconst 1] (pc' := 34) (lv' := [(0, .ref a0), (1, .int x1), (2, .int x2), (3, .int x3)]) (st' := [.int (1 : Int32)]) (by decide +kernel) rfl rfl ?_
      refine BW.goto 46 (by decide +kernel : decode tX10_liars.2.1 34 = .ok (.goto 12, 3)) (by decide) ?_
      exact bX10_liars_46 hRm hC hE h
theorem bX10_liars_W22 {G : Cx} {E : Ev} {n : Nat} (hRm : 8 ≤ E.1.frames ∧ 178 ≤ E.1.locals) {a0 : Nat} {x1 : Int32} {K : (Sg × Int32) → Prop} (hE : ∀ (s : Sg) (c2 : Int32), K (s, c2) → BW G tX10_liars E 0 0 98 [(2, .int c2)] [] s) : ∀ (f : Nat) (c : Sg × Int32 × Int32), Ok (loopM (mX10_liars_L22 n a0 x1) f c) K → match c with | (s0, x2, x3) => BW G tX10_liars E 0 0 22 [(0, .ref a0), (1, .int x1), (2, .int x2), (3, .int x3)] [] s0 := by
  intro f
  induction f with
  | zero => intro c h; exact (Ok.no h).elim
  | succ f ih =>
    intro c h
    obtain ⟨s0, x2, x3⟩ := c
    exact bX10_liars_L22 (P := loopP (mX10_liars_L22 n a0 x1) f K) hRm (fun s c2 c3 h => ih (s, c2, c3) h) hE (loopM_ok h)
def mX10_liars (n : Nat) (s0 : Sg) (a0 : Nat) (x1 : Int32) : Option (Int32 × Sg) :=
  (isO 10 s0 a0).bind fun _ =>
  (mX10_isSet n s0 a0 x1).bind fun (v2, s1) =>
  if v2 = 0 then (
    some ((-1 : Int32), s1)
  ) else (
    (mX10_canBe n s1 a0 x1).bind fun (v5, s4) =>
    if v5 = 0 then (
      (loopM (mX10_liars_L22 n a0 x1) n (s4, (-1 : Int32), (1 : Int32))).bind fun (s20, v21) =>
      some (v21, s20)
    ) else (
      some ((-1 : Int32), s4)
    )
  )
theorem bX10_liars {G : Cx} {E : Ev} {n : Nat} (hRm : 8 ≤ E.1.frames ∧ 178 ≤ E.1.locals) {P : Int32 × Sg → Prop} (hQ : ∀ r s, P (r, s) → E.2.2.2.2 (some (.int r)) s) {s0 : Sg} {a0 : Nat} {x1 : Int32} (h : Ok (mX10_liars n s0 a0 x1) P) : BW G tX10_liars E 0 0 0 [(0, .ref a0), (1, .int x1)] [] s0 := by
  unfold mX10_liars at h
  obtain ⟨_, _, h⟩ := Ok.bind h
  refine BW.run [.aload_n 0, .iload_n 1] (pc' := 2) (lv' := [(0, .ref a0), (1, .int x1)]) (st' := [.int x1, .ref a0]) (by decide +kernel) rfl rfl ?_
  refine BW.callV (As := [.int x1]) (st := []) (by decide +kernel : decode tX10_liars.2.1 2 = .ok (.invokevirtual 221, 3)) (DX10_isSet (Ok.bindK h)) mfX10_isSet lkM_X10_221 imX10_isSet selX10_isSet ciX10 (oX10_isSet (Ok.bindK h)).choose_spec rfl rfl (Nat.le_of_ble_eq_true rfl) ⟨Nat.le_trans (by decide) hRm.1, Nat.le_trans (by decide) hRm.2⟩ ⟨Nat.zero_le _, Nat.zero_le _⟩ ?_
  rintro _ s1 ⟨v2, rfl, h⟩
  show BW G tX10_liars E 0 0 5 [(0, .ref a0), (1, .int x1)] [.int v2] s1
  refine BW.if_eq 16 (by decide +kernel : decode tX10_liars.2.1 5 = .ok (.ifCond .eq 11, 3)) (by decide) (fun hc => ?_) (fun hc => ?_)
  · have h := (Ok.ite h).1 hc
    refine BW.run [.iconst (-1)] (pc' := 17) (lv' := [(0, .ref a0), (1, .int x1)]) (st' := [.int (-1 : Int32)]) (by decide +kernel) rfl rfl ?_
    exact BW.iret (by decide +kernel : decode tX10_liars.2.1 17 = .ok (.ireturn, 1)) rfl (Nat.zero_le _) (Nat.zero_le _) (hQ _ _ (Ok.some h))
  · have h := (Ok.ite h).2 hc
    refine BW.run [.aload_n 0, .iload_n 1] (pc' := 10) (lv' := [(0, .ref a0), (1, .int x1)]) (st' := [.int x1, .ref a0]) (by decide +kernel) rfl rfl ?_
    refine BW.callV (As := [.int x1]) (st := []) (by decide +kernel : decode tX10_liars.2.1 10 = .ok (.invokevirtual 224, 3)) (DX10_canBe (Ok.bindK h)) mfX10_canBe lkM_X10_224 imX10_canBe selX10_canBe ciX10 (oX10_canBe (Ok.bindK h)).choose_spec rfl rfl (Nat.le_of_ble_eq_true rfl) ⟨Nat.le_trans (by decide) hRm.1, Nat.le_trans (by decide) hRm.2⟩ ⟨Nat.zero_le _, Nat.zero_le _⟩ ?_
    rintro _ s4 ⟨v5, rfl, h⟩
    show BW G tX10_liars E 0 0 13 [(0, .ref a0), (1, .int x1)] [.int v5] s4
    refine BW.if_eq 18 (by decide +kernel : decode tX10_liars.2.1 13 = .ok (.ifCond .eq 5, 3)) (by decide) (fun hc => ?_) (fun hc => ?_)
    · have h := (Ok.ite h).1 hc
      refine BW.run [.iconst (-1), .istore_n 2, .iconst 1, .istore_n 3] (pc' := 22) (lv' := [(0, .ref a0), (1, .int x1), (2, .int (-1 : Int32)), (3, .int (1 : Int32))]) (st' := []) (by decide +kernel) rfl rfl ?_
      refine bX10_liars_W22 hRm (a0 := a0) (x1 := x1) (fun s20 v21 h => ?_) n (s4, (-1 : Int32), (1 : Int32)) (Ok.bindK h)
      refine BW.run [.iload_n 2] (pc' := 99) (lv' := [(2, .int v21)]) (st' := [.int v21]) (by decide +kernel) rfl rfl ?_
      exact BW.iret (by decide +kernel : decode tX10_liars.2.1 99 = .ok (.ireturn, 1)) rfl (Nat.zero_le _) (Nat.zero_le _) (hQ _ _ (Ok.some h))
    · have h := (Ok.ite h).2 hc
      refine BW.run [.iconst (-1)] (pc' := 17) (lv' := [(0, .ref a0), (1, .int x1)]) (st' := [.int (-1 : Int32)]) (by decide +kernel) rfl rfl ?_
      exact BW.iret (by decide +kernel : decode tX10_liars.2.1 17 = .ok (.ireturn, 1)) rfl (Nat.zero_le _) (Nat.zero_le _) (hQ _ _ (Ok.some h))
theorem oX10_liars {n : Nat} {P : Int32 × Sg → Prop} {s0 : Sg} {a0 : Nat} {x1 : Int32} (h : Ok (mX10_liars n s0 a0 x1) P) : ∃ n0, s0.2.1 a0 = some (10, n0) := by
  unfold mX10_liars at h
  exact Ok.isO h
theorem DX10_liars {G : Cx} {n : Nat} {P : Int32 × Sg → Prop} {s0 : Sg} {a0 : Nat} {x1 : Int32} (h : Ok (mX10_liars n s0 a0 x1) P) : BM G tX10_liars 8 178 0 0 [.ref a0, .int x1] s0 (fun v s => ∃ r, v = some (.int r) ∧ P (r, s)) := by
  refine BM.of (by decide +kernel) (Nat.le_of_ble_eq_true rfl) ?_
  exact bX10_liars (E := (({ frames := 8, cells := 0, slots := 0, locals := 178 }), Aof s0, 0, 0, (fun v s => ∃ r, v = some (.int r) ∧ P (r, s)))) ⟨Nat.le_refl _, Nat.le_refl _⟩ (fun r s hp => ⟨r, rfl, hp⟩) h
def mX10_look_ (n : Nat) (s0 : Sg) (a0 : Nat) (x1 : Int32) (x2 : Int32) : Option (Int32 × Sg) :=
  (isO 10 s0 a0).bind fun _ =>
  (mX10_isSet n s0 a0 x1).bind fun (v2, s1) =>
  if v2 = 0 then (
    some ((-1 : Int32), s1)
  ) else (
    (mX10_in n s1 x2 (0 : Int32) (3 : Int32)).bind fun (v5, s4) =>
    if v5 = 0 then (
      some ((-1 : Int32), s4)
    ) else (
      (mX10_canBe n s4 a0 x1).bind fun (v8, s7) =>
      if v8 = 0 then (
        some ((-1 : Int32), s7)
      ) else (
        (mX10_findLook n s7 a0 x1).bind fun s10 =>
        (toI (gV 10 s10 a0 29)).bind fun v11 =>
        if v11 = (-1 : Int32) then (
          some ((-1 : Int32), s10)
        ) else (
          if x2 = 0 then (
            (toI (gV 10 s10 a0 29)).bind fun v15 =>
            some (v15, s10)
          ) else (
            if x2 = (1 : Int32) then (
              (toI (gV 10 s10 a0 30)).bind fun v14 =>
              some (v14, s10)
            ) else (
              if x2 = (2 : Int32) then (
                (toI (gV 10 s10 a0 31)).bind fun v13 =>
                some (v13, s10)
              ) else (
                (toI (gV 10 s10 a0 32)).bind fun v12 =>
                some (v12, s10)
              )
            )
          )
        )
      )
    )
  )
theorem bX10_look_ {G : Cx} {E : Ev} {n : Nat} (hRm : 10 ≤ E.1.frames ∧ 230 ≤ E.1.locals) {P : Int32 × Sg → Prop} (hQ : ∀ r s, P (r, s) → E.2.2.2.2 (some (.int r)) s) {s0 : Sg} {a0 : Nat} {x1 : Int32} {x2 : Int32} (h : Ok (mX10_look_ n s0 a0 x1 x2) P) : BW G tX10_look_ E 0 0 0 [(0, .ref a0), (1, .int x1), (2, .int x2)] [] s0 := by
  unfold mX10_look_ at h
  obtain ⟨_, _, h⟩ := Ok.bind h
  refine BW.run [.aload_n 0, .iload_n 1] (pc' := 2) (lv' := [(0, .ref a0), (1, .int x1), (2, .int x2)]) (st' := [.int x1, .ref a0]) (by decide +kernel) rfl rfl ?_
  refine BW.callV (As := [.int x1]) (st := []) (by decide +kernel : decode tX10_look_.2.1 2 = .ok (.invokevirtual 221, 3)) (DX10_isSet (Ok.bindK h)) mfX10_isSet lkM_X10_221 imX10_isSet selX10_isSet ciX10 (oX10_isSet (Ok.bindK h)).choose_spec rfl rfl (Nat.le_of_ble_eq_true rfl) ⟨Nat.le_trans (by decide) hRm.1, Nat.le_trans (by decide) hRm.2⟩ ⟨Nat.zero_le _, Nat.zero_le _⟩ ?_
  rintro _ s1 ⟨v2, rfl, h⟩
  show BW G tX10_look_ E 0 0 5 [(0, .ref a0), (1, .int x1), (2, .int x2)] [.int v2] s1
  refine BW.if_eq 25 (by decide +kernel : decode tX10_look_.2.1 5 = .ok (.ifCond .eq 20, 3)) (by decide) (fun hc => ?_) (fun hc => ?_)
  · have h := (Ok.ite h).1 hc
    refine BW.run [.iconst (-1)] (pc' := 26) (lv' := [(0, .ref a0), (1, .int x1), (2, .int x2)]) (st' := [.int (-1 : Int32)]) (by decide +kernel) rfl rfl ?_
    exact BW.iret (by decide +kernel : decode tX10_look_.2.1 26 = .ok (.ireturn, 1)) rfl (Nat.zero_le _) (Nat.zero_le _) (hQ _ _ (Ok.some h))
  · have h := (Ok.ite h).2 hc
    refine BW.run [.iload_n 2, .iconst 0, .iconst 3] (pc' := 11) (lv' := [(0, .ref a0), (1, .int x1), (2, .int x2)]) (st' := [.int (3 : Int32), .int (0 : Int32), .int x2]) (by decide +kernel) rfl rfl ?_
    refine BW.callS (As := [.int x2, .int (0 : Int32), .int (3 : Int32)]) (st := []) (by decide +kernel : decode tX10_look_.2.1 11 = .ok (.invokestatic 147, 3)) (DX10_in (Ok.bindK h)) mfX10_in lkM_X10_147 smX10_in rfl rfl (Nat.le_of_ble_eq_true rfl) ⟨Nat.le_trans (by decide) hRm.1, Nat.le_trans (by decide) hRm.2⟩ ⟨Nat.zero_le _, Nat.zero_le _⟩ ?_
    rintro _ s4 ⟨v5, rfl, h⟩
    show BW G tX10_look_ E 0 0 14 [(0, .ref a0), (1, .int x1), (2, .int x2)] [.int v5] s4
    refine BW.if_eq 25 (by decide +kernel : decode tX10_look_.2.1 14 = .ok (.ifCond .eq 11, 3)) (by decide) (fun hc => ?_) (fun hc => ?_)
    · have h := (Ok.ite h).1 hc
      refine BW.run [.iconst (-1)] (pc' := 26) (lv' := [(0, .ref a0), (1, .int x1), (2, .int x2)]) (st' := [.int (-1 : Int32)]) (by decide +kernel) rfl rfl ?_
      exact BW.iret (by decide +kernel : decode tX10_look_.2.1 26 = .ok (.ireturn, 1)) rfl (Nat.zero_le _) (Nat.zero_le _) (hQ _ _ (Ok.some h))
    · have h := (Ok.ite h).2 hc
      refine BW.run [.aload_n 0, .iload_n 1] (pc' := 19) (lv' := [(0, .ref a0), (1, .int x1), (2, .int x2)]) (st' := [.int x1, .ref a0]) (by decide +kernel) rfl rfl ?_
      refine BW.callV (As := [.int x1]) (st := []) (by decide +kernel : decode tX10_look_.2.1 19 = .ok (.invokevirtual 224, 3)) (DX10_canBe (Ok.bindK h)) mfX10_canBe lkM_X10_224 imX10_canBe selX10_canBe ciX10 (oX10_canBe (Ok.bindK h)).choose_spec rfl rfl (Nat.le_of_ble_eq_true rfl) ⟨Nat.le_trans (by decide) hRm.1, Nat.le_trans (by decide) hRm.2⟩ ⟨Nat.zero_le _, Nat.zero_le _⟩ ?_
      rintro _ s7 ⟨v8, rfl, h⟩
      show BW G tX10_look_ E 0 0 22 [(0, .ref a0), (1, .int x1), (2, .int x2)] [.int v8] s7
      refine BW.if_ne 27 (by decide +kernel : decode tX10_look_.2.1 22 = .ok (.ifCond .ne 5, 3)) (by decide) (fun hc => ?_) (fun hc => ?_)
      · have h := (Ok.ite h).2 hc
        refine BW.run [.aload_n 0, .iload_n 1] (pc' := 29) (lv' := [(0, .ref a0), (1, .int x1), (2, .int x2)]) (st' := [.int x1, .ref a0]) (by decide +kernel) rfl rfl ?_
        refine BW.callV (As := [.int x1]) (st := []) (by decide +kernel : decode tX10_look_.2.1 29 = .ok (.invokevirtual 280, 3)) (DX10_findLook (Ok.bindK h)) mfX10_findLook lkM_X10_280 imX10_findLook selX10_findLook ciX10 (oX10_findLook (Ok.bindK h)).choose_spec rfl rfl (Nat.le_of_ble_eq_true rfl) ⟨Nat.le_trans (by decide) hRm.1, Nat.le_trans (by decide) hRm.2⟩ ⟨Nat.zero_le _, Nat.zero_le _⟩ ?_
        rintro _ s10 ⟨rfl, h⟩
        show BW G tX10_look_ E 0 0 32 [(0, .ref a0), (1, .int x1), (2, .int x2)] [] s10
        refine BW.run [.aload_n 0] (pc' := 33) (lv' := [(0, .ref a0), (1, .int x1), (2, .int x2)]) (st' := [.ref a0]) (by decide +kernel) rfl rfl ?_
        obtain ⟨v11, ev11, h⟩ := Ok.bind h
        refine BW.get (by decide +kernel : decode tX10_look_.2.1 33 = .ok (.getfield 260, 3)) ciX10 (k := 29) (by decide) lkF_X10_260 (toI_V ev11) ?_
        refine BW.run [.iconst (-1)] (pc' := 37) (lv' := [(0, .ref a0), (1, .int x1), (2, .int x2)]) (st' := [.int (-1 : Int32), .int v11]) (by decide +kernel) rfl rfl ?_
        refine BW.icmp_ne 44 (by decide +kernel : decode tX10_look_.2.1 37 = .ok (.if_icmp .ne 7, 3)) (by decide) (fun hc => ?_) (fun hc => ?_)
        · have h := (Ok.ite h).2 hc
          refine BW.run [.iload_n 2] (pc' := 45) (lv' := [(0, .ref a0), (1, .int x1), (2, .int x2)]) (st' := [.int x2]) (by decide +kernel) rfl rfl ?_
          refine BW.if_ne 55 (by decide +kernel : decode tX10_look_.2.1 45 = .ok (.ifCond .ne 10, 3)) (by decide) (fun hc => ?_) (fun hc => ?_)
          · have h := (Ok.ite h).2 hc
            refine BW.run [.iload_n 2, .iconst 1] (pc' := 57) (lv' := [(0, .ref a0), (1, .int x1), (2, .int x2)]) (st' := [.int (1 : Int32), .int x2]) (by decide +kernel) rfl rfl ?_
            refine BW.icmp_ne 67 (by decide +kernel : decode tX10_look_.2.1 57 = .ok (.if_icmp .ne 10, 3)) (by decide) (fun hc => ?_) (fun hc => ?_)
            · have h := (Ok.ite h).2 hc
              refine BW.run [.iload_n 2, .iconst 2] (pc' := 69) (lv' := [(0, .ref a0), (1, .int x1), (2, .int x2)]) (st' := [.int (2 : Int32), .int x2]) (by decide +kernel) rfl rfl ?_
              refine BW.icmp_ne 79 (by decide +kernel : decode tX10_look_.2.1 69 = .ok (.if_icmp .ne 10, 3)) (by decide) (fun hc => ?_) (fun hc => ?_)
              · have h := (Ok.ite h).2 hc
                refine BW.run [.aload_n 0] (pc' := 80) (lv' := [(0, .ref a0), (1, .int x1), (2, .int x2)]) (st' := [.ref a0]) (by decide +kernel) rfl rfl ?_
                obtain ⟨v12, ev12, h⟩ := Ok.bind h
                refine BW.get (by decide +kernel : decode tX10_look_.2.1 80 = .ok (.getfield 271, 3)) ciX10 (k := 32) (by decide) lkF_X10_271 (toI_V ev12) ?_
                exact BW.iret (by decide +kernel : decode tX10_look_.2.1 83 = .ok (.ireturn, 1)) rfl (Nat.zero_le _) (Nat.zero_le _) (hQ _ _ (Ok.some h))
              · have h := (Ok.ite h).1 hc
                refine BW.run [.aload_n 0] (pc' := 73) (lv' := [(0, .ref a0), (1, .int x1), (2, .int x2)]) (st' := [.ref a0]) (by decide +kernel) rfl rfl ?_
                obtain ⟨v13, ev13, h⟩ := Ok.bind h
                refine BW.get (by decide +kernel : decode tX10_look_.2.1 73 = .ok (.getfield 277, 3)) ciX10 (k := 31) (by decide) lkF_X10_277 (toI_V ev13) ?_
                refine BW.goto 83 (by decide +kernel : decode tX10_look_.2.1 76 = .ok (.goto 7, 3)) (by decide) ?_
                exact BW.iret (by decide +kernel : decode tX10_look_.2.1 83 = .ok (.ireturn, 1)) rfl (Nat.zero_le _) (Nat.zero_le _) (hQ _ _ (Ok.some h))
            · have h := (Ok.ite h).1 hc
              refine BW.run [.aload_n 0] (pc' := 61) (lv' := [(0, .ref a0), (1, .int x1), (2, .int x2)]) (st' := [.ref a0]) (by decide +kernel) rfl rfl ?_
              obtain ⟨v14, ev14, h⟩ := Ok.bind h
              refine BW.get (by decide +kernel : decode tX10_look_.2.1 61 = .ok (.getfield 274, 3)) ciX10 (k := 30) (by decide) lkF_X10_274 (toI_V ev14) ?_
              refine BW.goto 83 (by decide +kernel : decode tX10_look_.2.1 64 = .ok (.goto 19, 3)) (by decide) ?_
              exact BW.iret (by decide +kernel : decode tX10_look_.2.1 83 = .ok (.ireturn, 1)) rfl (Nat.zero_le _) (Nat.zero_le _) (hQ _ _ (Ok.some h))
          · have h := (Ok.ite h).1 hc
            refine BW.run [.aload_n 0] (pc' := 49) (lv' := [(0, .ref a0), (1, .int x1), (2, .int x2)]) (st' := [.ref a0]) (by decide +kernel) rfl rfl ?_
            obtain ⟨v15, ev15, h⟩ := Ok.bind h
            refine BW.get (by decide +kernel : decode tX10_look_.2.1 49 = .ok (.getfield 260, 3)) ciX10 (k := 29) (by decide) lkF_X10_260 (toI_V ev15) ?_
            refine BW.goto 83 (by decide +kernel : decode tX10_look_.2.1 52 = .ok (.goto 31, 3)) (by decide) ?_
            exact BW.iret (by decide +kernel : decode tX10_look_.2.1 83 = .ok (.ireturn, 1)) rfl (Nat.zero_le _) (Nat.zero_le _) (hQ _ _ (Ok.some h))
        · have h := (Ok.ite h).1 hc
          refine BW.run [.iconst (-1)] (pc' := 41) (lv' := [(0, .ref a0), (1, .int x1), (2, .int x2)]) (st' := [.int (-1 : Int32)]) (by decide +kernel) rfl rfl ?_
          refine BW.goto 83 (by decide +kernel : decode tX10_look_.2.1 41 = .ok (.goto 42, 3)) (by decide) ?_
          exact BW.iret (by decide +kernel : decode tX10_look_.2.1 83 = .ok (.ireturn, 1)) rfl (Nat.zero_le _) (Nat.zero_le _) (hQ _ _ (Ok.some h))
      · have h := (Ok.ite h).1 hc
        refine BW.run [.iconst (-1)] (pc' := 26) (lv' := [(0, .ref a0), (1, .int x1), (2, .int x2)]) (st' := [.int (-1 : Int32)]) (by decide +kernel) rfl rfl ?_
        exact BW.iret (by decide +kernel : decode tX10_look_.2.1 26 = .ok (.ireturn, 1)) rfl (Nat.zero_le _) (Nat.zero_le _) (hQ _ _ (Ok.some h))
theorem oX10_look_ {n : Nat} {P : Int32 × Sg → Prop} {s0 : Sg} {a0 : Nat} {x1 : Int32} {x2 : Int32} (h : Ok (mX10_look_ n s0 a0 x1 x2) P) : ∃ n0, s0.2.1 a0 = some (10, n0) := by
  unfold mX10_look_ at h
  exact Ok.isO h
theorem DX10_look_ {G : Cx} {n : Nat} {P : Int32 × Sg → Prop} {s0 : Sg} {a0 : Nat} {x1 : Int32} {x2 : Int32} (h : Ok (mX10_look_ n s0 a0 x1 x2) P) : BM G tX10_look_ 10 230 0 0 [.ref a0, .int x1, .int x2] s0 (fun v s => ∃ r, v = some (.int r) ∧ P (r, s)) := by
  refine BM.of (by decide +kernel) (Nat.le_of_ble_eq_true rfl) ?_
  exact bX10_look_ (E := (({ frames := 10, cells := 0, slots := 0, locals := 230 }), Aof s0, 0, 0, (fun v s => ∃ r, v = some (.int r) ∧ P (r, s)))) ⟨Nat.le_refl _, Nat.le_refl _⟩ (fun r s hp => ⟨r, rfl, hp⟩) h
def mX10_meets_123 (n : Nat) (s0 : Sg) (t0 : Int32) (t1 : Int32) (a0 : Nat) (x2 : Int32) (x3 : Int32) (x5 : Int32) (x6 : Int32) : Option ((Sg × Int32 × Int32) ⊕ (Sg × Int32)) :=
  nm (t1 + t0) fun v25 =>
  some (.inl (s0, v25, (x6 + (1 : Int32))))
theorem bX10_meets_123 {G : Cx} {E : Ev} {n : Nat} (hRm : 8 ≤ E.1.frames ∧ 178 ≤ E.1.locals) {s0 : Sg} {t0 : Int32} {t1 : Int32} {a0 : Nat} {x2 : Int32} {x3 : Int32} {x5 : Int32} {x6 : Int32} {P : (Sg × Int32 × Int32) ⊕ (Sg × Int32) → Prop} (hC : ∀ (s : Sg) (c4 : Int32) (c6 : Int32), P (.inl (s, c4, c6)) → BW G tX10_meets E 0 0 47 [(0, .ref a0), (2, .int x2), (3, .int x3), (4, .int c4), (5, .int x5), (6, .int c6)] [] s) (hE : ∀ (s : Sg) (c4 : Int32), P (.inr (s, c4)) → BW G tX10_meets E 0 0 132 [(0, .ref a0), (2, .int x2), (3, .int x3), (4, .int c4), (5, .int x5)] [] s)  (h : Ok (mX10_meets_123 n s0 t0 t1 a0 x2 x3 x5 x6) P) : BW G tX10_meets E 0 0 123 [(0, .ref a0), (2, .int x2), (3, .int x3), (5, .int x5), (6, .int x6)] [.int t0, .int t1] s0 := by
  unfold mX10_meets_123 at h
  refine BW.run [.iadd] (pc' := 124) (lv' := [(0, .ref a0), (2, .int x2), (3, .int x3), (5, .int x5), (6, .int x6)]) (st' := [.int (t1 + t0)]) (by decide +kernel) rfl rfl ?_
  obtain ⟨v25, wv25, h⟩ := Ok.nm h
  refine BW.nm wv25 ?_
  refine BW.run [.istore 4, .iinc 6 1] (pc' := 129) (lv' := [(0, .ref a0), (2, .int x2), (3, .int x3), (4, .int v25), (5, .int x5), (6, .int (x6 + (1 : Int32)))]) (st' := []) (by decide +kernel) rfl rfl ?_
  refine BW.goto 47 (by decide +kernel : decode tX10_meets.2.1 129 = .ok (.goto (-82), 3)) (by decide) ?_
  exact hC _ _ _ (Ok.some h)
def mX10_meets_122 (n : Nat) (s0 : Sg) (t0 : Int32) (a0 : Nat) (x2 : Int32) (x3 : Int32) (x5 : Int32) (x6 : Int32) : Option ((Sg × Int32 × Int32) ⊕ (Sg × Int32)) :=
  mX10_meets_123 n s0 (0 : Int32) t0 a0 x2 x3 x5 x6
theorem bX10_meets_122 {G : Cx} {E : Ev} {n : Nat} (hRm : 8 ≤ E.1.frames ∧ 178 ≤ E.1.locals) {s0 : Sg} {t0 : Int32} {a0 : Nat} {x2 : Int32} {x3 : Int32} {x5 : Int32} {x6 : Int32} {P : (Sg × Int32 × Int32) ⊕ (Sg × Int32) → Prop} (hC : ∀ (s : Sg) (c4 : Int32) (c6 : Int32), P (.inl (s, c4, c6)) → BW G tX10_meets E 0 0 47 [(0, .ref a0), (2, .int x2), (3, .int x3), (4, .int c4), (5, .int x5), (6, .int c6)] [] s) (hE : ∀ (s : Sg) (c4 : Int32), P (.inr (s, c4)) → BW G tX10_meets E 0 0 132 [(0, .ref a0), (2, .int x2), (3, .int x3), (4, .int c4), (5, .int x5)] [] s)  (h : Ok (mX10_meets_122 n s0 t0 a0 x2 x3 x5 x6) P) : BW G tX10_meets E 0 0 122 [(0, .ref a0), (2, .int x2), (3, .int x3), (5, .int x5), (6, .int x6)] [.int t0] s0 := by
  unfold mX10_meets_122 at h
  refine BW.run [.iconst 0] (pc' := 123) (lv' := [(0, .ref a0), (2, .int x2), (3, .int x3), (5, .int x5), (6, .int x6)]) (st' := [.int (0 : Int32), .int t0]) (by decide +kernel) rfl rfl ?_
  exact bX10_meets_123 hRm hC hE h
def mX10_meets_L47 (n : Nat) (a0 : Nat) (x2 : Int32) (x3 : Int32) (x5 : Int32) : (Sg × Int32 × Int32) → Option ((Sg × Int32 × Int32) ⊕ (Sg × Int32))
  | (s0, x4, x6) =>
    (toR (gV 10 s0 a0 16)).bind fun b12 =>
    (toI (aV 11 s0 b12 x3)).bind fun v13 =>
    if v13 < x6 then (
      some (.inr (s0, x4))
    ) else (
      (toR (gV 10 s0 a0 17)).bind fun b14 =>
      (toI (aV 11 s0 b14 x2)).bind fun v15 =>
      (toR (gV 10 s0 a0 17)).bind fun b16 =>
      (toI (aV 11 s0 b16 x3)).bind fun v17 =>
      nm ((v15 * x5) - (v17 * x6)) fun v18 =>
      (mX10_cellAt n s0 a0 x2 x5).bind fun (v20, s19) =>
      (mX10_cellAt n s19 a0 x3 x6).bind fun (v23, s22) =>
      if v20 = v23 then (
        (mX10_gapLow n s22 a0 x2 x3).bind fun (v27, s26) =>
        (mX10_gapHigh n s26 a0 x2 x3).bind fun (v30, s29) =>
        (mX10_in n s29 v18 v27 v30).bind fun (v33, s32) =>
        if v33 = 0 then (
          mX10_meets_122 n s32 x4 a0 x2 x3 x5 x6
        ) else (
          mX10_meets_123 n s32 (1 : Int32) x4 a0 x2 x3 x5 x6
        )
      ) else (
        mX10_meets_122 n s22 x4 a0 x2 x3 x5 x6
      )
    )
theorem bX10_meets_L47 {G : Cx} {E : Ev} {n : Nat} (hRm : 8 ≤ E.1.frames ∧ 178 ≤ E.1.locals) {a0 : Nat} {x2 : Int32} {x3 : Int32} {x5 : Int32} {P : (Sg × Int32 × Int32) ⊕ (Sg × Int32) → Prop} (hC : ∀ (s : Sg) (c4 : Int32) (c6 : Int32), P (.inl (s, c4, c6)) → BW G tX10_meets E 0 0 47 [(0, .ref a0), (2, .int x2), (3, .int x3), (4, .int c4), (5, .int x5), (6, .int c6)] [] s) (hE : ∀ (s : Sg) (c4 : Int32), P (.inr (s, c4)) → BW G tX10_meets E 0 0 132 [(0, .ref a0), (2, .int x2), (3, .int x3), (4, .int c4), (5, .int x5)] [] s) {s0 : Sg} {x4 : Int32} {x6 : Int32} (h : Ok (mX10_meets_L47 n a0 x2 x3 x5 (s0, x4, x6)) P) : BW G tX10_meets E 0 0 47 [(0, .ref a0), (2, .int x2), (3, .int x3), (4, .int x4), (5, .int x5), (6, .int x6)] [] s0 := by
  unfold mX10_meets_L47 at h
  refine BW.run [.iload 6, .aload_n 0] (pc' := 50) (lv' := [(0, .ref a0), (2, .int x2), (3, .int x3), (4, .int x4), (5, .int x5), (6, .int x6)]) (st' := [.ref a0, .int x6]) (by decide +kernel) rfl rfl ?_
  obtain ⟨b12, eb12, h⟩ := Ok.bind h
  refine BW.get (by decide +kernel : decode tX10_meets.2.1 50 = .ok (.getfield 31, 3)) ciX10 (k := 16) (by decide) lkF_X10_31 (toR_V eb12) ?_
  refine BW.run [.iload_n 3] (pc' := 54) (lv' := [(0, .ref a0), (2, .int x2), (3, .int x3), (4, .int x4), (5, .int x5), (6, .int x6)]) (st' := [.int x3, .ref b12, .int x6]) (by decide +kernel) rfl rfl ?_
  obtain ⟨v13, ev13, h⟩ := Ok.bind h
  refine BW.iald (by decide +kernel : decode tX10_meets.2.1 54 = .ok (.iaload, 1)) (toI_V ev13) ?_
  refine BW.icmp_gt 132 (by decide +kernel : decode tX10_meets.2.1 55 = .ok (.if_icmp .gt 77, 3)) (by decide) (fun hc => ?_) (fun hc => ?_)
  · have h := (Ok.ite h).1 hc
    refine BW.sub [0, 1, 2, 3, 4] rfl ?_
    exact hE _ _ (Ok.some h)
  · have h := (Ok.ite h).2 hc
    refine BW.run [.aload_n 0] (pc' := 59) (lv' := [(0, .ref a0), (2, .int x2), (3, .int x3), (4, .int x4), (5, .int x5), (6, .int x6)]) (st' := [.ref a0]) (by decide +kernel) rfl rfl ?_
    obtain ⟨b14, eb14, h⟩ := Ok.bind h
    refine BW.get (by decide +kernel : decode tX10_meets.2.1 59 = .ok (.getfield 34, 3)) ciX10 (k := 17) (by decide) lkF_X10_34 (toR_V eb14) ?_
    refine BW.run [.iload_n 2] (pc' := 63) (lv' := [(0, .ref a0), (2, .int x2), (3, .int x3), (4, .int x4), (5, .int x5), (6, .int x6)]) (st' := [.int x2, .ref b14]) (by decide +kernel) rfl rfl ?_
    obtain ⟨v15, ev15, h⟩ := Ok.bind h
    refine BW.iald (by decide +kernel : decode tX10_meets.2.1 63 = .ok (.iaload, 1)) (toI_V ev15) ?_
    refine BW.run [.iload 5, .imul, .aload_n 0] (pc' := 68) (lv' := [(0, .ref a0), (2, .int x2), (3, .int x3), (4, .int x4), (5, .int x5), (6, .int x6)]) (st' := [.ref a0, .int (v15 * x5)]) (by decide +kernel) rfl rfl ?_
    obtain ⟨b16, eb16, h⟩ := Ok.bind h
    refine BW.get (by decide +kernel : decode tX10_meets.2.1 68 = .ok (.getfield 34, 3)) ciX10 (k := 17) (by decide) lkF_X10_34 (toR_V eb16) ?_
    refine BW.run [.iload_n 3] (pc' := 72) (lv' := [(0, .ref a0), (2, .int x2), (3, .int x3), (4, .int x4), (5, .int x5), (6, .int x6)]) (st' := [.int x3, .ref b16, .int (v15 * x5)]) (by decide +kernel) rfl rfl ?_
    obtain ⟨v17, ev17, h⟩ := Ok.bind h
    refine BW.iald (by decide +kernel : decode tX10_meets.2.1 72 = .ok (.iaload, 1)) (toI_V ev17) ?_
    refine BW.run [.iload 6, .imul, .isub] (pc' := 77) (lv' := [(0, .ref a0), (2, .int x2), (3, .int x3), (4, .int x4), (5, .int x5), (6, .int x6)]) (st' := [.int ((v15 * x5) - (v17 * x6))]) (by decide +kernel) rfl rfl ?_
    obtain ⟨v18, wv18, h⟩ := Ok.nm h
    refine BW.nm wv18 ?_
    refine BW.run [.istore 7, .iload 4, .aload_n 0, .iload_n 2, .iload 5] (pc' := 85) (lv' := [(0, .ref a0), (2, .int x2), (3, .int x3), (4, .int x4), (5, .int x5), (6, .int x6), (7, .int v18)]) (st' := [.int x5, .int x2, .ref a0, .int x4]) (by decide +kernel) rfl rfl ?_
    refine BW.callV (As := [.int x2, .int x5]) (st := [.int x4]) (by decide +kernel : decode tX10_meets.2.1 85 = .ok (.invokevirtual 168, 3)) (DX10_cellAt (Ok.bindK h)) mfX10_cellAt lkM_X10_168 imX10_cellAt selX10_cellAt ciX10 (oX10_cellAt (Ok.bindK h)).choose_spec rfl rfl (Nat.le_of_ble_eq_true rfl) ⟨Nat.le_trans (by decide) hRm.1, Nat.le_trans (by decide) hRm.2⟩ ⟨Nat.zero_le _, Nat.zero_le _⟩ ?_
    rintro _ s19 ⟨v20, rfl, h⟩
    show BW G tX10_meets E 0 0 88 [(0, .ref a0), (2, .int x2), (3, .int x3), (4, .int x4), (5, .int x5), (6, .int x6), (7, .int v18)] [.int v20, .int x4] s19
    refine BW.run [.aload_n 0, .iload_n 3, .iload 6] (pc' := 92) (lv' := [(0, .ref a0), (2, .int x2), (3, .int x3), (4, .int x4), (5, .int x5), (6, .int x6), (7, .int v18)]) (st' := [.int x6, .int x3, .ref a0, .int v20, .int x4]) (by decide +kernel) rfl rfl ?_
    refine BW.callV (As := [.int x3, .int x6]) (st := [.int v20, .int x4]) (by decide +kernel : decode tX10_meets.2.1 92 = .ok (.invokevirtual 168, 3)) (DX10_cellAt (Ok.bindK h)) mfX10_cellAt lkM_X10_168 imX10_cellAt selX10_cellAt ciX10 (oX10_cellAt (Ok.bindK h)).choose_spec rfl rfl (Nat.le_of_ble_eq_true rfl) ⟨Nat.le_trans (by decide) hRm.1, Nat.le_trans (by decide) hRm.2⟩ ⟨Nat.zero_le _, Nat.zero_le _⟩ ?_
    rintro _ s22 ⟨v23, rfl, h⟩
    show BW G tX10_meets E 0 0 95 [(0, .ref a0), (2, .int x2), (3, .int x3), (4, .int x4), (5, .int x5), (6, .int x6), (7, .int v18)] [.int v23, .int v20, .int x4] s22
    refine BW.icmp_ne 122 (by decide +kernel : decode tX10_meets.2.1 95 = .ok (.if_icmp .ne 27, 3)) (by decide) (fun hc => ?_) (fun hc => ?_)
    · have h := (Ok.ite h).2 hc
      refine BW.sub [0, 1, 2, 4, 5] rfl ?_
      exact bX10_meets_122 hRm hC hE h
    · have h := (Ok.ite h).1 hc
      refine BW.run [.iload 7, .aload_n 0, .iload_n 2, .iload_n 3] (pc' := 103) (lv' := [(0, .ref a0), (2, .int x2), (3, .int x3), (4, .int x4), (5, .int x5), (6, .int x6), (7, .int v18)]) (st' := [.int x3, .int x2, .ref a0, .int v18, .int x4]) (by decide +kernel) rfl rfl ?_
      refine BW.callV (As := [.int x2, .int x3]) (st := [.int v18, .int x4]) (by decide +kernel : decode tX10_meets.2.1 103 = .ok (.invokevirtual 241, 3)) (DX10_gapLow (Ok.bindK h)) mfX10_gapLow lkM_X10_241 imX10_gapLow selX10_gapLow ciX10 (oX10_gapLow (Ok.bindK h)).choose_spec rfl rfl (Nat.le_of_ble_eq_true rfl) ⟨Nat.le_trans (by decide) hRm.1, Nat.le_trans (by decide) hRm.2⟩ ⟨Nat.zero_le _, Nat.zero_le _⟩ ?_
      rintro _ s26 ⟨v27, rfl, h⟩
      show BW G tX10_meets E 0 0 106 [(0, .ref a0), (2, .int x2), (3, .int x3), (4, .int x4), (5, .int x5), (6, .int x6), (7, .int v18)] [.int v27, .int v18, .int x4] s26
      refine BW.run [.aload_n 0, .iload_n 2, .iload_n 3] (pc' := 109) (lv' := [(0, .ref a0), (2, .int x2), (3, .int x3), (4, .int x4), (5, .int x5), (6, .int x6), (7, .int v18)]) (st' := [.int x3, .int x2, .ref a0, .int v27, .int v18, .int x4]) (by decide +kernel) rfl rfl ?_
      refine BW.callV (As := [.int x2, .int x3]) (st := [.int v27, .int v18, .int x4]) (by decide +kernel : decode tX10_meets.2.1 109 = .ok (.invokevirtual 244, 3)) (DX10_gapHigh (Ok.bindK h)) mfX10_gapHigh lkM_X10_244 imX10_gapHigh selX10_gapHigh ciX10 (oX10_gapHigh (Ok.bindK h)).choose_spec rfl rfl (Nat.le_of_ble_eq_true rfl) ⟨Nat.le_trans (by decide) hRm.1, Nat.le_trans (by decide) hRm.2⟩ ⟨Nat.zero_le _, Nat.zero_le _⟩ ?_
      rintro _ s29 ⟨v30, rfl, h⟩
      show BW G tX10_meets E 0 0 112 [(0, .ref a0), (2, .int x2), (3, .int x3), (4, .int x4), (5, .int x5), (6, .int x6), (7, .int v18)] [.int v30, .int v27, .int v18, .int x4] s29
      refine BW.callS (As := [.int v18, .int v27, .int v30]) (st := [.int x4]) (by decide +kernel : decode tX10_meets.2.1 112 = .ok (.invokestatic 147, 3)) (DX10_in (Ok.bindK h)) mfX10_in lkM_X10_147 smX10_in rfl rfl (Nat.le_of_ble_eq_true rfl) ⟨Nat.le_trans (by decide) hRm.1, Nat.le_trans (by decide) hRm.2⟩ ⟨Nat.zero_le _, Nat.zero_le _⟩ ?_
      rintro _ s32 ⟨v33, rfl, h⟩
      show BW G tX10_meets E 0 0 115 [(0, .ref a0), (2, .int x2), (3, .int x3), (4, .int x4), (5, .int x5), (6, .int x6), (7, .int v18)] [.int v33, .int x4] s32
      refine BW.if_eq 122 (by decide +kernel : decode tX10_meets.2.1 115 = .ok (.ifCond .eq 7, 3)) (by decide) (fun hc => ?_) (fun hc => ?_)
      · have h := (Ok.ite h).1 hc
        refine BW.sub [0, 1, 2, 4, 5] rfl ?_
        exact bX10_meets_122 hRm hC hE h
      · have h := (Ok.ite h).2 hc
        refine BW.run [.iconst 1] (pc' := 119) (lv' := [(0, .ref a0), (2, .int x2), (3, .int x3), (4, .int x4), (5, .int x5), (6, .int x6), (7, .int v18)]) (st' := [.int (1 : Int32), .int x4]) (by decide +kernel) rfl rfl ?_
        refine BW.goto 123 (by decide +kernel : decode tX10_meets.2.1 119 = .ok (.goto 4, 3)) (by decide) ?_
        refine BW.sub [0, 1, 2, 4, 5] rfl ?_
        exact bX10_meets_123 hRm hC hE h
theorem bX10_meets_W47 {G : Cx} {E : Ev} {n : Nat} (hRm : 8 ≤ E.1.frames ∧ 178 ≤ E.1.locals) {a0 : Nat} {x2 : Int32} {x3 : Int32} {x5 : Int32} {K : (Sg × Int32) → Prop} (hE : ∀ (s : Sg) (c4 : Int32), K (s, c4) → BW G tX10_meets E 0 0 132 [(0, .ref a0), (2, .int x2), (3, .int x3), (4, .int c4), (5, .int x5)] [] s) : ∀ (f : Nat) (c : Sg × Int32 × Int32), Ok (loopM (mX10_meets_L47 n a0 x2 x3 x5) f c) K → match c with | (s0, x4, x6) => BW G tX10_meets E 0 0 47 [(0, .ref a0), (2, .int x2), (3, .int x3), (4, .int x4), (5, .int x5), (6, .int x6)] [] s0 := by
  intro f
  induction f with
  | zero => intro c h; exact (Ok.no h).elim
  | succ f ih =>
    intro c h
    obtain ⟨s0, x4, x6⟩ := c
    exact bX10_meets_L47 (P := loopP (mX10_meets_L47 n a0 x2 x3 x5) f K) hRm (fun s c4 c6 h => ih (s, c4, c6) h) hE (loopM_ok h)
def mX10_meets_L33 (n : Nat) (a0 : Nat) (x2 : Int32) (x3 : Int32) : (Sg × Int32 × Int32) → Option ((Sg × Int32 × Int32) ⊕ (Sg × Int32))
  | (s0, x4, x5) =>
    (toR (gV 10 s0 a0 16)).bind fun b10 =>
    (toI (aV 11 s0 b10 x2)).bind fun v11 =>
    if v11 < x5 then (
      some (.inr (s0, x4))
    ) else (
      (loopM (mX10_meets_L47 n a0 x2 x3 x5) n (s0, x4, (0 : Int32))).bind fun (s35, v36) =>
      some (.inl (s35, v36, (x5 + (1 : Int32))))
    )
theorem bX10_meets_L33 {G : Cx} {E : Ev} {n : Nat} (hRm : 8 ≤ E.1.frames ∧ 178 ≤ E.1.locals) {a0 : Nat} {x2 : Int32} {x3 : Int32} {P : (Sg × Int32 × Int32) ⊕ (Sg × Int32) → Prop} (hC : ∀ (s : Sg) (c4 : Int32) (c5 : Int32), P (.inl (s, c4, c5)) → BW G tX10_meets E 0 0 33 [(0, .ref a0), (2, .int x2), (3, .int x3), (4, .int c4), (5, .int c5)] [] s) (hE : ∀ (s : Sg) (c4 : Int32), P (.inr (s, c4)) → BW G tX10_meets E 0 0 138 [(4, .int c4)] [] s) {s0 : Sg} {x4 : Int32} {x5 : Int32} (h : Ok (mX10_meets_L33 n a0 x2 x3 (s0, x4, x5)) P) : BW G tX10_meets E 0 0 33 [(0, .ref a0), (2, .int x2), (3, .int x3), (4, .int x4), (5, .int x5)] [] s0 := by
  unfold mX10_meets_L33 at h
  refine BW.run [.iload 5, .aload_n 0] (pc' := 36) (lv' := [(0, .ref a0), (2, .int x2), (3, .int x3), (4, .int x4), (5, .int x5)]) (st' := [.ref a0, .int x5]) (by decide +kernel) rfl rfl ?_
  obtain ⟨b10, eb10, h⟩ := Ok.bind h
  refine BW.get (by decide +kernel : decode tX10_meets.2.1 36 = .ok (.getfield 31, 3)) ciX10 (k := 16) (by decide) lkF_X10_31 (toR_V eb10) ?_
  refine BW.run [.iload_n 2] (pc' := 40) (lv' := [(0, .ref a0), (2, .int x2), (3, .int x3), (4, .int x4), (5, .int x5)]) (st' := [.int x2, .ref b10, .int x5]) (by decide +kernel) rfl rfl ?_
  obtain ⟨v11, ev11, h⟩ := Ok.bind h
  refine BW.iald (by decide +kernel : decode tX10_meets.2.1 40 = .ok (.iaload, 1)) (toI_V ev11) ?_
  refine BW.icmp_gt 138 (by decide +kernel : decode tX10_meets.2.1 41 = .ok (.if_icmp .gt 97, 3)) (by decide) (fun hc => ?_) (fun hc => ?_)
  · have h := (Ok.ite h).1 hc
    refine BW.sub [3] rfl ?_
    exact hE _ _ (Ok.some h)
  · have h := (Ok.ite h).2 hc
    refine BW.run [.iconst 0, .istore 6] (pc' := 47) (lv' := [(0, .ref a0), (2, .int x2), (3, .int x3), (4, .int x4), (5, .int x5), (6, .int (0 : Int32))]) (st' := []) (by decide +kernel) rfl rfl ?_
    refine bX10_meets_W47 hRm (a0 := a0) (x2 := x2) (x3 := x3) (x5 := x5) (fun s35 v36 h => ?_) n (s0, x4, (0 : Int32)) (Ok.bindK h)
    refine BW.run [.iinc 5 1] (pc' := 135) (lv' := [(0, .ref a0), (2, .int x2), (3, .int x3), (4, .int v36), (5, .int (x5 + (1 : Int32)))]) (st' := []) (by decide +kernel) rfl rfl ?_
    refine BW.goto 33 (by decide +kernel : decode tX10_meets.2.1 135 = .ok (.goto (-102), 3)) (by decide) ?_
    exact hC _ _ _ (Ok.some h)
theorem bX10_meets_W33 {G : Cx} {E : Ev} {n : Nat} (hRm : 8 ≤ E.1.frames ∧ 178 ≤ E.1.locals) {a0 : Nat} {x2 : Int32} {x3 : Int32} {K : (Sg × Int32) → Prop} (hE : ∀ (s : Sg) (c4 : Int32), K (s, c4) → BW G tX10_meets E 0 0 138 [(4, .int c4)] [] s) : ∀ (f : Nat) (c : Sg × Int32 × Int32), Ok (loopM (mX10_meets_L33 n a0 x2 x3) f c) K → match c with | (s0, x4, x5) => BW G tX10_meets E 0 0 33 [(0, .ref a0), (2, .int x2), (3, .int x3), (4, .int x4), (5, .int x5)] [] s0 := by
  intro f
  induction f with
  | zero => intro c h; exact (Ok.no h).elim
  | succ f ih =>
    intro c h
    obtain ⟨s0, x4, x5⟩ := c
    exact bX10_meets_L33 (P := loopP (mX10_meets_L33 n a0 x2 x3) f K) hRm (fun s c4 c5 h => ih (s, c4, c5) h) hE (loopM_ok h)
def mX10_meets (n : Nat) (s0 : Sg) (a0 : Nat) (x1 : Int32) (x2 : Int32) (x3 : Int32) : Option (Int32 × Sg) :=
  (isO 10 s0 a0).bind fun _ =>
  (mX10_isSet n s0 a0 x1).bind fun (v2, s1) =>
  if v2 = 0 then (
    some ((-1 : Int32), s1)
  ) else (
    (mX10_areTwo n s1 a0 x2 x3).bind fun (v5, s4) =>
    if v5 = 0 then (
      some ((-1 : Int32), s4)
    ) else (
      (mX10_canBe n s4 a0 x1).bind fun (v8, s7) =>
      if v8 = 0 then (
        some ((-1 : Int32), s7)
      ) else (
        (loopM (mX10_meets_L33 n a0 x2 x3) n (s7, (0 : Int32), (0 : Int32))).bind fun (s38, v39) =>
        some (v39, s38)
      )
    )
  )
theorem bX10_meets {G : Cx} {E : Ev} {n : Nat} (hRm : 8 ≤ E.1.frames ∧ 178 ≤ E.1.locals) {P : Int32 × Sg → Prop} (hQ : ∀ r s, P (r, s) → E.2.2.2.2 (some (.int r)) s) {s0 : Sg} {a0 : Nat} {x1 : Int32} {x2 : Int32} {x3 : Int32} (h : Ok (mX10_meets n s0 a0 x1 x2 x3) P) : BW G tX10_meets E 0 0 0 [(0, .ref a0), (1, .int x1), (2, .int x2), (3, .int x3)] [] s0 := by
  unfold mX10_meets at h
  obtain ⟨_, _, h⟩ := Ok.bind h
  refine BW.run [.aload_n 0, .iload_n 1] (pc' := 2) (lv' := [(0, .ref a0), (1, .int x1), (2, .int x2), (3, .int x3)]) (st' := [.int x1, .ref a0]) (by decide +kernel) rfl rfl ?_
  refine BW.callV (As := [.int x1]) (st := []) (by decide +kernel : decode tX10_meets.2.1 2 = .ok (.invokevirtual 221, 3)) (DX10_isSet (Ok.bindK h)) mfX10_isSet lkM_X10_221 imX10_isSet selX10_isSet ciX10 (oX10_isSet (Ok.bindK h)).choose_spec rfl rfl (Nat.le_of_ble_eq_true rfl) ⟨Nat.le_trans (by decide) hRm.1, Nat.le_trans (by decide) hRm.2⟩ ⟨Nat.zero_le _, Nat.zero_le _⟩ ?_
  rintro _ s1 ⟨v2, rfl, h⟩
  show BW G tX10_meets E 0 0 5 [(0, .ref a0), (1, .int x1), (2, .int x2), (3, .int x3)] [.int v2] s1
  refine BW.if_eq 25 (by decide +kernel : decode tX10_meets.2.1 5 = .ok (.ifCond .eq 20, 3)) (by decide) (fun hc => ?_) (fun hc => ?_)
  · have h := (Ok.ite h).1 hc
    refine BW.run [.iconst (-1)] (pc' := 26) (lv' := [(0, .ref a0), (1, .int x1), (2, .int x2), (3, .int x3)]) (st' := [.int (-1 : Int32)]) (by decide +kernel) rfl rfl ?_
    exact BW.iret (by decide +kernel : decode tX10_meets.2.1 26 = .ok (.ireturn, 1)) rfl (Nat.zero_le _) (Nat.zero_le _) (hQ _ _ (Ok.some h))
  · have h := (Ok.ite h).2 hc
    refine BW.run [.aload_n 0, .iload_n 2, .iload_n 3] (pc' := 11) (lv' := [(0, .ref a0), (1, .int x1), (2, .int x2), (3, .int x3)]) (st' := [.int x3, .int x2, .ref a0]) (by decide +kernel) rfl rfl ?_
    refine BW.callV (As := [.int x2, .int x3]) (st := []) (by decide +kernel : decode tX10_meets.2.1 11 = .ok (.invokevirtual 248, 3)) (DX10_areTwo (Ok.bindK h)) mfX10_areTwo lkM_X10_248 imX10_areTwo selX10_areTwo ciX10 (oX10_areTwo (Ok.bindK h)).choose_spec rfl rfl (Nat.le_of_ble_eq_true rfl) ⟨Nat.le_trans (by decide) hRm.1, Nat.le_trans (by decide) hRm.2⟩ ⟨Nat.zero_le _, Nat.zero_le _⟩ ?_
    rintro _ s4 ⟨v5, rfl, h⟩
    show BW G tX10_meets E 0 0 14 [(0, .ref a0), (1, .int x1), (2, .int x2), (3, .int x3)] [.int v5] s4
    refine BW.if_eq 25 (by decide +kernel : decode tX10_meets.2.1 14 = .ok (.ifCond .eq 11, 3)) (by decide) (fun hc => ?_) (fun hc => ?_)
    · have h := (Ok.ite h).1 hc
      refine BW.run [.iconst (-1)] (pc' := 26) (lv' := [(0, .ref a0), (1, .int x1), (2, .int x2), (3, .int x3)]) (st' := [.int (-1 : Int32)]) (by decide +kernel) rfl rfl ?_
      exact BW.iret (by decide +kernel : decode tX10_meets.2.1 26 = .ok (.ireturn, 1)) rfl (Nat.zero_le _) (Nat.zero_le _) (hQ _ _ (Ok.some h))
    · have h := (Ok.ite h).2 hc
      refine BW.run [.aload_n 0, .iload_n 1] (pc' := 19) (lv' := [(0, .ref a0), (1, .int x1), (2, .int x2), (3, .int x3)]) (st' := [.int x1, .ref a0]) (by decide +kernel) rfl rfl ?_
      refine BW.callV (As := [.int x1]) (st := []) (by decide +kernel : decode tX10_meets.2.1 19 = .ok (.invokevirtual 224, 3)) (DX10_canBe (Ok.bindK h)) mfX10_canBe lkM_X10_224 imX10_canBe selX10_canBe ciX10 (oX10_canBe (Ok.bindK h)).choose_spec rfl rfl (Nat.le_of_ble_eq_true rfl) ⟨Nat.le_trans (by decide) hRm.1, Nat.le_trans (by decide) hRm.2⟩ ⟨Nat.zero_le _, Nat.zero_le _⟩ ?_
      rintro _ s7 ⟨v8, rfl, h⟩
      show BW G tX10_meets E 0 0 22 [(0, .ref a0), (1, .int x1), (2, .int x2), (3, .int x3)] [.int v8] s7
      refine BW.if_ne 27 (by decide +kernel : decode tX10_meets.2.1 22 = .ok (.ifCond .ne 5, 3)) (by decide) (fun hc => ?_) (fun hc => ?_)
      · have h := (Ok.ite h).2 hc
        refine BW.run [.iconst 0, .istore 4, .iconst 0, .istore 5] (pc' := 33) (lv' := [(0, .ref a0), (1, .int x1), (2, .int x2), (3, .int x3), (4, .int (0 : Int32)), (5, .int (0 : Int32))]) (st' := []) (by decide +kernel) rfl rfl ?_
        refine BW.sub [0, 2, 3, 4, 5] rfl ?_
        refine bX10_meets_W33 hRm (a0 := a0) (x2 := x2) (x3 := x3) (fun s38 v39 h => ?_) n (s7, (0 : Int32), (0 : Int32)) (Ok.bindK h)
        refine BW.run [.iload 4] (pc' := 140) (lv' := [(4, .int v39)]) (st' := [.int v39]) (by decide +kernel) rfl rfl ?_
        exact BW.iret (by decide +kernel : decode tX10_meets.2.1 140 = .ok (.ireturn, 1)) rfl (Nat.zero_le _) (Nat.zero_le _) (hQ _ _ (Ok.some h))
      · have h := (Ok.ite h).1 hc
        refine BW.run [.iconst (-1)] (pc' := 26) (lv' := [(0, .ref a0), (1, .int x1), (2, .int x2), (3, .int x3)]) (st' := [.int (-1 : Int32)]) (by decide +kernel) rfl rfl ?_
        exact BW.iret (by decide +kernel : decode tX10_meets.2.1 26 = .ok (.ireturn, 1)) rfl (Nat.zero_le _) (Nat.zero_le _) (hQ _ _ (Ok.some h))
theorem oX10_meets {n : Nat} {P : Int32 × Sg → Prop} {s0 : Sg} {a0 : Nat} {x1 : Int32} {x2 : Int32} {x3 : Int32} (h : Ok (mX10_meets n s0 a0 x1 x2 x3) P) : ∃ n0, s0.2.1 a0 = some (10, n0) := by
  unfold mX10_meets at h
  exact Ok.isO h
theorem DX10_meets {G : Cx} {n : Nat} {P : Int32 × Sg → Prop} {s0 : Sg} {a0 : Nat} {x1 : Int32} {x2 : Int32} {x3 : Int32} (h : Ok (mX10_meets n s0 a0 x1 x2 x3) P) : BM G tX10_meets 8 178 0 0 [.ref a0, .int x1, .int x2, .int x3] s0 (fun v s => ∃ r, v = some (.int r) ∧ P (r, s)) := by
  refine BM.of (by decide +kernel) (Nat.le_of_ble_eq_true rfl) ?_
  exact bX10_meets (E := (({ frames := 8, cells := 0, slots := 0, locals := 178 }), Aof s0, 0, 0, (fun v s => ∃ r, v = some (.int r) ∧ P (r, s)))) ⟨Nat.le_refl _, Nat.le_refl _⟩ (fun r s hp => ⟨r, rfl, hp⟩) h
def mX10_one_63 (n : Nat) (s0 : Sg) (t0 : Int32) (a0 : Nat) (x2 : Int32) (x3 : Int32) : Option (Int32 × Sg) :=
  (mX10_gapHigh n s0 a0 x3 x2).bind fun (v21, s20) =>
  (mX10_length n s20 a0 x3).bind fun (v24, s23) =>
  if v21 ≤ v24 then (
    some ((t0 + (0 : Int32)), s23)
  ) else (
    some ((t0 + (2 : Int32)), s23)
  )
theorem bX10_one_63 {G : Cx} {E : Ev} {n : Nat} (hRm : 8 ≤ E.1.frames ∧ 178 ≤ E.1.locals) {s0 : Sg} {t0 : Int32} {a0 : Nat} {x2 : Int32} {x3 : Int32} {P : Int32 × Sg → Prop} (hQ : ∀ r s, P (r, s) → E.2.2.2.2 (some (.int r)) s) (h : Ok (mX10_one_63 n s0 t0 a0 x2 x3) P) : BW G tX10_one E 0 0 63 [(0, .ref a0), (2, .int x2), (3, .int x3)] [.int t0] s0 := by
  unfold mX10_one_63 at h
  refine BW.run [.aload_n 0, .iload_n 3, .iload_n 2] (pc' := 66) (lv' := [(0, .ref a0), (2, .int x2), (3, .int x3)]) (st' := [.int x2, .int x3, .ref a0, .int t0]) (by decide +kernel) rfl rfl ?_
  refine BW.callV (As := [.int x3, .int x2]) (st := [.int t0]) (by decide +kernel : decode tX10_one.2.1 66 = .ok (.invokevirtual 244, 3)) (DX10_gapHigh (Ok.bindK h)) mfX10_gapHigh lkM_X10_244 imX10_gapHigh selX10_gapHigh ciX10 (oX10_gapHigh (Ok.bindK h)).choose_spec rfl rfl (Nat.le_of_ble_eq_true rfl) ⟨Nat.le_trans (by decide) hRm.1, Nat.le_trans (by decide) hRm.2⟩ ⟨Nat.zero_le _, Nat.zero_le _⟩ ?_
  rintro _ s20 ⟨v21, rfl, h⟩
  show BW G tX10_one E 0 0 69 [(0, .ref a0), (2, .int x2), (3, .int x3)] [.int v21, .int t0] s20
  refine BW.run [.aload_n 0, .iload_n 3] (pc' := 71) (lv' := [(0, .ref a0), (2, .int x2), (3, .int x3)]) (st' := [.int x3, .ref a0, .int v21, .int t0]) (by decide +kernel) rfl rfl ?_
  refine BW.callV (As := [.int x3]) (st := [.int v21, .int t0]) (by decide +kernel : decode tX10_one.2.1 71 = .ok (.invokevirtual 283, 3)) (DX10_length (Ok.bindK h)) mfX10_length lkM_X10_283 imX10_length selX10_length ciX10 (oX10_length (Ok.bindK h)).choose_spec rfl rfl (Nat.le_of_ble_eq_true rfl) ⟨Nat.le_trans (by decide) hRm.1, Nat.le_trans (by decide) hRm.2⟩ ⟨Nat.zero_le _, Nat.zero_le _⟩ ?_
  rintro _ s23 ⟨v24, rfl, h⟩
  show BW G tX10_one E 0 0 74 [(0, .ref a0), (2, .int x2), (3, .int x3)] [.int v24, .int v21, .int t0] s23
  refine BW.icmp_le 81 (by decide +kernel : decode tX10_one.2.1 74 = .ok (.if_icmp .le 7, 3)) (by decide) (fun hc => ?_) (fun hc => ?_)
  · have h := (Ok.ite h).1 hc
    refine BW.run [.iconst 0, .iadd] (pc' := 83) (lv' := [(0, .ref a0), (2, .int x2), (3, .int x3)]) (st' := [.int (t0 + (0 : Int32))]) (by decide +kernel) rfl rfl ?_
    exact BW.iret (by decide +kernel : decode tX10_one.2.1 83 = .ok (.ireturn, 1)) rfl (Nat.zero_le _) (Nat.zero_le _) (hQ _ _ (Ok.some h))
  · have h := (Ok.ite h).2 hc
    refine BW.run [.iconst 2] (pc' := 78) (lv' := [(0, .ref a0), (2, .int x2), (3, .int x3)]) (st' := [.int (2 : Int32), .int t0]) (by decide +kernel) rfl rfl ?_
    refine BW.goto 82 (by decide +kernel : decode tX10_one.2.1 78 = .ok (.goto 4, 3)) (by decide) ?_
    refine BW.run [.iadd] (pc' := 83) (lv' := [(0, .ref a0), (2, .int x2), (3, .int x3)]) (st' := [.int (t0 + (2 : Int32))]) (by decide +kernel) rfl rfl ?_
    exact BW.iret (by decide +kernel : decode tX10_one.2.1 83 = .ok (.ireturn, 1)) rfl (Nat.zero_le _) (Nat.zero_le _) (hQ _ _ (Ok.some h))
def mX10_one (n : Nat) (s0 : Sg) (a0 : Nat) (x1 : Int32) (x2 : Int32) (x3 : Int32) : Option (Int32 × Sg) :=
  (isO 10 s0 a0).bind fun _ =>
  (mX10_isSet n s0 a0 x1).bind fun (v2, s1) =>
  if v2 = 0 then (
    some ((-1 : Int32), s1)
  ) else (
    (mX10_areTwo n s1 a0 x2 x3).bind fun (v5, s4) =>
    if v5 = 0 then (
      some ((-1 : Int32), s4)
    ) else (
      (mX10_canBe n s4 a0 x1).bind fun (v8, s7) =>
      if v8 = 0 then (
        some ((-1 : Int32), s7)
      ) else (
        (toR (gV 10 s7 a0 18)).bind fun b10 =>
        (toI (aV 11 s7 b10 x2)).bind fun v11 =>
        (toR (gV 10 s7 a0 18)).bind fun b12 =>
        (toI (aV 11 s7 b12 x3)).bind fun v13 =>
        if v11 = v13 then (
          (mX10_gapHigh n s7 a0 x2 x3).bind fun (v15, s14) =>
          (mX10_length n s14 a0 x2).bind fun (v18, s17) =>
          if v15 ≤ v18 then (
            mX10_one_63 n s17 (0 : Int32) a0 x2 x3
          ) else (
            mX10_one_63 n s17 (1 : Int32) a0 x2 x3
          )
        ) else (
          some ((0 : Int32), s7)
        )
      )
    )
  )
theorem bX10_one {G : Cx} {E : Ev} {n : Nat} (hRm : 8 ≤ E.1.frames ∧ 178 ≤ E.1.locals) {P : Int32 × Sg → Prop} (hQ : ∀ r s, P (r, s) → E.2.2.2.2 (some (.int r)) s) {s0 : Sg} {a0 : Nat} {x1 : Int32} {x2 : Int32} {x3 : Int32} (h : Ok (mX10_one n s0 a0 x1 x2 x3) P) : BW G tX10_one E 0 0 0 [(0, .ref a0), (1, .int x1), (2, .int x2), (3, .int x3)] [] s0 := by
  unfold mX10_one at h
  obtain ⟨_, _, h⟩ := Ok.bind h
  refine BW.run [.aload_n 0, .iload_n 1] (pc' := 2) (lv' := [(0, .ref a0), (1, .int x1), (2, .int x2), (3, .int x3)]) (st' := [.int x1, .ref a0]) (by decide +kernel) rfl rfl ?_
  refine BW.callV (As := [.int x1]) (st := []) (by decide +kernel : decode tX10_one.2.1 2 = .ok (.invokevirtual 221, 3)) (DX10_isSet (Ok.bindK h)) mfX10_isSet lkM_X10_221 imX10_isSet selX10_isSet ciX10 (oX10_isSet (Ok.bindK h)).choose_spec rfl rfl (Nat.le_of_ble_eq_true rfl) ⟨Nat.le_trans (by decide) hRm.1, Nat.le_trans (by decide) hRm.2⟩ ⟨Nat.zero_le _, Nat.zero_le _⟩ ?_
  rintro _ s1 ⟨v2, rfl, h⟩
  show BW G tX10_one E 0 0 5 [(0, .ref a0), (1, .int x1), (2, .int x2), (3, .int x3)] [.int v2] s1
  refine BW.if_eq 25 (by decide +kernel : decode tX10_one.2.1 5 = .ok (.ifCond .eq 20, 3)) (by decide) (fun hc => ?_) (fun hc => ?_)
  · have h := (Ok.ite h).1 hc
    refine BW.run [.iconst (-1)] (pc' := 26) (lv' := [(0, .ref a0), (1, .int x1), (2, .int x2), (3, .int x3)]) (st' := [.int (-1 : Int32)]) (by decide +kernel) rfl rfl ?_
    exact BW.iret (by decide +kernel : decode tX10_one.2.1 26 = .ok (.ireturn, 1)) rfl (Nat.zero_le _) (Nat.zero_le _) (hQ _ _ (Ok.some h))
  · have h := (Ok.ite h).2 hc
    refine BW.run [.aload_n 0, .iload_n 2, .iload_n 3] (pc' := 11) (lv' := [(0, .ref a0), (1, .int x1), (2, .int x2), (3, .int x3)]) (st' := [.int x3, .int x2, .ref a0]) (by decide +kernel) rfl rfl ?_
    refine BW.callV (As := [.int x2, .int x3]) (st := []) (by decide +kernel : decode tX10_one.2.1 11 = .ok (.invokevirtual 248, 3)) (DX10_areTwo (Ok.bindK h)) mfX10_areTwo lkM_X10_248 imX10_areTwo selX10_areTwo ciX10 (oX10_areTwo (Ok.bindK h)).choose_spec rfl rfl (Nat.le_of_ble_eq_true rfl) ⟨Nat.le_trans (by decide) hRm.1, Nat.le_trans (by decide) hRm.2⟩ ⟨Nat.zero_le _, Nat.zero_le _⟩ ?_
    rintro _ s4 ⟨v5, rfl, h⟩
    show BW G tX10_one E 0 0 14 [(0, .ref a0), (1, .int x1), (2, .int x2), (3, .int x3)] [.int v5] s4
    refine BW.if_eq 25 (by decide +kernel : decode tX10_one.2.1 14 = .ok (.ifCond .eq 11, 3)) (by decide) (fun hc => ?_) (fun hc => ?_)
    · have h := (Ok.ite h).1 hc
      refine BW.run [.iconst (-1)] (pc' := 26) (lv' := [(0, .ref a0), (1, .int x1), (2, .int x2), (3, .int x3)]) (st' := [.int (-1 : Int32)]) (by decide +kernel) rfl rfl ?_
      exact BW.iret (by decide +kernel : decode tX10_one.2.1 26 = .ok (.ireturn, 1)) rfl (Nat.zero_le _) (Nat.zero_le _) (hQ _ _ (Ok.some h))
    · have h := (Ok.ite h).2 hc
      refine BW.run [.aload_n 0, .iload_n 1] (pc' := 19) (lv' := [(0, .ref a0), (1, .int x1), (2, .int x2), (3, .int x3)]) (st' := [.int x1, .ref a0]) (by decide +kernel) rfl rfl ?_
      refine BW.callV (As := [.int x1]) (st := []) (by decide +kernel : decode tX10_one.2.1 19 = .ok (.invokevirtual 224, 3)) (DX10_canBe (Ok.bindK h)) mfX10_canBe lkM_X10_224 imX10_canBe selX10_canBe ciX10 (oX10_canBe (Ok.bindK h)).choose_spec rfl rfl (Nat.le_of_ble_eq_true rfl) ⟨Nat.le_trans (by decide) hRm.1, Nat.le_trans (by decide) hRm.2⟩ ⟨Nat.zero_le _, Nat.zero_le _⟩ ?_
      rintro _ s7 ⟨v8, rfl, h⟩
      show BW G tX10_one E 0 0 22 [(0, .ref a0), (1, .int x1), (2, .int x2), (3, .int x3)] [.int v8] s7
      refine BW.if_ne 27 (by decide +kernel : decode tX10_one.2.1 22 = .ok (.ifCond .ne 5, 3)) (by decide) (fun hc => ?_) (fun hc => ?_)
      · have h := (Ok.ite h).2 hc
        refine BW.run [.aload_n 0] (pc' := 28) (lv' := [(0, .ref a0), (1, .int x1), (2, .int x2), (3, .int x3)]) (st' := [.ref a0]) (by decide +kernel) rfl rfl ?_
        obtain ⟨b10, eb10, h⟩ := Ok.bind h
        refine BW.get (by decide +kernel : decode tX10_one.2.1 28 = .ok (.getfield 37, 3)) ciX10 (k := 18) (by decide) lkF_X10_37 (toR_V eb10) ?_
        refine BW.run [.iload_n 2] (pc' := 32) (lv' := [(0, .ref a0), (1, .int x1), (2, .int x2), (3, .int x3)]) (st' := [.int x2, .ref b10]) (by decide +kernel) rfl rfl ?_
        obtain ⟨v11, ev11, h⟩ := Ok.bind h
        refine BW.iald (by decide +kernel : decode tX10_one.2.1 32 = .ok (.iaload, 1)) (toI_V ev11) ?_
        refine BW.run [.aload_n 0] (pc' := 34) (lv' := [(0, .ref a0), (1, .int x1), (2, .int x2), (3, .int x3)]) (st' := [.ref a0, .int v11]) (by decide +kernel) rfl rfl ?_
        obtain ⟨b12, eb12, h⟩ := Ok.bind h
        refine BW.get (by decide +kernel : decode tX10_one.2.1 34 = .ok (.getfield 37, 3)) ciX10 (k := 18) (by decide) lkF_X10_37 (toR_V eb12) ?_
        refine BW.run [.iload_n 3] (pc' := 38) (lv' := [(0, .ref a0), (1, .int x1), (2, .int x2), (3, .int x3)]) (st' := [.int x3, .ref b12, .int v11]) (by decide +kernel) rfl rfl ?_
        obtain ⟨v13, ev13, h⟩ := Ok.bind h
        refine BW.iald (by decide +kernel : decode tX10_one.2.1 38 = .ok (.iaload, 1)) (toI_V ev13) ?_
        refine BW.icmp_eq 44 (by decide +kernel : decode tX10_one.2.1 39 = .ok (.if_icmp .eq 5, 3)) (by decide) (fun hc => ?_) (fun hc => ?_)
        · have h := (Ok.ite h).1 hc
          refine BW.run [.aload_n 0, .iload_n 2, .iload_n 3] (pc' := 47) (lv' := [(0, .ref a0), (1, .int x1), (2, .int x2), (3, .int x3)]) (st' := [.int x3, .int x2, .ref a0]) (by decide +kernel) rfl rfl ?_
          refine BW.callV (As := [.int x2, .int x3]) (st := []) (by decide +kernel : decode tX10_one.2.1 47 = .ok (.invokevirtual 244, 3)) (DX10_gapHigh (Ok.bindK h)) mfX10_gapHigh lkM_X10_244 imX10_gapHigh selX10_gapHigh ciX10 (oX10_gapHigh (Ok.bindK h)).choose_spec rfl rfl (Nat.le_of_ble_eq_true rfl) ⟨Nat.le_trans (by decide) hRm.1, Nat.le_trans (by decide) hRm.2⟩ ⟨Nat.zero_le _, Nat.zero_le _⟩ ?_
          rintro _ s14 ⟨v15, rfl, h⟩
          show BW G tX10_one E 0 0 50 [(0, .ref a0), (1, .int x1), (2, .int x2), (3, .int x3)] [.int v15] s14
          refine BW.run [.aload_n 0, .iload_n 2] (pc' := 52) (lv' := [(0, .ref a0), (1, .int x1), (2, .int x2), (3, .int x3)]) (st' := [.int x2, .ref a0, .int v15]) (by decide +kernel) rfl rfl ?_
          refine BW.callV (As := [.int x2]) (st := [.int v15]) (by decide +kernel : decode tX10_one.2.1 52 = .ok (.invokevirtual 283, 3)) (DX10_length (Ok.bindK h)) mfX10_length lkM_X10_283 imX10_length selX10_length ciX10 (oX10_length (Ok.bindK h)).choose_spec rfl rfl (Nat.le_of_ble_eq_true rfl) ⟨Nat.le_trans (by decide) hRm.1, Nat.le_trans (by decide) hRm.2⟩ ⟨Nat.zero_le _, Nat.zero_le _⟩ ?_
          rintro _ s17 ⟨v18, rfl, h⟩
          show BW G tX10_one E 0 0 55 [(0, .ref a0), (1, .int x1), (2, .int x2), (3, .int x3)] [.int v18, .int v15] s17
          refine BW.icmp_le 62 (by decide +kernel : decode tX10_one.2.1 55 = .ok (.if_icmp .le 7, 3)) (by decide) (fun hc => ?_) (fun hc => ?_)
          · have h := (Ok.ite h).1 hc
            refine BW.run [.iconst 0] (pc' := 63) (lv' := [(0, .ref a0), (1, .int x1), (2, .int x2), (3, .int x3)]) (st' := [.int (0 : Int32)]) (by decide +kernel) rfl rfl ?_
            refine BW.sub [0, 2, 3] rfl ?_
            exact bX10_one_63 hRm hQ h
          · have h := (Ok.ite h).2 hc
            refine BW.run [.iconst 1] (pc' := 59) (lv' := [(0, .ref a0), (1, .int x1), (2, .int x2), (3, .int x3)]) (st' := [.int (1 : Int32)]) (by decide +kernel) rfl rfl ?_
            refine BW.goto 63 (by decide +kernel : decode tX10_one.2.1 59 = .ok (.goto 4, 3)) (by decide) ?_
            refine BW.sub [0, 2, 3] rfl ?_
            exact bX10_one_63 hRm hQ h
        · have h := (Ok.ite h).2 hc
          refine BW.run [.iconst 0] (pc' := 43) (lv' := [(0, .ref a0), (1, .int x1), (2, .int x2), (3, .int x3)]) (st' := [.int (0 : Int32)]) (by decide +kernel) rfl rfl ?_
          exact BW.iret (by decide +kernel : decode tX10_one.2.1 43 = .ok (.ireturn, 1)) rfl (Nat.zero_le _) (Nat.zero_le _) (hQ _ _ (Ok.some h))
      · have h := (Ok.ite h).1 hc
        refine BW.run [.iconst (-1)] (pc' := 26) (lv' := [(0, .ref a0), (1, .int x1), (2, .int x2), (3, .int x3)]) (st' := [.int (-1 : Int32)]) (by decide +kernel) rfl rfl ?_
        exact BW.iret (by decide +kernel : decode tX10_one.2.1 26 = .ok (.ireturn, 1)) rfl (Nat.zero_le _) (Nat.zero_le _) (hQ _ _ (Ok.some h))
theorem oX10_one {n : Nat} {P : Int32 × Sg → Prop} {s0 : Sg} {a0 : Nat} {x1 : Int32} {x2 : Int32} {x3 : Int32} (h : Ok (mX10_one n s0 a0 x1 x2 x3) P) : ∃ n0, s0.2.1 a0 = some (10, n0) := by
  unfold mX10_one at h
  exact Ok.isO h
theorem DX10_one {G : Cx} {n : Nat} {P : Int32 × Sg → Prop} {s0 : Sg} {a0 : Nat} {x1 : Int32} {x2 : Int32} {x3 : Int32} (h : Ok (mX10_one n s0 a0 x1 x2 x3) P) : BM G tX10_one 8 178 0 0 [.ref a0, .int x1, .int x2, .int x3] s0 (fun v s => ∃ r, v = some (.int r) ∧ P (r, s)) := by
  refine BM.of (by decide +kernel) (Nat.le_of_ble_eq_true rfl) ?_
  exact bX10_one (E := (({ frames := 8, cells := 0, slots := 0, locals := 178 }), Aof s0, 0, 0, (fun v s => ∃ r, v = some (.int r) ∧ P (r, s)))) ⟨Nat.le_refl _, Nat.le_refl _⟩ (fun r s hp => ⟨r, rfl, hp⟩) h
def mX10_prints_50 (n : Nat) (s0 : Sg) (t0 : Int32) (t1 : Int32) (a0 : Nat) (x1 : Int32) (x2 : Int32) (x4 : Int32) : Option ((Sg × Int32 × Int32) ⊕ (Sg × Int32)) :=
  nm (t1 ||| t0) fun v8 =>
  some (.inl (s0, v8, (x4 + (1 : Int32))))
theorem bX10_prints_50 {G : Cx} {E : Ev} {n : Nat} (hRm : 3 ≤ E.1.frames ∧ 68 ≤ E.1.locals) {s0 : Sg} {t0 : Int32} {t1 : Int32} {a0 : Nat} {x1 : Int32} {x2 : Int32} {x4 : Int32} {P : (Sg × Int32 × Int32) ⊕ (Sg × Int32) → Prop} (hC : ∀ (s : Sg) (c3 : Int32) (c4 : Int32), P (.inl (s, c3, c4)) → BW G tX10_prints E 0 0 16 [(0, .ref a0), (1, .int x1), (2, .int x2), (3, .int c3), (4, .int c4)] [] s) (hE : ∀ (s : Sg) (c3 : Int32), P (.inr (s, c3)) → BW G tX10_prints E 0 0 58 [(3, .int c3)] [] s)  (h : Ok (mX10_prints_50 n s0 t0 t1 a0 x1 x2 x4) P) : BW G tX10_prints E 0 0 50 [(0, .ref a0), (1, .int x1), (2, .int x2), (4, .int x4)] [.int t0, .int t1] s0 := by
  unfold mX10_prints_50 at h
  refine BW.run [.ior] (pc' := 51) (lv' := [(0, .ref a0), (1, .int x1), (2, .int x2), (4, .int x4)]) (st' := [.int (t1 ||| t0)]) (by decide +kernel) rfl rfl ?_
  obtain ⟨v8, wv8, h⟩ := Ok.nm h
  refine BW.nm wv8 ?_
  refine BW.run [.istore_n 3, .iinc 4 1] (pc' := 55) (lv' := [(0, .ref a0), (1, .int x1), (2, .int x2), (3, .int v8), (4, .int (x4 + (1 : Int32)))]) (st' := []) (by decide +kernel) rfl rfl ?_
  refine BW.goto 16 (by decide +kernel : decode tX10_prints.2.1 55 = .ok (.goto (-39), 3)) (by decide) ?_
  exact hC _ _ _ (Ok.some h)
def mX10_prints_L16 (n : Nat) (a0 : Nat) (x1 : Int32) (x2 : Int32) : (Sg × Int32 × Int32) → Option ((Sg × Int32 × Int32) ⊕ (Sg × Int32))
  | (s0, x3, x4) =>
    (toI (gV 10 s0 a0 20)).bind fun v4 =>
    if v4 ≤ x4 then (
      some (.inr (s0, x3))
    ) else (
      (mX10_latestIn n s0 a0 x4 (((16 : Int32) * x2) + x1)).bind fun (v6, s5) =>
      if v6 = (-1 : Int32) then (
        mX10_prints_50 n s5 (0 : Int32) x3 a0 x1 x2 x4
      ) else (
        mX10_prints_50 n s5 ((1 : Int32) <<< (x4 &&& 31)) x3 a0 x1 x2 x4
      )
    )
theorem bX10_prints_L16 {G : Cx} {E : Ev} {n : Nat} (hRm : 3 ≤ E.1.frames ∧ 68 ≤ E.1.locals) {a0 : Nat} {x1 : Int32} {x2 : Int32} {P : (Sg × Int32 × Int32) ⊕ (Sg × Int32) → Prop} (hC : ∀ (s : Sg) (c3 : Int32) (c4 : Int32), P (.inl (s, c3, c4)) → BW G tX10_prints E 0 0 16 [(0, .ref a0), (1, .int x1), (2, .int x2), (3, .int c3), (4, .int c4)] [] s) (hE : ∀ (s : Sg) (c3 : Int32), P (.inr (s, c3)) → BW G tX10_prints E 0 0 58 [(3, .int c3)] [] s) {s0 : Sg} {x3 : Int32} {x4 : Int32} (h : Ok (mX10_prints_L16 n a0 x1 x2 (s0, x3, x4)) P) : BW G tX10_prints E 0 0 16 [(0, .ref a0), (1, .int x1), (2, .int x2), (3, .int x3), (4, .int x4)] [] s0 := by
  unfold mX10_prints_L16 at h
  refine BW.run [.iload 4, .aload_n 0] (pc' := 19) (lv' := [(0, .ref a0), (1, .int x1), (2, .int x2), (3, .int x3), (4, .int x4)]) (st' := [.ref a0, .int x4]) (by decide +kernel) rfl rfl ?_
  obtain ⟨v4, ev4, h⟩ := Ok.bind h
  refine BW.get (by decide +kernel : decode tX10_prints.2.1 19 = .ok (.getfield 165, 3)) ciX10 (k := 20) (by decide) lkF_X10_165 (toI_V ev4) ?_
  refine BW.icmp_ge 58 (by decide +kernel : decode tX10_prints.2.1 22 = .ok (.if_icmp .ge 36, 3)) (by decide) (fun hc => ?_) (fun hc => ?_)
  · have h := (Ok.ite h).1 hc
    refine BW.sub [3] rfl ?_
    exact hE _ _ (Ok.some h)
  · have h := (Ok.ite h).2 hc
    refine BW.run [.iload_n 3, .aload_n 0, .iload 4, .bipush 16, .iload_n 2, .imul, .iload_n 1, .iadd] (pc' := 35) (lv' := [(0, .ref a0), (1, .int x1), (2, .int x2), (3, .int x3), (4, .int x4)]) (st' := [.int (((16 : Int32) * x2) + x1), .int x4, .ref a0, .int x3]) (by decide +kernel) rfl rfl ?_
    refine BW.callV (As := [.int x4, .int (((16 : Int32) * x2) + x1)]) (st := [.int x3]) (by decide +kernel : decode tX10_prints.2.1 35 = .ok (.invokevirtual 181, 3)) (DX10_latestIn (Ok.bindK h)) mfX10_latestIn lkM_X10_181 imX10_latestIn selX10_latestIn ciX10 (oX10_latestIn (Ok.bindK h)).choose_spec rfl rfl (Nat.le_of_ble_eq_true rfl) ⟨Nat.le_trans (by decide) hRm.1, Nat.le_trans (by decide) hRm.2⟩ ⟨Nat.zero_le _, Nat.zero_le _⟩ ?_
    rintro _ s5 ⟨v6, rfl, h⟩
    show BW G tX10_prints E 0 0 38 [(0, .ref a0), (1, .int x1), (2, .int x2), (3, .int x3), (4, .int x4)] [.int v6, .int x3] s5
    refine BW.run [.iconst (-1)] (pc' := 39) (lv' := [(0, .ref a0), (1, .int x1), (2, .int x2), (3, .int x3), (4, .int x4)]) (st' := [.int (-1 : Int32), .int v6, .int x3]) (by decide +kernel) rfl rfl ?_
    refine BW.icmp_eq 49 (by decide +kernel : decode tX10_prints.2.1 39 = .ok (.if_icmp .eq 10, 3)) (by decide) (fun hc => ?_) (fun hc => ?_)
    · have h := (Ok.ite h).1 hc
      refine BW.run [.iconst 0] (pc' := 50) (lv' := [(0, .ref a0), (1, .int x1), (2, .int x2), (3, .int x3), (4, .int x4)]) (st' := [.int (0 : Int32), .int x3]) (by decide +kernel) rfl rfl ?_
      refine BW.sub [0, 1, 2, 4] rfl ?_
      exact bX10_prints_50 hRm hC hE h
    · have h := (Ok.ite h).2 hc
      refine BW.run [.iconst 1, .iload 4, .ishl] (pc' := 46) (lv' := [(0, .ref a0), (1, .int x1), (2, .int x2), (3, .int x3), (4, .int x4)]) (st' := [.int ((1 : Int32) <<< (x4 &&& 31)), .int x3]) (by decide +kernel) rfl rfl ?_
      refine BW.goto 50 (by decide +kernel : decode tX10_prints.2.1 46 = .ok (.goto 4, 3)) (by decide) ?_
      refine BW.sub [0, 1, 2, 4] rfl ?_
      exact bX10_prints_50 hRm hC hE h
theorem bX10_prints_W16 {G : Cx} {E : Ev} {n : Nat} (hRm : 3 ≤ E.1.frames ∧ 68 ≤ E.1.locals) {a0 : Nat} {x1 : Int32} {x2 : Int32} {K : (Sg × Int32) → Prop} (hE : ∀ (s : Sg) (c3 : Int32), K (s, c3) → BW G tX10_prints E 0 0 58 [(3, .int c3)] [] s) : ∀ (f : Nat) (c : Sg × Int32 × Int32), Ok (loopM (mX10_prints_L16 n a0 x1 x2) f c) K → match c with | (s0, x3, x4) => BW G tX10_prints E 0 0 16 [(0, .ref a0), (1, .int x1), (2, .int x2), (3, .int x3), (4, .int x4)] [] s0 := by
  intro f
  induction f with
  | zero => intro c h; exact (Ok.no h).elim
  | succ f ih =>
    intro c h
    obtain ⟨s0, x3, x4⟩ := c
    exact bX10_prints_L16 (P := loopP (mX10_prints_L16 n a0 x1 x2) f K) hRm (fun s c3 c4 h => ih (s, c3, c4) h) hE (loopM_ok h)
def mX10_prints (n : Nat) (s0 : Sg) (a0 : Nat) (x1 : Int32) (x2 : Int32) : Option (Int32 × Sg) :=
  (isO 10 s0 a0).bind fun _ =>
  (mX10_isCell n s0 a0 x1 x2).bind fun (v2, s1) =>
  if v2 = 0 then (
    some ((-1 : Int32), s1)
  ) else (
    (loopM (mX10_prints_L16 n a0 x1 x2) n (s1, (0 : Int32), (0 : Int32))).bind fun (s9, v10) =>
    some (v10, s9)
  )
theorem bX10_prints {G : Cx} {E : Ev} {n : Nat} (hRm : 3 ≤ E.1.frames ∧ 68 ≤ E.1.locals) {P : Int32 × Sg → Prop} (hQ : ∀ r s, P (r, s) → E.2.2.2.2 (some (.int r)) s) {s0 : Sg} {a0 : Nat} {x1 : Int32} {x2 : Int32} (h : Ok (mX10_prints n s0 a0 x1 x2) P) : BW G tX10_prints E 0 0 0 [(0, .ref a0), (1, .int x1), (2, .int x2)] [] s0 := by
  unfold mX10_prints at h
  obtain ⟨_, _, h⟩ := Ok.bind h
  refine BW.run [.aload_n 0, .iload_n 1, .iload_n 2] (pc' := 3) (lv' := [(0, .ref a0), (1, .int x1), (2, .int x2)]) (st' := [.int x2, .int x1, .ref a0]) (by decide +kernel) rfl rfl ?_
  refine BW.callV (As := [.int x1, .int x2]) (st := []) (by decide +kernel : decode tX10_prints.2.1 3 = .ok (.invokevirtual 178, 3)) (DX10_isCell (Ok.bindK h)) mfX10_isCell lkM_X10_178 imX10_isCell selX10_isCell ciX10 (oX10_isCell (Ok.bindK h)).choose_spec rfl rfl (Nat.le_of_ble_eq_true rfl) ⟨Nat.le_trans (by decide) hRm.1, Nat.le_trans (by decide) hRm.2⟩ ⟨Nat.zero_le _, Nat.zero_le _⟩ ?_
  rintro _ s1 ⟨v2, rfl, h⟩
  show BW G tX10_prints E 0 0 6 [(0, .ref a0), (1, .int x1), (2, .int x2)] [.int v2] s1
  refine BW.if_ne 11 (by decide +kernel : decode tX10_prints.2.1 6 = .ok (.ifCond .ne 5, 3)) (by decide) (fun hc => ?_) (fun hc => ?_)
  · have h := (Ok.ite h).2 hc
    refine BW.run [.iconst 0, .istore_n 3, .iconst 0, .istore 4] (pc' := 16) (lv' := [(0, .ref a0), (1, .int x1), (2, .int x2), (3, .int (0 : Int32)), (4, .int (0 : Int32))]) (st' := []) (by decide +kernel) rfl rfl ?_
    refine bX10_prints_W16 hRm (a0 := a0) (x1 := x1) (x2 := x2) (fun s9 v10 h => ?_) n (s1, (0 : Int32), (0 : Int32)) (Ok.bindK h)
    refine BW.run [.iload_n 3] (pc' := 59) (lv' := [(3, .int v10)]) (st' := [.int v10]) (by decide +kernel) rfl rfl ?_
    exact BW.iret (by decide +kernel : decode tX10_prints.2.1 59 = .ok (.ireturn, 1)) rfl (Nat.zero_le _) (Nat.zero_le _) (hQ _ _ (Ok.some h))
  · have h := (Ok.ite h).1 hc
    refine BW.run [.iconst (-1)] (pc' := 10) (lv' := [(0, .ref a0), (1, .int x1), (2, .int x2)]) (st' := [.int (-1 : Int32)]) (by decide +kernel) rfl rfl ?_
    exact BW.iret (by decide +kernel : decode tX10_prints.2.1 10 = .ok (.ireturn, 1)) rfl (Nat.zero_le _) (Nat.zero_le _) (hQ _ _ (Ok.some h))
theorem oX10_prints {n : Nat} {P : Int32 × Sg → Prop} {s0 : Sg} {a0 : Nat} {x1 : Int32} {x2 : Int32} (h : Ok (mX10_prints n s0 a0 x1 x2) P) : ∃ n0, s0.2.1 a0 = some (10, n0) := by
  unfold mX10_prints at h
  exact Ok.isO h
theorem DX10_prints {G : Cx} {n : Nat} {P : Int32 × Sg → Prop} {s0 : Sg} {a0 : Nat} {x1 : Int32} {x2 : Int32} (h : Ok (mX10_prints n s0 a0 x1 x2) P) : BM G tX10_prints 3 68 0 0 [.ref a0, .int x1, .int x2] s0 (fun v s => ∃ r, v = some (.int r) ∧ P (r, s)) := by
  refine BM.of (by decide +kernel) (Nat.le_of_ble_eq_true rfl) ?_
  exact bX10_prints (E := (({ frames := 3, cells := 0, slots := 0, locals := 68 }), Aof s0, 0, 0, (fun v s => ∃ r, v = some (.int r) ∧ P (r, s)))) ⟨Nat.le_refl _, Nat.le_refl _⟩ (fun r s hp => ⟨r, rfl, hp⟩) h
def mX10_photo_101 (n : Nat) (s0 : Sg) (a0 : Nat) (x1 : Int32) (x2 : Int32) (x3 : Int32) (x4 : Int32) (x6 : Int32) : Option ((Sg × Int32) ⊕ (Sg)) :=
  some (.inl (s0, (x6 + (1 : Int32))))
theorem bX10_photo_101 {G : Cx} {E : Ev} {n : Nat} (hRm : 7 ≤ E.1.frames ∧ 165 ≤ E.1.locals) {s0 : Sg} {a0 : Nat} {x1 : Int32} {x2 : Int32} {x3 : Int32} {x4 : Int32} {x6 : Int32} {P : (Sg × Int32) ⊕ (Sg) → Prop} (hC : ∀ (s : Sg) (c6 : Int32), P (.inl (s, c6)) → BW G tX10_photo E 0 0 61 [(0, .ref a0), (1, .int x1), (2, .int x2), (3, .int x3), (4, .int x4), (6, .int c6)] [] s) (hE : ∀ (s : Sg), P (.inr s) → BW G tX10_photo E 0 0 107 [(0, .ref a0)] [] s)  (h : Ok (mX10_photo_101 n s0 a0 x1 x2 x3 x4 x6) P) : BW G tX10_photo E 0 0 101 [(0, .ref a0), (1, .int x1), (2, .int x2), (3, .int x3), (4, .int x4), (6, .int x6)] [] s0 := by
  unfold mX10_photo_101 at h
  refine BW.run [.iinc 6 1] (pc' := 104) (lv' := [(0, .ref a0), (1, .int x1), (2, .int x2), (3, .int x3), (4, .int x4), (6, .int (x6 + (1 : Int32)))]) (st' := []) (by decide +kernel) rfl rfl ?_
  refine BW.goto 61 (by decide +kernel : decode tX10_photo.2.1 104 = .ok (.goto (-43), 3)) (by decide) ?_
  exact hC _ _ (Ok.some h)
def mX10_photo_L61 (n : Nat) (a0 : Nat) (x1 : Int32) (x2 : Int32) (x3 : Int32) (x4 : Int32) : (Sg × Int32) → Option ((Sg × Int32) ⊕ (Sg))
  | (s0, x6) =>
    (toI (gV 10 s0 a0 20)).bind fun v18 =>
    if v18 ≤ x6 then (
      some (.inr s0)
    ) else (
      if x6 = x2 then (
        mX10_photo_101 n s0 a0 x1 x2 x3 x4 x6
      ) else (
        (mX10_hasLatest n s0 a0 x6 x3 x4).bind fun (v20, s19) =>
        if v20 = 0 then (
          mX10_photo_101 n s19 a0 x1 x2 x3 x4 x6
        ) else (
          (mX10_fact n s19 a0 x1 (0 : Int32) x2 x6 x3 x4).bind fun (v23, s22) =>
          mX10_photo_101 n s22 a0 x1 x2 x3 x4 x6
        )
      )
    )
theorem bX10_photo_L61 {G : Cx} {E : Ev} {n : Nat} (hRm : 7 ≤ E.1.frames ∧ 165 ≤ E.1.locals) {a0 : Nat} {x1 : Int32} {x2 : Int32} {x3 : Int32} {x4 : Int32} {P : (Sg × Int32) ⊕ (Sg) → Prop} (hC : ∀ (s : Sg) (c6 : Int32), P (.inl (s, c6)) → BW G tX10_photo E 0 0 61 [(0, .ref a0), (1, .int x1), (2, .int x2), (3, .int x3), (4, .int x4), (6, .int c6)] [] s) (hE : ∀ (s : Sg), P (.inr s) → BW G tX10_photo E 0 0 107 [(0, .ref a0)] [] s) {s0 : Sg} {x6 : Int32} (h : Ok (mX10_photo_L61 n a0 x1 x2 x3 x4 (s0, x6)) P) : BW G tX10_photo E 0 0 61 [(0, .ref a0), (1, .int x1), (2, .int x2), (3, .int x3), (4, .int x4), (6, .int x6)] [] s0 := by
  unfold mX10_photo_L61 at h
  refine BW.run [.iload 6, .aload_n 0] (pc' := 64) (lv' := [(0, .ref a0), (1, .int x1), (2, .int x2), (3, .int x3), (4, .int x4), (6, .int x6)]) (st' := [.ref a0, .int x6]) (by decide +kernel) rfl rfl ?_
  obtain ⟨v18, ev18, h⟩ := Ok.bind h
  refine BW.get (by decide +kernel : decode tX10_photo.2.1 64 = .ok (.getfield 165, 3)) ciX10 (k := 20) (by decide) lkF_X10_165 (toI_V ev18) ?_
  refine BW.icmp_ge 107 (by decide +kernel : decode tX10_photo.2.1 67 = .ok (.if_icmp .ge 40, 3)) (by decide) (fun hc => ?_) (fun hc => ?_)
  · have h := (Ok.ite h).1 hc
    refine BW.sub [0] rfl ?_
    exact hE _ (Ok.some h)
  · have h := (Ok.ite h).2 hc
    refine BW.run [.iload 6, .iload_n 2] (pc' := 73) (lv' := [(0, .ref a0), (1, .int x1), (2, .int x2), (3, .int x3), (4, .int x4), (6, .int x6)]) (st' := [.int x2, .int x6]) (by decide +kernel) rfl rfl ?_
    refine BW.icmp_eq 101 (by decide +kernel : decode tX10_photo.2.1 73 = .ok (.if_icmp .eq 28, 3)) (by decide) (fun hc => ?_) (fun hc => ?_)
    · have h := (Ok.ite h).1 hc
      exact bX10_photo_101 hRm hC hE h
    · have h := (Ok.ite h).2 hc
      refine BW.run [.aload_n 0, .iload 6, .iload_n 3, .iload 4] (pc' := 82) (lv' := [(0, .ref a0), (1, .int x1), (2, .int x2), (3, .int x3), (4, .int x4), (6, .int x6)]) (st' := [.int x4, .int x3, .int x6, .ref a0]) (by decide +kernel) rfl rfl ?_
      refine BW.callV (As := [.int x6, .int x3, .int x4]) (st := []) (by decide +kernel : decode tX10_photo.2.1 82 = .ok (.invokevirtual 187, 3)) (DX10_hasLatest (Ok.bindK h)) mfX10_hasLatest lkM_X10_187 imX10_hasLatest selX10_hasLatest ciX10 (oX10_hasLatest (Ok.bindK h)).choose_spec rfl rfl (Nat.le_of_ble_eq_true rfl) ⟨Nat.le_trans (by decide) hRm.1, Nat.le_trans (by decide) hRm.2⟩ ⟨Nat.zero_le _, Nat.zero_le _⟩ ?_
      rintro _ s19 ⟨v20, rfl, h⟩
      show BW G tX10_photo E 0 0 85 [(0, .ref a0), (1, .int x1), (2, .int x2), (3, .int x3), (4, .int x4), (6, .int x6)] [.int v20] s19
      refine BW.if_eq 101 (by decide +kernel : decode tX10_photo.2.1 85 = .ok (.ifCond .eq 16, 3)) (by decide) (fun hc => ?_) (fun hc => ?_)
      · have h := (Ok.ite h).1 hc
        exact bX10_photo_101 hRm hC hE h
      · have h := (Ok.ite h).2 hc
        refine BW.run [.aload_n 0, .iload_n 1, .iconst 0, .iload_n 2, .iload 6, .iload_n 3, .iload 4] (pc' := 97) (lv' := [(0, .ref a0), (1, .int x1), (2, .int x2), (3, .int x3), (4, .int x4), (6, .int x6)]) (st' := [.int x4, .int x3, .int x6, .int x2, .int (0 : Int32), .int x1, .ref a0]) (by decide +kernel) rfl rfl ?_
        refine BW.callV (As := [.int x1, .int (0 : Int32), .int x2, .int x6, .int x3, .int x4]) (st := []) (by decide +kernel : decode tX10_photo.2.1 97 = .ok (.invokevirtual 319, 3)) (DX10_fact (Ok.bindK h)) mfX10_fact lkM_X10_319 imX10_fact selX10_fact ciX10 (oX10_fact (Ok.bindK h)).choose_spec rfl rfl (Nat.le_of_ble_eq_true rfl) ⟨Nat.le_trans (by decide) hRm.1, Nat.le_trans (by decide) hRm.2⟩ ⟨Nat.zero_le _, Nat.zero_le _⟩ ?_
        rintro _ s22 ⟨v23, rfl, h⟩
        show BW G tX10_photo E 0 0 100 [(0, .ref a0), (1, .int x1), (2, .int x2), (3, .int x3), (4, .int x4), (6, .int x6)] [.int v23] s22
        refine BW.run [.pop] (pc' := 101) (lv' := [(0, .ref a0), (1, .int x1), (2, .int x2), (3, .int x3), (4, .int x4), (6, .int x6)]) (st' := []) (by decide +kernel) rfl rfl ?_
        exact bX10_photo_101 hRm hC hE h
theorem bX10_photo_W61 {G : Cx} {E : Ev} {n : Nat} (hRm : 7 ≤ E.1.frames ∧ 165 ≤ E.1.locals) {a0 : Nat} {x1 : Int32} {x2 : Int32} {x3 : Int32} {x4 : Int32} {K : (Sg) → Prop} (hE : ∀ (s : Sg), K s → BW G tX10_photo E 0 0 107 [(0, .ref a0)] [] s) : ∀ (f : Nat) (c : Sg × Int32), Ok (loopM (mX10_photo_L61 n a0 x1 x2 x3 x4) f c) K → match c with | (s0, x6) => BW G tX10_photo E 0 0 61 [(0, .ref a0), (1, .int x1), (2, .int x2), (3, .int x3), (4, .int x4), (6, .int x6)] [] s0 := by
  intro f
  induction f with
  | zero => intro c h; exact (Ok.no h).elim
  | succ f ih =>
    intro c h
    obtain ⟨s0, x6⟩ := c
    exact bX10_photo_L61 (P := loopP (mX10_photo_L61 n a0 x1 x2 x3 x4) f K) hRm (fun s c6 h => ih (s, c6) h) hE (loopM_ok h)
def mX10_photo (n : Nat) (s0 : Sg) (a0 : Nat) (x1 : Int32) (x2 : Int32) (x3 : Int32) (x4 : Int32) : Option (Int32 × Sg) :=
  (isO 10 s0 a0).bind fun _ =>
  (mX10_in n s0 x1 (-1 : Int32) (5 : Int32)).bind fun (v2, s1) =>
  if v2 = 0 then (
    some ((-1 : Int32), s1)
  ) else (
    (mX10_isWalk n s1 a0 x2).bind fun (v5, s4) =>
    if v5 = 0 then (
      some ((-1 : Int32), s4)
    ) else (
      (mX10_hasLatest n s4 a0 x2 x3 x4).bind fun (v8, s7) =>
      if v8 = 0 then (
        some ((-1 : Int32), s7)
      ) else (
        (mX10_prints n s7 a0 x3 x4).bind fun (v11, s10) =>
        (mJ_bitCount n s10 v11).bind fun (v14, s13) =>
        nm (v14 - (1 : Int32)) fun v16 =>
        (toI (gV 10 s13 a0 27)).bind fun v17 =>
        if (v17 + v16) ≤ (20 : Int32) then (
          (loopM (mX10_photo_L61 n a0 x1 x2 x3 x4) n (s13, (0 : Int32))).bind fun s25 =>
          (toI (gV 10 s25 a0 27)).bind fun v27 =>
          some (v27, s25)
        ) else (
          some ((-1 : Int32), s13)
        )
      )
    )
  )
theorem bX10_photo {G : Cx} {E : Ev} {n : Nat} (hRm : 7 ≤ E.1.frames ∧ 165 ≤ E.1.locals) {P : Int32 × Sg → Prop} (hQ : ∀ r s, P (r, s) → E.2.2.2.2 (some (.int r)) s) {s0 : Sg} {a0 : Nat} {x1 : Int32} {x2 : Int32} {x3 : Int32} {x4 : Int32} (h : Ok (mX10_photo n s0 a0 x1 x2 x3 x4) P) : BW G tX10_photo E 0 0 0 [(0, .ref a0), (1, .int x1), (2, .int x2), (3, .int x3), (4, .int x4)] [] s0 := by
  unfold mX10_photo at h
  obtain ⟨_, _, h⟩ := Ok.bind h
  refine BW.run [.iload_n 1, .iconst (-1), .iconst 5] (pc' := 3) (lv' := [(0, .ref a0), (1, .int x1), (2, .int x2), (3, .int x3), (4, .int x4)]) (st' := [.int (5 : Int32), .int (-1 : Int32), .int x1]) (by decide +kernel) rfl rfl ?_
  refine BW.callS (As := [.int x1, .int (-1 : Int32), .int (5 : Int32)]) (st := []) (by decide +kernel : decode tX10_photo.2.1 3 = .ok (.invokestatic 147, 3)) (DX10_in (Ok.bindK h)) mfX10_in lkM_X10_147 smX10_in rfl rfl (Nat.le_of_ble_eq_true rfl) ⟨Nat.le_trans (by decide) hRm.1, Nat.le_trans (by decide) hRm.2⟩ ⟨Nat.zero_le _, Nat.zero_le _⟩ ?_
  rintro _ s1 ⟨v2, rfl, h⟩
  show BW G tX10_photo E 0 0 6 [(0, .ref a0), (1, .int x1), (2, .int x2), (3, .int x3), (4, .int x4)] [.int v2] s1
  refine BW.if_eq 28 (by decide +kernel : decode tX10_photo.2.1 6 = .ok (.ifCond .eq 22, 3)) (by decide) (fun hc => ?_) (fun hc => ?_)
  · have h := (Ok.ite h).1 hc
    refine BW.run [.iconst (-1)] (pc' := 29) (lv' := [(0, .ref a0), (1, .int x1), (2, .int x2), (3, .int x3), (4, .int x4)]) (st' := [.int (-1 : Int32)]) (by decide +kernel) rfl rfl ?_
    exact BW.iret (by decide +kernel : decode tX10_photo.2.1 29 = .ok (.ireturn, 1)) rfl (Nat.zero_le _) (Nat.zero_le _) (hQ _ _ (Ok.some h))
  · have h := (Ok.ite h).2 hc
    refine BW.run [.aload_n 0, .iload_n 2] (pc' := 11) (lv' := [(0, .ref a0), (1, .int x1), (2, .int x2), (3, .int x3), (4, .int x4)]) (st' := [.int x2, .ref a0]) (by decide +kernel) rfl rfl ?_
    refine BW.callV (As := [.int x2]) (st := []) (by decide +kernel : decode tX10_photo.2.1 11 = .ok (.invokevirtual 171, 3)) (DX10_isWalk (Ok.bindK h)) mfX10_isWalk lkM_X10_171 imX10_isWalk selX10_isWalk ciX10 (oX10_isWalk (Ok.bindK h)).choose_spec rfl rfl (Nat.le_of_ble_eq_true rfl) ⟨Nat.le_trans (by decide) hRm.1, Nat.le_trans (by decide) hRm.2⟩ ⟨Nat.zero_le _, Nat.zero_le _⟩ ?_
    rintro _ s4 ⟨v5, rfl, h⟩
    show BW G tX10_photo E 0 0 14 [(0, .ref a0), (1, .int x1), (2, .int x2), (3, .int x3), (4, .int x4)] [.int v5] s4
    refine BW.if_eq 28 (by decide +kernel : decode tX10_photo.2.1 14 = .ok (.ifCond .eq 14, 3)) (by decide) (fun hc => ?_) (fun hc => ?_)
    · have h := (Ok.ite h).1 hc
      refine BW.run [.iconst (-1)] (pc' := 29) (lv' := [(0, .ref a0), (1, .int x1), (2, .int x2), (3, .int x3), (4, .int x4)]) (st' := [.int (-1 : Int32)]) (by decide +kernel) rfl rfl ?_
      exact BW.iret (by decide +kernel : decode tX10_photo.2.1 29 = .ok (.ireturn, 1)) rfl (Nat.zero_le _) (Nat.zero_le _) (hQ _ _ (Ok.some h))
    · have h := (Ok.ite h).2 hc
      refine BW.run [.aload_n 0, .iload_n 2, .iload_n 3, .iload 4] (pc' := 22) (lv' := [(0, .ref a0), (1, .int x1), (2, .int x2), (3, .int x3), (4, .int x4)]) (st' := [.int x4, .int x3, .int x2, .ref a0]) (by decide +kernel) rfl rfl ?_
      refine BW.callV (As := [.int x2, .int x3, .int x4]) (st := []) (by decide +kernel : decode tX10_photo.2.1 22 = .ok (.invokevirtual 187, 3)) (DX10_hasLatest (Ok.bindK h)) mfX10_hasLatest lkM_X10_187 imX10_hasLatest selX10_hasLatest ciX10 (oX10_hasLatest (Ok.bindK h)).choose_spec rfl rfl (Nat.le_of_ble_eq_true rfl) ⟨Nat.le_trans (by decide) hRm.1, Nat.le_trans (by decide) hRm.2⟩ ⟨Nat.zero_le _, Nat.zero_le _⟩ ?_
      rintro _ s7 ⟨v8, rfl, h⟩
      show BW G tX10_photo E 0 0 25 [(0, .ref a0), (1, .int x1), (2, .int x2), (3, .int x3), (4, .int x4)] [.int v8] s7
      refine BW.if_ne 30 (by decide +kernel : decode tX10_photo.2.1 25 = .ok (.ifCond .ne 5, 3)) (by decide) (fun hc => ?_) (fun hc => ?_)
      · have h := (Ok.ite h).2 hc
        refine BW.run [.aload_n 0, .iload_n 3, .iload 4] (pc' := 34) (lv' := [(0, .ref a0), (1, .int x1), (2, .int x2), (3, .int x3), (4, .int x4)]) (st' := [.int x4, .int x3, .ref a0]) (by decide +kernel) rfl rfl ?_
        refine BW.callV (As := [.int x3, .int x4]) (st := []) (by decide +kernel : decode tX10_photo.2.1 34 = .ok (.invokevirtual 316, 3)) (DX10_prints (Ok.bindK h)) mfX10_prints lkM_X10_316 imX10_prints selX10_prints ciX10 (oX10_prints (Ok.bindK h)).choose_spec rfl rfl (Nat.le_of_ble_eq_true rfl) ⟨Nat.le_trans (by decide) hRm.1, Nat.le_trans (by decide) hRm.2⟩ ⟨Nat.zero_le _, Nat.zero_le _⟩ ?_
        rintro _ s10 ⟨v11, rfl, h⟩
        show BW G tX10_photo E 0 0 37 [(0, .ref a0), (1, .int x1), (2, .int x2), (3, .int x3), (4, .int x4)] [.int v11] s10
        refine BW.callS (As := [.int v11]) (st := []) (by decide +kernel : decode tX10_photo.2.1 37 = .ok (.invokestatic 227, 3)) (DJ_bitCount (Ok.bindK h)) mfJ_bitCount lkM_X10_227 smJ_bitCount rfl rfl (Nat.le_of_ble_eq_true rfl) ⟨Nat.le_trans (by decide) hRm.1, Nat.le_trans (by decide) hRm.2⟩ ⟨Nat.zero_le _, Nat.zero_le _⟩ ?_
        rintro _ s13 ⟨v14, rfl, h⟩
        show BW G tX10_photo E 0 0 40 [(0, .ref a0), (1, .int x1), (2, .int x2), (3, .int x3), (4, .int x4)] [.int v14] s13
        refine BW.run [.iconst 1, .isub] (pc' := 42) (lv' := [(0, .ref a0), (1, .int x1), (2, .int x2), (3, .int x3), (4, .int x4)]) (st' := [.int (v14 - (1 : Int32))]) (by decide +kernel) rfl rfl ?_
        obtain ⟨v16, wv16, h⟩ := Ok.nm h
        refine BW.nm wv16 ?_
        refine BW.run [.istore 5, .aload_n 0] (pc' := 45) (lv' := [(0, .ref a0), (1, .int x1), (2, .int x2), (3, .int x3), (4, .int x4), (5, .int v16)]) (st' := [.ref a0]) (by decide +kernel) rfl rfl ?_
        obtain ⟨v17, ev17, h⟩ := Ok.bind h
        refine BW.get (by decide +kernel : decode tX10_photo.2.1 45 = .ok (.getfield 194, 3)) ciX10 (k := 27) (by decide) lkF_X10_194 (toI_V ev17) ?_
        refine BW.run [.iload 5, .iadd, .bipush 20] (pc' := 53) (lv' := [(0, .ref a0), (1, .int x1), (2, .int x2), (3, .int x3), (4, .int x4), (5, .int v16)]) (st' := [.int (20 : Int32), .int (v17 + v16)]) (by decide +kernel) rfl rfl ?_
        refine BW.icmp_le 58 (by decide +kernel : decode tX10_photo.2.1 53 = .ok (.if_icmp .le 5, 3)) (by decide) (fun hc => ?_) (fun hc => ?_)
        · have h := (Ok.ite h).1 hc
          refine BW.run [.iconst 0, .istore 6] (pc' := 61) (lv' := [(0, .ref a0), (1, .int x1), (2, .int x2), (3, .int x3), (4, .int x4), (5, .int v16), (6, .int (0 : Int32))]) (st' := []) (by decide +kernel) rfl rfl ?_
          refine BW.sub [0, 1, 2, 3, 4, 6] rfl ?_
          refine bX10_photo_W61 hRm (a0 := a0) (x1 := x1) (x2 := x2) (x3 := x3) (x4 := x4) (fun s25 h => ?_) n (s13, (0 : Int32)) (Ok.bindK h)
          refine BW.run [.aload_n 0] (pc' := 108) (lv' := [(0, .ref a0)]) (st' := [.ref a0]) (by decide +kernel) rfl rfl ?_
          obtain ⟨v27, ev27, h⟩ := Ok.bind h
          refine BW.get (by decide +kernel : decode tX10_photo.2.1 108 = .ok (.getfield 194, 3)) ciX10 (k := 27) (by decide) lkF_X10_194 (toI_V ev27) ?_
          exact BW.iret (by decide +kernel : decode tX10_photo.2.1 111 = .ok (.ireturn, 1)) rfl (Nat.zero_le _) (Nat.zero_le _) (hQ _ _ (Ok.some h))
        · have h := (Ok.ite h).2 hc
          refine BW.run [.iconst (-1)] (pc' := 57) (lv' := [(0, .ref a0), (1, .int x1), (2, .int x2), (3, .int x3), (4, .int x4), (5, .int v16)]) (st' := [.int (-1 : Int32)]) (by decide +kernel) rfl rfl ?_
          exact BW.iret (by decide +kernel : decode tX10_photo.2.1 57 = .ok (.ireturn, 1)) rfl (Nat.zero_le _) (Nat.zero_le _) (hQ _ _ (Ok.some h))
      · have h := (Ok.ite h).1 hc
        refine BW.run [.iconst (-1)] (pc' := 29) (lv' := [(0, .ref a0), (1, .int x1), (2, .int x2), (3, .int x3), (4, .int x4)]) (st' := [.int (-1 : Int32)]) (by decide +kernel) rfl rfl ?_
        exact BW.iret (by decide +kernel : decode tX10_photo.2.1 29 = .ok (.ireturn, 1)) rfl (Nat.zero_le _) (Nat.zero_le _) (hQ _ _ (Ok.some h))
theorem oX10_photo {n : Nat} {P : Int32 × Sg → Prop} {s0 : Sg} {a0 : Nat} {x1 : Int32} {x2 : Int32} {x3 : Int32} {x4 : Int32} (h : Ok (mX10_photo n s0 a0 x1 x2 x3 x4) P) : ∃ n0, s0.2.1 a0 = some (10, n0) := by
  unfold mX10_photo at h
  exact Ok.isO h
theorem DX10_photo {G : Cx} {n : Nat} {P : Int32 × Sg → Prop} {s0 : Sg} {a0 : Nat} {x1 : Int32} {x2 : Int32} {x3 : Int32} {x4 : Int32} (h : Ok (mX10_photo n s0 a0 x1 x2 x3 x4) P) : BM G tX10_photo 7 165 0 0 [.ref a0, .int x1, .int x2, .int x3, .int x4] s0 (fun v s => ∃ r, v = some (.int r) ∧ P (r, s)) := by
  refine BM.of (by decide +kernel) (Nat.le_of_ble_eq_true rfl) ?_
  exact bX10_photo (E := (({ frames := 7, cells := 0, slots := 0, locals := 165 }), Aof s0, 0, 0, (fun v s => ∃ r, v = some (.int r) ∧ P (r, s)))) ⟨Nat.le_refl _, Nat.le_refl _⟩ (fun r s hp => ⟨r, rfl, hp⟩) h
def mX10_settle_L20 (n : Nat) (a0 : Nat) : (Sg × Int32) → Option ((Sg × Int32) ⊕ (Sg))
  | (s0, x2) =>
    (toI (gV 10 s0 a0 20)).bind fun v7 =>
    if v7 ≤ x2 then (
      some (.inr s0)
    ) else (
      (toR (gV 10 s0 a0 19)).bind fun b8 =>
      (mX10_low n s0 a0 x2).bind fun (v10, s9) =>
      (sV 11 s9 b8 x2 (.int v10)).bind fun s12 =>
      some (.inl (s12, (x2 + (1 : Int32))))
    )
theorem bX10_settle_L20 {G : Cx} {E : Ev} {n : Nat} (hRm : 8 ≤ E.1.frames ∧ 178 ≤ E.1.locals) {a0 : Nat} {P : (Sg × Int32) ⊕ (Sg) → Prop} (hC : ∀ (s : Sg) (c2 : Int32), P (.inl (s, c2)) → BW G tX10_settle E 0 0 20 [(0, .ref a0), (2, .int c2)] [] s) (hE : ∀ (s : Sg), P (.inr s) → BW G tX10_settle E 0 0 45 [] [] s) {s0 : Sg} {x2 : Int32} (h : Ok (mX10_settle_L20 n a0 (s0, x2)) P) : BW G tX10_settle E 0 0 20 [(0, .ref a0), (2, .int x2)] [] s0 := by
  unfold mX10_settle_L20 at h
  refine BW.run [.iload_n 2, .aload_n 0] (pc' := 22) (lv' := [(0, .ref a0), (2, .int x2)]) (st' := [.ref a0, .int x2]) (by decide +kernel) rfl rfl ?_
  obtain ⟨v7, ev7, h⟩ := Ok.bind h
  refine BW.get (by decide +kernel : decode tX10_settle.2.1 22 = .ok (.getfield 165, 3)) ciX10 (k := 20) (by decide) lkF_X10_165 (toI_V ev7) ?_
  refine BW.icmp_ge 45 (by decide +kernel : decode tX10_settle.2.1 25 = .ok (.if_icmp .ge 20, 3)) (by decide) (fun hc => ?_) (fun hc => ?_)
  · have h := (Ok.ite h).1 hc
    refine BW.sub [] rfl ?_
    exact hE _ (Ok.some h)
  · have h := (Ok.ite h).2 hc
    refine BW.run [.aload_n 0] (pc' := 29) (lv' := [(0, .ref a0), (2, .int x2)]) (st' := [.ref a0]) (by decide +kernel) rfl rfl ?_
    obtain ⟨b8, eb8, h⟩ := Ok.bind h
    refine BW.get (by decide +kernel : decode tX10_settle.2.1 29 = .ok (.getfield 40, 3)) ciX10 (k := 19) (by decide) lkF_X10_40 (toR_V eb8) ?_
    refine BW.run [.iload_n 2, .aload_n 0, .iload_n 2] (pc' := 35) (lv' := [(0, .ref a0), (2, .int x2)]) (st' := [.int x2, .ref a0, .int x2, .ref b8]) (by decide +kernel) rfl rfl ?_
    refine BW.callV (As := [.int x2]) (st := [.int x2, .ref b8]) (by decide +kernel : decode tX10_settle.2.1 35 = .ok (.invokevirtual 235, 3)) (DX10_low (Ok.bindK h)) mfX10_low lkM_X10_235 imX10_low selX10_low ciX10 (oX10_low (Ok.bindK h)).choose_spec rfl rfl (Nat.le_of_ble_eq_true rfl) ⟨Nat.le_trans (by decide) hRm.1, Nat.le_trans (by decide) hRm.2⟩ ⟨Nat.zero_le _, Nat.zero_le _⟩ ?_
    rintro _ s9 ⟨v10, rfl, h⟩
    show BW G tX10_settle E 0 0 38 [(0, .ref a0), (2, .int x2)] [.int v10, .int x2, .ref b8] s9
    obtain ⟨s12, es12, h⟩ := Ok.bind h
    refine BW.iast (by decide +kernel : decode tX10_settle.2.1 38 = .ok (.iastore, 1)) es12 ?_
    refine BW.run [.iinc 2 1] (pc' := 42) (lv' := [(0, .ref a0), (2, .int (x2 + (1 : Int32)))]) (st' := []) (by decide +kernel) rfl rfl ?_
    refine BW.goto 20 (by decide +kernel : decode tX10_settle.2.1 42 = .ok (.goto (-22), 3)) (by decide) ?_
    exact hC _ _ (Ok.some h)
theorem bX10_settle_W20 {G : Cx} {E : Ev} {n : Nat} (hRm : 8 ≤ E.1.frames ∧ 178 ≤ E.1.locals) {a0 : Nat} {K : (Sg) → Prop} (hE : ∀ (s : Sg), K s → BW G tX10_settle E 0 0 45 [] [] s) : ∀ (f : Nat) (c : Sg × Int32), Ok (loopM (mX10_settle_L20 n a0) f c) K → match c with | (s0, x2) => BW G tX10_settle E 0 0 20 [(0, .ref a0), (2, .int x2)] [] s0 := by
  intro f
  induction f with
  | zero => intro c h; exact (Ok.no h).elim
  | succ f ih =>
    intro c h
    obtain ⟨s0, x2⟩ := c
    exact bX10_settle_L20 (P := loopP (mX10_settle_L20 n a0) f K) hRm (fun s c2 h => ih (s, c2) h) hE (loopM_ok h)
def mX10_settle (n : Nat) (s0 : Sg) (a0 : Nat) (x1 : Int32) : Option (Int32 × Sg) :=
  (isO 10 s0 a0).bind fun _ =>
  (mX10_isSet n s0 a0 x1).bind fun (v2, s1) =>
  if v2 = 0 then (
    some ((0 : Int32), s1)
  ) else (
    (mX10_canBe n s1 a0 x1).bind fun (v5, s4) =>
    if v5 = 0 then (
      some ((0 : Int32), s4)
    ) else (
      (loopM (mX10_settle_L20 n a0) n (s4, (0 : Int32))).bind fun s13 =>
      some ((1 : Int32), s13)
    )
  )
theorem bX10_settle {G : Cx} {E : Ev} {n : Nat} (hRm : 8 ≤ E.1.frames ∧ 178 ≤ E.1.locals) {P : Int32 × Sg → Prop} (hQ : ∀ r s, P (r, s) → E.2.2.2.2 (some (.int r)) s) {s0 : Sg} {a0 : Nat} {x1 : Int32} (h : Ok (mX10_settle n s0 a0 x1) P) : BW G tX10_settle E 0 0 0 [(0, .ref a0), (1, .int x1)] [] s0 := by
  unfold mX10_settle at h
  obtain ⟨_, _, h⟩ := Ok.bind h
  refine BW.run [.aload_n 0, .iload_n 1] (pc' := 2) (lv' := [(0, .ref a0), (1, .int x1)]) (st' := [.int x1, .ref a0]) (by decide +kernel) rfl rfl ?_
  refine BW.callV (As := [.int x1]) (st := []) (by decide +kernel : decode tX10_settle.2.1 2 = .ok (.invokevirtual 221, 3)) (DX10_isSet (Ok.bindK h)) mfX10_isSet lkM_X10_221 imX10_isSet selX10_isSet ciX10 (oX10_isSet (Ok.bindK h)).choose_spec rfl rfl (Nat.le_of_ble_eq_true rfl) ⟨Nat.le_trans (by decide) hRm.1, Nat.le_trans (by decide) hRm.2⟩ ⟨Nat.zero_le _, Nat.zero_le _⟩ ?_
  rintro _ s1 ⟨v2, rfl, h⟩
  show BW G tX10_settle E 0 0 5 [(0, .ref a0), (1, .int x1)] [.int v2] s1
  refine BW.if_eq 16 (by decide +kernel : decode tX10_settle.2.1 5 = .ok (.ifCond .eq 11, 3)) (by decide) (fun hc => ?_) (fun hc => ?_)
  · have h := (Ok.ite h).1 hc
    refine BW.run [.iconst 0] (pc' := 17) (lv' := [(0, .ref a0), (1, .int x1)]) (st' := [.int (0 : Int32)]) (by decide +kernel) rfl rfl ?_
    exact BW.zret (by decide +kernel : decode tX10_settle.2.1 17 = .ok (.ireturn, 1)) rfl (Or.inl rfl) (Nat.zero_le _) (Nat.zero_le _) (hQ _ _ (Ok.some h))
  · have h := (Ok.ite h).2 hc
    refine BW.run [.aload_n 0, .iload_n 1] (pc' := 10) (lv' := [(0, .ref a0), (1, .int x1)]) (st' := [.int x1, .ref a0]) (by decide +kernel) rfl rfl ?_
    refine BW.callV (As := [.int x1]) (st := []) (by decide +kernel : decode tX10_settle.2.1 10 = .ok (.invokevirtual 224, 3)) (DX10_canBe (Ok.bindK h)) mfX10_canBe lkM_X10_224 imX10_canBe selX10_canBe ciX10 (oX10_canBe (Ok.bindK h)).choose_spec rfl rfl (Nat.le_of_ble_eq_true rfl) ⟨Nat.le_trans (by decide) hRm.1, Nat.le_trans (by decide) hRm.2⟩ ⟨Nat.zero_le _, Nat.zero_le _⟩ ?_
    rintro _ s4 ⟨v5, rfl, h⟩
    show BW G tX10_settle E 0 0 13 [(0, .ref a0), (1, .int x1)] [.int v5] s4
    refine BW.if_ne 18 (by decide +kernel : decode tX10_settle.2.1 13 = .ok (.ifCond .ne 5, 3)) (by decide) (fun hc => ?_) (fun hc => ?_)
    · have h := (Ok.ite h).2 hc
      refine BW.run [.iconst 0, .istore_n 2] (pc' := 20) (lv' := [(0, .ref a0), (1, .int x1), (2, .int (0 : Int32))]) (st' := []) (by decide +kernel) rfl rfl ?_
      refine BW.sub [0, 2] rfl ?_
      refine bX10_settle_W20 hRm (a0 := a0) (fun s13 h => ?_) n (s4, (0 : Int32)) (Ok.bindK h)
      refine BW.run [.iconst 1] (pc' := 46) (lv' := []) (st' := [.int (1 : Int32)]) (by decide +kernel) rfl rfl ?_
      exact BW.zret (by decide +kernel : decode tX10_settle.2.1 46 = .ok (.ireturn, 1)) rfl (Or.inr rfl) (Nat.zero_le _) (Nat.zero_le _) (hQ _ _ (Ok.some h))
    · have h := (Ok.ite h).1 hc
      refine BW.run [.iconst 0] (pc' := 17) (lv' := [(0, .ref a0), (1, .int x1)]) (st' := [.int (0 : Int32)]) (by decide +kernel) rfl rfl ?_
      exact BW.zret (by decide +kernel : decode tX10_settle.2.1 17 = .ok (.ireturn, 1)) rfl (Or.inl rfl) (Nat.zero_le _) (Nat.zero_le _) (hQ _ _ (Ok.some h))
theorem oX10_settle {n : Nat} {P : Int32 × Sg → Prop} {s0 : Sg} {a0 : Nat} {x1 : Int32} (h : Ok (mX10_settle n s0 a0 x1) P) : ∃ n0, s0.2.1 a0 = some (10, n0) := by
  unfold mX10_settle at h
  exact Ok.isO h
theorem DX10_settle {G : Cx} {n : Nat} {P : Int32 × Sg → Prop} {s0 : Sg} {a0 : Nat} {x1 : Int32} (h : Ok (mX10_settle n s0 a0 x1) P) : BM G tX10_settle 8 178 0 0 [.ref a0, .int x1] s0 (fun v s => ∃ r, v = some (.int r) ∧ P (r, s)) := by
  refine BM.of (by decide +kernel) (Nat.le_of_ble_eq_true rfl) ?_
  exact bX10_settle (E := (({ frames := 8, cells := 0, slots := 0, locals := 178 }), Aof s0, 0, 0, (fun v s => ∃ r, v = some (.int r) ∧ P (r, s)))) ⟨Nat.le_refl _, Nat.le_refl _⟩ (fun r s hp => ⟨r, rfl, hp⟩) h
def mX10_shownIn_40 (n : Nat) (s0 : Sg) (t0 : Int32) (a0 : Nat) (x2 : Int32) (x4 : Int32) : Option ((Sg × Int32 × Int32) ⊕ (Sg × Int32)) :=
  some (.inl (s0, t0, (x4 + (1 : Int32))))
theorem bX10_shownIn_40 {G : Cx} {E : Ev} {n : Nat} (hRm : 2 ≤ E.1.frames ∧ 44 ≤ E.1.locals) {x1 : Int32} {s0 : Sg} {t0 : Int32} {a0 : Nat} {x2 : Int32} {x4 : Int32} {P : (Sg × Int32 × Int32) ⊕ (Sg × Int32) → Prop} (hC : ∀ (s : Sg) (c3 : Int32) (c4 : Int32), P (.inl (s, c3, c4)) → BW G tX10_shownIn E 0 0 5 [(0, .ref a0), (1, .int x1), (2, .int x2), (3, .int c3), (4, .int c4)] [] s) (hE : ∀ (s : Sg) (c3 : Int32), P (.inr (s, c3)) → BW G tX10_shownIn E 0 0 47 [(0, .ref a0), (1, .int x1), (2, .int x2), (3, .int c3)] [] s)  (h : Ok (mX10_shownIn_40 n s0 t0 a0 x2 x4) P) : BW G tX10_shownIn E 0 0 40 [(0, .ref a0), (1, .int x1), (2, .int x2), (4, .int x4)] [.int t0] s0 := by
  unfold mX10_shownIn_40 at h
  refine BW.run [.istore_n 3, .iinc 4 1] (pc' := 44) (lv' := [(0, .ref a0), (1, .int x1), (2, .int x2), (3, .int t0), (4, .int (x4 + (1 : Int32)))]) (st' := []) (by decide +kernel) rfl rfl ?_
  refine BW.goto 5 (by decide +kernel : decode tX10_shownIn.2.1 44 = .ok (.goto (-39), 3)) (by decide) ?_
  exact hC _ _ _ (Ok.some h)
def mX10_shownIn_L5 (n : Nat) (a0 : Nat) (x2 : Int32) : (Sg × Int32 × Int32) → Option ((Sg × Int32 × Int32) ⊕ (Sg × Int32))
  | (s0, x3, x4) =>
    (toI (gV 10 s0 a0 36)).bind fun v1 =>
    if v1 ≤ x4 then (
      some (.inr (s0, x3))
    ) else (
      (toR (gV 10 s0 a0 35)).bind fun b2 =>
      (toI (aV 11 s0 b2 x4)).bind fun v3 =>
      if x2 < v3 then (
        mX10_shownIn_40 n s0 x3 a0 x2 x4
      ) else (
        (toR (gV 10 s0 a0 35)).bind fun b4 =>
        (toI (aV 11 s0 b4 x4)).bind fun v5 =>
        mX10_shownIn_40 n s0 (jmax x3 v5) a0 x2 x4
      )
    )
theorem bX10_shownIn_L5 {G : Cx} {E : Ev} {n : Nat} (hRm : 2 ≤ E.1.frames ∧ 44 ≤ E.1.locals) {a0 : Nat} {x1 : Int32} {x2 : Int32} {P : (Sg × Int32 × Int32) ⊕ (Sg × Int32) → Prop} (hC : ∀ (s : Sg) (c3 : Int32) (c4 : Int32), P (.inl (s, c3, c4)) → BW G tX10_shownIn E 0 0 5 [(0, .ref a0), (1, .int x1), (2, .int x2), (3, .int c3), (4, .int c4)] [] s) (hE : ∀ (s : Sg) (c3 : Int32), P (.inr (s, c3)) → BW G tX10_shownIn E 0 0 47 [(0, .ref a0), (1, .int x1), (2, .int x2), (3, .int c3)] [] s) {s0 : Sg} {x3 : Int32} {x4 : Int32} (h : Ok (mX10_shownIn_L5 n a0 x2 (s0, x3, x4)) P) : BW G tX10_shownIn E 0 0 5 [(0, .ref a0), (1, .int x1), (2, .int x2), (3, .int x3), (4, .int x4)] [] s0 := by
  unfold mX10_shownIn_L5 at h
  refine BW.run [.iload 4, .aload_n 0] (pc' := 8) (lv' := [(0, .ref a0), (1, .int x1), (2, .int x2), (3, .int x3), (4, .int x4)]) (st' := [.ref a0, .int x4]) (by decide +kernel) rfl rfl ?_
  obtain ⟨v1, ev1, h⟩ := Ok.bind h
  refine BW.get (by decide +kernel : decode tX10_shownIn.2.1 8 = .ok (.getfield 298, 3)) ciX10 (k := 36) (by decide) lkF_X10_298 (toI_V ev1) ?_
  refine BW.icmp_ge 47 (by decide +kernel : decode tX10_shownIn.2.1 11 = .ok (.if_icmp .ge 36, 3)) (by decide) (fun hc => ?_) (fun hc => ?_)
  · have h := (Ok.ite h).1 hc
    refine BW.sub [0, 1, 2, 3] rfl ?_
    exact hE _ _ (Ok.some h)
  · have h := (Ok.ite h).2 hc
    refine BW.run [.aload_n 0] (pc' := 15) (lv' := [(0, .ref a0), (1, .int x1), (2, .int x2), (3, .int x3), (4, .int x4)]) (st' := [.ref a0]) (by decide +kernel) rfl rfl ?_
    obtain ⟨b2, eb2, h⟩ := Ok.bind h
    refine BW.get (by decide +kernel : decode tX10_shownIn.2.1 15 = .ok (.getfield 67, 3)) ciX10 (k := 35) (by decide) lkF_X10_67 (toR_V eb2) ?_
    refine BW.run [.iload 4] (pc' := 20) (lv' := [(0, .ref a0), (1, .int x1), (2, .int x2), (3, .int x3), (4, .int x4)]) (st' := [.int x4, .ref b2]) (by decide +kernel) rfl rfl ?_
    obtain ⟨v3, ev3, h⟩ := Ok.bind h
    refine BW.iald (by decide +kernel : decode tX10_shownIn.2.1 20 = .ok (.iaload, 1)) (toI_V ev3) ?_
    refine BW.run [.iload_n 2] (pc' := 22) (lv' := [(0, .ref a0), (1, .int x1), (2, .int x2), (3, .int x3), (4, .int x4)]) (st' := [.int x2, .int v3]) (by decide +kernel) rfl rfl ?_
    refine BW.icmp_gt 39 (by decide +kernel : decode tX10_shownIn.2.1 22 = .ok (.if_icmp .gt 17, 3)) (by decide) (fun hc => ?_) (fun hc => ?_)
    · have h := (Ok.ite h).1 hc
      refine BW.run [.iload_n 3] (pc' := 40) (lv' := [(0, .ref a0), (1, .int x1), (2, .int x2), (3, .int x3), (4, .int x4)]) (st' := [.int x3]) (by decide +kernel) rfl rfl ?_
      refine BW.sub [0, 1, 2, 4] rfl ?_
      exact bX10_shownIn_40 hRm hC hE h
    · have h := (Ok.ite h).2 hc
      refine BW.run [.iload_n 3, .aload_n 0] (pc' := 27) (lv' := [(0, .ref a0), (1, .int x1), (2, .int x2), (3, .int x3), (4, .int x4)]) (st' := [.ref a0, .int x3]) (by decide +kernel) rfl rfl ?_
      obtain ⟨b4, eb4, h⟩ := Ok.bind h
      refine BW.get (by decide +kernel : decode tX10_shownIn.2.1 27 = .ok (.getfield 67, 3)) ciX10 (k := 35) (by decide) lkF_X10_67 (toR_V eb4) ?_
      refine BW.run [.iload 4] (pc' := 32) (lv' := [(0, .ref a0), (1, .int x1), (2, .int x2), (3, .int x3), (4, .int x4)]) (st' := [.int x4, .ref b4, .int x3]) (by decide +kernel) rfl rfl ?_
      obtain ⟨v5, ev5, h⟩ := Ok.bind h
      refine BW.iald (by decide +kernel : decode tX10_shownIn.2.1 32 = .ok (.iaload, 1)) (toI_V ev5) ?_
      refine BW.mmax (by decide +kernel : decode tX10_shownIn.2.1 33 = .ok (.invokestatic 9, 3)) lkM_X10_9 (Nat.le_of_ble_eq_true rfl) ⟨Nat.le_trans (by decide) hRm.1, Nat.le_trans (by decide) hRm.2⟩ ⟨Nat.zero_le _, Nat.zero_le _⟩ ?_
      refine BW.goto 40 (by decide +kernel : decode tX10_shownIn.2.1 36 = .ok (.goto 4, 3)) (by decide) ?_
      refine BW.sub [0, 1, 2, 4] rfl ?_
      exact bX10_shownIn_40 hRm hC hE h
theorem bX10_shownIn_W5 {G : Cx} {E : Ev} {n : Nat} (hRm : 2 ≤ E.1.frames ∧ 44 ≤ E.1.locals) {a0 : Nat} {x1 : Int32} {x2 : Int32} {K : (Sg × Int32) → Prop} (hE : ∀ (s : Sg) (c3 : Int32), K (s, c3) → BW G tX10_shownIn E 0 0 47 [(0, .ref a0), (1, .int x1), (2, .int x2), (3, .int c3)] [] s) : ∀ (f : Nat) (c : Sg × Int32 × Int32), Ok (loopM (mX10_shownIn_L5 n a0 x2) f c) K → match c with | (s0, x3, x4) => BW G tX10_shownIn E 0 0 5 [(0, .ref a0), (1, .int x1), (2, .int x2), (3, .int x3), (4, .int x4)] [] s0 := by
  intro f
  induction f with
  | zero => intro c h; exact (Ok.no h).elim
  | succ f ih =>
    intro c h
    obtain ⟨s0, x3, x4⟩ := c
    exact bX10_shownIn_L5 (P := loopP (mX10_shownIn_L5 n a0 x2) f K) hRm (fun s c3 c4 h => ih (s, c3, c4) h) hE (loopM_ok h)
def mX10_shownIn_168 (n : Nat) (s0 : Sg) (a0 : Nat) (x1 : Int32) (x2 : Int32) (x3 : Int32) (x4 : Int32) (x5 : Int32) (x6 : Int32) (x7 : Int32) : Option ((Sg × Int32 × Int32 × Int32) ⊕ (Sg × Int32 × Int32)) :=
  some (.inl (s0, x4, x5, (x7 + (1 : Int32))))
theorem bX10_shownIn_168 {G : Cx} {E : Ev} {n : Nat} (hRm : 2 ≤ E.1.frames ∧ 44 ≤ E.1.locals) {s0 : Sg} {a0 : Nat} {x1 : Int32} {x2 : Int32} {x3 : Int32} {x4 : Int32} {x5 : Int32} {x6 : Int32} {x7 : Int32} {P : (Sg × Int32 × Int32 × Int32) ⊕ (Sg × Int32 × Int32) → Prop} (hC : ∀ (s : Sg) (c4 : Int32) (c5 : Int32) (c7 : Int32), P (.inl (s, c4, c5, c7)) → BW G tX10_shownIn E 0 0 68 [(0, .ref a0), (1, .int x1), (2, .int x2), (3, .int x3), (4, .int c4), (5, .int c5), (6, .int x6), (7, .int c7)] [] s) (hE : ∀ (s : Sg) (c4 : Int32) (c5 : Int32), P (.inr (s, c4, c5)) → BW G tX10_shownIn E 0 0 174 [(0, .ref a0), (1, .int x1), (2, .int x2), (3, .int x3), (4, .int c4), (5, .int c5), (6, .int x6)] [] s)  (h : Ok (mX10_shownIn_168 n s0 a0 x1 x2 x3 x4 x5 x6 x7) P) : BW G tX10_shownIn E 0 0 168 [(0, .ref a0), (1, .int x1), (2, .int x2), (3, .int x3), (4, .int x4), (5, .int x5), (6, .int x6), (7, .int x7)] [] s0 := by
  unfold mX10_shownIn_168 at h
  refine BW.run [.iinc 7 1] (pc' := 171) (lv' := [(0, .ref a0), (1, .int x1), (2, .int x2), (3, .int x3), (4, .int x4), (5, .int x5), (6, .int x6), (7, .int (x7 + (1 : Int32)))]) (st' := []) (by decide +kernel) rfl rfl ?_
  refine BW.goto 68 (by decide +kernel : decode tX10_shownIn.2.1 171 = .ok (.goto (-103), 3)) (by decide) ?_
  exact hC _ _ _ _ (Ok.some h)
def mX10_shownIn_160 (n : Nat) (s0 : Sg) (a0 : Nat) (x1 : Int32) (x2 : Int32) (x3 : Int32) (x6 : Int32) (x7 : Int32) (x8 : Int32) : Option ((Sg × Int32 × Int32 × Int32) ⊕ (Sg × Int32 × Int32)) :=
  mX10_shownIn_168 n s0 a0 x1 x2 x3 x6 x8 x6 x7
theorem bX10_shownIn_160 {G : Cx} {E : Ev} {n : Nat} (hRm : 2 ≤ E.1.frames ∧ 44 ≤ E.1.locals) {s0 : Sg} {a0 : Nat} {x1 : Int32} {x2 : Int32} {x3 : Int32} {x6 : Int32} {x7 : Int32} {x8 : Int32} {P : (Sg × Int32 × Int32 × Int32) ⊕ (Sg × Int32 × Int32) → Prop} (hC : ∀ (s : Sg) (c4 : Int32) (c5 : Int32) (c7 : Int32), P (.inl (s, c4, c5, c7)) → BW G tX10_shownIn E 0 0 68 [(0, .ref a0), (1, .int x1), (2, .int x2), (3, .int x3), (4, .int c4), (5, .int c5), (6, .int x6), (7, .int c7)] [] s) (hE : ∀ (s : Sg) (c4 : Int32) (c5 : Int32), P (.inr (s, c4, c5)) → BW G tX10_shownIn E 0 0 174 [(0, .ref a0), (1, .int x1), (2, .int x2), (3, .int x3), (4, .int c4), (5, .int c5), (6, .int x6)] [] s)  (h : Ok (mX10_shownIn_160 n s0 a0 x1 x2 x3 x6 x7 x8) P) : BW G tX10_shownIn E 0 0 160 [(0, .ref a0), (1, .int x1), (2, .int x2), (3, .int x3), (6, .int x6), (7, .int x7), (8, .int x8)] [] s0 := by
  unfold mX10_shownIn_160 at h
  refine BW.run [.iload 6, .istore 4, .iload 8, .istore 5] (pc' := 168) (lv' := [(0, .ref a0), (1, .int x1), (2, .int x2), (3, .int x3), (4, .int x6), (5, .int x8), (6, .int x6), (7, .int x7), (8, .int x8)]) (st' := []) (by decide +kernel) rfl rfl ?_
  refine BW.sub [0, 1, 2, 3, 4, 5, 6, 7] rfl ?_
  exact bX10_shownIn_168 hRm hC hE h
def mX10_shownIn_140 (n : Nat) (s0 : Sg) (t0 : Int32) (a0 : Nat) (x1 : Int32) (x2 : Int32) (x3 : Int32) (x4 : Int32) (x5 : Int32) (x6 : Int32) (x7 : Int32) (x8 : Int32) : Option ((Sg × Int32 × Int32 × Int32) ⊕ (Sg × Int32 × Int32)) :=
  if t0 = 0 then (
    mX10_shownIn_168 n s0 a0 x1 x2 x3 x4 x5 x6 x7
  ) else (
    if x4 = (-1 : Int32) then (
      mX10_shownIn_160 n s0 a0 x1 x2 x3 x6 x7 x8
    ) else (
      if x8 ≤ x5 then (
        mX10_shownIn_168 n s0 a0 x1 x2 x3 x4 x5 x6 x7
      ) else (
        mX10_shownIn_160 n s0 a0 x1 x2 x3 x6 x7 x8
      )
    )
  )
theorem bX10_shownIn_140 {G : Cx} {E : Ev} {n : Nat} (hRm : 2 ≤ E.1.frames ∧ 44 ≤ E.1.locals) {s0 : Sg} {t0 : Int32} {a0 : Nat} {x1 : Int32} {x2 : Int32} {x3 : Int32} {x4 : Int32} {x5 : Int32} {x6 : Int32} {x7 : Int32} {x8 : Int32} {P : (Sg × Int32 × Int32 × Int32) ⊕ (Sg × Int32 × Int32) → Prop} (hC : ∀ (s : Sg) (c4 : Int32) (c5 : Int32) (c7 : Int32), P (.inl (s, c4, c5, c7)) → BW G tX10_shownIn E 0 0 68 [(0, .ref a0), (1, .int x1), (2, .int x2), (3, .int x3), (4, .int c4), (5, .int c5), (6, .int x6), (7, .int c7)] [] s) (hE : ∀ (s : Sg) (c4 : Int32) (c5 : Int32), P (.inr (s, c4, c5)) → BW G tX10_shownIn E 0 0 174 [(0, .ref a0), (1, .int x1), (2, .int x2), (3, .int x3), (4, .int c4), (5, .int c5), (6, .int x6)] [] s)  (h : Ok (mX10_shownIn_140 n s0 t0 a0 x1 x2 x3 x4 x5 x6 x7 x8) P) : BW G tX10_shownIn E 0 0 140 [(0, .ref a0), (1, .int x1), (2, .int x2), (3, .int x3), (4, .int x4), (5, .int x5), (6, .int x6), (7, .int x7), (8, .int x8)] [.int t0] s0 := by
  unfold mX10_shownIn_140 at h
  refine BW.run [.istore 9, .iload 9] (pc' := 144) (lv' := [(0, .ref a0), (1, .int x1), (2, .int x2), (3, .int x3), (4, .int x4), (5, .int x5), (6, .int x6), (7, .int x7), (8, .int x8), (9, .int t0)]) (st' := [.int t0]) (by decide +kernel) rfl rfl ?_
  refine BW.if_eq 168 (by decide +kernel : decode tX10_shownIn.2.1 144 = .ok (.ifCond .eq 24, 3)) (by decide) (fun hc => ?_) (fun hc => ?_)
  · have h := (Ok.ite h).1 hc
    refine BW.sub [0, 1, 2, 3, 4, 5, 6, 7] rfl ?_
    exact bX10_shownIn_168 hRm hC hE h
  · have h := (Ok.ite h).2 hc
    refine BW.run [.iload 4, .iconst (-1)] (pc' := 150) (lv' := [(0, .ref a0), (1, .int x1), (2, .int x2), (3, .int x3), (4, .int x4), (5, .int x5), (6, .int x6), (7, .int x7), (8, .int x8), (9, .int t0)]) (st' := [.int (-1 : Int32), .int x4]) (by decide +kernel) rfl rfl ?_
    refine BW.icmp_eq 160 (by decide +kernel : decode tX10_shownIn.2.1 150 = .ok (.if_icmp .eq 10, 3)) (by decide) (fun hc => ?_) (fun hc => ?_)
    · have h := (Ok.ite h).1 hc
      refine BW.sub [0, 1, 2, 3, 6, 7, 8] rfl ?_
      exact bX10_shownIn_160 hRm hC hE h
    · have h := (Ok.ite h).2 hc
      refine BW.run [.iload 8, .iload 5] (pc' := 157) (lv' := [(0, .ref a0), (1, .int x1), (2, .int x2), (3, .int x3), (4, .int x4), (5, .int x5), (6, .int x6), (7, .int x7), (8, .int x8), (9, .int t0)]) (st' := [.int x5, .int x8]) (by decide +kernel) rfl rfl ?_
      refine BW.icmp_le 168 (by decide +kernel : decode tX10_shownIn.2.1 157 = .ok (.if_icmp .le 11, 3)) (by decide) (fun hc => ?_) (fun hc => ?_)
      · have h := (Ok.ite h).1 hc
        refine BW.sub [0, 1, 2, 3, 4, 5, 6, 7] rfl ?_
        exact bX10_shownIn_168 hRm hC hE h
      · have h := (Ok.ite h).2 hc
        refine BW.sub [0, 1, 2, 3, 6, 7, 8] rfl ?_
        exact bX10_shownIn_160 hRm hC hE h
def mX10_shownIn_139 (n : Nat) (s0 : Sg) (a0 : Nat) (x1 : Int32) (x2 : Int32) (x3 : Int32) (x4 : Int32) (x5 : Int32) (x6 : Int32) (x7 : Int32) (x8 : Int32) : Option ((Sg × Int32 × Int32 × Int32) ⊕ (Sg × Int32 × Int32)) :=
  mX10_shownIn_140 n s0 (0 : Int32) a0 x1 x2 x3 x4 x5 x6 x7 x8
theorem bX10_shownIn_139 {G : Cx} {E : Ev} {n : Nat} (hRm : 2 ≤ E.1.frames ∧ 44 ≤ E.1.locals) {s0 : Sg} {a0 : Nat} {x1 : Int32} {x2 : Int32} {x3 : Int32} {x4 : Int32} {x5 : Int32} {x6 : Int32} {x7 : Int32} {x8 : Int32} {P : (Sg × Int32 × Int32 × Int32) ⊕ (Sg × Int32 × Int32) → Prop} (hC : ∀ (s : Sg) (c4 : Int32) (c5 : Int32) (c7 : Int32), P (.inl (s, c4, c5, c7)) → BW G tX10_shownIn E 0 0 68 [(0, .ref a0), (1, .int x1), (2, .int x2), (3, .int x3), (4, .int c4), (5, .int c5), (6, .int x6), (7, .int c7)] [] s) (hE : ∀ (s : Sg) (c4 : Int32) (c5 : Int32), P (.inr (s, c4, c5)) → BW G tX10_shownIn E 0 0 174 [(0, .ref a0), (1, .int x1), (2, .int x2), (3, .int x3), (4, .int c4), (5, .int c5), (6, .int x6)] [] s)  (h : Ok (mX10_shownIn_139 n s0 a0 x1 x2 x3 x4 x5 x6 x7 x8) P) : BW G tX10_shownIn E 0 0 139 [(0, .ref a0), (1, .int x1), (2, .int x2), (3, .int x3), (4, .int x4), (5, .int x5), (6, .int x6), (7, .int x7), (8, .int x8)] [] s0 := by
  unfold mX10_shownIn_139 at h
  refine BW.run [.iconst 0] (pc' := 140) (lv' := [(0, .ref a0), (1, .int x1), (2, .int x2), (3, .int x3), (4, .int x4), (5, .int x5), (6, .int x6), (7, .int x7), (8, .int x8)]) (st' := [.int (0 : Int32)]) (by decide +kernel) rfl rfl ?_
  exact bX10_shownIn_140 hRm hC hE h
def mX10_shownIn_L68 (n : Nat) (a0 : Nat) (x1 : Int32) (x2 : Int32) (x3 : Int32) (x6 : Int32) : (Sg × Int32 × Int32 × Int32) → Option ((Sg × Int32 × Int32 × Int32) ⊕ (Sg × Int32 × Int32))
  | (s0, x4, x5, x7) =>
    (toR (gV 10 s0 a0 16)).bind fun b10 =>
    (toI (aV 11 s0 b10 x6)).bind fun v11 =>
    if v11 < x7 then (
      some (.inr (s0, x4, x5))
    ) else (
      (toR (gV 10 s0 a0 19)).bind fun b12 =>
      (toI (aV 11 s0 b12 x6)).bind fun v13 =>
      (toR (gV 10 s0 a0 17)).bind fun b14 =>
      (toI (aV 11 s0 b14 x6)).bind fun v15 =>
      nm (v13 + (v15 * x7)) fun v16 =>
      (mX10_cellAt n s0 a0 x6 x7).bind fun (v18, s17) =>
      if v18 = x1 then (
        (mX10_hasPrint n s17 a0 x6 x7).bind fun (v21, s20) =>
        if v21 = 0 then (
          mX10_shownIn_139 n s20 a0 x1 x2 x3 x4 x5 x6 x7 v16
        ) else (
          if x2 < v16 then (
            mX10_shownIn_139 n s20 a0 x1 x2 x3 x4 x5 x6 x7 v16
          ) else (
            if v16 ≤ x3 then (
              mX10_shownIn_139 n s20 a0 x1 x2 x3 x4 x5 x6 x7 v16
            ) else (
              mX10_shownIn_140 n s20 (1 : Int32) a0 x1 x2 x3 x4 x5 x6 x7 v16
            )
          )
        )
      ) else (
        mX10_shownIn_139 n s17 a0 x1 x2 x3 x4 x5 x6 x7 v16
      )
    )
theorem bX10_shownIn_L68 {G : Cx} {E : Ev} {n : Nat} (hRm : 2 ≤ E.1.frames ∧ 44 ≤ E.1.locals) {a0 : Nat} {x1 : Int32} {x2 : Int32} {x3 : Int32} {x6 : Int32} {P : (Sg × Int32 × Int32 × Int32) ⊕ (Sg × Int32 × Int32) → Prop} (hC : ∀ (s : Sg) (c4 : Int32) (c5 : Int32) (c7 : Int32), P (.inl (s, c4, c5, c7)) → BW G tX10_shownIn E 0 0 68 [(0, .ref a0), (1, .int x1), (2, .int x2), (3, .int x3), (4, .int c4), (5, .int c5), (6, .int x6), (7, .int c7)] [] s) (hE : ∀ (s : Sg) (c4 : Int32) (c5 : Int32), P (.inr (s, c4, c5)) → BW G tX10_shownIn E 0 0 174 [(0, .ref a0), (1, .int x1), (2, .int x2), (3, .int x3), (4, .int c4), (5, .int c5), (6, .int x6)] [] s) {s0 : Sg} {x4 : Int32} {x5 : Int32} {x7 : Int32} (h : Ok (mX10_shownIn_L68 n a0 x1 x2 x3 x6 (s0, x4, x5, x7)) P) : BW G tX10_shownIn E 0 0 68 [(0, .ref a0), (1, .int x1), (2, .int x2), (3, .int x3), (4, .int x4), (5, .int x5), (6, .int x6), (7, .int x7)] [] s0 := by
  unfold mX10_shownIn_L68 at h
  refine BW.run [.iload 7, .aload_n 0] (pc' := 71) (lv' := [(0, .ref a0), (1, .int x1), (2, .int x2), (3, .int x3), (4, .int x4), (5, .int x5), (6, .int x6), (7, .int x7)]) (st' := [.ref a0, .int x7]) (by decide +kernel) rfl rfl ?_
  obtain ⟨b10, eb10, h⟩ := Ok.bind h
  refine BW.get (by decide +kernel : decode tX10_shownIn.2.1 71 = .ok (.getfield 31, 3)) ciX10 (k := 16) (by decide) lkF_X10_31 (toR_V eb10) ?_
  refine BW.run [.iload 6] (pc' := 76) (lv' := [(0, .ref a0), (1, .int x1), (2, .int x2), (3, .int x3), (4, .int x4), (5, .int x5), (6, .int x6), (7, .int x7)]) (st' := [.int x6, .ref b10, .int x7]) (by decide +kernel) rfl rfl ?_
  obtain ⟨v11, ev11, h⟩ := Ok.bind h
  refine BW.iald (by decide +kernel : decode tX10_shownIn.2.1 76 = .ok (.iaload, 1)) (toI_V ev11) ?_
  refine BW.icmp_gt 174 (by decide +kernel : decode tX10_shownIn.2.1 77 = .ok (.if_icmp .gt 97, 3)) (by decide) (fun hc => ?_) (fun hc => ?_)
  · have h := (Ok.ite h).1 hc
    refine BW.sub [0, 1, 2, 3, 4, 5, 6] rfl ?_
    exact hE _ _ _ (Ok.some h)
  · have h := (Ok.ite h).2 hc
    refine BW.run [.aload_n 0] (pc' := 81) (lv' := [(0, .ref a0), (1, .int x1), (2, .int x2), (3, .int x3), (4, .int x4), (5, .int x5), (6, .int x6), (7, .int x7)]) (st' := [.ref a0]) (by decide +kernel) rfl rfl ?_
    obtain ⟨b12, eb12, h⟩ := Ok.bind h
    refine BW.get (by decide +kernel : decode tX10_shownIn.2.1 81 = .ok (.getfield 40, 3)) ciX10 (k := 19) (by decide) lkF_X10_40 (toR_V eb12) ?_
    refine BW.run [.iload 6] (pc' := 86) (lv' := [(0, .ref a0), (1, .int x1), (2, .int x2), (3, .int x3), (4, .int x4), (5, .int x5), (6, .int x6), (7, .int x7)]) (st' := [.int x6, .ref b12]) (by decide +kernel) rfl rfl ?_
    obtain ⟨v13, ev13, h⟩ := Ok.bind h
    refine BW.iald (by decide +kernel : decode tX10_shownIn.2.1 86 = .ok (.iaload, 1)) (toI_V ev13) ?_
    refine BW.run [.aload_n 0] (pc' := 88) (lv' := [(0, .ref a0), (1, .int x1), (2, .int x2), (3, .int x3), (4, .int x4), (5, .int x5), (6, .int x6), (7, .int x7)]) (st' := [.ref a0, .int v13]) (by decide +kernel) rfl rfl ?_
    obtain ⟨b14, eb14, h⟩ := Ok.bind h
    refine BW.get (by decide +kernel : decode tX10_shownIn.2.1 88 = .ok (.getfield 34, 3)) ciX10 (k := 17) (by decide) lkF_X10_34 (toR_V eb14) ?_
    refine BW.run [.iload 6] (pc' := 93) (lv' := [(0, .ref a0), (1, .int x1), (2, .int x2), (3, .int x3), (4, .int x4), (5, .int x5), (6, .int x6), (7, .int x7)]) (st' := [.int x6, .ref b14, .int v13]) (by decide +kernel) rfl rfl ?_
    obtain ⟨v15, ev15, h⟩ := Ok.bind h
    refine BW.iald (by decide +kernel : decode tX10_shownIn.2.1 93 = .ok (.iaload, 1)) (toI_V ev15) ?_
    refine BW.run [.iload 7, .imul, .iadd] (pc' := 98) (lv' := [(0, .ref a0), (1, .int x1), (2, .int x2), (3, .int x3), (4, .int x4), (5, .int x5), (6, .int x6), (7, .int x7)]) (st' := [.int (v13 + (v15 * x7))]) (by decide +kernel) rfl rfl ?_
    obtain ⟨v16, wv16, h⟩ := Ok.nm h
    refine BW.nm wv16 ?_
    refine BW.run [.istore 8, .aload_n 0, .iload 6, .iload 7] (pc' := 105) (lv' := [(0, .ref a0), (1, .int x1), (2, .int x2), (3, .int x3), (4, .int x4), (5, .int x5), (6, .int x6), (7, .int x7), (8, .int v16)]) (st' := [.int x7, .int x6, .ref a0]) (by decide +kernel) rfl rfl ?_
    refine BW.callV (As := [.int x6, .int x7]) (st := []) (by decide +kernel : decode tX10_shownIn.2.1 105 = .ok (.invokevirtual 168, 3)) (DX10_cellAt (Ok.bindK h)) mfX10_cellAt lkM_X10_168 imX10_cellAt selX10_cellAt ciX10 (oX10_cellAt (Ok.bindK h)).choose_spec rfl rfl (Nat.le_of_ble_eq_true rfl) ⟨Nat.le_trans (by decide) hRm.1, Nat.le_trans (by decide) hRm.2⟩ ⟨Nat.zero_le _, Nat.zero_le _⟩ ?_
    rintro _ s17 ⟨v18, rfl, h⟩
    show BW G tX10_shownIn E 0 0 108 [(0, .ref a0), (1, .int x1), (2, .int x2), (3, .int x3), (4, .int x4), (5, .int x5), (6, .int x6), (7, .int x7), (8, .int v16)] [.int v18] s17
    refine BW.run [.iload_n 1] (pc' := 109) (lv' := [(0, .ref a0), (1, .int x1), (2, .int x2), (3, .int x3), (4, .int x4), (5, .int x5), (6, .int x6), (7, .int x7), (8, .int v16)]) (st' := [.int x1, .int v18]) (by decide +kernel) rfl rfl ?_
    refine BW.icmp_ne 139 (by decide +kernel : decode tX10_shownIn.2.1 109 = .ok (.if_icmp .ne 30, 3)) (by decide) (fun hc => ?_) (fun hc => ?_)
    · have h := (Ok.ite h).2 hc
      exact bX10_shownIn_139 hRm hC hE h
    · have h := (Ok.ite h).1 hc
      refine BW.run [.aload_n 0, .iload 6, .iload 7] (pc' := 117) (lv' := [(0, .ref a0), (1, .int x1), (2, .int x2), (3, .int x3), (4, .int x4), (5, .int x5), (6, .int x6), (7, .int x7), (8, .int v16)]) (st' := [.int x7, .int x6, .ref a0]) (by decide +kernel) rfl rfl ?_
      refine BW.callV (As := [.int x6, .int x7]) (st := []) (by decide +kernel : decode tX10_shownIn.2.1 117 = .ok (.invokevirtual 174, 3)) (DX10_hasPrint (Ok.bindK h)) mfX10_hasPrint lkM_X10_174 imX10_hasPrint selX10_hasPrint ciX10 (oX10_hasPrint (Ok.bindK h)).choose_spec rfl rfl (Nat.le_of_ble_eq_true rfl) ⟨Nat.le_trans (by decide) hRm.1, Nat.le_trans (by decide) hRm.2⟩ ⟨Nat.zero_le _, Nat.zero_le _⟩ ?_
      rintro _ s20 ⟨v21, rfl, h⟩
      show BW G tX10_shownIn E 0 0 120 [(0, .ref a0), (1, .int x1), (2, .int x2), (3, .int x3), (4, .int x4), (5, .int x5), (6, .int x6), (7, .int x7), (8, .int v16)] [.int v21] s20
      refine BW.if_eq 139 (by decide +kernel : decode tX10_shownIn.2.1 120 = .ok (.ifCond .eq 19, 3)) (by decide) (fun hc => ?_) (fun hc => ?_)
      · have h := (Ok.ite h).1 hc
        exact bX10_shownIn_139 hRm hC hE h
      · have h := (Ok.ite h).2 hc
        refine BW.run [.iload 8, .iload_n 2] (pc' := 126) (lv' := [(0, .ref a0), (1, .int x1), (2, .int x2), (3, .int x3), (4, .int x4), (5, .int x5), (6, .int x6), (7, .int x7), (8, .int v16)]) (st' := [.int x2, .int v16]) (by decide +kernel) rfl rfl ?_
        refine BW.icmp_gt 139 (by decide +kernel : decode tX10_shownIn.2.1 126 = .ok (.if_icmp .gt 13, 3)) (by decide) (fun hc => ?_) (fun hc => ?_)
        · have h := (Ok.ite h).1 hc
          exact bX10_shownIn_139 hRm hC hE h
        · have h := (Ok.ite h).2 hc
          refine BW.run [.iload 8, .iload_n 3] (pc' := 132) (lv' := [(0, .ref a0), (1, .int x1), (2, .int x2), (3, .int x3), (4, .int x4), (5, .int x5), (6, .int x6), (7, .int x7), (8, .int v16)]) (st' := [.int x3, .int v16]) (by decide +kernel) rfl rfl ?_
          refine BW.icmp_le 139 (by decide +kernel : decode tX10_shownIn.2.1 132 = .ok (.if_icmp .le 7, 3)) (by decide) (fun hc => ?_) (fun hc => ?_)
          · have h := (Ok.ite h).1 hc
            exact bX10_shownIn_139 hRm hC hE h
          · have h := (Ok.ite h).2 hc
            refine BW.run [.iconst 1] (pc' := 136) (lv' := [(0, .ref a0), (1, .int x1), (2, .int x2), (3, .int x3), (4, .int x4), (5, .int x5), (6, .int x6), (7, .int x7), (8, .int v16)]) (st' := [.int (1 : Int32)]) (by decide +kernel) rfl rfl ?_
            refine BW.goto 140 (by decide +kernel : decode tX10_shownIn.2.1 136 = .ok (.goto 4, 3)) (by decide) ?_
            exact bX10_shownIn_140 hRm hC hE h
theorem bX10_shownIn_W68 {G : Cx} {E : Ev} {n : Nat} (hRm : 2 ≤ E.1.frames ∧ 44 ≤ E.1.locals) {a0 : Nat} {x1 : Int32} {x2 : Int32} {x3 : Int32} {x6 : Int32} {K : (Sg × Int32 × Int32) → Prop} (hE : ∀ (s : Sg) (c4 : Int32) (c5 : Int32), K (s, c4, c5) → BW G tX10_shownIn E 0 0 174 [(0, .ref a0), (1, .int x1), (2, .int x2), (3, .int x3), (4, .int c4), (5, .int c5), (6, .int x6)] [] s) : ∀ (f : Nat) (c : Sg × Int32 × Int32 × Int32), Ok (loopM (mX10_shownIn_L68 n a0 x1 x2 x3 x6) f c) K → match c with | (s0, x4, x5, x7) => BW G tX10_shownIn E 0 0 68 [(0, .ref a0), (1, .int x1), (2, .int x2), (3, .int x3), (4, .int x4), (5, .int x5), (6, .int x6), (7, .int x7)] [] s0 := by
  intro f
  induction f with
  | zero => intro c h; exact (Ok.no h).elim
  | succ f ih =>
    intro c h
    obtain ⟨s0, x4, x5, x7⟩ := c
    exact bX10_shownIn_L68 (P := loopP (mX10_shownIn_L68 n a0 x1 x2 x3 x6) f K) hRm (fun s c4 c5 c7 h => ih (s, c4, c5, c7) h) hE (loopM_ok h)
def mX10_shownIn_L56 (n : Nat) (a0 : Nat) (x1 : Int32) (x2 : Int32) (x3 : Int32) : (Sg × Int32 × Int32 × Int32) → Option ((Sg × Int32 × Int32 × Int32) ⊕ (Sg × Int32))
  | (s0, x4, x5, x6) =>
    (toI (gV 10 s0 a0 20)).bind fun v9 =>
    if v9 ≤ x6 then (
      some (.inr (s0, x4))
    ) else (
      (loopM (mX10_shownIn_L68 n a0 x1 x2 x3 x6) n (s0, x4, x5, (0 : Int32))).bind fun (s23, v24, v25) =>
      some (.inl (s23, v24, v25, (x6 + (1 : Int32))))
    )
theorem bX10_shownIn_L56 {G : Cx} {E : Ev} {n : Nat} (hRm : 2 ≤ E.1.frames ∧ 44 ≤ E.1.locals) {a0 : Nat} {x1 : Int32} {x2 : Int32} {x3 : Int32} {P : (Sg × Int32 × Int32 × Int32) ⊕ (Sg × Int32) → Prop} (hC : ∀ (s : Sg) (c4 : Int32) (c5 : Int32) (c6 : Int32), P (.inl (s, c4, c5, c6)) → BW G tX10_shownIn E 0 0 56 [(0, .ref a0), (1, .int x1), (2, .int x2), (3, .int x3), (4, .int c4), (5, .int c5), (6, .int c6)] [] s) (hE : ∀ (s : Sg) (c4 : Int32), P (.inr (s, c4)) → BW G tX10_shownIn E 0 0 180 [(4, .int c4)] [] s) {s0 : Sg} {x4 : Int32} {x5 : Int32} {x6 : Int32} (h : Ok (mX10_shownIn_L56 n a0 x1 x2 x3 (s0, x4, x5, x6)) P) : BW G tX10_shownIn E 0 0 56 [(0, .ref a0), (1, .int x1), (2, .int x2), (3, .int x3), (4, .int x4), (5, .int x5), (6, .int x6)] [] s0 := by
  unfold mX10_shownIn_L56 at h
  refine BW.run [.iload 6, .aload_n 0] (pc' := 59) (lv' := [(0, .ref a0), (1, .int x1), (2, .int x2), (3, .int x3), (4, .int x4), (5, .int x5), (6, .int x6)]) (st' := [.ref a0, .int x6]) (by decide +kernel) rfl rfl ?_
  obtain ⟨v9, ev9, h⟩ := Ok.bind h
  refine BW.get (by decide +kernel : decode tX10_shownIn.2.1 59 = .ok (.getfield 165, 3)) ciX10 (k := 20) (by decide) lkF_X10_165 (toI_V ev9) ?_
  refine BW.icmp_ge 180 (by decide +kernel : decode tX10_shownIn.2.1 62 = .ok (.if_icmp .ge 118, 3)) (by decide) (fun hc => ?_) (fun hc => ?_)
  · have h := (Ok.ite h).1 hc
    refine BW.sub [4] rfl ?_
    exact hE _ _ (Ok.some h)
  · have h := (Ok.ite h).2 hc
    refine BW.run [.iconst 0, .istore 7] (pc' := 68) (lv' := [(0, .ref a0), (1, .int x1), (2, .int x2), (3, .int x3), (4, .int x4), (5, .int x5), (6, .int x6), (7, .int (0 : Int32))]) (st' := []) (by decide +kernel) rfl rfl ?_
    refine bX10_shownIn_W68 hRm (a0 := a0) (x1 := x1) (x2 := x2) (x3 := x3) (x6 := x6) (fun s23 v24 v25 h => ?_) n (s0, x4, x5, (0 : Int32)) (Ok.bindK h)
    refine BW.run [.iinc 6 1] (pc' := 177) (lv' := [(0, .ref a0), (1, .int x1), (2, .int x2), (3, .int x3), (4, .int v24), (5, .int v25), (6, .int (x6 + (1 : Int32)))]) (st' := []) (by decide +kernel) rfl rfl ?_
    refine BW.goto 56 (by decide +kernel : decode tX10_shownIn.2.1 177 = .ok (.goto (-121), 3)) (by decide) ?_
    exact hC _ _ _ _ (Ok.some h)
theorem bX10_shownIn_W56 {G : Cx} {E : Ev} {n : Nat} (hRm : 2 ≤ E.1.frames ∧ 44 ≤ E.1.locals) {a0 : Nat} {x1 : Int32} {x2 : Int32} {x3 : Int32} {K : (Sg × Int32) → Prop} (hE : ∀ (s : Sg) (c4 : Int32), K (s, c4) → BW G tX10_shownIn E 0 0 180 [(4, .int c4)] [] s) : ∀ (f : Nat) (c : Sg × Int32 × Int32 × Int32), Ok (loopM (mX10_shownIn_L56 n a0 x1 x2 x3) f c) K → match c with | (s0, x4, x5, x6) => BW G tX10_shownIn E 0 0 56 [(0, .ref a0), (1, .int x1), (2, .int x2), (3, .int x3), (4, .int x4), (5, .int x5), (6, .int x6)] [] s0 := by
  intro f
  induction f with
  | zero => intro c h; exact (Ok.no h).elim
  | succ f ih =>
    intro c h
    obtain ⟨s0, x4, x5, x6⟩ := c
    exact bX10_shownIn_L56 (P := loopP (mX10_shownIn_L56 n a0 x1 x2 x3) f K) hRm (fun s c4 c5 c6 h => ih (s, c4, c5, c6) h) hE (loopM_ok h)
def mX10_shownIn (n : Nat) (s0 : Sg) (a0 : Nat) (x1 : Int32) (x2 : Int32) : Option (Int32 × Sg) :=
  (isO 10 s0 a0).bind fun _ =>
  (loopM (mX10_shownIn_L5 n a0 x2) n (s0, (-1 : Int32), (0 : Int32))).bind fun (s6, v7) =>
  (loopM (mX10_shownIn_L56 n a0 x1 x2 v7) n (s6, (-1 : Int32), (0 : Int32), (0 : Int32))).bind fun (s27, v28) =>
  some (v28, s27)
theorem bX10_shownIn {G : Cx} {E : Ev} {n : Nat} (hRm : 2 ≤ E.1.frames ∧ 44 ≤ E.1.locals) {P : Int32 × Sg → Prop} (hQ : ∀ r s, P (r, s) → E.2.2.2.2 (some (.int r)) s) {s0 : Sg} {a0 : Nat} {x1 : Int32} {x2 : Int32} (h : Ok (mX10_shownIn n s0 a0 x1 x2) P) : BW G tX10_shownIn E 0 0 0 [(0, .ref a0), (1, .int x1), (2, .int x2)] [] s0 := by
  unfold mX10_shownIn at h
  obtain ⟨_, _, h⟩ := Ok.bind h
  refine BW.run [.iconst (-1), .istore_n 3, .iconst 0, .istore 4] (pc' := 5) (lv' := [(0, .ref a0), (1, .int x1), (2, .int x2), (3, .int (-1 : Int32)), (4, .int (0 : Int32))]) (st' := []) (by decide +kernel) rfl rfl ?_
  refine bX10_shownIn_W5 hRm (a0 := a0) (x1 := x1) (x2 := x2) (fun s6 v7 h => ?_) n (s0, (-1 : Int32), (0 : Int32)) (Ok.bindK h)
  refine BW.run [.iconst (-1), .istore 4, .iconst 0, .istore 5, .iconst 0, .istore 6] (pc' := 56) (lv' := [(0, .ref a0), (1, .int x1), (2, .int x2), (3, .int v7), (4, .int (-1 : Int32)), (5, .int (0 : Int32)), (6, .int (0 : Int32))]) (st' := []) (by decide +kernel) rfl rfl ?_
  refine bX10_shownIn_W56 hRm (a0 := a0) (x1 := x1) (x2 := x2) (x3 := v7) (fun s27 v28 h => ?_) n (s6, (-1 : Int32), (0 : Int32), (0 : Int32)) (Ok.bindK h)
  refine BW.run [.iload 4] (pc' := 182) (lv' := [(4, .int v28)]) (st' := [.int v28]) (by decide +kernel) rfl rfl ?_
  exact BW.iret (by decide +kernel : decode tX10_shownIn.2.1 182 = .ok (.ireturn, 1)) rfl (Nat.zero_le _) (Nat.zero_le _) (hQ _ _ (Ok.some h))
theorem oX10_shownIn {n : Nat} {P : Int32 × Sg → Prop} {s0 : Sg} {a0 : Nat} {x1 : Int32} {x2 : Int32} (h : Ok (mX10_shownIn n s0 a0 x1 x2) P) : ∃ n0, s0.2.1 a0 = some (10, n0) := by
  unfold mX10_shownIn at h
  exact Ok.isO h
theorem DX10_shownIn {G : Cx} {n : Nat} {P : Int32 × Sg → Prop} {s0 : Sg} {a0 : Nat} {x1 : Int32} {x2 : Int32} (h : Ok (mX10_shownIn n s0 a0 x1 x2) P) : BM G tX10_shownIn 2 44 0 0 [.ref a0, .int x1, .int x2] s0 (fun v s => ∃ r, v = some (.int r) ∧ P (r, s)) := by
  refine BM.of (by decide +kernel) (Nat.le_of_ble_eq_true rfl) ?_
  exact bX10_shownIn (E := (({ frames := 2, cells := 0, slots := 0, locals := 44 }), Aof s0, 0, 0, (fun v s => ∃ r, v = some (.int r) ∧ P (r, s)))) ⟨Nat.le_refl _, Nat.le_refl _⟩ (fun r s hp => ⟨r, rfl, hp⟩) h
def mX10_shown (n : Nat) (s0 : Sg) (a0 : Nat) (x1 : Int32) (x2 : Int32) (x3 : Int32) : Option (Int32 × Sg) :=
  (isO 10 s0 a0).bind fun _ =>
  (mX10_isCell n s0 a0 x1 x2).bind fun (v2, s1) =>
  if v2 = 0 then (
    some ((-1 : Int32), s1)
  ) else (
    (mX10_in n s1 x3 (0 : Int32) (5000 : Int32)).bind fun (v5, s4) =>
    if v5 = 0 then (
      some ((-1 : Int32), s4)
    ) else (
      (mX10_shownIn n s4 a0 (((16 : Int32) * x2) + x1) x3).bind fun (v8, s7) =>
      some (v8, s7)
    )
  )
theorem bX10_shown {G : Cx} {E : Ev} {n : Nat} (hRm : 3 ≤ E.1.frames ∧ 73 ≤ E.1.locals) {P : Int32 × Sg → Prop} (hQ : ∀ r s, P (r, s) → E.2.2.2.2 (some (.int r)) s) {s0 : Sg} {a0 : Nat} {x1 : Int32} {x2 : Int32} {x3 : Int32} (h : Ok (mX10_shown n s0 a0 x1 x2 x3) P) : BW G tX10_shown E 0 0 0 [(0, .ref a0), (1, .int x1), (2, .int x2), (3, .int x3)] [] s0 := by
  unfold mX10_shown at h
  obtain ⟨_, _, h⟩ := Ok.bind h
  refine BW.run [.aload_n 0, .iload_n 1, .iload_n 2] (pc' := 3) (lv' := [(0, .ref a0), (1, .int x1), (2, .int x2), (3, .int x3)]) (st' := [.int x2, .int x1, .ref a0]) (by decide +kernel) rfl rfl ?_
  refine BW.callV (As := [.int x1, .int x2]) (st := []) (by decide +kernel : decode tX10_shown.2.1 3 = .ok (.invokevirtual 178, 3)) (DX10_isCell (Ok.bindK h)) mfX10_isCell lkM_X10_178 imX10_isCell selX10_isCell ciX10 (oX10_isCell (Ok.bindK h)).choose_spec rfl rfl (Nat.le_of_ble_eq_true rfl) ⟨Nat.le_trans (by decide) hRm.1, Nat.le_trans (by decide) hRm.2⟩ ⟨Nat.zero_le _, Nat.zero_le _⟩ ?_
  rintro _ s1 ⟨v2, rfl, h⟩
  show BW G tX10_shown E 0 0 6 [(0, .ref a0), (1, .int x1), (2, .int x2), (3, .int x3)] [.int v2] s1
  refine BW.if_eq 34 (by decide +kernel : decode tX10_shown.2.1 6 = .ok (.ifCond .eq 28, 3)) (by decide) (fun hc => ?_) (fun hc => ?_)
  · have h := (Ok.ite h).1 hc
    refine BW.run [.iconst (-1)] (pc' := 35) (lv' := [(0, .ref a0), (1, .int x1), (2, .int x2), (3, .int x3)]) (st' := [.int (-1 : Int32)]) (by decide +kernel) rfl rfl ?_
    exact BW.iret (by decide +kernel : decode tX10_shown.2.1 35 = .ok (.ireturn, 1)) rfl (Nat.zero_le _) (Nat.zero_le _) (hQ _ _ (Ok.some h))
  · have h := (Ok.ite h).2 hc
    refine BW.run [.iload_n 3, .iconst 0, .sipush 5000] (pc' := 14) (lv' := [(0, .ref a0), (1, .int x1), (2, .int x2), (3, .int x3)]) (st' := [.int (5000 : Int32), .int (0 : Int32), .int x3]) (by decide +kernel) rfl rfl ?_
    refine BW.callS (As := [.int x3, .int (0 : Int32), .int (5000 : Int32)]) (st := []) (by decide +kernel : decode tX10_shown.2.1 14 = .ok (.invokestatic 147, 3)) (DX10_in (Ok.bindK h)) mfX10_in lkM_X10_147 smX10_in rfl rfl (Nat.le_of_ble_eq_true rfl) ⟨Nat.le_trans (by decide) hRm.1, Nat.le_trans (by decide) hRm.2⟩ ⟨Nat.zero_le _, Nat.zero_le _⟩ ?_
    rintro _ s4 ⟨v5, rfl, h⟩
    show BW G tX10_shown E 0 0 17 [(0, .ref a0), (1, .int x1), (2, .int x2), (3, .int x3)] [.int v5] s4
    refine BW.if_eq 34 (by decide +kernel : decode tX10_shown.2.1 17 = .ok (.ifCond .eq 17, 3)) (by decide) (fun hc => ?_) (fun hc => ?_)
    · have h := (Ok.ite h).1 hc
      refine BW.run [.iconst (-1)] (pc' := 35) (lv' := [(0, .ref a0), (1, .int x1), (2, .int x2), (3, .int x3)]) (st' := [.int (-1 : Int32)]) (by decide +kernel) rfl rfl ?_
      exact BW.iret (by decide +kernel : decode tX10_shown.2.1 35 = .ok (.ireturn, 1)) rfl (Nat.zero_le _) (Nat.zero_le _) (hQ _ _ (Ok.some h))
    · have h := (Ok.ite h).2 hc
      refine BW.run [.aload_n 0, .bipush 16, .iload_n 2, .imul, .iload_n 1, .iadd, .iload_n 3] (pc' := 28) (lv' := [(0, .ref a0), (1, .int x1), (2, .int x2), (3, .int x3)]) (st' := [.int x3, .int (((16 : Int32) * x2) + x1), .ref a0]) (by decide +kernel) rfl rfl ?_
      refine BW.callV (As := [.int (((16 : Int32) * x2) + x1), .int x3]) (st := []) (by decide +kernel : decode tX10_shown.2.1 28 = .ok (.invokevirtual 301, 3)) (DX10_shownIn (Ok.bindK h)) mfX10_shownIn lkM_X10_301 imX10_shownIn selX10_shownIn ciX10 (oX10_shownIn (Ok.bindK h)).choose_spec rfl rfl (Nat.le_of_ble_eq_true rfl) ⟨Nat.le_trans (by decide) hRm.1, Nat.le_trans (by decide) hRm.2⟩ ⟨Nat.zero_le _, Nat.zero_le _⟩ ?_
      rintro _ s7 ⟨v8, rfl, h⟩
      show BW G tX10_shown E 0 0 31 [(0, .ref a0), (1, .int x1), (2, .int x2), (3, .int x3)] [.int v8] s7
      refine BW.goto 35 (by decide +kernel : decode tX10_shown.2.1 31 = .ok (.goto 4, 3)) (by decide) ?_
      exact BW.iret (by decide +kernel : decode tX10_shown.2.1 35 = .ok (.ireturn, 1)) rfl (Nat.zero_le _) (Nat.zero_le _) (hQ _ _ (Ok.some h))
theorem oX10_shown {n : Nat} {P : Int32 × Sg → Prop} {s0 : Sg} {a0 : Nat} {x1 : Int32} {x2 : Int32} {x3 : Int32} (h : Ok (mX10_shown n s0 a0 x1 x2 x3) P) : ∃ n0, s0.2.1 a0 = some (10, n0) := by
  unfold mX10_shown at h
  exact Ok.isO h
theorem DX10_shown {G : Cx} {n : Nat} {P : Int32 × Sg → Prop} {s0 : Sg} {a0 : Nat} {x1 : Int32} {x2 : Int32} {x3 : Int32} (h : Ok (mX10_shown n s0 a0 x1 x2 x3) P) : BM G tX10_shown 3 73 0 0 [.ref a0, .int x1, .int x2, .int x3] s0 (fun v s => ∃ r, v = some (.int r) ∧ P (r, s)) := by
  refine BM.of (by decide +kernel) (Nat.le_of_ble_eq_true rfl) ?_
  exact bX10_shown (E := (({ frames := 3, cells := 0, slots := 0, locals := 73 }), Aof s0, 0, 0, (fun v s => ∃ r, v = some (.int r) ∧ P (r, s)))) ⟨Nat.le_refl _, Nat.le_refl _⟩ (fun r s hp => ⟨r, rfl, hp⟩) h
def mX10_snow (n : Nat) (s0 : Sg) (a0 : Nat) (x1 : Int32) : Option (Int32 × Sg) :=
  (isO 10 s0 a0).bind fun _ =>
  (mX10_in n s0 x1 (0 : Int32) (5000 : Int32)).bind fun (v2, s1) =>
  if v2 = 0 then (
    some ((-1 : Int32), s1)
  ) else (
    (toI (gV 10 s1 a0 36)).bind fun v4 =>
    if v4 = (8 : Int32) then (
      some ((-1 : Int32), s1)
    ) else (
      (toR (gV 10 s1 a0 35)).bind fun b5 =>
      (toI (gV 10 s1 a0 36)).bind fun v6 =>
      (sV 11 s1 b5 v6 (.int x1)).bind fun s7 =>
      (toI (gV 10 s7 a0 36)).bind fun v8 =>
      (pV 10 s7 a0 36 (.int (v8 + (1 : Int32)))).bind fun s9 =>
      (toI (gV 10 s9 a0 36)).bind fun v10 =>
      some (v10, s9)
    )
  )
theorem bX10_snow {G : Cx} {E : Ev} {n : Nat} (hRm : 1 ≤ E.1.frames ∧ 22 ≤ E.1.locals) {P : Int32 × Sg → Prop} (hQ : ∀ r s, P (r, s) → E.2.2.2.2 (some (.int r)) s) {s0 : Sg} {a0 : Nat} {x1 : Int32} (h : Ok (mX10_snow n s0 a0 x1) P) : BW G tX10_snow E 0 0 0 [(0, .ref a0), (1, .int x1)] [] s0 := by
  unfold mX10_snow at h
  obtain ⟨_, _, h⟩ := Ok.bind h
  refine BW.run [.iload_n 1, .iconst 0, .sipush 5000] (pc' := 5) (lv' := [(0, .ref a0), (1, .int x1)]) (st' := [.int (5000 : Int32), .int (0 : Int32), .int x1]) (by decide +kernel) rfl rfl ?_
  refine BW.callS (As := [.int x1, .int (0 : Int32), .int (5000 : Int32)]) (st := []) (by decide +kernel : decode tX10_snow.2.1 5 = .ok (.invokestatic 147, 3)) (DX10_in (Ok.bindK h)) mfX10_in lkM_X10_147 smX10_in rfl rfl (Nat.le_of_ble_eq_true rfl) ⟨Nat.le_trans (by decide) hRm.1, Nat.le_trans (by decide) hRm.2⟩ ⟨Nat.zero_le _, Nat.zero_le _⟩ ?_
  rintro _ s1 ⟨v2, rfl, h⟩
  show BW G tX10_snow E 0 0 8 [(0, .ref a0), (1, .int x1)] [.int v2] s1
  refine BW.if_eq 20 (by decide +kernel : decode tX10_snow.2.1 8 = .ok (.ifCond .eq 12, 3)) (by decide) (fun hc => ?_) (fun hc => ?_)
  · have h := (Ok.ite h).1 hc
    refine BW.run [.iconst (-1)] (pc' := 21) (lv' := [(0, .ref a0), (1, .int x1)]) (st' := [.int (-1 : Int32)]) (by decide +kernel) rfl rfl ?_
    exact BW.iret (by decide +kernel : decode tX10_snow.2.1 21 = .ok (.ireturn, 1)) rfl (Nat.zero_le _) (Nat.zero_le _) (hQ _ _ (Ok.some h))
  · have h := (Ok.ite h).2 hc
    refine BW.run [.aload_n 0] (pc' := 12) (lv' := [(0, .ref a0), (1, .int x1)]) (st' := [.ref a0]) (by decide +kernel) rfl rfl ?_
    obtain ⟨v4, ev4, h⟩ := Ok.bind h
    refine BW.get (by decide +kernel : decode tX10_snow.2.1 12 = .ok (.getfield 298, 3)) ciX10 (k := 36) (by decide) lkF_X10_298 (toI_V ev4) ?_
    refine BW.run [.bipush 8] (pc' := 17) (lv' := [(0, .ref a0), (1, .int x1)]) (st' := [.int (8 : Int32), .int v4]) (by decide +kernel) rfl rfl ?_
    refine BW.icmp_ne 22 (by decide +kernel : decode tX10_snow.2.1 17 = .ok (.if_icmp .ne 5, 3)) (by decide) (fun hc => ?_) (fun hc => ?_)
    · have h := (Ok.ite h).2 hc
      refine BW.run [.aload_n 0] (pc' := 23) (lv' := [(0, .ref a0), (1, .int x1)]) (st' := [.ref a0]) (by decide +kernel) rfl rfl ?_
      obtain ⟨b5, eb5, h⟩ := Ok.bind h
      refine BW.get (by decide +kernel : decode tX10_snow.2.1 23 = .ok (.getfield 67, 3)) ciX10 (k := 35) (by decide) lkF_X10_67 (toR_V eb5) ?_
      refine BW.run [.aload_n 0] (pc' := 27) (lv' := [(0, .ref a0), (1, .int x1)]) (st' := [.ref a0, .ref b5]) (by decide +kernel) rfl rfl ?_
      obtain ⟨v6, ev6, h⟩ := Ok.bind h
      refine BW.get (by decide +kernel : decode tX10_snow.2.1 27 = .ok (.getfield 298, 3)) ciX10 (k := 36) (by decide) lkF_X10_298 (toI_V ev6) ?_
      refine BW.run [.iload_n 1] (pc' := 31) (lv' := [(0, .ref a0), (1, .int x1)]) (st' := [.int x1, .int v6, .ref b5]) (by decide +kernel) rfl rfl ?_
      obtain ⟨s7, es7, h⟩ := Ok.bind h
      refine BW.iast (by decide +kernel : decode tX10_snow.2.1 31 = .ok (.iastore, 1)) es7 ?_
      refine BW.run [.aload_n 0, .dup] (pc' := 34) (lv' := [(0, .ref a0), (1, .int x1)]) (st' := [.ref a0, .ref a0]) (by decide +kernel) rfl rfl ?_
      obtain ⟨v8, ev8, h⟩ := Ok.bind h
      refine BW.get (by decide +kernel : decode tX10_snow.2.1 34 = .ok (.getfield 298, 3)) ciX10 (k := 36) (by decide) lkF_X10_298 (toI_V ev8) ?_
      refine BW.run [.iconst 1, .iadd] (pc' := 39) (lv' := [(0, .ref a0), (1, .int x1)]) (st' := [.int (v8 + (1 : Int32)), .ref a0]) (by decide +kernel) rfl rfl ?_
      obtain ⟨s9, es9, h⟩ := Ok.bind h
      refine BW.put (by decide +kernel : decode tX10_snow.2.1 39 = .ok (.putfield 298, 3)) ciX10 (k := 36) (by decide) lkF_X10_298 rfl rfl rfl es9 ?_
      refine BW.run [.aload_n 0] (pc' := 43) (lv' := [(0, .ref a0), (1, .int x1)]) (st' := [.ref a0]) (by decide +kernel) rfl rfl ?_
      obtain ⟨v10, ev10, h⟩ := Ok.bind h
      refine BW.get (by decide +kernel : decode tX10_snow.2.1 43 = .ok (.getfield 298, 3)) ciX10 (k := 36) (by decide) lkF_X10_298 (toI_V ev10) ?_
      exact BW.iret (by decide +kernel : decode tX10_snow.2.1 46 = .ok (.ireturn, 1)) rfl (Nat.zero_le _) (Nat.zero_le _) (hQ _ _ (Ok.some h))
    · have h := (Ok.ite h).1 hc
      refine BW.run [.iconst (-1)] (pc' := 21) (lv' := [(0, .ref a0), (1, .int x1)]) (st' := [.int (-1 : Int32)]) (by decide +kernel) rfl rfl ?_
      exact BW.iret (by decide +kernel : decode tX10_snow.2.1 21 = .ok (.ireturn, 1)) rfl (Nat.zero_le _) (Nat.zero_le _) (hQ _ _ (Ok.some h))
theorem oX10_snow {n : Nat} {P : Int32 × Sg → Prop} {s0 : Sg} {a0 : Nat} {x1 : Int32} (h : Ok (mX10_snow n s0 a0 x1) P) : ∃ n0, s0.2.1 a0 = some (10, n0) := by
  unfold mX10_snow at h
  exact Ok.isO h
theorem DX10_snow {G : Cx} {n : Nat} {P : Int32 × Sg → Prop} {s0 : Sg} {a0 : Nat} {x1 : Int32} (h : Ok (mX10_snow n s0 a0 x1) P) : BM G tX10_snow 1 22 0 0 [.ref a0, .int x1] s0 (fun v s => ∃ r, v = some (.int r) ∧ P (r, s)) := by
  refine BM.of (by decide +kernel) (Nat.le_of_ble_eq_true rfl) ?_
  exact bX10_snow (E := (({ frames := 1, cells := 0, slots := 0, locals := 22 }), Aof s0, 0, 0, (fun v s => ∃ r, v = some (.int r) ∧ P (r, s)))) ⟨Nat.le_refl _, Nat.le_refl _⟩ (fun r s hp => ⟨r, rfl, hp⟩) h
def mX10_span (n : Nat) (s0 : Sg) (a0 : Nat) (x1 : Int32) : Option (Int32 × Sg) :=
  (isO 10 s0 a0).bind fun _ =>
  (mX10_isSet n s0 a0 x1).bind fun (v2, s1) =>
  if v2 = 0 then (
    some ((-1 : Int32), s1)
  ) else (
    (mX10_canBe n s1 a0 x1).bind fun (v5, s4) =>
    if v5 = 0 then (
      some ((-1 : Int32), s4)
    ) else (
      (mX10_spanNow n s4 a0).bind fun (v8, s7) =>
      some (v8, s7)
    )
  )
theorem bX10_span {G : Cx} {E : Ev} {n : Nat} (hRm : 8 ≤ E.1.frames ∧ 178 ≤ E.1.locals) {P : Int32 × Sg → Prop} (hQ : ∀ r s, P (r, s) → E.2.2.2.2 (some (.int r)) s) {s0 : Sg} {a0 : Nat} {x1 : Int32} (h : Ok (mX10_span n s0 a0 x1) P) : BW G tX10_span E 0 0 0 [(0, .ref a0), (1, .int x1)] [] s0 := by
  unfold mX10_span at h
  obtain ⟨_, _, h⟩ := Ok.bind h
  refine BW.run [.aload_n 0, .iload_n 1] (pc' := 2) (lv' := [(0, .ref a0), (1, .int x1)]) (st' := [.int x1, .ref a0]) (by decide +kernel) rfl rfl ?_
  refine BW.callV (As := [.int x1]) (st := []) (by decide +kernel : decode tX10_span.2.1 2 = .ok (.invokevirtual 221, 3)) (DX10_isSet (Ok.bindK h)) mfX10_isSet lkM_X10_221 imX10_isSet selX10_isSet ciX10 (oX10_isSet (Ok.bindK h)).choose_spec rfl rfl (Nat.le_of_ble_eq_true rfl) ⟨Nat.le_trans (by decide) hRm.1, Nat.le_trans (by decide) hRm.2⟩ ⟨Nat.zero_le _, Nat.zero_le _⟩ ?_
  rintro _ s1 ⟨v2, rfl, h⟩
  show BW G tX10_span E 0 0 5 [(0, .ref a0), (1, .int x1)] [.int v2] s1
  refine BW.if_eq 23 (by decide +kernel : decode tX10_span.2.1 5 = .ok (.ifCond .eq 18, 3)) (by decide) (fun hc => ?_) (fun hc => ?_)
  · have h := (Ok.ite h).1 hc
    refine BW.run [.iconst (-1)] (pc' := 24) (lv' := [(0, .ref a0), (1, .int x1)]) (st' := [.int (-1 : Int32)]) (by decide +kernel) rfl rfl ?_
    exact BW.iret (by decide +kernel : decode tX10_span.2.1 24 = .ok (.ireturn, 1)) rfl (Nat.zero_le _) (Nat.zero_le _) (hQ _ _ (Ok.some h))
  · have h := (Ok.ite h).2 hc
    refine BW.run [.aload_n 0, .iload_n 1] (pc' := 10) (lv' := [(0, .ref a0), (1, .int x1)]) (st' := [.int x1, .ref a0]) (by decide +kernel) rfl rfl ?_
    refine BW.callV (As := [.int x1]) (st := []) (by decide +kernel : decode tX10_span.2.1 10 = .ok (.invokevirtual 224, 3)) (DX10_canBe (Ok.bindK h)) mfX10_canBe lkM_X10_224 imX10_canBe selX10_canBe ciX10 (oX10_canBe (Ok.bindK h)).choose_spec rfl rfl (Nat.le_of_ble_eq_true rfl) ⟨Nat.le_trans (by decide) hRm.1, Nat.le_trans (by decide) hRm.2⟩ ⟨Nat.zero_le _, Nat.zero_le _⟩ ?_
    rintro _ s4 ⟨v5, rfl, h⟩
    show BW G tX10_span E 0 0 13 [(0, .ref a0), (1, .int x1)] [.int v5] s4
    refine BW.if_eq 23 (by decide +kernel : decode tX10_span.2.1 13 = .ok (.ifCond .eq 10, 3)) (by decide) (fun hc => ?_) (fun hc => ?_)
    · have h := (Ok.ite h).1 hc
      refine BW.run [.iconst (-1)] (pc' := 24) (lv' := [(0, .ref a0), (1, .int x1)]) (st' := [.int (-1 : Int32)]) (by decide +kernel) rfl rfl ?_
      exact BW.iret (by decide +kernel : decode tX10_span.2.1 24 = .ok (.ireturn, 1)) rfl (Nat.zero_le _) (Nat.zero_le _) (hQ _ _ (Ok.some h))
    · have h := (Ok.ite h).2 hc
      refine BW.run [.aload_n 0] (pc' := 17) (lv' := [(0, .ref a0), (1, .int x1)]) (st' := [.ref a0]) (by decide +kernel) rfl rfl ?_
      refine BW.callV (As := []) (st := []) (by decide +kernel : decode tX10_span.2.1 17 = .ok (.invokevirtual 257, 3)) (DX10_spanNow (Ok.bindK h)) mfX10_spanNow lkM_X10_257 imX10_spanNow selX10_spanNow ciX10 (oX10_spanNow (Ok.bindK h)).choose_spec rfl rfl (Nat.le_of_ble_eq_true rfl) ⟨Nat.le_trans (by decide) hRm.1, Nat.le_trans (by decide) hRm.2⟩ ⟨Nat.zero_le _, Nat.zero_le _⟩ ?_
      rintro _ s7 ⟨v8, rfl, h⟩
      show BW G tX10_span E 0 0 20 [(0, .ref a0), (1, .int x1)] [.int v8] s7
      refine BW.goto 24 (by decide +kernel : decode tX10_span.2.1 20 = .ok (.goto 4, 3)) (by decide) ?_
      exact BW.iret (by decide +kernel : decode tX10_span.2.1 24 = .ok (.ireturn, 1)) rfl (Nat.zero_le _) (Nat.zero_le _) (hQ _ _ (Ok.some h))
theorem oX10_span {n : Nat} {P : Int32 × Sg → Prop} {s0 : Sg} {a0 : Nat} {x1 : Int32} (h : Ok (mX10_span n s0 a0 x1) P) : ∃ n0, s0.2.1 a0 = some (10, n0) := by
  unfold mX10_span at h
  exact Ok.isO h
theorem DX10_span {G : Cx} {n : Nat} {P : Int32 × Sg → Prop} {s0 : Sg} {a0 : Nat} {x1 : Int32} (h : Ok (mX10_span n s0 a0 x1) P) : BM G tX10_span 8 178 0 0 [.ref a0, .int x1] s0 (fun v s => ∃ r, v = some (.int r) ∧ P (r, s)) := by
  refine BM.of (by decide +kernel) (Nat.le_of_ble_eq_true rfl) ?_
  exact bX10_span (E := (({ frames := 8, cells := 0, slots := 0, locals := 178 }), Aof s0, 0, 0, (fun v s => ∃ r, v = some (.int r) ∧ P (r, s)))) ⟨Nat.le_refl _, Nat.le_refl _⟩ (fun r s hp => ⟨r, rfl, hp⟩) h
def mX10_start (n : Nat) (s0 : Sg) (a0 : Nat) (x1 : Int32) (x2 : Int32) : Option (Int32 × Sg) :=
  (isO 10 s0 a0).bind fun _ =>
  (mX10_isWalk n s0 a0 x1).bind fun (v2, s1) =>
  if v2 = 0 then (
    some ((0 : Int32), s1)
  ) else (
    (toI (gV 10 s1 a0 3)).bind fun v4 =>
    (mX10_in n s1 x2 (0 : Int32) v4).bind fun (v6, s5) =>
    if v6 = 0 then (
      some ((0 : Int32), s5)
    ) else (
      (toR (gV 10 s5 a0 19)).bind fun b8 =>
      (sV 11 s5 b8 x1 (.int x2)).bind fun s9 =>
      some ((1 : Int32), s9)
    )
  )
theorem bX10_start {G : Cx} {E : Ev} {n : Nat} (hRm : 2 ≤ E.1.frames ∧ 43 ≤ E.1.locals) {P : Int32 × Sg → Prop} (hQ : ∀ r s, P (r, s) → E.2.2.2.2 (some (.int r)) s) {s0 : Sg} {a0 : Nat} {x1 : Int32} {x2 : Int32} (h : Ok (mX10_start n s0 a0 x1 x2) P) : BW G tX10_start E 0 0 0 [(0, .ref a0), (1, .int x1), (2, .int x2)] [] s0 := by
  unfold mX10_start at h
  obtain ⟨_, _, h⟩ := Ok.bind h
  refine BW.run [.aload_n 0, .iload_n 1] (pc' := 2) (lv' := [(0, .ref a0), (1, .int x1), (2, .int x2)]) (st' := [.int x1, .ref a0]) (by decide +kernel) rfl rfl ?_
  refine BW.callV (As := [.int x1]) (st := []) (by decide +kernel : decode tX10_start.2.1 2 = .ok (.invokevirtual 171, 3)) (DX10_isWalk (Ok.bindK h)) mfX10_isWalk lkM_X10_171 imX10_isWalk selX10_isWalk ciX10 (oX10_isWalk (Ok.bindK h)).choose_spec rfl rfl (Nat.le_of_ble_eq_true rfl) ⟨Nat.le_trans (by decide) hRm.1, Nat.le_trans (by decide) hRm.2⟩ ⟨Nat.zero_le _, Nat.zero_le _⟩ ?_
  rintro _ s1 ⟨v2, rfl, h⟩
  show BW G tX10_start E 0 0 5 [(0, .ref a0), (1, .int x1), (2, .int x2)] [.int v2] s1
  refine BW.if_eq 20 (by decide +kernel : decode tX10_start.2.1 5 = .ok (.ifCond .eq 15, 3)) (by decide) (fun hc => ?_) (fun hc => ?_)
  · have h := (Ok.ite h).1 hc
    refine BW.run [.iconst 0] (pc' := 21) (lv' := [(0, .ref a0), (1, .int x1), (2, .int x2)]) (st' := [.int (0 : Int32)]) (by decide +kernel) rfl rfl ?_
    exact BW.zret (by decide +kernel : decode tX10_start.2.1 21 = .ok (.ireturn, 1)) rfl (Or.inl rfl) (Nat.zero_le _) (Nat.zero_le _) (hQ _ _ (Ok.some h))
  · have h := (Ok.ite h).2 hc
    refine BW.run [.iload_n 2, .iconst 0, .aload_n 0] (pc' := 11) (lv' := [(0, .ref a0), (1, .int x1), (2, .int x2)]) (st' := [.ref a0, .int (0 : Int32), .int x2]) (by decide +kernel) rfl rfl ?_
    obtain ⟨v4, ev4, h⟩ := Ok.bind h
    refine BW.get (by decide +kernel : decode tX10_start.2.1 11 = .ok (.getfield 84, 3)) ciX10 (k := 3) (by decide) lkF_X10_84 (toI_V ev4) ?_
    refine BW.callS (As := [.int x2, .int (0 : Int32), .int v4]) (st := []) (by decide +kernel : decode tX10_start.2.1 14 = .ok (.invokestatic 147, 3)) (DX10_in (Ok.bindK h)) mfX10_in lkM_X10_147 smX10_in rfl rfl (Nat.le_of_ble_eq_true rfl) ⟨Nat.le_trans (by decide) hRm.1, Nat.le_trans (by decide) hRm.2⟩ ⟨Nat.zero_le _, Nat.zero_le _⟩ ?_
    rintro _ s5 ⟨v6, rfl, h⟩
    show BW G tX10_start E 0 0 17 [(0, .ref a0), (1, .int x1), (2, .int x2)] [.int v6] s5
    refine BW.if_ne 22 (by decide +kernel : decode tX10_start.2.1 17 = .ok (.ifCond .ne 5, 3)) (by decide) (fun hc => ?_) (fun hc => ?_)
    · have h := (Ok.ite h).2 hc
      refine BW.run [.aload_n 0] (pc' := 23) (lv' := [(0, .ref a0), (1, .int x1), (2, .int x2)]) (st' := [.ref a0]) (by decide +kernel) rfl rfl ?_
      obtain ⟨b8, eb8, h⟩ := Ok.bind h
      refine BW.get (by decide +kernel : decode tX10_start.2.1 23 = .ok (.getfield 40, 3)) ciX10 (k := 19) (by decide) lkF_X10_40 (toR_V eb8) ?_
      refine BW.run [.iload_n 1, .iload_n 2] (pc' := 28) (lv' := [(0, .ref a0), (1, .int x1), (2, .int x2)]) (st' := [.int x2, .int x1, .ref b8]) (by decide +kernel) rfl rfl ?_
      obtain ⟨s9, es9, h⟩ := Ok.bind h
      refine BW.iast (by decide +kernel : decode tX10_start.2.1 28 = .ok (.iastore, 1)) es9 ?_
      refine BW.run [.iconst 1] (pc' := 30) (lv' := [(0, .ref a0), (1, .int x1), (2, .int x2)]) (st' := [.int (1 : Int32)]) (by decide +kernel) rfl rfl ?_
      exact BW.zret (by decide +kernel : decode tX10_start.2.1 30 = .ok (.ireturn, 1)) rfl (Or.inr rfl) (Nat.zero_le _) (Nat.zero_le _) (hQ _ _ (Ok.some h))
    · have h := (Ok.ite h).1 hc
      refine BW.run [.iconst 0] (pc' := 21) (lv' := [(0, .ref a0), (1, .int x1), (2, .int x2)]) (st' := [.int (0 : Int32)]) (by decide +kernel) rfl rfl ?_
      exact BW.zret (by decide +kernel : decode tX10_start.2.1 21 = .ok (.ireturn, 1)) rfl (Or.inl rfl) (Nat.zero_le _) (Nat.zero_le _) (hQ _ _ (Ok.some h))
theorem oX10_start {n : Nat} {P : Int32 × Sg → Prop} {s0 : Sg} {a0 : Nat} {x1 : Int32} {x2 : Int32} (h : Ok (mX10_start n s0 a0 x1 x2) P) : ∃ n0, s0.2.1 a0 = some (10, n0) := by
  unfold mX10_start at h
  exact Ok.isO h
theorem DX10_start {G : Cx} {n : Nat} {P : Int32 × Sg → Prop} {s0 : Sg} {a0 : Nat} {x1 : Int32} {x2 : Int32} (h : Ok (mX10_start n s0 a0 x1 x2) P) : BM G tX10_start 2 43 0 0 [.ref a0, .int x1, .int x2] s0 (fun v s => ∃ r, v = some (.int r) ∧ P (r, s)) := by
  refine BM.of (by decide +kernel) (Nat.le_of_ble_eq_true rfl) ?_
  exact bX10_start (E := (({ frames := 2, cells := 0, slots := 0, locals := 43 }), Aof s0, 0, 0, (fun v s => ∃ r, v = some (.int r) ∧ P (r, s)))) ⟨Nat.le_refl _, Nat.le_refl _⟩ (fun r s hp => ⟨r, rfl, hp⟩) h
def mX10_sure (n : Nat) (s0 : Sg) (a0 : Nat) (x1 : Int32) (x2 : Int32) (x3 : Int32) (x4 : Int32) (x5 : Int32) : Option (Int32 × Sg) :=
  (isO 10 s0 a0).bind fun _ =>
  (mX10_isSet n s0 a0 x1).bind fun (v2, s1) =>
  if v2 = 0 then (
    some ((-1 : Int32), s1)
  ) else (
    (mX10_areTwo n s1 a0 x2 x3).bind fun (v5, s4) =>
    if v5 = 0 then (
      some ((-1 : Int32), s4)
    ) else (
      (mX10_isCell n s4 a0 x4 x5).bind fun (v8, s7) =>
      if v8 = 0 then (
        some ((-1 : Int32), s7)
      ) else (
        (mX10_cross n s7 a0 x2 x3 (((16 : Int32) * x5) + x4)).bind fun (v11, s10) =>
        if v11 = 0 then (
          some ((-1 : Int32), s10)
        ) else (
          (mX10_canBe n s10 a0 x1).bind fun (v14, s13) =>
          if v14 = 0 then (
            some ((-1 : Int32), s13)
          ) else (
            (mX10_sureOf n s13 a0 x2 x3 (((16 : Int32) * x5) + x4)).bind fun (v17, s16) =>
            some (v17, s16)
          )
        )
      )
    )
  )
theorem bX10_sure {G : Cx} {E : Ev} {n : Nat} (hRm : 8 ≤ E.1.frames ∧ 178 ≤ E.1.locals) {P : Int32 × Sg → Prop} (hQ : ∀ r s, P (r, s) → E.2.2.2.2 (some (.int r)) s) {s0 : Sg} {a0 : Nat} {x1 : Int32} {x2 : Int32} {x3 : Int32} {x4 : Int32} {x5 : Int32} (h : Ok (mX10_sure n s0 a0 x1 x2 x3 x4 x5) P) : BW G tX10_sure E 0 0 0 [(0, .ref a0), (1, .int x1), (2, .int x2), (3, .int x3), (4, .int x4), (5, .int x5)] [] s0 := by
  unfold mX10_sure at h
  obtain ⟨_, _, h⟩ := Ok.bind h
  refine BW.run [.aload_n 0, .iload_n 1] (pc' := 2) (lv' := [(0, .ref a0), (1, .int x1), (2, .int x2), (3, .int x3), (4, .int x4), (5, .int x5)]) (st' := [.int x1, .ref a0]) (by decide +kernel) rfl rfl ?_
  refine BW.callV (As := [.int x1]) (st := []) (by decide +kernel : decode tX10_sure.2.1 2 = .ok (.invokevirtual 221, 3)) (DX10_isSet (Ok.bindK h)) mfX10_isSet lkM_X10_221 imX10_isSet selX10_isSet ciX10 (oX10_isSet (Ok.bindK h)).choose_spec rfl rfl (Nat.le_of_ble_eq_true rfl) ⟨Nat.le_trans (by decide) hRm.1, Nat.le_trans (by decide) hRm.2⟩ ⟨Nat.zero_le _, Nat.zero_le _⟩ ?_
  rintro _ s1 ⟨v2, rfl, h⟩
  show BW G tX10_sure E 0 0 5 [(0, .ref a0), (1, .int x1), (2, .int x2), (3, .int x3), (4, .int x4), (5, .int x5)] [.int v2] s1
  refine BW.if_eq 70 (by decide +kernel : decode tX10_sure.2.1 5 = .ok (.ifCond .eq 65, 3)) (by decide) (fun hc => ?_) (fun hc => ?_)
  · have h := (Ok.ite h).1 hc
    refine BW.run [.iconst (-1)] (pc' := 71) (lv' := [(0, .ref a0), (1, .int x1), (2, .int x2), (3, .int x3), (4, .int x4), (5, .int x5)]) (st' := [.int (-1 : Int32)]) (by decide +kernel) rfl rfl ?_
    exact BW.iret (by decide +kernel : decode tX10_sure.2.1 71 = .ok (.ireturn, 1)) rfl (Nat.zero_le _) (Nat.zero_le _) (hQ _ _ (Ok.some h))
  · have h := (Ok.ite h).2 hc
    refine BW.run [.aload_n 0, .iload_n 2, .iload_n 3] (pc' := 11) (lv' := [(0, .ref a0), (1, .int x1), (2, .int x2), (3, .int x3), (4, .int x4), (5, .int x5)]) (st' := [.int x3, .int x2, .ref a0]) (by decide +kernel) rfl rfl ?_
    refine BW.callV (As := [.int x2, .int x3]) (st := []) (by decide +kernel : decode tX10_sure.2.1 11 = .ok (.invokevirtual 248, 3)) (DX10_areTwo (Ok.bindK h)) mfX10_areTwo lkM_X10_248 imX10_areTwo selX10_areTwo ciX10 (oX10_areTwo (Ok.bindK h)).choose_spec rfl rfl (Nat.le_of_ble_eq_true rfl) ⟨Nat.le_trans (by decide) hRm.1, Nat.le_trans (by decide) hRm.2⟩ ⟨Nat.zero_le _, Nat.zero_le _⟩ ?_
    rintro _ s4 ⟨v5, rfl, h⟩
    show BW G tX10_sure E 0 0 14 [(0, .ref a0), (1, .int x1), (2, .int x2), (3, .int x3), (4, .int x4), (5, .int x5)] [.int v5] s4
    refine BW.if_eq 70 (by decide +kernel : decode tX10_sure.2.1 14 = .ok (.ifCond .eq 56, 3)) (by decide) (fun hc => ?_) (fun hc => ?_)
    · have h := (Ok.ite h).1 hc
      refine BW.run [.iconst (-1)] (pc' := 71) (lv' := [(0, .ref a0), (1, .int x1), (2, .int x2), (3, .int x3), (4, .int x4), (5, .int x5)]) (st' := [.int (-1 : Int32)]) (by decide +kernel) rfl rfl ?_
      exact BW.iret (by decide +kernel : decode tX10_sure.2.1 71 = .ok (.ireturn, 1)) rfl (Nat.zero_le _) (Nat.zero_le _) (hQ _ _ (Ok.some h))
    · have h := (Ok.ite h).2 hc
      refine BW.run [.aload_n 0, .iload 4, .iload 5] (pc' := 22) (lv' := [(0, .ref a0), (1, .int x1), (2, .int x2), (3, .int x3), (4, .int x4), (5, .int x5)]) (st' := [.int x5, .int x4, .ref a0]) (by decide +kernel) rfl rfl ?_
      refine BW.callV (As := [.int x4, .int x5]) (st := []) (by decide +kernel : decode tX10_sure.2.1 22 = .ok (.invokevirtual 178, 3)) (DX10_isCell (Ok.bindK h)) mfX10_isCell lkM_X10_178 imX10_isCell selX10_isCell ciX10 (oX10_isCell (Ok.bindK h)).choose_spec rfl rfl (Nat.le_of_ble_eq_true rfl) ⟨Nat.le_trans (by decide) hRm.1, Nat.le_trans (by decide) hRm.2⟩ ⟨Nat.zero_le _, Nat.zero_le _⟩ ?_
      rintro _ s7 ⟨v8, rfl, h⟩
      show BW G tX10_sure E 0 0 25 [(0, .ref a0), (1, .int x1), (2, .int x2), (3, .int x3), (4, .int x4), (5, .int x5)] [.int v8] s7
      refine BW.if_eq 70 (by decide +kernel : decode tX10_sure.2.1 25 = .ok (.ifCond .eq 45, 3)) (by decide) (fun hc => ?_) (fun hc => ?_)
      · have h := (Ok.ite h).1 hc
        refine BW.run [.iconst (-1)] (pc' := 71) (lv' := [(0, .ref a0), (1, .int x1), (2, .int x2), (3, .int x3), (4, .int x4), (5, .int x5)]) (st' := [.int (-1 : Int32)]) (by decide +kernel) rfl rfl ?_
        exact BW.iret (by decide +kernel : decode tX10_sure.2.1 71 = .ok (.ireturn, 1)) rfl (Nat.zero_le _) (Nat.zero_le _) (hQ _ _ (Ok.some h))
      · have h := (Ok.ite h).2 hc
        refine BW.run [.aload_n 0, .iload_n 2, .iload_n 3, .bipush 16, .iload 5, .imul, .iload 4, .iadd] (pc' := 39) (lv' := [(0, .ref a0), (1, .int x1), (2, .int x2), (3, .int x3), (4, .int x4), (5, .int x5)]) (st' := [.int (((16 : Int32) * x5) + x4), .int x3, .int x2, .ref a0]) (by decide +kernel) rfl rfl ?_
        refine BW.callV (As := [.int x2, .int x3, .int (((16 : Int32) * x5) + x4)]) (st := []) (by decide +kernel : decode tX10_sure.2.1 39 = .ok (.invokevirtual 251, 3)) (DX10_cross (Ok.bindK h)) mfX10_cross lkM_X10_251 imX10_cross selX10_cross ciX10 (oX10_cross (Ok.bindK h)).choose_spec rfl rfl (Nat.le_of_ble_eq_true rfl) ⟨Nat.le_trans (by decide) hRm.1, Nat.le_trans (by decide) hRm.2⟩ ⟨Nat.zero_le _, Nat.zero_le _⟩ ?_
        rintro _ s10 ⟨v11, rfl, h⟩
        show BW G tX10_sure E 0 0 42 [(0, .ref a0), (1, .int x1), (2, .int x2), (3, .int x3), (4, .int x4), (5, .int x5)] [.int v11] s10
        refine BW.if_eq 70 (by decide +kernel : decode tX10_sure.2.1 42 = .ok (.ifCond .eq 28, 3)) (by decide) (fun hc => ?_) (fun hc => ?_)
        · have h := (Ok.ite h).1 hc
          refine BW.run [.iconst (-1)] (pc' := 71) (lv' := [(0, .ref a0), (1, .int x1), (2, .int x2), (3, .int x3), (4, .int x4), (5, .int x5)]) (st' := [.int (-1 : Int32)]) (by decide +kernel) rfl rfl ?_
          exact BW.iret (by decide +kernel : decode tX10_sure.2.1 71 = .ok (.ireturn, 1)) rfl (Nat.zero_le _) (Nat.zero_le _) (hQ _ _ (Ok.some h))
        · have h := (Ok.ite h).2 hc
          refine BW.run [.aload_n 0, .iload_n 1] (pc' := 47) (lv' := [(0, .ref a0), (1, .int x1), (2, .int x2), (3, .int x3), (4, .int x4), (5, .int x5)]) (st' := [.int x1, .ref a0]) (by decide +kernel) rfl rfl ?_
          refine BW.callV (As := [.int x1]) (st := []) (by decide +kernel : decode tX10_sure.2.1 47 = .ok (.invokevirtual 224, 3)) (DX10_canBe (Ok.bindK h)) mfX10_canBe lkM_X10_224 imX10_canBe selX10_canBe ciX10 (oX10_canBe (Ok.bindK h)).choose_spec rfl rfl (Nat.le_of_ble_eq_true rfl) ⟨Nat.le_trans (by decide) hRm.1, Nat.le_trans (by decide) hRm.2⟩ ⟨Nat.zero_le _, Nat.zero_le _⟩ ?_
          rintro _ s13 ⟨v14, rfl, h⟩
          show BW G tX10_sure E 0 0 50 [(0, .ref a0), (1, .int x1), (2, .int x2), (3, .int x3), (4, .int x4), (5, .int x5)] [.int v14] s13
          refine BW.if_eq 70 (by decide +kernel : decode tX10_sure.2.1 50 = .ok (.ifCond .eq 20, 3)) (by decide) (fun hc => ?_) (fun hc => ?_)
          · have h := (Ok.ite h).1 hc
            refine BW.run [.iconst (-1)] (pc' := 71) (lv' := [(0, .ref a0), (1, .int x1), (2, .int x2), (3, .int x3), (4, .int x4), (5, .int x5)]) (st' := [.int (-1 : Int32)]) (by decide +kernel) rfl rfl ?_
            exact BW.iret (by decide +kernel : decode tX10_sure.2.1 71 = .ok (.ireturn, 1)) rfl (Nat.zero_le _) (Nat.zero_le _) (hQ _ _ (Ok.some h))
          · have h := (Ok.ite h).2 hc
            refine BW.run [.aload_n 0, .iload_n 2, .iload_n 3, .bipush 16, .iload 5, .imul, .iload 4, .iadd] (pc' := 64) (lv' := [(0, .ref a0), (1, .int x1), (2, .int x2), (3, .int x3), (4, .int x4), (5, .int x5)]) (st' := [.int (((16 : Int32) * x5) + x4), .int x3, .int x2, .ref a0]) (by decide +kernel) rfl rfl ?_
            refine BW.callV (As := [.int x2, .int x3, .int (((16 : Int32) * x5) + x4)]) (st := []) (by decide +kernel : decode tX10_sure.2.1 64 = .ok (.invokevirtual 254, 3)) (DX10_sureOf (Ok.bindK h)) mfX10_sureOf lkM_X10_254 imX10_sureOf selX10_sureOf ciX10 (oX10_sureOf (Ok.bindK h)).choose_spec rfl rfl (Nat.le_of_ble_eq_true rfl) ⟨Nat.le_trans (by decide) hRm.1, Nat.le_trans (by decide) hRm.2⟩ ⟨Nat.zero_le _, Nat.zero_le _⟩ ?_
            rintro _ s16 ⟨v17, rfl, h⟩
            show BW G tX10_sure E 0 0 67 [(0, .ref a0), (1, .int x1), (2, .int x2), (3, .int x3), (4, .int x4), (5, .int x5)] [.int v17] s16
            refine BW.goto 71 (by decide +kernel : decode tX10_sure.2.1 67 = .ok (.goto 4, 3)) (by decide) ?_
            exact BW.iret (by decide +kernel : decode tX10_sure.2.1 71 = .ok (.ireturn, 1)) rfl (Nat.zero_le _) (Nat.zero_le _) (hQ _ _ (Ok.some h))
theorem oX10_sure {n : Nat} {P : Int32 × Sg → Prop} {s0 : Sg} {a0 : Nat} {x1 : Int32} {x2 : Int32} {x3 : Int32} {x4 : Int32} {x5 : Int32} (h : Ok (mX10_sure n s0 a0 x1 x2 x3 x4 x5) P) : ∃ n0, s0.2.1 a0 = some (10, n0) := by
  unfold mX10_sure at h
  exact Ok.isO h
theorem DX10_sure {G : Cx} {n : Nat} {P : Int32 × Sg → Prop} {s0 : Sg} {a0 : Nat} {x1 : Int32} {x2 : Int32} {x3 : Int32} {x4 : Int32} {x5 : Int32} (h : Ok (mX10_sure n s0 a0 x1 x2 x3 x4 x5) P) : BM G tX10_sure 8 178 0 0 [.ref a0, .int x1, .int x2, .int x3, .int x4, .int x5] s0 (fun v s => ∃ r, v = some (.int r) ∧ P (r, s)) := by
  refine BM.of (by decide +kernel) (Nat.le_of_ble_eq_true rfl) ?_
  exact bX10_sure (E := (({ frames := 8, cells := 0, slots := 0, locals := 178 }), Aof s0, 0, 0, (fun v s => ∃ r, v = some (.int r) ∧ P (r, s)))) ⟨Nat.le_refl _, Nat.le_refl _⟩ (fun r s hp => ⟨r, rfl, hp⟩) h
def mX10_thrown (n : Nat) (s0 : Sg) (a0 : Nat) : Option (Int32 × Sg) :=
  (isO 10 s0 a0).bind fun _ =>
  (toI (gV 10 s0 a0 0)).bind fun v1 =>
  some (v1, s0)
theorem bX10_thrown {G : Cx} {E : Ev} {n : Nat} (hRm : 0 ≤ E.1.frames ∧ 0 ≤ E.1.locals) {P : Int32 × Sg → Prop} (hQ : ∀ r s, P (r, s) → E.2.2.2.2 (some (.int r)) s) {s0 : Sg} {a0 : Nat} (h : Ok (mX10_thrown n s0 a0) P) : BW G tX10_thrown E 0 0 0 [(0, .ref a0)] [] s0 := by
  unfold mX10_thrown at h
  obtain ⟨_, _, h⟩ := Ok.bind h
  refine BW.run [.aload_n 0] (pc' := 1) (lv' := [(0, .ref a0)]) (st' := [.ref a0]) (by decide +kernel) rfl rfl ?_
  obtain ⟨v1, ev1, h⟩ := Ok.bind h
  refine BW.get (by decide +kernel : decode tX10_thrown.2.1 1 = .ok (.getfield 87, 3)) ciX10 (k := 0) (by decide) lkF_X10_87 (toI_V ev1) ?_
  exact BW.iret (by decide +kernel : decode tX10_thrown.2.1 4 = .ok (.ireturn, 1)) rfl (Nat.zero_le _) (Nat.zero_le _) (hQ _ _ (Ok.some h))
theorem oX10_thrown {n : Nat} {P : Int32 × Sg → Prop} {s0 : Sg} {a0 : Nat} (h : Ok (mX10_thrown n s0 a0) P) : ∃ n0, s0.2.1 a0 = some (10, n0) := by
  unfold mX10_thrown at h
  exact Ok.isO h
theorem DX10_thrown {G : Cx} {n : Nat} {P : Int32 × Sg → Prop} {s0 : Sg} {a0 : Nat} (h : Ok (mX10_thrown n s0 a0) P) : BM G tX10_thrown 0 0 0 0 [.ref a0] s0 (fun v s => ∃ r, v = some (.int r) ∧ P (r, s)) := by
  refine BM.of (by decide +kernel) (Nat.le_of_ble_eq_true rfl) ?_
  exact bX10_thrown (E := (({ frames := 0, cells := 0, slots := 0, locals := 0 }), Aof s0, 0, 0, (fun v s => ∃ r, v = some (.int r) ∧ P (r, s)))) ⟨Nat.le_refl _, Nat.le_refl _⟩ (fun r s hp => ⟨r, rfl, hp⟩) h
def mX10_told_68 (n : Nat) (s0 : Sg) (t0 : Int32) (t1 : Int32) (a0 : Nat) (x1 : Int32) (x4 : Int32) : Option ((Sg × Int32 × Int32) ⊕ (Sg × Int32)) :=
  nm (t1 + t0) fun v11 =>
  some (.inl (s0, v11, (x4 + (1 : Int32))))
theorem bX10_told_68 {G : Cx} {E : Ev} {n : Nat} (hRm : 2 ≤ E.1.frames ∧ 44 ≤ E.1.locals) {x2 : Int32} {s0 : Sg} {t0 : Int32} {t1 : Int32} {a0 : Nat} {x1 : Int32} {x4 : Int32} {P : (Sg × Int32 × Int32) ⊕ (Sg × Int32) → Prop} (hC : ∀ (s : Sg) (c3 : Int32) (c4 : Int32), P (.inl (s, c3, c4)) → BW G tX10_told E 0 0 41 [(0, .ref a0), (1, .int x1), (2, .int x2), (3, .int c3), (4, .int c4)] [] s) (hE : ∀ (s : Sg) (c3 : Int32), P (.inr (s, c3)) → BW G tX10_told E 0 0 76 [(0, .ref a0), (1, .int x1), (2, .int x2), (3, .int c3)] [] s)  (h : Ok (mX10_told_68 n s0 t0 t1 a0 x1 x4) P) : BW G tX10_told E 0 0 68 [(0, .ref a0), (1, .int x1), (2, .int x2), (4, .int x4)] [.int t0, .int t1] s0 := by
  unfold mX10_told_68 at h
  refine BW.run [.iadd] (pc' := 69) (lv' := [(0, .ref a0), (1, .int x1), (2, .int x2), (4, .int x4)]) (st' := [.int (t1 + t0)]) (by decide +kernel) rfl rfl ?_
  obtain ⟨v11, wv11, h⟩ := Ok.nm h
  refine BW.nm wv11 ?_
  refine BW.run [.istore_n 3, .iinc 4 1] (pc' := 73) (lv' := [(0, .ref a0), (1, .int x1), (2, .int x2), (3, .int v11), (4, .int (x4 + (1 : Int32)))]) (st' := []) (by decide +kernel) rfl rfl ?_
  refine BW.goto 41 (by decide +kernel : decode tX10_told.2.1 73 = .ok (.goto (-32), 3)) (by decide) ?_
  exact hC _ _ _ (Ok.some h)
def mX10_told_L41 (n : Nat) (a0 : Nat) (x1 : Int32) : (Sg × Int32 × Int32) → Option ((Sg × Int32 × Int32) ⊕ (Sg × Int32))
  | (s0, x3, x4) =>
    (toR (gV 10 s0 a0 16)).bind fun b6 =>
    (toI (aV 11 s0 b6 x1)).bind fun v7 =>
    if v7 < x4 then (
      some (.inr (s0, x3))
    ) else (
      (mX10_hasPrint n s0 a0 x1 x4).bind fun (v9, s8) =>
      if v9 = 0 then (
        mX10_told_68 n s8 (0 : Int32) x3 a0 x1 x4
      ) else (
        mX10_told_68 n s8 (1 : Int32) x3 a0 x1 x4
      )
    )
theorem bX10_told_L41 {G : Cx} {E : Ev} {n : Nat} (hRm : 2 ≤ E.1.frames ∧ 44 ≤ E.1.locals) {a0 : Nat} {x1 : Int32} {x2 : Int32} {P : (Sg × Int32 × Int32) ⊕ (Sg × Int32) → Prop} (hC : ∀ (s : Sg) (c3 : Int32) (c4 : Int32), P (.inl (s, c3, c4)) → BW G tX10_told E 0 0 41 [(0, .ref a0), (1, .int x1), (2, .int x2), (3, .int c3), (4, .int c4)] [] s) (hE : ∀ (s : Sg) (c3 : Int32), P (.inr (s, c3)) → BW G tX10_told E 0 0 76 [(0, .ref a0), (1, .int x1), (2, .int x2), (3, .int c3)] [] s) {s0 : Sg} {x3 : Int32} {x4 : Int32} (h : Ok (mX10_told_L41 n a0 x1 (s0, x3, x4)) P) : BW G tX10_told E 0 0 41 [(0, .ref a0), (1, .int x1), (2, .int x2), (3, .int x3), (4, .int x4)] [] s0 := by
  unfold mX10_told_L41 at h
  refine BW.run [.iload 4, .aload_n 0] (pc' := 44) (lv' := [(0, .ref a0), (1, .int x1), (2, .int x2), (3, .int x3), (4, .int x4)]) (st' := [.ref a0, .int x4]) (by decide +kernel) rfl rfl ?_
  obtain ⟨b6, eb6, h⟩ := Ok.bind h
  refine BW.get (by decide +kernel : decode tX10_told.2.1 44 = .ok (.getfield 31, 3)) ciX10 (k := 16) (by decide) lkF_X10_31 (toR_V eb6) ?_
  refine BW.run [.iload_n 1] (pc' := 48) (lv' := [(0, .ref a0), (1, .int x1), (2, .int x2), (3, .int x3), (4, .int x4)]) (st' := [.int x1, .ref b6, .int x4]) (by decide +kernel) rfl rfl ?_
  obtain ⟨v7, ev7, h⟩ := Ok.bind h
  refine BW.iald (by decide +kernel : decode tX10_told.2.1 48 = .ok (.iaload, 1)) (toI_V ev7) ?_
  refine BW.icmp_gt 76 (by decide +kernel : decode tX10_told.2.1 49 = .ok (.if_icmp .gt 27, 3)) (by decide) (fun hc => ?_) (fun hc => ?_)
  · have h := (Ok.ite h).1 hc
    refine BW.sub [0, 1, 2, 3] rfl ?_
    exact hE _ _ (Ok.some h)
  · have h := (Ok.ite h).2 hc
    refine BW.run [.iload_n 3, .aload_n 0, .iload_n 1, .iload 4] (pc' := 57) (lv' := [(0, .ref a0), (1, .int x1), (2, .int x2), (3, .int x3), (4, .int x4)]) (st' := [.int x4, .int x1, .ref a0, .int x3]) (by decide +kernel) rfl rfl ?_
    refine BW.callV (As := [.int x1, .int x4]) (st := [.int x3]) (by decide +kernel : decode tX10_told.2.1 57 = .ok (.invokevirtual 174, 3)) (DX10_hasPrint (Ok.bindK h)) mfX10_hasPrint lkM_X10_174 imX10_hasPrint selX10_hasPrint ciX10 (oX10_hasPrint (Ok.bindK h)).choose_spec rfl rfl (Nat.le_of_ble_eq_true rfl) ⟨Nat.le_trans (by decide) hRm.1, Nat.le_trans (by decide) hRm.2⟩ ⟨Nat.zero_le _, Nat.zero_le _⟩ ?_
    rintro _ s8 ⟨v9, rfl, h⟩
    show BW G tX10_told E 0 0 60 [(0, .ref a0), (1, .int x1), (2, .int x2), (3, .int x3), (4, .int x4)] [.int v9, .int x3] s8
    refine BW.if_eq 67 (by decide +kernel : decode tX10_told.2.1 60 = .ok (.ifCond .eq 7, 3)) (by decide) (fun hc => ?_) (fun hc => ?_)
    · have h := (Ok.ite h).1 hc
      refine BW.run [.iconst 0] (pc' := 68) (lv' := [(0, .ref a0), (1, .int x1), (2, .int x2), (3, .int x3), (4, .int x4)]) (st' := [.int (0 : Int32), .int x3]) (by decide +kernel) rfl rfl ?_
      refine BW.sub [0, 1, 2, 4] rfl ?_
      exact bX10_told_68 hRm hC hE h
    · have h := (Ok.ite h).2 hc
      refine BW.run [.iconst 1] (pc' := 64) (lv' := [(0, .ref a0), (1, .int x1), (2, .int x2), (3, .int x3), (4, .int x4)]) (st' := [.int (1 : Int32), .int x3]) (by decide +kernel) rfl rfl ?_
      refine BW.goto 68 (by decide +kernel : decode tX10_told.2.1 64 = .ok (.goto 4, 3)) (by decide) ?_
      refine BW.sub [0, 1, 2, 4] rfl ?_
      exact bX10_told_68 hRm hC hE h
theorem bX10_told_W41 {G : Cx} {E : Ev} {n : Nat} (hRm : 2 ≤ E.1.frames ∧ 44 ≤ E.1.locals) {a0 : Nat} {x1 : Int32} {x2 : Int32} {K : (Sg × Int32) → Prop} (hE : ∀ (s : Sg) (c3 : Int32), K (s, c3) → BW G tX10_told E 0 0 76 [(0, .ref a0), (1, .int x1), (2, .int x2), (3, .int c3)] [] s) : ∀ (f : Nat) (c : Sg × Int32 × Int32), Ok (loopM (mX10_told_L41 n a0 x1) f c) K → match c with | (s0, x3, x4) => BW G tX10_told E 0 0 41 [(0, .ref a0), (1, .int x1), (2, .int x2), (3, .int x3), (4, .int x4)] [] s0 := by
  intro f
  induction f with
  | zero => intro c h; exact (Ok.no h).elim
  | succ f ih =>
    intro c h
    obtain ⟨s0, x3, x4⟩ := c
    exact bX10_told_L41 (P := loopP (mX10_told_L41 n a0 x1) f K) hRm (fun s c3 c4 h => ih (s, c3, c4) h) hE (loopM_ok h)
def mX10_told_23 (n : Nat) (s0 : Sg) (t0 : Int32) (t1 : Nat) (a0 : Nat) (x1 : Int32) (x2 : Int32) : Option (Int32 × Sg) :=
  (pV 10 s0 t1 0 (.int t0)).bind fun s4 =>
  (toI (gV 10 s4 a0 0)).bind fun v5 =>
  if v5 = (1 : Int32) then (
    some ((0 : Int32), s4)
  ) else (
    (loopM (mX10_told_L41 n a0 x1) n (s4, (0 : Int32), (0 : Int32))).bind fun (s12, v13) =>
    if x2 = 0 then (
      (toR (gV 10 s12 a0 16)).bind fun b21 =>
      (toI (aV 11 s12 b21 x1)).bind fun v22 =>
      some (v22, s12)
    ) else (
      if x2 = (1 : Int32) then (
        (toR (gV 10 s12 a0 17)).bind fun b19 =>
        (toI (aV 11 s12 b19 x1)).bind fun v20 =>
        some (v20, s12)
      ) else (
        if x2 = (2 : Int32) then (
          (toR (gV 10 s12 a0 18)).bind fun b17 =>
          (toI (aV 11 s12 b17 x1)).bind fun v18 =>
          some (v18, s12)
        ) else (
          if x2 = (3 : Int32) then (
            some (v13, s12)
          ) else (
            (toR (gV 10 s12 a0 19)).bind fun b15 =>
            (toI (aV 11 s12 b15 x1)).bind fun v16 =>
            some (v16, s12)
          )
        )
      )
    )
  )
theorem bX10_told_23 {G : Cx} {E : Ev} {n : Nat} (hRm : 2 ≤ E.1.frames ∧ 44 ≤ E.1.locals) {s0 : Sg} {t0 : Int32} {t1 : Nat} {a0 : Nat} {x1 : Int32} {x2 : Int32} {P : Int32 × Sg → Prop} (hQ : ∀ r s, P (r, s) → E.2.2.2.2 (some (.int r)) s) (h : Ok (mX10_told_23 n s0 t0 t1 a0 x1 x2) P) : BW G tX10_told E 0 0 23 [(0, .ref a0), (1, .int x1), (2, .int x2)] [.int t0, .ref t1] s0 := by
  unfold mX10_told_23 at h
  obtain ⟨s4, es4, h⟩ := Ok.bind h
  refine BW.put (by decide +kernel : decode tX10_told.2.1 23 = .ok (.putfield 87, 3)) ciX10 (k := 0) (by decide) lkF_X10_87 rfl rfl rfl es4 ?_
  refine BW.run [.aload_n 0] (pc' := 27) (lv' := [(0, .ref a0), (1, .int x1), (2, .int x2)]) (st' := [.ref a0]) (by decide +kernel) rfl rfl ?_
  obtain ⟨v5, ev5, h⟩ := Ok.bind h
  refine BW.get (by decide +kernel : decode tX10_told.2.1 27 = .ok (.getfield 87, 3)) ciX10 (k := 0) (by decide) lkF_X10_87 (toI_V ev5) ?_
  refine BW.run [.iconst 1] (pc' := 31) (lv' := [(0, .ref a0), (1, .int x1), (2, .int x2)]) (st' := [.int (1 : Int32), .int v5]) (by decide +kernel) rfl rfl ?_
  refine BW.icmp_ne 36 (by decide +kernel : decode tX10_told.2.1 31 = .ok (.if_icmp .ne 5, 3)) (by decide) (fun hc => ?_) (fun hc => ?_)
  · have h := (Ok.ite h).2 hc
    refine BW.run [.iconst 0, .istore_n 3, .iconst 0, .istore 4] (pc' := 41) (lv' := [(0, .ref a0), (1, .int x1), (2, .int x2), (3, .int (0 : Int32)), (4, .int (0 : Int32))]) (st' := []) (by decide +kernel) rfl rfl ?_
    refine bX10_told_W41 hRm (a0 := a0) (x1 := x1) (x2 := x2) (fun s12 v13 h => ?_) n (s4, (0 : Int32), (0 : Int32)) (Ok.bindK h)
    refine BW.run [.iload_n 2] (pc' := 77) (lv' := [(0, .ref a0), (1, .int x1), (2, .int x2), (3, .int v13)]) (st' := [.int x2]) (by decide +kernel) rfl rfl ?_
    refine BW.if_ne 89 (by decide +kernel : decode tX10_told.2.1 77 = .ok (.ifCond .ne 12, 3)) (by decide) (fun hc => ?_) (fun hc => ?_)
    · have h := (Ok.ite h).2 hc
      refine BW.run [.iload_n 2, .iconst 1] (pc' := 91) (lv' := [(0, .ref a0), (1, .int x1), (2, .int x2), (3, .int v13)]) (st' := [.int (1 : Int32), .int x2]) (by decide +kernel) rfl rfl ?_
      refine BW.icmp_ne 103 (by decide +kernel : decode tX10_told.2.1 91 = .ok (.if_icmp .ne 12, 3)) (by decide) (fun hc => ?_) (fun hc => ?_)
      · have h := (Ok.ite h).2 hc
        refine BW.run [.iload_n 2, .iconst 2] (pc' := 105) (lv' := [(0, .ref a0), (1, .int x1), (2, .int x2), (3, .int v13)]) (st' := [.int (2 : Int32), .int x2]) (by decide +kernel) rfl rfl ?_
        refine BW.icmp_ne 117 (by decide +kernel : decode tX10_told.2.1 105 = .ok (.if_icmp .ne 12, 3)) (by decide) (fun hc => ?_) (fun hc => ?_)
        · have h := (Ok.ite h).2 hc
          refine BW.run [.iload_n 2, .iconst 3] (pc' := 119) (lv' := [(0, .ref a0), (1, .int x1), (2, .int x2), (3, .int v13)]) (st' := [.int (3 : Int32), .int x2]) (by decide +kernel) rfl rfl ?_
          refine BW.icmp_ne 126 (by decide +kernel : decode tX10_told.2.1 119 = .ok (.if_icmp .ne 7, 3)) (by decide) (fun hc => ?_) (fun hc => ?_)
          · have h := (Ok.ite h).2 hc
            refine BW.run [.aload_n 0] (pc' := 127) (lv' := [(0, .ref a0), (1, .int x1), (2, .int x2), (3, .int v13)]) (st' := [.ref a0]) (by decide +kernel) rfl rfl ?_
            obtain ⟨b15, eb15, h⟩ := Ok.bind h
            refine BW.get (by decide +kernel : decode tX10_told.2.1 127 = .ok (.getfield 40, 3)) ciX10 (k := 19) (by decide) lkF_X10_40 (toR_V eb15) ?_
            refine BW.run [.iload_n 1] (pc' := 131) (lv' := [(0, .ref a0), (1, .int x1), (2, .int x2), (3, .int v13)]) (st' := [.int x1, .ref b15]) (by decide +kernel) rfl rfl ?_
            obtain ⟨v16, ev16, h⟩ := Ok.bind h
            refine BW.iald (by decide +kernel : decode tX10_told.2.1 131 = .ok (.iaload, 1)) (toI_V ev16) ?_
            exact BW.iret (by decide +kernel : decode tX10_told.2.1 132 = .ok (.ireturn, 1)) rfl (Nat.zero_le _) (Nat.zero_le _) (hQ _ _ (Ok.some h))
          · have h := (Ok.ite h).1 hc
            refine BW.run [.iload_n 3] (pc' := 123) (lv' := [(0, .ref a0), (1, .int x1), (2, .int x2), (3, .int v13)]) (st' := [.int v13]) (by decide +kernel) rfl rfl ?_
            refine BW.goto 132 (by decide +kernel : decode tX10_told.2.1 123 = .ok (.goto 9, 3)) (by decide) ?_
            exact BW.iret (by decide +kernel : decode tX10_told.2.1 132 = .ok (.ireturn, 1)) rfl (Nat.zero_le _) (Nat.zero_le _) (hQ _ _ (Ok.some h))
        · have h := (Ok.ite h).1 hc
          refine BW.run [.aload_n 0] (pc' := 109) (lv' := [(0, .ref a0), (1, .int x1), (2, .int x2), (3, .int v13)]) (st' := [.ref a0]) (by decide +kernel) rfl rfl ?_
          obtain ⟨b17, eb17, h⟩ := Ok.bind h
          refine BW.get (by decide +kernel : decode tX10_told.2.1 109 = .ok (.getfield 37, 3)) ciX10 (k := 18) (by decide) lkF_X10_37 (toR_V eb17) ?_
          refine BW.run [.iload_n 1] (pc' := 113) (lv' := [(0, .ref a0), (1, .int x1), (2, .int x2), (3, .int v13)]) (st' := [.int x1, .ref b17]) (by decide +kernel) rfl rfl ?_
          obtain ⟨v18, ev18, h⟩ := Ok.bind h
          refine BW.iald (by decide +kernel : decode tX10_told.2.1 113 = .ok (.iaload, 1)) (toI_V ev18) ?_
          refine BW.goto 132 (by decide +kernel : decode tX10_told.2.1 114 = .ok (.goto 18, 3)) (by decide) ?_
          exact BW.iret (by decide +kernel : decode tX10_told.2.1 132 = .ok (.ireturn, 1)) rfl (Nat.zero_le _) (Nat.zero_le _) (hQ _ _ (Ok.some h))
      · have h := (Ok.ite h).1 hc
        refine BW.run [.aload_n 0] (pc' := 95) (lv' := [(0, .ref a0), (1, .int x1), (2, .int x2), (3, .int v13)]) (st' := [.ref a0]) (by decide +kernel) rfl rfl ?_
        obtain ⟨b19, eb19, h⟩ := Ok.bind h
        refine BW.get (by decide +kernel : decode tX10_told.2.1 95 = .ok (.getfield 34, 3)) ciX10 (k := 17) (by decide) lkF_X10_34 (toR_V eb19) ?_
        refine BW.run [.iload_n 1] (pc' := 99) (lv' := [(0, .ref a0), (1, .int x1), (2, .int x2), (3, .int v13)]) (st' := [.int x1, .ref b19]) (by decide +kernel) rfl rfl ?_
        obtain ⟨v20, ev20, h⟩ := Ok.bind h
        refine BW.iald (by decide +kernel : decode tX10_told.2.1 99 = .ok (.iaload, 1)) (toI_V ev20) ?_
        refine BW.goto 132 (by decide +kernel : decode tX10_told.2.1 100 = .ok (.goto 32, 3)) (by decide) ?_
        exact BW.iret (by decide +kernel : decode tX10_told.2.1 132 = .ok (.ireturn, 1)) rfl (Nat.zero_le _) (Nat.zero_le _) (hQ _ _ (Ok.some h))
    · have h := (Ok.ite h).1 hc
      refine BW.run [.aload_n 0] (pc' := 81) (lv' := [(0, .ref a0), (1, .int x1), (2, .int x2), (3, .int v13)]) (st' := [.ref a0]) (by decide +kernel) rfl rfl ?_
      obtain ⟨b21, eb21, h⟩ := Ok.bind h
      refine BW.get (by decide +kernel : decode tX10_told.2.1 81 = .ok (.getfield 31, 3)) ciX10 (k := 16) (by decide) lkF_X10_31 (toR_V eb21) ?_
      refine BW.run [.iload_n 1] (pc' := 85) (lv' := [(0, .ref a0), (1, .int x1), (2, .int x2), (3, .int v13)]) (st' := [.int x1, .ref b21]) (by decide +kernel) rfl rfl ?_
      obtain ⟨v22, ev22, h⟩ := Ok.bind h
      refine BW.iald (by decide +kernel : decode tX10_told.2.1 85 = .ok (.iaload, 1)) (toI_V ev22) ?_
      refine BW.goto 132 (by decide +kernel : decode tX10_told.2.1 86 = .ok (.goto 46, 3)) (by decide) ?_
      exact BW.iret (by decide +kernel : decode tX10_told.2.1 132 = .ok (.ireturn, 1)) rfl (Nat.zero_le _) (Nat.zero_le _) (hQ _ _ (Ok.some h))
  · have h := (Ok.ite h).1 hc
    refine BW.run [.iconst 0] (pc' := 35) (lv' := [(0, .ref a0), (1, .int x1), (2, .int x2)]) (st' := [.int (0 : Int32)]) (by decide +kernel) rfl rfl ?_
    exact BW.iret (by decide +kernel : decode tX10_told.2.1 35 = .ok (.ireturn, 1)) rfl (Nat.zero_le _) (Nat.zero_le _) (hQ _ _ (Ok.some h))
def mX10_told_22 (n : Nat) (s0 : Sg) (t0 : Nat) (a0 : Nat) (x1 : Int32) (x2 : Int32) : Option (Int32 × Sg) :=
  mX10_told_23 n s0 (1 : Int32) t0 a0 x1 x2
theorem bX10_told_22 {G : Cx} {E : Ev} {n : Nat} (hRm : 2 ≤ E.1.frames ∧ 44 ≤ E.1.locals) {s0 : Sg} {t0 : Nat} {a0 : Nat} {x1 : Int32} {x2 : Int32} {P : Int32 × Sg → Prop} (hQ : ∀ r s, P (r, s) → E.2.2.2.2 (some (.int r)) s) (h : Ok (mX10_told_22 n s0 t0 a0 x1 x2) P) : BW G tX10_told E 0 0 22 [(0, .ref a0), (1, .int x1), (2, .int x2)] [.ref t0] s0 := by
  unfold mX10_told_22 at h
  refine BW.run [.iconst 1] (pc' := 23) (lv' := [(0, .ref a0), (1, .int x1), (2, .int x2)]) (st' := [.int (1 : Int32), .ref t0]) (by decide +kernel) rfl rfl ?_
  exact bX10_told_23 hRm hQ h
def mX10_told (n : Nat) (s0 : Sg) (a0 : Nat) (x1 : Int32) (x2 : Int32) : Option (Int32 × Sg) :=
  (isO 10 s0 a0).bind fun _ =>
  (mX10_isWalk n s0 a0 x1).bind fun (v2, s1) =>
  if v2 = 0 then (
    mX10_told_22 n s1 a0 a0 x1 x2
  ) else (
    (mX10_in n s1 x2 (0 : Int32) (4 : Int32)).bind fun (v24, s23) =>
    if v24 = 0 then (
      mX10_told_22 n s23 a0 a0 x1 x2
    ) else (
      mX10_told_23 n s23 (0 : Int32) a0 a0 x1 x2
    )
  )
theorem bX10_told {G : Cx} {E : Ev} {n : Nat} (hRm : 2 ≤ E.1.frames ∧ 44 ≤ E.1.locals) {P : Int32 × Sg → Prop} (hQ : ∀ r s, P (r, s) → E.2.2.2.2 (some (.int r)) s) {s0 : Sg} {a0 : Nat} {x1 : Int32} {x2 : Int32} (h : Ok (mX10_told n s0 a0 x1 x2) P) : BW G tX10_told E 0 0 0 [(0, .ref a0), (1, .int x1), (2, .int x2)] [] s0 := by
  unfold mX10_told at h
  obtain ⟨_, _, h⟩ := Ok.bind h
  refine BW.run [.aload_n 0, .aload_n 0, .iload_n 1] (pc' := 3) (lv' := [(0, .ref a0), (1, .int x1), (2, .int x2)]) (st' := [.int x1, .ref a0, .ref a0]) (by decide +kernel) rfl rfl ?_
  refine BW.callV (As := [.int x1]) (st := [.ref a0]) (by decide +kernel : decode tX10_told.2.1 3 = .ok (.invokevirtual 171, 3)) (DX10_isWalk (Ok.bindK h)) mfX10_isWalk lkM_X10_171 imX10_isWalk selX10_isWalk ciX10 (oX10_isWalk (Ok.bindK h)).choose_spec rfl rfl (Nat.le_of_ble_eq_true rfl) ⟨Nat.le_trans (by decide) hRm.1, Nat.le_trans (by decide) hRm.2⟩ ⟨Nat.zero_le _, Nat.zero_le _⟩ ?_
  rintro _ s1 ⟨v2, rfl, h⟩
  show BW G tX10_told E 0 0 6 [(0, .ref a0), (1, .int x1), (2, .int x2)] [.int v2, .ref a0] s1
  refine BW.if_eq 22 (by decide +kernel : decode tX10_told.2.1 6 = .ok (.ifCond .eq 16, 3)) (by decide) (fun hc => ?_) (fun hc => ?_)
  · have h := (Ok.ite h).1 hc
    exact bX10_told_22 hRm hQ h
  · have h := (Ok.ite h).2 hc
    refine BW.run [.iload_n 2, .iconst 0, .iconst 4] (pc' := 12) (lv' := [(0, .ref a0), (1, .int x1), (2, .int x2)]) (st' := [.int (4 : Int32), .int (0 : Int32), .int x2, .ref a0]) (by decide +kernel) rfl rfl ?_
    refine BW.callS (As := [.int x2, .int (0 : Int32), .int (4 : Int32)]) (st := [.ref a0]) (by decide +kernel : decode tX10_told.2.1 12 = .ok (.invokestatic 147, 3)) (DX10_in (Ok.bindK h)) mfX10_in lkM_X10_147 smX10_in rfl rfl (Nat.le_of_ble_eq_true rfl) ⟨Nat.le_trans (by decide) hRm.1, Nat.le_trans (by decide) hRm.2⟩ ⟨Nat.zero_le _, Nat.zero_le _⟩ ?_
    rintro _ s23 ⟨v24, rfl, h⟩
    show BW G tX10_told E 0 0 15 [(0, .ref a0), (1, .int x1), (2, .int x2)] [.int v24, .ref a0] s23
    refine BW.if_eq 22 (by decide +kernel : decode tX10_told.2.1 15 = .ok (.ifCond .eq 7, 3)) (by decide) (fun hc => ?_) (fun hc => ?_)
    · have h := (Ok.ite h).1 hc
      exact bX10_told_22 hRm hQ h
    · have h := (Ok.ite h).2 hc
      refine BW.run [.iconst 0] (pc' := 19) (lv' := [(0, .ref a0), (1, .int x1), (2, .int x2)]) (st' := [.int (0 : Int32), .ref a0]) (by decide +kernel) rfl rfl ?_
      refine BW.goto 23 (by decide +kernel : decode tX10_told.2.1 19 = .ok (.goto 4, 3)) (by decide) ?_
      exact bX10_told_23 hRm hQ h
theorem oX10_told {n : Nat} {P : Int32 × Sg → Prop} {s0 : Sg} {a0 : Nat} {x1 : Int32} {x2 : Int32} (h : Ok (mX10_told n s0 a0 x1 x2) P) : ∃ n0, s0.2.1 a0 = some (10, n0) := by
  unfold mX10_told at h
  exact Ok.isO h
theorem DX10_told {G : Cx} {n : Nat} {P : Int32 × Sg → Prop} {s0 : Sg} {a0 : Nat} {x1 : Int32} {x2 : Int32} (h : Ok (mX10_told n s0 a0 x1 x2) P) : BM G tX10_told 2 44 0 0 [.ref a0, .int x1, .int x2] s0 (fun v s => ∃ r, v = some (.int r) ∧ P (r, s)) := by
  refine BM.of (by decide +kernel) (Nat.le_of_ble_eq_true rfl) ?_
  exact bX10_told (E := (({ frames := 2, cells := 0, slots := 0, locals := 44 }), Aof s0, 0, 0, (fun v s => ∃ r, v = some (.int r) ∧ P (r, s)))) ⟨Nat.le_refl _, Nat.le_refl _⟩ (fun r s hp => ⟨r, rfl, hp⟩) h
def mX10_top_87 (n : Nat) (s0 : Sg) (a0 : Nat) (x3 : Int32) (x4 : Int32) (x5 : Int32) : Option ((Sg × Int32 × Int32) ⊕ (Sg × Int32)) :=
  some (.inl (s0, x4, (x5 + (1 : Int32))))
theorem bX10_top_87 {G : Cx} {E : Ev} {n : Nat} (hRm : 4 ≤ E.1.frames ∧ 90 ≤ E.1.locals) {s0 : Sg} {a0 : Nat} {x3 : Int32} {x4 : Int32} {x5 : Int32} {P : (Sg × Int32 × Int32) ⊕ (Sg × Int32) → Prop} (hC : ∀ (s : Sg) (c4 : Int32) (c5 : Int32), P (.inl (s, c4, c5)) → BW G tX10_top E 0 0 24 [(0, .ref a0), (3, .int x3), (4, .int c4), (5, .int c5)] [] s) (hE : ∀ (s : Sg) (c4 : Int32), P (.inr (s, c4)) → BW G tX10_top E 0 0 93 [(4, .int c4)] [] s)  (h : Ok (mX10_top_87 n s0 a0 x3 x4 x5) P) : BW G tX10_top E 0 0 87 [(0, .ref a0), (3, .int x3), (4, .int x4), (5, .int x5)] [] s0 := by
  unfold mX10_top_87 at h
  refine BW.run [.iinc 5 1] (pc' := 90) (lv' := [(0, .ref a0), (3, .int x3), (4, .int x4), (5, .int (x5 + (1 : Int32)))]) (st' := []) (by decide +kernel) rfl rfl ?_
  refine BW.goto 24 (by decide +kernel : decode tX10_top.2.1 90 = .ok (.goto (-66), 3)) (by decide) ?_
  exact hC _ _ _ (Ok.some h)
def mX10_top_83 (n : Nat) (s0 : Sg) (a0 : Nat) (x3 : Int32) (x5 : Int32) : Option ((Sg × Int32 × Int32) ⊕ (Sg × Int32)) :=
  mX10_top_87 n s0 a0 x3 x5 x5
theorem bX10_top_83 {G : Cx} {E : Ev} {n : Nat} (hRm : 4 ≤ E.1.frames ∧ 90 ≤ E.1.locals) {s0 : Sg} {a0 : Nat} {x3 : Int32} {x5 : Int32} {P : (Sg × Int32 × Int32) ⊕ (Sg × Int32) → Prop} (hC : ∀ (s : Sg) (c4 : Int32) (c5 : Int32), P (.inl (s, c4, c5)) → BW G tX10_top E 0 0 24 [(0, .ref a0), (3, .int x3), (4, .int c4), (5, .int c5)] [] s) (hE : ∀ (s : Sg) (c4 : Int32), P (.inr (s, c4)) → BW G tX10_top E 0 0 93 [(4, .int c4)] [] s)  (h : Ok (mX10_top_83 n s0 a0 x3 x5) P) : BW G tX10_top E 0 0 83 [(0, .ref a0), (3, .int x3), (5, .int x5)] [] s0 := by
  unfold mX10_top_83 at h
  refine BW.run [.iload 5, .istore 4] (pc' := 87) (lv' := [(0, .ref a0), (3, .int x3), (4, .int x5), (5, .int x5)]) (st' := []) (by decide +kernel) rfl rfl ?_
  exact bX10_top_87 hRm hC hE h
def mX10_top_L24 (n : Nat) (a0 : Nat) (x3 : Int32) : (Sg × Int32 × Int32) → Option ((Sg × Int32 × Int32) ⊕ (Sg × Int32))
  | (s0, x4, x5) =>
    (toI (gV 10 s0 a0 20)).bind fun v5 =>
    if v5 ≤ x5 then (
      some (.inr (s0, x4))
    ) else (
      (mX10_latestIn n s0 a0 x5 x3).bind fun (v7, s6) =>
      if v7 = (-1 : Int32) then (
        mX10_top_87 n s6 a0 x3 x4 x5
      ) else (
        if x4 = (-1 : Int32) then (
          mX10_top_83 n s6 a0 x3 x5
        ) else (
          (toR (gV 10 s6 a0 19)).bind fun b9 =>
          (toI (aV 11 s6 b9 x5)).bind fun v10 =>
          (mX10_made n s6 a0 x5 x3).bind fun (v12, s11) =>
          (toR (gV 10 s11 a0 19)).bind fun b14 =>
          (toI (aV 11 s11 b14 x4)).bind fun v15 =>
          (mX10_made n s11 a0 x4 x3).bind fun (v17, s16) =>
          if (v10 + v12) ≤ (v15 + v17) then (
            mX10_top_87 n s16 a0 x3 x4 x5
          ) else (
            mX10_top_83 n s16 a0 x3 x5
          )
        )
      )
    )
theorem bX10_top_L24 {G : Cx} {E : Ev} {n : Nat} (hRm : 4 ≤ E.1.frames ∧ 90 ≤ E.1.locals) {a0 : Nat} {x3 : Int32} {P : (Sg × Int32 × Int32) ⊕ (Sg × Int32) → Prop} (hC : ∀ (s : Sg) (c4 : Int32) (c5 : Int32), P (.inl (s, c4, c5)) → BW G tX10_top E 0 0 24 [(0, .ref a0), (3, .int x3), (4, .int c4), (5, .int c5)] [] s) (hE : ∀ (s : Sg) (c4 : Int32), P (.inr (s, c4)) → BW G tX10_top E 0 0 93 [(4, .int c4)] [] s) {s0 : Sg} {x4 : Int32} {x5 : Int32} (h : Ok (mX10_top_L24 n a0 x3 (s0, x4, x5)) P) : BW G tX10_top E 0 0 24 [(0, .ref a0), (3, .int x3), (4, .int x4), (5, .int x5)] [] s0 := by
  unfold mX10_top_L24 at h
  refine BW.run [.iload 5, .aload_n 0] (pc' := 27) (lv' := [(0, .ref a0), (3, .int x3), (4, .int x4), (5, .int x5)]) (st' := [.ref a0, .int x5]) (by decide +kernel) rfl rfl ?_
  obtain ⟨v5, ev5, h⟩ := Ok.bind h
  refine BW.get (by decide +kernel : decode tX10_top.2.1 27 = .ok (.getfield 165, 3)) ciX10 (k := 20) (by decide) lkF_X10_165 (toI_V ev5) ?_
  refine BW.icmp_ge 93 (by decide +kernel : decode tX10_top.2.1 30 = .ok (.if_icmp .ge 63, 3)) (by decide) (fun hc => ?_) (fun hc => ?_)
  · have h := (Ok.ite h).1 hc
    refine BW.sub [2] rfl ?_
    exact hE _ _ (Ok.some h)
  · have h := (Ok.ite h).2 hc
    refine BW.run [.aload_n 0, .iload 5, .iload_n 3] (pc' := 37) (lv' := [(0, .ref a0), (3, .int x3), (4, .int x4), (5, .int x5)]) (st' := [.int x3, .int x5, .ref a0]) (by decide +kernel) rfl rfl ?_
    refine BW.callV (As := [.int x5, .int x3]) (st := []) (by decide +kernel : decode tX10_top.2.1 37 = .ok (.invokevirtual 181, 3)) (DX10_latestIn (Ok.bindK h)) mfX10_latestIn lkM_X10_181 imX10_latestIn selX10_latestIn ciX10 (oX10_latestIn (Ok.bindK h)).choose_spec rfl rfl (Nat.le_of_ble_eq_true rfl) ⟨Nat.le_trans (by decide) hRm.1, Nat.le_trans (by decide) hRm.2⟩ ⟨Nat.zero_le _, Nat.zero_le _⟩ ?_
    rintro _ s6 ⟨v7, rfl, h⟩
    show BW G tX10_top E 0 0 40 [(0, .ref a0), (3, .int x3), (4, .int x4), (5, .int x5)] [.int v7] s6
    refine BW.run [.iconst (-1)] (pc' := 41) (lv' := [(0, .ref a0), (3, .int x3), (4, .int x4), (5, .int x5)]) (st' := [.int (-1 : Int32), .int v7]) (by decide +kernel) rfl rfl ?_
    refine BW.icmp_eq 87 (by decide +kernel : decode tX10_top.2.1 41 = .ok (.if_icmp .eq 46, 3)) (by decide) (fun hc => ?_) (fun hc => ?_)
    · have h := (Ok.ite h).1 hc
      exact bX10_top_87 hRm hC hE h
    · have h := (Ok.ite h).2 hc
      refine BW.run [.iload 4, .iconst (-1)] (pc' := 47) (lv' := [(0, .ref a0), (3, .int x3), (4, .int x4), (5, .int x5)]) (st' := [.int (-1 : Int32), .int x4]) (by decide +kernel) rfl rfl ?_
      refine BW.icmp_eq 83 (by decide +kernel : decode tX10_top.2.1 47 = .ok (.if_icmp .eq 36, 3)) (by decide) (fun hc => ?_) (fun hc => ?_)
      · have h := (Ok.ite h).1 hc
        refine BW.sub [0, 1, 3] rfl ?_
        exact bX10_top_83 hRm hC hE h
      · have h := (Ok.ite h).2 hc
        refine BW.run [.aload_n 0] (pc' := 51) (lv' := [(0, .ref a0), (3, .int x3), (4, .int x4), (5, .int x5)]) (st' := [.ref a0]) (by decide +kernel) rfl rfl ?_
        obtain ⟨b9, eb9, h⟩ := Ok.bind h
        refine BW.get (by decide +kernel : decode tX10_top.2.1 51 = .ok (.getfield 40, 3)) ciX10 (k := 19) (by decide) lkF_X10_40 (toR_V eb9) ?_
        refine BW.run [.iload 5] (pc' := 56) (lv' := [(0, .ref a0), (3, .int x3), (4, .int x4), (5, .int x5)]) (st' := [.int x5, .ref b9]) (by decide +kernel) rfl rfl ?_
        obtain ⟨v10, ev10, h⟩ := Ok.bind h
        refine BW.iald (by decide +kernel : decode tX10_top.2.1 56 = .ok (.iaload, 1)) (toI_V ev10) ?_
        refine BW.run [.aload_n 0, .iload 5, .iload_n 3] (pc' := 61) (lv' := [(0, .ref a0), (3, .int x3), (4, .int x4), (5, .int x5)]) (st' := [.int x3, .int x5, .ref a0, .int v10]) (by decide +kernel) rfl rfl ?_
        refine BW.callV (As := [.int x5, .int x3]) (st := [.int v10]) (by decide +kernel : decode tX10_top.2.1 61 = .ok (.invokevirtual 202, 3)) (DX10_made (Ok.bindK h)) mfX10_made lkM_X10_202 imX10_made selX10_made ciX10 (oX10_made (Ok.bindK h)).choose_spec rfl rfl (Nat.le_of_ble_eq_true rfl) ⟨Nat.le_trans (by decide) hRm.1, Nat.le_trans (by decide) hRm.2⟩ ⟨Nat.zero_le _, Nat.zero_le _⟩ ?_
        rintro _ s11 ⟨v12, rfl, h⟩
        show BW G tX10_top E 0 0 64 [(0, .ref a0), (3, .int x3), (4, .int x4), (5, .int x5)] [.int v12, .int v10] s11
        refine BW.run [.iadd, .aload_n 0] (pc' := 66) (lv' := [(0, .ref a0), (3, .int x3), (4, .int x4), (5, .int x5)]) (st' := [.ref a0, .int (v10 + v12)]) (by decide +kernel) rfl rfl ?_
        obtain ⟨b14, eb14, h⟩ := Ok.bind h
        refine BW.get (by decide +kernel : decode tX10_top.2.1 66 = .ok (.getfield 40, 3)) ciX10 (k := 19) (by decide) lkF_X10_40 (toR_V eb14) ?_
        refine BW.run [.iload 4] (pc' := 71) (lv' := [(0, .ref a0), (3, .int x3), (4, .int x4), (5, .int x5)]) (st' := [.int x4, .ref b14, .int (v10 + v12)]) (by decide +kernel) rfl rfl ?_
        obtain ⟨v15, ev15, h⟩ := Ok.bind h
        refine BW.iald (by decide +kernel : decode tX10_top.2.1 71 = .ok (.iaload, 1)) (toI_V ev15) ?_
        refine BW.run [.aload_n 0, .iload 4, .iload_n 3] (pc' := 76) (lv' := [(0, .ref a0), (3, .int x3), (4, .int x4), (5, .int x5)]) (st' := [.int x3, .int x4, .ref a0, .int v15, .int (v10 + v12)]) (by decide +kernel) rfl rfl ?_
        refine BW.callV (As := [.int x4, .int x3]) (st := [.int v15, .int (v10 + v12)]) (by decide +kernel : decode tX10_top.2.1 76 = .ok (.invokevirtual 202, 3)) (DX10_made (Ok.bindK h)) mfX10_made lkM_X10_202 imX10_made selX10_made ciX10 (oX10_made (Ok.bindK h)).choose_spec rfl rfl (Nat.le_of_ble_eq_true rfl) ⟨Nat.le_trans (by decide) hRm.1, Nat.le_trans (by decide) hRm.2⟩ ⟨Nat.zero_le _, Nat.zero_le _⟩ ?_
        rintro _ s16 ⟨v17, rfl, h⟩
        show BW G tX10_top E 0 0 79 [(0, .ref a0), (3, .int x3), (4, .int x4), (5, .int x5)] [.int v17, .int v15, .int (v10 + v12)] s16
        refine BW.run [.iadd] (pc' := 80) (lv' := [(0, .ref a0), (3, .int x3), (4, .int x4), (5, .int x5)]) (st' := [.int (v15 + v17), .int (v10 + v12)]) (by decide +kernel) rfl rfl ?_
        refine BW.icmp_le 87 (by decide +kernel : decode tX10_top.2.1 80 = .ok (.if_icmp .le 7, 3)) (by decide) (fun hc => ?_) (fun hc => ?_)
        · have h := (Ok.ite h).1 hc
          exact bX10_top_87 hRm hC hE h
        · have h := (Ok.ite h).2 hc
          refine BW.sub [0, 1, 3] rfl ?_
          exact bX10_top_83 hRm hC hE h
theorem bX10_top_W24 {G : Cx} {E : Ev} {n : Nat} (hRm : 4 ≤ E.1.frames ∧ 90 ≤ E.1.locals) {a0 : Nat} {x3 : Int32} {K : (Sg × Int32) → Prop} (hE : ∀ (s : Sg) (c4 : Int32), K (s, c4) → BW G tX10_top E 0 0 93 [(4, .int c4)] [] s) : ∀ (f : Nat) (c : Sg × Int32 × Int32), Ok (loopM (mX10_top_L24 n a0 x3) f c) K → match c with | (s0, x4, x5) => BW G tX10_top E 0 0 24 [(0, .ref a0), (3, .int x3), (4, .int x4), (5, .int x5)] [] s0 := by
  intro f
  induction f with
  | zero => intro c h; exact (Ok.no h).elim
  | succ f ih =>
    intro c h
    obtain ⟨s0, x4, x5⟩ := c
    exact bX10_top_L24 (P := loopP (mX10_top_L24 n a0 x3) f K) hRm (fun s c4 c5 h => ih (s, c4, c5) h) hE (loopM_ok h)
def mX10_top (n : Nat) (s0 : Sg) (a0 : Nat) (x1 : Int32) (x2 : Int32) : Option (Int32 × Sg) :=
  (isO 10 s0 a0).bind fun _ =>
  (mX10_isCell n s0 a0 x1 x2).bind fun (v2, s1) =>
  if v2 = 0 then (
    some ((-1 : Int32), s1)
  ) else (
    nm (((16 : Int32) * x2) + x1) fun v4 =>
    (loopM (mX10_top_L24 n a0 v4) n (s1, (-1 : Int32), (0 : Int32))).bind fun (s19, v20) =>
    some (v20, s19)
  )
theorem bX10_top {G : Cx} {E : Ev} {n : Nat} (hRm : 4 ≤ E.1.frames ∧ 90 ≤ E.1.locals) {P : Int32 × Sg → Prop} (hQ : ∀ r s, P (r, s) → E.2.2.2.2 (some (.int r)) s) {s0 : Sg} {a0 : Nat} {x1 : Int32} {x2 : Int32} (h : Ok (mX10_top n s0 a0 x1 x2) P) : BW G tX10_top E 0 0 0 [(0, .ref a0), (1, .int x1), (2, .int x2)] [] s0 := by
  unfold mX10_top at h
  obtain ⟨_, _, h⟩ := Ok.bind h
  refine BW.run [.aload_n 0, .iload_n 1, .iload_n 2] (pc' := 3) (lv' := [(0, .ref a0), (1, .int x1), (2, .int x2)]) (st' := [.int x2, .int x1, .ref a0]) (by decide +kernel) rfl rfl ?_
  refine BW.callV (As := [.int x1, .int x2]) (st := []) (by decide +kernel : decode tX10_top.2.1 3 = .ok (.invokevirtual 178, 3)) (DX10_isCell (Ok.bindK h)) mfX10_isCell lkM_X10_178 imX10_isCell selX10_isCell ciX10 (oX10_isCell (Ok.bindK h)).choose_spec rfl rfl (Nat.le_of_ble_eq_true rfl) ⟨Nat.le_trans (by decide) hRm.1, Nat.le_trans (by decide) hRm.2⟩ ⟨Nat.zero_le _, Nat.zero_le _⟩ ?_
  rintro _ s1 ⟨v2, rfl, h⟩
  show BW G tX10_top E 0 0 6 [(0, .ref a0), (1, .int x1), (2, .int x2)] [.int v2] s1
  refine BW.if_ne 11 (by decide +kernel : decode tX10_top.2.1 6 = .ok (.ifCond .ne 5, 3)) (by decide) (fun hc => ?_) (fun hc => ?_)
  · have h := (Ok.ite h).2 hc
    refine BW.run [.bipush 16, .iload_n 2, .imul, .iload_n 1, .iadd] (pc' := 17) (lv' := [(0, .ref a0), (1, .int x1), (2, .int x2)]) (st' := [.int (((16 : Int32) * x2) + x1)]) (by decide +kernel) rfl rfl ?_
    obtain ⟨v4, wv4, h⟩ := Ok.nm h
    refine BW.nm wv4 ?_
    refine BW.run [.istore_n 3, .iconst (-1), .istore 4, .iconst 0, .istore 5] (pc' := 24) (lv' := [(0, .ref a0), (1, .int x1), (2, .int x2), (3, .int v4), (4, .int (-1 : Int32)), (5, .int (0 : Int32))]) (st' := []) (by decide +kernel) rfl rfl ?_
    refine BW.sub [0, 3, 4, 5] rfl ?_
    refine bX10_top_W24 hRm (a0 := a0) (x3 := v4) (fun s19 v20 h => ?_) n (s1, (-1 : Int32), (0 : Int32)) (Ok.bindK h)
    refine BW.run [.iload 4] (pc' := 95) (lv' := [(4, .int v20)]) (st' := [.int v20]) (by decide +kernel) rfl rfl ?_
    exact BW.iret (by decide +kernel : decode tX10_top.2.1 95 = .ok (.ireturn, 1)) rfl (Nat.zero_le _) (Nat.zero_le _) (hQ _ _ (Ok.some h))
  · have h := (Ok.ite h).1 hc
    refine BW.run [.iconst (-1)] (pc' := 10) (lv' := [(0, .ref a0), (1, .int x1), (2, .int x2)]) (st' := [.int (-1 : Int32)]) (by decide +kernel) rfl rfl ?_
    exact BW.iret (by decide +kernel : decode tX10_top.2.1 10 = .ok (.ireturn, 1)) rfl (Nat.zero_le _) (Nat.zero_le _) (hQ _ _ (Ok.some h))
theorem oX10_top {n : Nat} {P : Int32 × Sg → Prop} {s0 : Sg} {a0 : Nat} {x1 : Int32} {x2 : Int32} (h : Ok (mX10_top n s0 a0 x1 x2) P) : ∃ n0, s0.2.1 a0 = some (10, n0) := by
  unfold mX10_top at h
  exact Ok.isO h
theorem DX10_top {G : Cx} {n : Nat} {P : Int32 × Sg → Prop} {s0 : Sg} {a0 : Nat} {x1 : Int32} {x2 : Int32} (h : Ok (mX10_top n s0 a0 x1 x2) P) : BM G tX10_top 4 90 0 0 [.ref a0, .int x1, .int x2] s0 (fun v s => ∃ r, v = some (.int r) ∧ P (r, s)) := by
  refine BM.of (by decide +kernel) (Nat.le_of_ble_eq_true rfl) ?_
  exact bX10_top (E := (({ frames := 4, cells := 0, slots := 0, locals := 90 }), Aof s0, 0, 0, (fun v s => ∃ r, v = some (.int r) ∧ P (r, s)))) ⟨Nat.le_refl _, Nat.le_refl _⟩ (fun r s hp => ⟨r, rfl, hp⟩) h
def mX10_trail_51 (n : Nat) (s0 : Sg) (t0 : Int32) (t1 : Int32) (a0 : Nat) (x1 : Int32) (x2 : Int32) (x4 : Int32) : Option ((Sg × Int32 × Int32) ⊕ (Sg × Int32)) :=
  nm (t1 + t0) fun v10 =>
  some (.inl (s0, v10, (x4 + (1 : Int32))))
theorem bX10_trail_51 {G : Cx} {E : Ev} {n : Nat} (hRm : 3 ≤ E.1.frames ∧ 73 ≤ E.1.locals) {s0 : Sg} {t0 : Int32} {t1 : Int32} {a0 : Nat} {x1 : Int32} {x2 : Int32} {x4 : Int32} {P : (Sg × Int32 × Int32) ⊕ (Sg × Int32) → Prop} (hC : ∀ (s : Sg) (c3 : Int32) (c4 : Int32), P (.inl (s, c3, c4)) → BW G tX10_trail E 0 0 26 [(0, .ref a0), (1, .int x1), (2, .int x2), (3, .int c3), (4, .int c4)] [] s) (hE : ∀ (s : Sg) (c3 : Int32), P (.inr (s, c3)) → BW G tX10_trail E 0 0 59 [(3, .int c3)] [] s)  (h : Ok (mX10_trail_51 n s0 t0 t1 a0 x1 x2 x4) P) : BW G tX10_trail E 0 0 51 [(0, .ref a0), (1, .int x1), (2, .int x2), (4, .int x4)] [.int t0, .int t1] s0 := by
  unfold mX10_trail_51 at h
  refine BW.run [.iadd] (pc' := 52) (lv' := [(0, .ref a0), (1, .int x1), (2, .int x2), (4, .int x4)]) (st' := [.int (t1 + t0)]) (by decide +kernel) rfl rfl ?_
  obtain ⟨v10, wv10, h⟩ := Ok.nm h
  refine BW.nm wv10 ?_
  refine BW.run [.istore_n 3, .iinc 4 1] (pc' := 56) (lv' := [(0, .ref a0), (1, .int x1), (2, .int x2), (3, .int v10), (4, .int (x4 + (1 : Int32)))]) (st' := []) (by decide +kernel) rfl rfl ?_
  refine BW.goto 26 (by decide +kernel : decode tX10_trail.2.1 56 = .ok (.goto (-30), 3)) (by decide) ?_
  exact hC _ _ _ (Ok.some h)
def mX10_trail_L26 (n : Nat) (a0 : Nat) (x1 : Int32) (x2 : Int32) : (Sg × Int32 × Int32) → Option ((Sg × Int32 × Int32) ⊕ (Sg × Int32))
  | (s0, x3, x4) =>
    if (256 : Int32) ≤ x4 then (
      some (.inr (s0, x3))
    ) else (
      (mX10_shownIn n s0 a0 x4 x2).bind fun (v8, s7) =>
      if v8 = x1 then (
        mX10_trail_51 n s7 (1 : Int32) x3 a0 x1 x2 x4
      ) else (
        mX10_trail_51 n s7 (0 : Int32) x3 a0 x1 x2 x4
      )
    )
theorem bX10_trail_L26 {G : Cx} {E : Ev} {n : Nat} (hRm : 3 ≤ E.1.frames ∧ 73 ≤ E.1.locals) {a0 : Nat} {x1 : Int32} {x2 : Int32} {P : (Sg × Int32 × Int32) ⊕ (Sg × Int32) → Prop} (hC : ∀ (s : Sg) (c3 : Int32) (c4 : Int32), P (.inl (s, c3, c4)) → BW G tX10_trail E 0 0 26 [(0, .ref a0), (1, .int x1), (2, .int x2), (3, .int c3), (4, .int c4)] [] s) (hE : ∀ (s : Sg) (c3 : Int32), P (.inr (s, c3)) → BW G tX10_trail E 0 0 59 [(3, .int c3)] [] s) {s0 : Sg} {x3 : Int32} {x4 : Int32} (h : Ok (mX10_trail_L26 n a0 x1 x2 (s0, x3, x4)) P) : BW G tX10_trail E 0 0 26 [(0, .ref a0), (1, .int x1), (2, .int x2), (3, .int x3), (4, .int x4)] [] s0 := by
  unfold mX10_trail_L26 at h
  refine BW.run [.iload 4, .sipush 256] (pc' := 31) (lv' := [(0, .ref a0), (1, .int x1), (2, .int x2), (3, .int x3), (4, .int x4)]) (st' := [.int (256 : Int32), .int x4]) (by decide +kernel) rfl rfl ?_
  refine BW.icmp_ge 59 (by decide +kernel : decode tX10_trail.2.1 31 = .ok (.if_icmp .ge 28, 3)) (by decide) (fun hc => ?_) (fun hc => ?_)
  · have h := (Ok.ite h).1 hc
    refine BW.sub [3] rfl ?_
    exact hE _ _ (Ok.some h)
  · have h := (Ok.ite h).2 hc
    refine BW.run [.iload_n 3, .aload_n 0, .iload 4, .iload_n 2] (pc' := 39) (lv' := [(0, .ref a0), (1, .int x1), (2, .int x2), (3, .int x3), (4, .int x4)]) (st' := [.int x2, .int x4, .ref a0, .int x3]) (by decide +kernel) rfl rfl ?_
    refine BW.callV (As := [.int x4, .int x2]) (st := [.int x3]) (by decide +kernel : decode tX10_trail.2.1 39 = .ok (.invokevirtual 301, 3)) (DX10_shownIn (Ok.bindK h)) mfX10_shownIn lkM_X10_301 imX10_shownIn selX10_shownIn ciX10 (oX10_shownIn (Ok.bindK h)).choose_spec rfl rfl (Nat.le_of_ble_eq_true rfl) ⟨Nat.le_trans (by decide) hRm.1, Nat.le_trans (by decide) hRm.2⟩ ⟨Nat.zero_le _, Nat.zero_le _⟩ ?_
    rintro _ s7 ⟨v8, rfl, h⟩
    show BW G tX10_trail E 0 0 42 [(0, .ref a0), (1, .int x1), (2, .int x2), (3, .int x3), (4, .int x4)] [.int v8, .int x3] s7
    refine BW.run [.iload_n 1] (pc' := 43) (lv' := [(0, .ref a0), (1, .int x1), (2, .int x2), (3, .int x3), (4, .int x4)]) (st' := [.int x1, .int v8, .int x3]) (by decide +kernel) rfl rfl ?_
    refine BW.icmp_ne 50 (by decide +kernel : decode tX10_trail.2.1 43 = .ok (.if_icmp .ne 7, 3)) (by decide) (fun hc => ?_) (fun hc => ?_)
    · have h := (Ok.ite h).2 hc
      refine BW.run [.iconst 0] (pc' := 51) (lv' := [(0, .ref a0), (1, .int x1), (2, .int x2), (3, .int x3), (4, .int x4)]) (st' := [.int (0 : Int32), .int x3]) (by decide +kernel) rfl rfl ?_
      refine BW.sub [0, 1, 2, 4] rfl ?_
      exact bX10_trail_51 hRm hC hE h
    · have h := (Ok.ite h).1 hc
      refine BW.run [.iconst 1] (pc' := 47) (lv' := [(0, .ref a0), (1, .int x1), (2, .int x2), (3, .int x3), (4, .int x4)]) (st' := [.int (1 : Int32), .int x3]) (by decide +kernel) rfl rfl ?_
      refine BW.goto 51 (by decide +kernel : decode tX10_trail.2.1 47 = .ok (.goto 4, 3)) (by decide) ?_
      refine BW.sub [0, 1, 2, 4] rfl ?_
      exact bX10_trail_51 hRm hC hE h
theorem bX10_trail_W26 {G : Cx} {E : Ev} {n : Nat} (hRm : 3 ≤ E.1.frames ∧ 73 ≤ E.1.locals) {a0 : Nat} {x1 : Int32} {x2 : Int32} {K : (Sg × Int32) → Prop} (hE : ∀ (s : Sg) (c3 : Int32), K (s, c3) → BW G tX10_trail E 0 0 59 [(3, .int c3)] [] s) : ∀ (f : Nat) (c : Sg × Int32 × Int32), Ok (loopM (mX10_trail_L26 n a0 x1 x2) f c) K → match c with | (s0, x3, x4) => BW G tX10_trail E 0 0 26 [(0, .ref a0), (1, .int x1), (2, .int x2), (3, .int x3), (4, .int x4)] [] s0 := by
  intro f
  induction f with
  | zero => intro c h; exact (Ok.no h).elim
  | succ f ih =>
    intro c h
    obtain ⟨s0, x3, x4⟩ := c
    exact bX10_trail_L26 (P := loopP (mX10_trail_L26 n a0 x1 x2) f K) hRm (fun s c3 c4 h => ih (s, c3, c4) h) hE (loopM_ok h)
def mX10_trail (n : Nat) (s0 : Sg) (a0 : Nat) (x1 : Int32) (x2 : Int32) : Option (Int32 × Sg) :=
  (isO 10 s0 a0).bind fun _ =>
  (mX10_isWalk n s0 a0 x1).bind fun (v2, s1) =>
  if v2 = 0 then (
    some ((-1 : Int32), s1)
  ) else (
    (mX10_in n s1 x2 (0 : Int32) (5000 : Int32)).bind fun (v5, s4) =>
    if v5 = 0 then (
      some ((-1 : Int32), s4)
    ) else (
      (loopM (mX10_trail_L26 n a0 x1 x2) n (s4, (0 : Int32), (0 : Int32))).bind fun (s11, v12) =>
      some (v12, s11)
    )
  )
theorem bX10_trail {G : Cx} {E : Ev} {n : Nat} (hRm : 3 ≤ E.1.frames ∧ 73 ≤ E.1.locals) {P : Int32 × Sg → Prop} (hQ : ∀ r s, P (r, s) → E.2.2.2.2 (some (.int r)) s) {s0 : Sg} {a0 : Nat} {x1 : Int32} {x2 : Int32} (h : Ok (mX10_trail n s0 a0 x1 x2) P) : BW G tX10_trail E 0 0 0 [(0, .ref a0), (1, .int x1), (2, .int x2)] [] s0 := by
  unfold mX10_trail at h
  obtain ⟨_, _, h⟩ := Ok.bind h
  refine BW.run [.aload_n 0, .iload_n 1] (pc' := 2) (lv' := [(0, .ref a0), (1, .int x1), (2, .int x2)]) (st' := [.int x1, .ref a0]) (by decide +kernel) rfl rfl ?_
  refine BW.callV (As := [.int x1]) (st := []) (by decide +kernel : decode tX10_trail.2.1 2 = .ok (.invokevirtual 171, 3)) (DX10_isWalk (Ok.bindK h)) mfX10_isWalk lkM_X10_171 imX10_isWalk selX10_isWalk ciX10 (oX10_isWalk (Ok.bindK h)).choose_spec rfl rfl (Nat.le_of_ble_eq_true rfl) ⟨Nat.le_trans (by decide) hRm.1, Nat.le_trans (by decide) hRm.2⟩ ⟨Nat.zero_le _, Nat.zero_le _⟩ ?_
  rintro _ s1 ⟨v2, rfl, h⟩
  show BW G tX10_trail E 0 0 5 [(0, .ref a0), (1, .int x1), (2, .int x2)] [.int v2] s1
  refine BW.if_eq 19 (by decide +kernel : decode tX10_trail.2.1 5 = .ok (.ifCond .eq 14, 3)) (by decide) (fun hc => ?_) (fun hc => ?_)
  · have h := (Ok.ite h).1 hc
    refine BW.run [.iconst (-1)] (pc' := 20) (lv' := [(0, .ref a0), (1, .int x1), (2, .int x2)]) (st' := [.int (-1 : Int32)]) (by decide +kernel) rfl rfl ?_
    exact BW.iret (by decide +kernel : decode tX10_trail.2.1 20 = .ok (.ireturn, 1)) rfl (Nat.zero_le _) (Nat.zero_le _) (hQ _ _ (Ok.some h))
  · have h := (Ok.ite h).2 hc
    refine BW.run [.iload_n 2, .iconst 0, .sipush 5000] (pc' := 13) (lv' := [(0, .ref a0), (1, .int x1), (2, .int x2)]) (st' := [.int (5000 : Int32), .int (0 : Int32), .int x2]) (by decide +kernel) rfl rfl ?_
    refine BW.callS (As := [.int x2, .int (0 : Int32), .int (5000 : Int32)]) (st := []) (by decide +kernel : decode tX10_trail.2.1 13 = .ok (.invokestatic 147, 3)) (DX10_in (Ok.bindK h)) mfX10_in lkM_X10_147 smX10_in rfl rfl (Nat.le_of_ble_eq_true rfl) ⟨Nat.le_trans (by decide) hRm.1, Nat.le_trans (by decide) hRm.2⟩ ⟨Nat.zero_le _, Nat.zero_le _⟩ ?_
    rintro _ s4 ⟨v5, rfl, h⟩
    show BW G tX10_trail E 0 0 16 [(0, .ref a0), (1, .int x1), (2, .int x2)] [.int v5] s4
    refine BW.if_ne 21 (by decide +kernel : decode tX10_trail.2.1 16 = .ok (.ifCond .ne 5, 3)) (by decide) (fun hc => ?_) (fun hc => ?_)
    · have h := (Ok.ite h).2 hc
      refine BW.run [.iconst 0, .istore_n 3, .iconst 0, .istore 4] (pc' := 26) (lv' := [(0, .ref a0), (1, .int x1), (2, .int x2), (3, .int (0 : Int32)), (4, .int (0 : Int32))]) (st' := []) (by decide +kernel) rfl rfl ?_
      refine bX10_trail_W26 hRm (a0 := a0) (x1 := x1) (x2 := x2) (fun s11 v12 h => ?_) n (s4, (0 : Int32), (0 : Int32)) (Ok.bindK h)
      refine BW.run [.iload_n 3] (pc' := 60) (lv' := [(3, .int v12)]) (st' := [.int v12]) (by decide +kernel) rfl rfl ?_
      exact BW.iret (by decide +kernel : decode tX10_trail.2.1 60 = .ok (.ireturn, 1)) rfl (Nat.zero_le _) (Nat.zero_le _) (hQ _ _ (Ok.some h))
    · have h := (Ok.ite h).1 hc
      refine BW.run [.iconst (-1)] (pc' := 20) (lv' := [(0, .ref a0), (1, .int x1), (2, .int x2)]) (st' := [.int (-1 : Int32)]) (by decide +kernel) rfl rfl ?_
      exact BW.iret (by decide +kernel : decode tX10_trail.2.1 20 = .ok (.ireturn, 1)) rfl (Nat.zero_le _) (Nat.zero_le _) (hQ _ _ (Ok.some h))
theorem oX10_trail {n : Nat} {P : Int32 × Sg → Prop} {s0 : Sg} {a0 : Nat} {x1 : Int32} {x2 : Int32} (h : Ok (mX10_trail n s0 a0 x1 x2) P) : ∃ n0, s0.2.1 a0 = some (10, n0) := by
  unfold mX10_trail at h
  exact Ok.isO h
theorem DX10_trail {G : Cx} {n : Nat} {P : Int32 × Sg → Prop} {s0 : Sg} {a0 : Nat} {x1 : Int32} {x2 : Int32} (h : Ok (mX10_trail n s0 a0 x1 x2) P) : BM G tX10_trail 3 73 0 0 [.ref a0, .int x1, .int x2] s0 (fun v s => ∃ r, v = some (.int r) ∧ P (r, s)) := by
  refine BM.of (by decide +kernel) (Nat.le_of_ble_eq_true rfl) ?_
  exact bX10_trail (E := (({ frames := 3, cells := 0, slots := 0, locals := 73 }), Aof s0, 0, 0, (fun v s => ∃ r, v = some (.int r) ∧ P (r, s)))) ⟨Nat.le_refl _, Nat.le_refl _⟩ (fun r s hp => ⟨r, rfl, hp⟩) h
def mX10_undo (n : Nat) (s0 : Sg) (a0 : Nat) : Option (Int32 × Sg) :=
  (isO 10 s0 a0).bind fun _ =>
  (toI (gV 10 s0 a0 27)).bind fun v1 =>
  if v1 = 0 then (
    some ((-1 : Int32), s0)
  ) else (
    (toI (gV 10 s0 a0 27)).bind fun v2 =>
    (pV 10 s0 a0 27 (.int (v2 - (1 : Int32)))).bind fun s3 =>
    (toI (gV 10 s3 a0 27)).bind fun v4 =>
    some (v4, s3)
  )
theorem bX10_undo {G : Cx} {E : Ev} {n : Nat} (hRm : 0 ≤ E.1.frames ∧ 0 ≤ E.1.locals) {P : Int32 × Sg → Prop} (hQ : ∀ r s, P (r, s) → E.2.2.2.2 (some (.int r)) s) {s0 : Sg} {a0 : Nat} (h : Ok (mX10_undo n s0 a0) P) : BW G tX10_undo E 0 0 0 [(0, .ref a0)] [] s0 := by
  unfold mX10_undo at h
  obtain ⟨_, _, h⟩ := Ok.bind h
  refine BW.run [.aload_n 0] (pc' := 1) (lv' := [(0, .ref a0)]) (st' := [.ref a0]) (by decide +kernel) rfl rfl ?_
  obtain ⟨v1, ev1, h⟩ := Ok.bind h
  refine BW.get (by decide +kernel : decode tX10_undo.2.1 1 = .ok (.getfield 194, 3)) ciX10 (k := 27) (by decide) lkF_X10_194 (toI_V ev1) ?_
  refine BW.if_ne 9 (by decide +kernel : decode tX10_undo.2.1 4 = .ok (.ifCond .ne 5, 3)) (by decide) (fun hc => ?_) (fun hc => ?_)
  · have h := (Ok.ite h).2 hc
    refine BW.run [.aload_n 0, .dup] (pc' := 11) (lv' := [(0, .ref a0)]) (st' := [.ref a0, .ref a0]) (by decide +kernel) rfl rfl ?_
    obtain ⟨v2, ev2, h⟩ := Ok.bind h
    refine BW.get (by decide +kernel : decode tX10_undo.2.1 11 = .ok (.getfield 194, 3)) ciX10 (k := 27) (by decide) lkF_X10_194 (toI_V ev2) ?_
    refine BW.run [.iconst 1, .isub] (pc' := 16) (lv' := [(0, .ref a0)]) (st' := [.int (v2 - (1 : Int32)), .ref a0]) (by decide +kernel) rfl rfl ?_
    obtain ⟨s3, es3, h⟩ := Ok.bind h
    refine BW.put (by decide +kernel : decode tX10_undo.2.1 16 = .ok (.putfield 194, 3)) ciX10 (k := 27) (by decide) lkF_X10_194 rfl rfl rfl es3 ?_
    refine BW.run [.aload_n 0] (pc' := 20) (lv' := [(0, .ref a0)]) (st' := [.ref a0]) (by decide +kernel) rfl rfl ?_
    obtain ⟨v4, ev4, h⟩ := Ok.bind h
    refine BW.get (by decide +kernel : decode tX10_undo.2.1 20 = .ok (.getfield 194, 3)) ciX10 (k := 27) (by decide) lkF_X10_194 (toI_V ev4) ?_
    exact BW.iret (by decide +kernel : decode tX10_undo.2.1 23 = .ok (.ireturn, 1)) rfl (Nat.zero_le _) (Nat.zero_le _) (hQ _ _ (Ok.some h))
  · have h := (Ok.ite h).1 hc
    refine BW.run [.iconst (-1)] (pc' := 8) (lv' := [(0, .ref a0)]) (st' := [.int (-1 : Int32)]) (by decide +kernel) rfl rfl ?_
    exact BW.iret (by decide +kernel : decode tX10_undo.2.1 8 = .ok (.ireturn, 1)) rfl (Nat.zero_le _) (Nat.zero_le _) (hQ _ _ (Ok.some h))
theorem oX10_undo {n : Nat} {P : Int32 × Sg → Prop} {s0 : Sg} {a0 : Nat} (h : Ok (mX10_undo n s0 a0) P) : ∃ n0, s0.2.1 a0 = some (10, n0) := by
  unfold mX10_undo at h
  exact Ok.isO h
theorem DX10_undo {G : Cx} {n : Nat} {P : Int32 × Sg → Prop} {s0 : Sg} {a0 : Nat} (h : Ok (mX10_undo n s0 a0) P) : BM G tX10_undo 0 0 0 0 [.ref a0] s0 (fun v s => ∃ r, v = some (.int r) ∧ P (r, s)) := by
  refine BM.of (by decide +kernel) (Nat.le_of_ble_eq_true rfl) ?_
  exact bX10_undo (E := (({ frames := 0, cells := 0, slots := 0, locals := 0 }), Aof s0, 0, 0, (fun v s => ∃ r, v = some (.int r) ∧ P (r, s)))) ⟨Nat.le_refl _, Nat.le_refl _⟩ (fun r s hp => ⟨r, rfl, hp⟩) h
def mX10_where (n : Nat) (s0 : Sg) (a0 : Nat) (x1 : Int32) (x2 : Int32) : Option (Int32 × Sg) :=
  (isO 10 s0 a0).bind fun _ =>
  (mX10_isWalk n s0 a0 x1).bind fun (v2, s1) =>
  if v2 = 0 then (
    some ((-1 : Int32), s1)
  ) else (
    (toR (gV 10 s1 a0 16)).bind fun b4 =>
    (toI (aV 11 s1 b4 x1)).bind fun v5 =>
    (mX10_in n s1 x2 (0 : Int32) v5).bind fun (v7, s6) =>
    if v7 = 0 then (
      some ((-1 : Int32), s6)
    ) else (
      (mX10_cellAt n s6 a0 x1 x2).bind fun (v10, s9) =>
      some (v10, s9)
    )
  )
theorem bX10_where {G : Cx} {E : Ev} {n : Nat} (hRm : 2 ≤ E.1.frames ∧ 43 ≤ E.1.locals) {P : Int32 × Sg → Prop} (hQ : ∀ r s, P (r, s) → E.2.2.2.2 (some (.int r)) s) {s0 : Sg} {a0 : Nat} {x1 : Int32} {x2 : Int32} (h : Ok (mX10_where n s0 a0 x1 x2) P) : BW G tX10_where E 0 0 0 [(0, .ref a0), (1, .int x1), (2, .int x2)] [] s0 := by
  unfold mX10_where at h
  obtain ⟨_, _, h⟩ := Ok.bind h
  refine BW.run [.aload_n 0, .iload_n 1] (pc' := 2) (lv' := [(0, .ref a0), (1, .int x1), (2, .int x2)]) (st' := [.int x1, .ref a0]) (by decide +kernel) rfl rfl ?_
  refine BW.callV (As := [.int x1]) (st := []) (by decide +kernel : decode tX10_where.2.1 2 = .ok (.invokevirtual 171, 3)) (DX10_isWalk (Ok.bindK h)) mfX10_isWalk lkM_X10_171 imX10_isWalk selX10_isWalk ciX10 (oX10_isWalk (Ok.bindK h)).choose_spec rfl rfl (Nat.le_of_ble_eq_true rfl) ⟨Nat.le_trans (by decide) hRm.1, Nat.le_trans (by decide) hRm.2⟩ ⟨Nat.zero_le _, Nat.zero_le _⟩ ?_
  rintro _ s1 ⟨v2, rfl, h⟩
  show BW G tX10_where E 0 0 5 [(0, .ref a0), (1, .int x1), (2, .int x2)] [.int v2] s1
  refine BW.if_eq 31 (by decide +kernel : decode tX10_where.2.1 5 = .ok (.ifCond .eq 26, 3)) (by decide) (fun hc => ?_) (fun hc => ?_)
  · have h := (Ok.ite h).1 hc
    refine BW.run [.iconst (-1)] (pc' := 32) (lv' := [(0, .ref a0), (1, .int x1), (2, .int x2)]) (st' := [.int (-1 : Int32)]) (by decide +kernel) rfl rfl ?_
    exact BW.iret (by decide +kernel : decode tX10_where.2.1 32 = .ok (.ireturn, 1)) rfl (Nat.zero_le _) (Nat.zero_le _) (hQ _ _ (Ok.some h))
  · have h := (Ok.ite h).2 hc
    refine BW.run [.iload_n 2, .iconst 0, .aload_n 0] (pc' := 11) (lv' := [(0, .ref a0), (1, .int x1), (2, .int x2)]) (st' := [.ref a0, .int (0 : Int32), .int x2]) (by decide +kernel) rfl rfl ?_
    obtain ⟨b4, eb4, h⟩ := Ok.bind h
    refine BW.get (by decide +kernel : decode tX10_where.2.1 11 = .ok (.getfield 31, 3)) ciX10 (k := 16) (by decide) lkF_X10_31 (toR_V eb4) ?_
    refine BW.run [.iload_n 1] (pc' := 15) (lv' := [(0, .ref a0), (1, .int x1), (2, .int x2)]) (st' := [.int x1, .ref b4, .int (0 : Int32), .int x2]) (by decide +kernel) rfl rfl ?_
    obtain ⟨v5, ev5, h⟩ := Ok.bind h
    refine BW.iald (by decide +kernel : decode tX10_where.2.1 15 = .ok (.iaload, 1)) (toI_V ev5) ?_
    refine BW.callS (As := [.int x2, .int (0 : Int32), .int v5]) (st := []) (by decide +kernel : decode tX10_where.2.1 16 = .ok (.invokestatic 147, 3)) (DX10_in (Ok.bindK h)) mfX10_in lkM_X10_147 smX10_in rfl rfl (Nat.le_of_ble_eq_true rfl) ⟨Nat.le_trans (by decide) hRm.1, Nat.le_trans (by decide) hRm.2⟩ ⟨Nat.zero_le _, Nat.zero_le _⟩ ?_
    rintro _ s6 ⟨v7, rfl, h⟩
    show BW G tX10_where E 0 0 19 [(0, .ref a0), (1, .int x1), (2, .int x2)] [.int v7] s6
    refine BW.if_eq 31 (by decide +kernel : decode tX10_where.2.1 19 = .ok (.ifCond .eq 12, 3)) (by decide) (fun hc => ?_) (fun hc => ?_)
    · have h := (Ok.ite h).1 hc
      refine BW.run [.iconst (-1)] (pc' := 32) (lv' := [(0, .ref a0), (1, .int x1), (2, .int x2)]) (st' := [.int (-1 : Int32)]) (by decide +kernel) rfl rfl ?_
      exact BW.iret (by decide +kernel : decode tX10_where.2.1 32 = .ok (.ireturn, 1)) rfl (Nat.zero_le _) (Nat.zero_le _) (hQ _ _ (Ok.some h))
    · have h := (Ok.ite h).2 hc
      refine BW.run [.aload_n 0, .iload_n 1, .iload_n 2] (pc' := 25) (lv' := [(0, .ref a0), (1, .int x1), (2, .int x2)]) (st' := [.int x2, .int x1, .ref a0]) (by decide +kernel) rfl rfl ?_
      refine BW.callV (As := [.int x1, .int x2]) (st := []) (by decide +kernel : decode tX10_where.2.1 25 = .ok (.invokevirtual 168, 3)) (DX10_cellAt (Ok.bindK h)) mfX10_cellAt lkM_X10_168 imX10_cellAt selX10_cellAt ciX10 (oX10_cellAt (Ok.bindK h)).choose_spec rfl rfl (Nat.le_of_ble_eq_true rfl) ⟨Nat.le_trans (by decide) hRm.1, Nat.le_trans (by decide) hRm.2⟩ ⟨Nat.zero_le _, Nat.zero_le _⟩ ?_
      rintro _ s9 ⟨v10, rfl, h⟩
      show BW G tX10_where E 0 0 28 [(0, .ref a0), (1, .int x1), (2, .int x2)] [.int v10] s9
      refine BW.goto 32 (by decide +kernel : decode tX10_where.2.1 28 = .ok (.goto 4, 3)) (by decide) ?_
      exact BW.iret (by decide +kernel : decode tX10_where.2.1 32 = .ok (.ireturn, 1)) rfl (Nat.zero_le _) (Nat.zero_le _) (hQ _ _ (Ok.some h))
theorem oX10_where {n : Nat} {P : Int32 × Sg → Prop} {s0 : Sg} {a0 : Nat} {x1 : Int32} {x2 : Int32} (h : Ok (mX10_where n s0 a0 x1 x2) P) : ∃ n0, s0.2.1 a0 = some (10, n0) := by
  unfold mX10_where at h
  exact Ok.isO h
theorem DX10_where {G : Cx} {n : Nat} {P : Int32 × Sg → Prop} {s0 : Sg} {a0 : Nat} {x1 : Int32} {x2 : Int32} (h : Ok (mX10_where n s0 a0 x1 x2) P) : BM G tX10_where 2 43 0 0 [.ref a0, .int x1, .int x2] s0 (fun v s => ∃ r, v = some (.int r) ∧ P (r, s)) := by
  refine BM.of (by decide +kernel) (Nat.le_of_ble_eq_true rfl) ?_
  exact bX10_where (E := (({ frames := 2, cells := 0, slots := 0, locals := 43 }), Aof s0, 0, 0, (fun v s => ∃ r, v = some (.int r) ∧ P (r, s)))) ⟨Nat.le_refl _, Nat.le_refl _⟩ (fun r s hp => ⟨r, rfl, hp⟩) h
def mX10_words_41 (n : Nat) (s0 : Sg) (t0 : Int32) (t1 : Int32) (a0 : Nat) (x1 : Int32) (x3 : Int32) : Option ((Sg × Int32 × Int32) ⊕ (Sg × Int32)) :=
  nm (t1 ||| t0) fun v7 =>
  some (.inl (s0, v7, (x3 + (1 : Int32))))
theorem bX10_words_41 {G : Cx} {E : Ev} {n : Nat} (hRm : 1 ≤ E.1.frames ∧ 22 ≤ E.1.locals) {s0 : Sg} {t0 : Int32} {t1 : Int32} {a0 : Nat} {x1 : Int32} {x3 : Int32} {P : (Sg × Int32 × Int32) ⊕ (Sg × Int32) → Prop} (hC : ∀ (s : Sg) (c2 : Int32) (c3 : Int32), P (.inl (s, c2, c3)) → BW G tX10_words E 0 0 15 [(0, .ref a0), (1, .int x1), (2, .int c2), (3, .int c3)] [] s) (hE : ∀ (s : Sg) (c2 : Int32), P (.inr (s, c2)) → BW G tX10_words E 0 0 49 [(2, .int c2)] [] s)  (h : Ok (mX10_words_41 n s0 t0 t1 a0 x1 x3) P) : BW G tX10_words E 0 0 41 [(0, .ref a0), (1, .int x1), (3, .int x3)] [.int t0, .int t1] s0 := by
  unfold mX10_words_41 at h
  refine BW.run [.ior] (pc' := 42) (lv' := [(0, .ref a0), (1, .int x1), (3, .int x3)]) (st' := [.int (t1 ||| t0)]) (by decide +kernel) rfl rfl ?_
  obtain ⟨v7, wv7, h⟩ := Ok.nm h
  refine BW.nm wv7 ?_
  refine BW.run [.istore_n 2, .iinc 3 1] (pc' := 46) (lv' := [(0, .ref a0), (1, .int x1), (2, .int v7), (3, .int (x3 + (1 : Int32)))]) (st' := []) (by decide +kernel) rfl rfl ?_
  refine BW.goto 15 (by decide +kernel : decode tX10_words.2.1 46 = .ok (.goto (-31), 3)) (by decide) ?_
  exact hC _ _ _ (Ok.some h)
def mX10_words_L15 (n : Nat) (a0 : Nat) (x1 : Int32) : (Sg × Int32 × Int32) → Option ((Sg × Int32 × Int32) ⊕ (Sg × Int32))
  | (s0, x2, x3) =>
    (toI (gV 10 s0 a0 27)).bind fun v4 =>
    if v4 ≤ x3 then (
      some (.inr (s0, x2))
    ) else (
      (toR (gV 10 s0 a0 21)).bind fun b5 =>
      (toI (aV 11 s0 b5 x3)).bind fun v6 =>
      if v6 = x1 then (
        mX10_words_41 n s0 ((1 : Int32) <<< (x3 &&& 31)) x2 a0 x1 x3
      ) else (
        mX10_words_41 n s0 (0 : Int32) x2 a0 x1 x3
      )
    )
theorem bX10_words_L15 {G : Cx} {E : Ev} {n : Nat} (hRm : 1 ≤ E.1.frames ∧ 22 ≤ E.1.locals) {a0 : Nat} {x1 : Int32} {P : (Sg × Int32 × Int32) ⊕ (Sg × Int32) → Prop} (hC : ∀ (s : Sg) (c2 : Int32) (c3 : Int32), P (.inl (s, c2, c3)) → BW G tX10_words E 0 0 15 [(0, .ref a0), (1, .int x1), (2, .int c2), (3, .int c3)] [] s) (hE : ∀ (s : Sg) (c2 : Int32), P (.inr (s, c2)) → BW G tX10_words E 0 0 49 [(2, .int c2)] [] s) {s0 : Sg} {x2 : Int32} {x3 : Int32} (h : Ok (mX10_words_L15 n a0 x1 (s0, x2, x3)) P) : BW G tX10_words E 0 0 15 [(0, .ref a0), (1, .int x1), (2, .int x2), (3, .int x3)] [] s0 := by
  unfold mX10_words_L15 at h
  refine BW.run [.iload_n 3, .aload_n 0] (pc' := 17) (lv' := [(0, .ref a0), (1, .int x1), (2, .int x2), (3, .int x3)]) (st' := [.ref a0, .int x3]) (by decide +kernel) rfl rfl ?_
  obtain ⟨v4, ev4, h⟩ := Ok.bind h
  refine BW.get (by decide +kernel : decode tX10_words.2.1 17 = .ok (.getfield 194, 3)) ciX10 (k := 27) (by decide) lkF_X10_194 (toI_V ev4) ?_
  refine BW.icmp_ge 49 (by decide +kernel : decode tX10_words.2.1 20 = .ok (.if_icmp .ge 29, 3)) (by decide) (fun hc => ?_) (fun hc => ?_)
  · have h := (Ok.ite h).1 hc
    refine BW.sub [2] rfl ?_
    exact hE _ _ (Ok.some h)
  · have h := (Ok.ite h).2 hc
    refine BW.run [.iload_n 2, .aload_n 0] (pc' := 25) (lv' := [(0, .ref a0), (1, .int x1), (2, .int x2), (3, .int x3)]) (st' := [.ref a0, .int x2]) (by decide +kernel) rfl rfl ?_
    obtain ⟨b5, eb5, h⟩ := Ok.bind h
    refine BW.get (by decide +kernel : decode tX10_words.2.1 25 = .ok (.getfield 43, 3)) ciX10 (k := 21) (by decide) lkF_X10_43 (toR_V eb5) ?_
    refine BW.run [.iload_n 3] (pc' := 29) (lv' := [(0, .ref a0), (1, .int x1), (2, .int x2), (3, .int x3)]) (st' := [.int x3, .ref b5, .int x2]) (by decide +kernel) rfl rfl ?_
    obtain ⟨v6, ev6, h⟩ := Ok.bind h
    refine BW.iald (by decide +kernel : decode tX10_words.2.1 29 = .ok (.iaload, 1)) (toI_V ev6) ?_
    refine BW.run [.iload_n 1] (pc' := 31) (lv' := [(0, .ref a0), (1, .int x1), (2, .int x2), (3, .int x3)]) (st' := [.int x1, .int v6, .int x2]) (by decide +kernel) rfl rfl ?_
    refine BW.icmp_ne 40 (by decide +kernel : decode tX10_words.2.1 31 = .ok (.if_icmp .ne 9, 3)) (by decide) (fun hc => ?_) (fun hc => ?_)
    · have h := (Ok.ite h).2 hc
      refine BW.run [.iconst 0] (pc' := 41) (lv' := [(0, .ref a0), (1, .int x1), (2, .int x2), (3, .int x3)]) (st' := [.int (0 : Int32), .int x2]) (by decide +kernel) rfl rfl ?_
      refine BW.sub [0, 1, 3] rfl ?_
      exact bX10_words_41 hRm hC hE h
    · have h := (Ok.ite h).1 hc
      refine BW.run [.iconst 1, .iload_n 3, .ishl] (pc' := 37) (lv' := [(0, .ref a0), (1, .int x1), (2, .int x2), (3, .int x3)]) (st' := [.int ((1 : Int32) <<< (x3 &&& 31)), .int x2]) (by decide +kernel) rfl rfl ?_
      refine BW.goto 41 (by decide +kernel : decode tX10_words.2.1 37 = .ok (.goto 4, 3)) (by decide) ?_
      refine BW.sub [0, 1, 3] rfl ?_
      exact bX10_words_41 hRm hC hE h
theorem bX10_words_W15 {G : Cx} {E : Ev} {n : Nat} (hRm : 1 ≤ E.1.frames ∧ 22 ≤ E.1.locals) {a0 : Nat} {x1 : Int32} {K : (Sg × Int32) → Prop} (hE : ∀ (s : Sg) (c2 : Int32), K (s, c2) → BW G tX10_words E 0 0 49 [(2, .int c2)] [] s) : ∀ (f : Nat) (c : Sg × Int32 × Int32), Ok (loopM (mX10_words_L15 n a0 x1) f c) K → match c with | (s0, x2, x3) => BW G tX10_words E 0 0 15 [(0, .ref a0), (1, .int x1), (2, .int x2), (3, .int x3)] [] s0 := by
  intro f
  induction f with
  | zero => intro c h; exact (Ok.no h).elim
  | succ f ih =>
    intro c h
    obtain ⟨s0, x2, x3⟩ := c
    exact bX10_words_L15 (P := loopP (mX10_words_L15 n a0 x1) f K) hRm (fun s c2 c3 h => ih (s, c2, c3) h) hE (loopM_ok h)
def mX10_words (n : Nat) (s0 : Sg) (a0 : Nat) (x1 : Int32) : Option (Int32 × Sg) :=
  (isO 10 s0 a0).bind fun _ =>
  (mX10_in n s0 x1 (-1 : Int32) (5 : Int32)).bind fun (v2, s1) =>
  if v2 = 0 then (
    some ((-1 : Int32), s1)
  ) else (
    (loopM (mX10_words_L15 n a0 x1) n (s1, (0 : Int32), (0 : Int32))).bind fun (s8, v9) =>
    some (v9, s8)
  )
theorem bX10_words {G : Cx} {E : Ev} {n : Nat} (hRm : 1 ≤ E.1.frames ∧ 22 ≤ E.1.locals) {P : Int32 × Sg → Prop} (hQ : ∀ r s, P (r, s) → E.2.2.2.2 (some (.int r)) s) {s0 : Sg} {a0 : Nat} {x1 : Int32} (h : Ok (mX10_words n s0 a0 x1) P) : BW G tX10_words E 0 0 0 [(0, .ref a0), (1, .int x1)] [] s0 := by
  unfold mX10_words at h
  obtain ⟨_, _, h⟩ := Ok.bind h
  refine BW.run [.iload_n 1, .iconst (-1), .iconst 5] (pc' := 3) (lv' := [(0, .ref a0), (1, .int x1)]) (st' := [.int (5 : Int32), .int (-1 : Int32), .int x1]) (by decide +kernel) rfl rfl ?_
  refine BW.callS (As := [.int x1, .int (-1 : Int32), .int (5 : Int32)]) (st := []) (by decide +kernel : decode tX10_words.2.1 3 = .ok (.invokestatic 147, 3)) (DX10_in (Ok.bindK h)) mfX10_in lkM_X10_147 smX10_in rfl rfl (Nat.le_of_ble_eq_true rfl) ⟨Nat.le_trans (by decide) hRm.1, Nat.le_trans (by decide) hRm.2⟩ ⟨Nat.zero_le _, Nat.zero_le _⟩ ?_
  rintro _ s1 ⟨v2, rfl, h⟩
  show BW G tX10_words E 0 0 6 [(0, .ref a0), (1, .int x1)] [.int v2] s1
  refine BW.if_ne 11 (by decide +kernel : decode tX10_words.2.1 6 = .ok (.ifCond .ne 5, 3)) (by decide) (fun hc => ?_) (fun hc => ?_)
  · have h := (Ok.ite h).2 hc
    refine BW.run [.iconst 0, .istore_n 2, .iconst 0, .istore_n 3] (pc' := 15) (lv' := [(0, .ref a0), (1, .int x1), (2, .int (0 : Int32)), (3, .int (0 : Int32))]) (st' := []) (by decide +kernel) rfl rfl ?_
    refine bX10_words_W15 hRm (a0 := a0) (x1 := x1) (fun s8 v9 h => ?_) n (s1, (0 : Int32), (0 : Int32)) (Ok.bindK h)
    refine BW.run [.iload_n 2] (pc' := 50) (lv' := [(2, .int v9)]) (st' := [.int v9]) (by decide +kernel) rfl rfl ?_
    exact BW.iret (by decide +kernel : decode tX10_words.2.1 50 = .ok (.ireturn, 1)) rfl (Nat.zero_le _) (Nat.zero_le _) (hQ _ _ (Ok.some h))
  · have h := (Ok.ite h).1 hc
    refine BW.run [.iconst (-1)] (pc' := 10) (lv' := [(0, .ref a0), (1, .int x1)]) (st' := [.int (-1 : Int32)]) (by decide +kernel) rfl rfl ?_
    exact BW.iret (by decide +kernel : decode tX10_words.2.1 10 = .ok (.ireturn, 1)) rfl (Nat.zero_le _) (Nat.zero_le _) (hQ _ _ (Ok.some h))
theorem oX10_words {n : Nat} {P : Int32 × Sg → Prop} {s0 : Sg} {a0 : Nat} {x1 : Int32} (h : Ok (mX10_words n s0 a0 x1) P) : ∃ n0, s0.2.1 a0 = some (10, n0) := by
  unfold mX10_words at h
  exact Ok.isO h
theorem DX10_words {G : Cx} {n : Nat} {P : Int32 × Sg → Prop} {s0 : Sg} {a0 : Nat} {x1 : Int32} (h : Ok (mX10_words n s0 a0 x1) P) : BM G tX10_words 1 22 0 0 [.ref a0, .int x1] s0 (fun v s => ∃ r, v = some (.int r) ∧ P (r, s)) := by
  refine BM.of (by decide +kernel) (Nat.le_of_ble_eq_true rfl) ?_
  exact bX10_words (E := (({ frames := 1, cells := 0, slots := 0, locals := 22 }), Aof s0, 0, 0, (fun v s => ∃ r, v = some (.int r) ∧ P (r, s)))) ⟨Nat.le_refl _, Nat.le_refl _⟩ (fun r s hp => ⟨r, rfl, hp⟩) h
