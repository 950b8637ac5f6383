/-! ===== the class: a new walk is made ===== -/
theorem nw_1 (s : Sg) (t n : Nat) (f : Nat → Value) : (nw s t n f).1 = s.1 + 1 := rfl
theorem nw_sn (s : Sg) (t n : Nat) (f : Nat → Value) {a : Nat} (h : a = s.1) : (nw s t n f).2.1 a = some (t, n) := by simp [nw, h]
theorem nw_so (s : Sg) (t n : Nat) (f : Nat → Value) {a : Nat} (h : a ≠ s.1) : (nw s t n f).2.1 a = s.2.1 a := by simp [nw, h]
theorem nw_mn (s : Sg) (t n : Nat) (f : Nat → Value) {a : Nat} (h : a = s.1) : (nw s t n f).2.2 a = f := by simp [nw, h]
theorem nw_mo (s : Sg) (t n : Nat) (f : Nat → Value) {a : Nat} (h : a ≠ s.1) : (nw s t n f).2.2 a = s.2.2 a := by simp [nw, h]
section X87
variable {B n q p b : Nat} {wa : Nat → Nat} {s sb : Sg} {A : AS}
/-- a heap that has grown stands -/
theorem St.ext (h : St B wa sb A) (h1 : sb.1 ≤ s.1) (h2 : ∀ a, a < sb.1 → s.2.1 a = sb.2.1 a) (h3 : ∀ a, a < sb.1 → s.2.2 a = sb.2.2 a) : St B wa s A := by
  obtain ⟨hC, ⟨a, b, c, a1, a2, a3, a4, a5, a6, a7, a8, a9⟩, hA⟩ := h
  have hz : B + 90 ≤ sb.1 := hC.2.2.2.2.2.2.2.2.2.2.2.2
  have h20 := hA.2.2.2.1.1
  obtain ⟨k0, kt, kw, kf, ks⟩ := hC.split
  have m : ∀ r, r < 90 → s.2.2 (B + r) = sb.2.2 (B + r) := fun r hr => h3 _ (by omega)
  have m0 : s.2.2 B = sb.2.2 B := h3 _ (by omega)
  have nok : ∀ r r', r < 90 → r' < 90 → NetOK sb (B + r) (B + r') → NetOK s (B + r) (B + r') := fun r r' hr hr' ⟨p, e, hp, hN, hB⟩ => by
    refine ⟨p, e, hp, ?_, hB⟩
    unfold NetAt at hN ⊢
    rw [h2 _ (by omega), h2 _ (by omega), m r hr, m r' hr']
    exact hN
  exact ⟨RC.join (k0.same (by omega) (fun r hr => h2 _ (by omega)) (fun r k hr _ => by rw [m r (by omega)])) (kt.same (by rw [m 1 (by omega)]) (m 2 (by omega))) (kw.same h1 (fun a _ ha => h2 a ha) (by rw [m0]) (m 3 (by omega)) (fun a _ ha => h3 a ha)) (kf.same (fun r hr => h2 _ (by omega)) h20 (by rw [m0]) (fun r _ hr => m r (by omega))) (ks.same (by rw [m0]) (m 5 (by omega))),
    ⟨nok _ _ (by omega) (by omega) a, fun k hk => nok _ _ (by omega) (by omega) (b k hk), fun k hk => nok _ _ (by omega) (by omega) (c k hk), a1.same (m _ (by omega)), a2.same (m _ (by omega)), a3.same (m _ (by omega)), a4.same (m _ (by omega)), a5.same (m _ (by omega)), a6.same (m _ (by omega)), a7.same (m _ (by omega)), a8.same (m _ (by omega)), a9.same (m _ (by omega))⟩, hA⟩
def szW (k : Nat) : Nat := if k = 2 then 256 else 61
/-- a walk in the making: l of its arrays are there -/
def Mk (sb : Sg) (q l : Nat) (C : Nat → Value) (s : Sg) : Prop :=
  s.1 = q + 1 + l ∧ s.2.1 q = some (8, 9) ∧ s.2.2 q = C ∧ (∀ a, a < q → s.2.1 a = sb.2.1 a ∧ s.2.2 a = sb.2.2 a) ∧ ∀ k, 1 ≤ k → k ≤ l → s.2.1 (q + k) = some (11, szW k) ∧ s.2.2 (q + k) = iz (fun _ => 0)
theorem Mk.arr {l : Nat} {C : Nat → Value} (h : Mk sb q l C s) (m : Nat) (hm : m = szW (l + 1)) : nwO 11 m (fun _ => .int 0) s = some (q + (l + 1), nw s 11 m (fun _ => .int 0)) ∧ Mk sb q (l + 1) C (nw s 11 m (fun _ => .int 0)) := by
  obtain ⟨h1, h2, h3, h4, h5⟩ := h
  refine ⟨by show some (s.1, _) = _; rw [h1, show q + 1 + l = q + (l + 1) by omega], by rw [nw_1, h1]; omega, by rw [nw_so _ _ _ _ (by omega)]; exact h2, by rw [nw_mo _ _ _ _ (by omega)]; exact h3, fun a ha => ⟨by rw [nw_so _ _ _ _ (by omega)]; exact (h4 a ha).1, by rw [nw_mo _ _ _ _ (by omega)]; exact (h4 a ha).2⟩, fun k k1 k2 => ?_⟩
  by_cases c : k = l + 1
  · rw [nw_sn _ _ _ _ (by omega), nw_mn _ _ _ _ (by omega), hm, c]
    exact ⟨rfl, rfl⟩
  · rw [nw_so _ _ _ _ (by omega), nw_mo _ _ _ _ (by omega)]
    exact h5 k k1 (by omega)
theorem Mk.put {l : Nat} {C : Nat → Value} (h : Mk sb q l C s) (k : Nat) (hk : k < 9) (v : Value) : pV 8 s q k v = some (setF s q k v) ∧ Mk sb q l (updV C k v) (setF s q k v) := by
  obtain ⟨h1, h2, h3, h4, h5⟩ := h
  refine ⟨pV_ok h2 hk, h1, h2, ?_, fun a ha => ⟨(h4 a ha).1, by rw [setF_ne _ _ _ (by omega)]; exact (h4 a ha).2⟩, fun j j1 j2 => ⟨(h5 j j1 j2).1, by rw [setF_ne _ _ _ (by omega)]; exact (h5 j j1 j2).2⟩⟩
  funext j
  rw [setF_at, updV]
  by_cases c : j = k
  · rw [if_pos ⟨rfl, c⟩, if_pos c]
  · rw [if_neg (fun x => c x.2), if_neg c, h3]
/-- a walk is made and stands at its first cell -/
theorem x_wInit {C : Nat → Value} (h : Mk sb q 0 C s) {z : Nat} (hz : z < 256) (hn : 100000 ≤ n) : ∃ s', mX8_init n s q (iI (p : Int)) (iI (b : Int)) (iI (z : Int)) = some s' ∧ s'.1 = q + 4 ∧ (∀ a, a < q → s'.2.1 a = sb.2.1 a ∧ s'.2.2 a = sb.2.2 a) ∧ WlkP s' q p b (0, fun _ => z, 0, fun _ => 0) := by
  obtain ⟨a1, M1⟩ := h.arr 61 rfl
  obtain ⟨a2, M2⟩ := M1.put 2 (by omega) (.ref (q + 1))
  obtain ⟨a3, M3⟩ := M2.arr 256 rfl
  obtain ⟨a4, M4⟩ := M3.put 3 (by omega) (.ref (q + 2))
  obtain ⟨a5, M5⟩ := M4.arr 61 rfl
  obtain ⟨a6, M6⟩ := M5.put 4 (by omega) (.ref (q + 3))
  obtain ⟨a7, M7⟩ := M6.put 5 (by omega) (.int 0)
  obtain ⟨a8, M8⟩ := M7.put 6 (by omega) (.int 0)
  obtain ⟨a9, M9⟩ := M8.put 7 (by omega) (.int 0)
  obtain ⟨a10, M10⟩ := M9.put 8 (by omega) (.int 0)
  obtain ⟨a11, M11⟩ := M10.put 0 (by omega) (.int (iI (p : Int)))
  obtain ⟨a12, M12⟩ := M11.put 1 (by omega) (.int (iI (b : Int)))
  unfold mX8_init
  simp only [a1, a2, a3, a4, a5, a6, a7, a8, a9, a10, a11, a12, Option.bind_some]
  clear a1 a2 a3 a4 a5 a6 a7 a8 a9 a10 a11 a12 M1 M2 M3 M4 M5 M6 M7 M8 M9 M10 M11
  generalize hS : setF (setF (setF (setF (setF (setF (setF (nw (setF (nw (setF (nw s 11 61 fun _ => .int 0) q 2 (.ref (q + 1))) 11 256 fun _ => .int 0) q 3 (.ref (q + 2))) 11 61 fun _ => .int 0) q 4 (.ref (q + 3))) q 5 (.int 0)) q 6 (.int 0)) q 7 (.int 0)) q 8 (.int 0)) q 0 (.int (iI (p : Int)))) q 1 (.int (iI (b : Int))) = S at M12
  obtain ⟨m1, m2, m3, m4, m5⟩ := M12
  have v : ∀ k w, updV (updV (updV (updV (updV (updV (updV (updV (updV C 2 (.ref (q + 1))) 3 (.ref (q + 2))) 4 (.ref (q + 3))) 5 (.int 0)) 6 (.int 0)) 7 (.int 0)) 8 (.int 0)) 0 (.int (iI (p : Int)))) 1 (.int (iI (b : Int))) k = w → S.2.2 q k = w := fun k w e => by rw [m3]; exact e
  have f0 : S.2.2 q 0 = .int (iI (p : Int)) := v 0 _ rfl
  have f1 : S.2.2 q 1 = .int (iI (b : Int)) := v 1 _ rfl
  have f2 : S.2.2 q 2 = .ref (q + 1) := v 2 _ rfl
  have f3 : S.2.2 q 3 = .ref (q + 2) := v 3 _ rfl
  have f4 : S.2.2 q 4 = .ref (q + 3) := v 4 _ rfl
  have f6 : S.2.2 q 6 = .int 0 := v 6 _ rfl
  have f7 : S.2.2 q 7 = .int 0 := v 7 _ rfl
  have f8 : S.2.2 q 8 = .int 0 := v 8 _ rfl
  have t1 : S.2.1 (q + 1) = some (11, 61) := (m5 1 (by omega) (by omega)).1
  have t2 : S.2.1 (q + 2) = some (11, 256) := (m5 2 (by omega) (by omega)).1
  have t3 : S.2.1 (q + 3) = some (11, 61) := (m5 3 (by omega) (by omega)).1
  have c1 := (m5 1 (by omega) (by omega)).2
  have c2 := (m5 2 (by omega) (by omega)).2
  have c3 := (m5 3 (by omega) (by omega)).2
  have fl : mJ_fill n S (q + 2) (-1 : Int32) = some (setA S (q + 2) (fil 256 (-1) (fun _ => 0))) := by rw [iI_m1]; exact j_fill (v := -1) t2 c2 (by omega) hn
  simp only [gR_ok m2 (show 3 < 9 by omega) f3, Option.bind_some, fl]
  generalize hS1 : setA S (q + 2) (fil 256 (-1) (fun _ => 0)) = S1
  have u2 : S1.2.1 q = some (8, 9) := by rw [← hS1]; exact m2
  have k1 : S1.2.1 (q + 1) = some (11, 61) := by rw [← hS1]; exact t1
  have k2 : S1.2.1 (q + 2) = some (11, 256) := by rw [← hS1]; exact t2
  have d0 : S1.2.2 q = S.2.2 q := by rw [← hS1, setA_ne _ _ (by omega)]
  have d1 : S1.2.2 (q + 1) = iz (fun _ => 0) := by rw [← hS1, setA_ne _ _ (by omega)]; exact c1
  have d2 : S1.2.2 (q + 2) = iz (fil 256 (-1) (fun _ => 0)) := by rw [← hS1, setA_self]
  have w1 : sV 11 S1 (q + 1) (0 : Int32) (.int (iI (z : Int))) = some (setA S1 (q + 1) (updZ (fun _ => 0) 0 z)) := sV_ok (z := 0) k1 d1 (by omega) (by omega) (by omega)
  simp only [gR_ok u2 (show 2 < 9 by omega) (by rw [d0]; exact f2), Option.bind_some, w1]
  generalize hS2 : setA S1 (q + 1) (updZ (fun _ => 0) 0 z) = S2
  have x2 : S2.2.1 q = some (8, 9) := by rw [← hS2]; exact u2
  have y1 : S2.2.1 (q + 1) = some (11, 61) := by rw [← hS2]; exact k1
  have y2 : S2.2.1 (q + 2) = some (11, 256) := by rw [← hS2]; exact k2
  have e0 : S2.2.2 q = S.2.2 q := by rw [← hS2, setA_ne _ _ (by omega), d0]
  have e1 : S2.2.2 (q + 1) = iz (updZ (fun _ => 0) 0 z) := by rw [← hS2, setA_self]
  have e2 : S2.2.2 (q + 2) = iz (fil 256 (-1) (fun _ => 0)) := by rw [← hS2, setA_ne _ _ (by omega)]; exact d2
  have r1 : toI (aV 11 S2 (q + 1) (0 : Int32)) = some (iI (z : Int)) := aI_ok (z := 0) y1 e1 (by omega) (by omega) (by omega)
  have w2 : sV 11 S2 (q + 2) (iI (z : Int)) (.int (0 : Int32)) = some (setA S2 (q + 2) (updZ (fil 256 (-1) (fun _ => 0)) z 0)) := by
    have := sV_ok (v := 0) y2 e2 (show (0 : Int) ≤ (z : Int) by omega) (by omega) (by omega)
    rw [show ((z : Int)).toNat = z by omega] at this
    exact this
  generalize hS3 : setA S2 (q + 2) (updZ (fil 256 (-1) (fun _ => 0)) z 0) = S3 at w2
  have z2 : S3.2.1 q = some (8, 9) := by rw [← hS3]; exact x2
  have g0 : S3.2.2 q = S.2.2 q := by rw [← hS3, setA_ne _ _ (by omega), e0]
  have one : (0 : Int32) + (1 : Int32) = iI 1 := by decide
  unfold mX8_leavePrint
  simp only [isO_ok x2, Option.bind_some, gR_ok x2 (show 2 < 9 by omega) (by rw [e0]; exact f2), gI_ok x2 (show 6 < 9 by omega) (by rw [e0]; exact f6), r1, gR_ok x2 (show 3 < 9 by omega) (by rw [e0]; exact f3), w2, gI_ok z2 (show 7 < 9 by omega) (by rw [g0]; exact f7), pV_ok z2 (show 7 < 9 by omega), one]
  rw [if_neg (by rw [iI_0, iI_lt (by omega) (by omega)]; omega), if_neg (by rw [iL, iI_le (by omega) (by omega)]; omega)]
  refine ⟨_, rfl, by rw [← hS3, ← hS2, ← hS1]; exact m1, fun a ha => ⟨?_, ?_⟩, ⟨⟨z2, by rw [← hS3]; exact y1, by rw [← hS3]; exact y2, by rw [← hS3, ← hS2, ← hS1]; exact t3⟩, ⟨?_, ?_, ?_, ?_, ?_, ?_, ?_, ?_⟩, ⟨updZ (fun _ => 0) 0 z, ?_, fun i hi => ?_⟩, ⟨updZ (fil 256 (-1) (fun _ => 0)) z 0, ?_, fun i hi => ?_⟩, fun _ => 0, ?_⟩⟩
  · rw [← hS3, ← hS2, ← hS1]; exact (m4 a ha).1
  · rw [setF_ne _ _ _ (by omega), ← hS3, setA_ne _ _ (by omega), ← hS2, setA_ne _ _ (by omega), ← hS1, setA_ne _ _ (by omega)]; exact (m4 a ha).2
  · rw [setF_k _ _ _ (by omega), g0]; exact f0
  · rw [setF_k _ _ _ (by omega), g0]; exact f1
  · rw [setF_k _ _ _ (by omega), g0]; exact f2
  · rw [setF_k _ _ _ (by omega), g0]; exact f3
  · rw [setF_k _ _ _ (by omega), g0]; exact f4
  · rw [setF_k _ _ _ (by omega), g0]; exact f6
  · rw [setF_self]; rfl
  · rw [setF_k _ _ _ (by omega), g0]; exact f8
  · rw [setF_ne _ _ _ (by omega), ← hS3, setA_ne _ _ (by omega)]; exact e1
  · have hi' : i ≤ 0 := hi
    show updZ (fun _ => 0) 0 (z : Int) i = (z : Int)
    unfold updZ
    rw [if_pos (by omega)]
  · rw [setF_ne _ _ _ (by omega), ← hS3, setA_self]
  · show updZ (fil 256 (-1) (fun _ => 0)) z 0 i = lat (fun _ => z) i 0
    unfold updZ lat fil
    by_cases c : i = z
    · rw [if_pos c, if_pos c.symm]
    · rw [if_neg c, if_pos hi, if_neg (fun x => c x.symm)]
  · rw [setF_ne _ _ _ (by omega), ← hS3, setA_ne _ _ (by omega), ← hS2, setA_ne _ _ (by omega), ← hS1, setA_ne _ _ (by omega)]; exact c3
/-- the places are listed: the walk stands -/
theorem x_list {u : Pu} (h : WlkP s q p b u) (hu : u.1 ≤ 60) (hn : 100000 ≤ n) : ∃ s', mX8_listPlaces n s q = some s' ∧ WalkAt s' q (p, b, u.1, u.2.1, 0) ∧ s'.1 = s.1 ∧ s'.2.1 = s.2.1 ∧ ∀ a, a < q → s'.2.2 a = s.2.2 a := by
  obtain ⟨⟨s0, s1, s2, s3⟩, ⟨f0, f1, f2, f3, f4, f6, f7, f8⟩, ⟨e1, m1, c1⟩, ⟨e2, m2, c2⟩, e3, m3⟩ := h
  have pf : ∀ k, plc u.2.1 u.1 k ≤ 61 := fun k => by have := plc_few u.2.1 k u.1; omega
  have key := loop_inv (body := mX8_listPlaces_L7 n q) (fun c => ∃ (t : Nat) (S : Sg), c = (S, iI (t : Int)) ∧ t ≤ 256 ∧ S.1 = s.1 ∧ S.2.1 = s.2.1 ∧ (∀ a, a ≠ q → a ≠ q + 3 → S.2.2 a = s.2.2 a) ∧ (∀ k, k ≠ 5 → S.2.2 q k = s.2.2 q k) ∧ S.2.2 q 5 = .int (iI (plc u.2.1 u.1 t : Nat)) ∧ ∃ e, S.2.2 (q + 3) = iz e ∧ ∀ k, k < t → lat u.2.1 k u.1 ≠ -1 → e (plc u.2.1 u.1 k) = k) (fun c => 256 - c.2.toNatClampNeg)
    (fun S => S.1 = s.1 ∧ S.2.1 = s.2.1 ∧ (∀ a, a ≠ q → a ≠ q + 3 → S.2.2 a = s.2.2 a) ∧ (∀ k, k ≠ 5 → S.2.2 q k = s.2.2 q k) ∧ S.2.2 q 5 = .int (iI (plc u.2.1 u.1 256 : Nat)) ∧ ∃ e, S.2.2 (q + 3) = iz e ∧ ∀ k, k < 256 → lat u.2.1 k u.1 ≠ -1 → e (plc u.2.1 u.1 k) = k) ?_ n (setF s q 5 (.int (iI ((0 : Nat) : Int))), (0 : Int32)) ⟨0, _, rfl, by omega, rfl, rfl, fun a a1 _ => setF_ne _ _ _ a1, fun k hk => setF_k _ _ _ hk, setF_self _ _ _ _, e3, by rw [setF_ne _ _ _ (by omega)]; exact m3, fun k hk => by omega⟩ (by show 256 - (0 : Int32).toNatClampNeg < n; omega)
  · obtain ⟨S, k1, k2, k3, k4, k5, k6, e, k7, k8⟩ := key
    refine ⟨S, ?_, ⟨⟨by rw [k3]; exact s0, by rw [k3]; exact s1, by rw [k3]; exact s2, by rw [k3]; exact s3⟩, ⟨by rw [k5 0 (by omega)]; exact f0, by rw [k5 1 (by omega)]; exact f1, by rw [k5 2 (by omega)]; exact f2, by rw [k5 3 (by omega)]; exact f3, by rw [k5 4 (by omega)]; exact f4, k6, by rw [k5 6 (by omega)]; exact f6, by rw [k5 7 (by omega)]; exact f7, by rw [k5 8 (by omega)]; exact f8⟩, ⟨e1, by rw [k4 _ (by omega) (by omega)]; exact m1, c1⟩, ⟨e2, by rw [k4 _ (by omega) (by omega)]; exact m2, c2⟩, e, k7, k8⟩, k2, k3, fun a ha => k4 a (by omega) (by omega)⟩
    have pv : pV 8 s q 5 (.int (0 : Int32)) = some (setF s q 5 (.int (iI ((0 : Nat) : Int)))) := pV_ok s0 (by omega)
    unfold mX8_listPlaces
    simp only [isO_ok s0, Option.bind_some, pv, k1]
  · rintro _ ⟨t, S, rfl, ht, k2, k3, k4, k5, k6, e, k7, k8⟩
    have S0 : S.2.1 q = some (8, 9) := by rw [k3]; exact s0
    have S2 : S.2.1 (q + 2) = some (11, 256) := by rw [k3]; exact s2
    have S3 : S.2.1 (q + 3) = some (11, 61) := by rw [k3]; exact s3
    have P := pf t
    by_cases ct : t = 256
    · subst ct
      refine Or.inr ⟨S, ?_, k2, k3, k4, k5, k6, e, k7, k8⟩
      simp only [mX8_listPlaces_L7]
      rw [if_pos (by rw [iL, iI_le (by omega) (by omega)]; omega)]
    · have g4 : toR (gV 8 S q 4) = some (q + 3) := gR_ok S0 (by omega) (by rw [k5 4 (by omega)]; exact f4)
      have g3 : toR (gV 8 S q 3) = some (q + 2) := gR_ok S0 (by omega) (by rw [k5 3 (by omega)]; exact f3)
      have g5 := gI_ok S0 (show 5 < 9 by omega) k6
      have a2 : S.2.2 (q + 2) = iz e2 := by rw [k4 _ (by omega) (by omega)]; exact m2
      have rd : toI (aV 11 S (q + 2) (iI (t : Int))) = some (iI (lat u.2.1 t u.1)) := by
        rw [aI_ok S2 a2 (by omega) (by omega) (by omega), show ((t : Int)).toNat = t by omega, c2 t (by omega)]
      have lr := lat_range u.2.1 t u.1
      have mu : 256 - (iI ((t + 1 : Nat) : Int)).toNatClampNeg < 256 - (iI (t : Int)).toNatClampNeg := by
        rw [iI_clamp (by omega) (by omega), iI_clamp (by omega) (by omega)]
        omega
      simp only [mX8_listPlaces_L7, g5, g4, Option.bind_some, lenA_ok S3, g3, rd, mX8_listPlaces_56, pt1]
      rw [if_neg (by rw [iL, iI_le (by omega) (by omega)]; omega)]
      by_cases cf : plc u.2.1 u.1 t = 61
      · rw [if_pos (by rw [iI_le (by omega) (by omega)]; omega)]
        have full : ∀ k, t ≤ k → plc u.2.1 u.1 k = 61 := fun k hk => by
          have := plc_mono u.2.1 u.1 hk
          have := pf k
          omega
        refine Or.inr ⟨S, rfl, k2, k3, k4, k5, by rw [full 256 (by omega), ← cf]; exact k6, e, k7, fun k hk hl => ?_⟩
        by_cases c : k < t
        · exact k8 k c hl
        · exfalso
          have x1 := full k (by omega)
          have x2 := full (k + 1) (by omega)
          have x3 : plc u.2.1 u.1 (k + 1) = if lat u.2.1 k u.1 = -1 then plc u.2.1 u.1 k else plc u.2.1 u.1 k + 1 := rfl
          rw [if_neg hl] at x3
          omega
      · rw [if_neg (by rw [iI_le (by omega) (by omega)]; omega)]
        have x3 : plc u.2.1 u.1 (t + 1) = if lat u.2.1 t u.1 = -1 then plc u.2.1 u.1 t else plc u.2.1 u.1 t + 1 := rfl
        by_cases cl : lat u.2.1 t u.1 = -1
        · rw [if_pos (by rw [cl]; rfl)]
          rw [if_pos cl] at x3
          refine Or.inl ⟨_, rfl, ⟨t + 1, S, rfl, by omega, k2, k3, k4, k5, by rw [x3]; exact k6, e, k7, fun k hk hl => ?_⟩, mu⟩
          by_cases c : k = t
          · rw [c] at hl; exact absurd cl hl
          · exact k8 k (by omega) hl
        · rw [if_neg (fun x => cl ((c_eqm (RI.sm (by omega) (by omega))).mp x))]
          rw [if_neg cl] at x3
          have w1 : sV 11 S (q + 3) (iI (plc u.2.1 u.1 t : Nat)) (.int (iI (t : Int))) = some (setA S (q + 3) (updZ e (plc u.2.1 u.1 t) t)) := by
            rw [sV_ok S3 k7 (by omega) (by omega) (by omega), show ((plc u.2.1 u.1 t : Nat) : Int).toNat = plc u.2.1 u.1 t by omega]
          have S0' : (setA S (q + 3) (updZ e (plc u.2.1 u.1 t) t)).2.1 q = some (8, 9) := S0
          have g5' : toI (gV 8 (setA S (q + 3) (updZ e (plc u.2.1 u.1 t) t)) q 5) = some (iI (plc u.2.1 u.1 t : Nat)) := gI_ok S0' (by omega) (by rw [setA_ne _ _ (by omega)]; exact k6)
          simp only [w1, Option.bind_some, g5', pt1, pV_ok S0' (show 5 < 9 by omega)]
          refine Or.inl ⟨_, rfl, ⟨t + 1, _, rfl, by omega, k2, k3, fun a b1 b2 => by rw [setF_ne _ _ _ b1, setA_ne _ _ b2]; exact k4 a b1 b2, fun k hk => by rw [setF_k _ _ _ hk, setA_ne _ _ (by omega)]; exact k5 k hk, by rw [setF_self, x3], updZ e (plc u.2.1 u.1 t) t, by rw [setF_ne _ _ _ (by omega), setA_self], fun k hk hl => ?_⟩, mu⟩
          unfold updZ
          by_cases c : k = t
          · rw [c, if_pos rfl]
          · have y1 := plc_mono u.2.1 u.1 (show k + 1 ≤ t by omega)
            have y2 : plc u.2.1 u.1 (k + 1) = if lat u.2.1 k u.1 = -1 then plc u.2.1 u.1 k else plc u.2.1 u.1 k + 1 := rfl
            rw [if_neg hl] at y2
            rw [if_neg (by omega)]
            exact k8 k (by omega) hl
end X87
