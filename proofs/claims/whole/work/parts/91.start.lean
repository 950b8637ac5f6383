/-! ===== where the law's loop begins (printed by wip/whole/gen91.py) ===== -/
/-- both objects hold A, and the law's out stands -/
def Jn (B : Nat) (σ : Sg) (A : AS) : Prop := ∃ wa f e, St B wa σ A ∧ σ = MW (B + 70) σ f e ∧ Msh (B + 70) σ ∧ MH A f e ∧ σ.2.1 (B + 89) = some (12, 1) ∧ ∃ x, σ.2.2 (B + 89) 0 = .long x
set_option maxRecDepth 100000 in
def wsF (B : Nat) (x1 x2 x3 : Int32) : Ws := (70, 3, .int (jmax 10 (jmin 2000 x3))) :: (70, 2, .int (jmax 2 (jmin 16 x2))) :: (70, 1, .int (jmax 2 (jmin 16 x1))) :: (70, 37, .ref (B + 88)) :: (70, 35, .ref (B + 87)) :: (70, 33, .ref (B + 86)) :: (70, 28, .ref (B + 85)) :: (70, 26, .ref (B + 84)) :: (70, 25, .ref (B + 83)) :: (70, 24, .ref (B + 82)) :: (70, 23, .ref (B + 81)) :: (70, 22, .ref (B + 80)) :: (70, 21, .ref (B + 79)) :: (70, 19, .ref (B + 78)) :: (70, 18, .ref (B + 77)) :: (70, 17, .ref (B + 76)) :: (70, 16, .ref (B + 75)) :: (70, 15, .ref (B + 74)) :: (70, 10, .ref (B + 73)) :: (70, 9, .ref (B + 72)) :: (70, 4, .ref (B + 71)) :: (4, 19, .ref (B + 69)) :: (69, 4, .int 1000000) :: (69, 3, .int (-1000000)) :: (69, 2, .int 0) :: (69, 1, .int 0) :: (69, 0, .int (-1)) :: (4, 18, .ref (B + 68)) :: (68, 4, .int 1000000) :: (68, 3, .int (-1000000)) :: (68, 2, .int 0) :: (68, 1, .int 0) :: (68, 0, .int (-1)) :: (4, 17, .ref (B + 67)) :: (67, 4, .int 1000000) :: (67, 3, .int (-1000000)) :: (67, 2, .int 0) :: (67, 1, .int 0) :: (67, 0, .int (-1)) :: (4, 16, .ref (B + 66)) :: (66, 4, .int 1000000) :: (66, 3, .int (-1000000)) :: (66, 2, .int 0) :: (66, 1, .int 0) :: (66, 0, .int (-1)) :: (4, 15, .ref (B + 65)) :: (65, 4, .int 1000000) :: (65, 3, .int (-1000000)) :: (65, 2, .int 0) :: (65, 1, .int 0) :: (65, 0, .int (-1)) :: (4, 14, .ref (B + 64)) :: (64, 4, .int 1000000) :: (64, 3, .int (-1000000)) :: (64, 2, .int 0) :: (64, 1, .int 0) :: (64, 0, .int (-1)) :: (4, 13, .ref (B + 63)) :: (63, 4, .int 1000000) :: (63, 3, .int (-1000000)) :: (63, 2, .int 0) :: (63, 1, .int 0) :: (63, 0, .int (-1)) :: (4, 12, .ref (B + 62)) :: (62, 4, .int 1000000) :: (62, 3, .int (-1000000)) :: (62, 2, .int 0) :: (62, 1, .int 0) :: (62, 0, .int (-1)) :: (4, 11, .ref (B + 61)) :: (61, 4, .int 1000000) :: (61, 3, .int (-1000000)) :: (61, 2, .int 0) :: (61, 1, .int 0) :: (61, 0, .int (-1)) :: (4, 10, .ref (B + 60)) :: (60, 4, .int 1000000) :: (60, 3, .int (-1000000)) :: (60, 2, .int 0) :: (60, 1, .int 0) :: (60, 0, .int (-1)) :: (4, 9, .ref (B + 59)) :: (59, 4, .int 1000000) :: (59, 3, .int (-1000000)) :: (59, 2, .int 0) :: (59, 1, .int 0) :: (59, 0, .int (-1)) :: (4, 8, .ref (B + 58)) :: (58, 4, .int 1000000) :: (58, 3, .int (-1000000)) :: (58, 2, .int 0) :: (58, 1, .int 0) :: (58, 0, .int (-1)) :: (4, 7, .ref (B + 57)) :: (57, 4, .int 1000000) :: (57, 3, .int (-1000000)) :: (57, 2, .int 0) :: (57, 1, .int 0) :: (57, 0, .int (-1)) :: (4, 6, .ref (B + 56)) :: (56, 4, .int 1000000) :: (56, 3, .int (-1000000)) :: (56, 2, .int 0) :: (56, 1, .int 0) :: (56, 0, .int (-1)) :: (4, 5, .ref (B + 55)) :: (55, 4, .int 1000000) :: (55, 3, .int (-1000000)) :: (55, 2, .int 0) :: (55, 1, .int 0) :: (55, 0, .int (-1)) :: (4, 4, .ref (B + 54)) :: (54, 4, .int 1000000) :: (54, 3, .int (-1000000)) :: (54, 2, .int 0) :: (54, 1, .int 0) :: (54, 0, .int (-1)) :: (4, 3, .ref (B + 53)) :: (53, 4, .int 1000000) :: (53, 3, .int (-1000000)) :: (53, 2, .int 0) :: (53, 1, .int 0) :: (53, 0, .int (-1)) :: (4, 2, .ref (B + 52)) :: (52, 4, .int 1000000) :: (52, 3, .int (-1000000)) :: (52, 2, .int 0) :: (52, 1, .int 0) :: (52, 0, .int (-1)) :: (4, 1, .ref (B + 51)) :: (51, 4, .int 1000000) :: (51, 3, .int (-1000000)) :: (51, 2, .int 0) :: (51, 1, .int 0) :: (51, 0, .int (-1)) :: (4, 0, .ref (B + 50)) :: (50, 4, .int 1000000) :: (50, 3, .int (-1000000)) :: (50, 2, .int 0) :: (50, 1, .int 0) :: (50, 0, .int (-1)) :: (0, 4, .ref (B + 46)) :: (46, 1, .int (jmax (2) (jmin (16) x2))) :: (46, 0, .int (jmax (2) (jmin (16) x1))) :: (46, 5, .ref (B + 49)) :: (46, 4, .ref (B + 48)) :: (46, 3, .int (0)) :: (46, 2, .ref (B + 47)) :: (0, 2, .int (jmax (10) (jmin (2000) x3))) :: (0, 1, .int (jmax (2) (jmin (16) x2))) :: (0, 0, .int (jmax (2) (jmin (16) x1))) :: (0, 17, .ref (B + 45)) :: (0, 16, .ref (B + 44)) :: (0, 15, .ref (B + 43)) :: (43, 3, .int (-1)) :: (43, 2, .int (-1)) :: (43, 1, .int (-1)) :: (43, 0, .int (-1)) :: (0, 14, .ref (B + 29)) :: (30, 5, .ref (B + 41)) :: (41, 1, .int 1) :: (41, 0, .ref (B + 42)) :: (30, 4, .ref (B + 39)) :: (39, 1, .int 1) :: (39, 0, .ref (B + 40)) :: (30, 3, .ref (B + 37)) :: (37, 1, .int 1) :: (37, 0, .ref (B + 38)) :: (30, 2, .ref (B + 35)) :: (35, 1, .int 1) :: (35, 0, .ref (B + 36)) :: (30, 1, .ref (B + 33)) :: (33, 1, .int 1) :: (33, 0, .ref (B + 34)) :: (30, 0, .ref (B + 31)) :: (31, 1, .int 1) :: (31, 0, .ref (B + 32)) :: (29, 4, .int (-1)) :: (29, 3, .int (0)) :: (29, 2, .int (-1)) :: (29, 1, .int (0)) :: (29, 0, .ref (B + 30)) :: (0, 13, .ref (B + 11)) :: (12, 6, .ref (B + 27)) :: (27, 1, .int 1) :: (27, 0, .ref (B + 28)) :: (12, 5, .ref (B + 25)) :: (25, 1, .int 1) :: (25, 0, .ref (B + 26)) :: (12, 4, .ref (B + 23)) :: (23, 1, .int 1) :: (23, 0, .ref (B + 24)) :: (12, 3, .ref (B + 21)) :: (21, 1, .int 1) :: (21, 0, .ref (B + 22)) :: (12, 2, .ref (B + 19)) :: (19, 1, .int 1) :: (19, 0, .ref (B + 20)) :: (12, 1, .ref (B + 17)) :: (17, 1, .int 1) :: (17, 0, .ref (B + 18)) :: (12, 0, .ref (B + 15)) :: (15, 1, .int 1) :: (15, 0, .ref (B + 16)) :: (11, 4, .int (0)) :: (11, 3, .int (0)) :: (11, 2, .ref (B + 14)) :: (11, 1, .ref (B + 13)) :: (11, 0, .ref (B + 12)) :: (0, 12, .ref (B + 8)) :: (8, 1, .ref (B + 10)) :: (8, 0, .ref (B + 9)) :: (0, 11, .ref (B + 6)) :: (6, 1, .int 1) :: (6, 0, .ref (B + 7)) :: (0, 10, .int (0)) :: (0, 9, .ref (B + 5)) :: (0, 8, .int (0)) :: (0, 7, .ref (B + 4)) :: (0, 6, .int (0)) :: (0, 5, .ref (B + 3)) :: (0, 3, .ref (B + 1)) :: (1, 6, .int (0)) :: (1, 5, .int (0)) :: (1, 4, .int (0)) :: (1, 3, .int (0)) :: (1, 2, .int (0)) :: (1, 1, .int (0)) :: (1, 0, .ref (B + 2)) :: []
def clp (lo hi z : Int) : Nat := (max lo (min hi z)).toNat
def A0 (x1 x2 x3 : Int32) : AS := ((clp 2 16 x1.toInt, clp 2 16 x2.toInt, clp 10 2000 x3.toInt), (0, fun _ => 0), (0, fun _ => (0, 0, 0, fun _ => 0, 0)), (0, fun _ => (0, 0, 0, 0, 0)), (0, fun _ => 0))
def f0 (a b c : Int) : Nat → Int
  | 1 => a
  | 2 => b
  | 3 => c
  | _ => 0
theorem jclamp {lo hi : Int} (h0 : 0 ≤ lo) (h1 : lo ≤ 100000) (h2 : 0 ≤ hi) (h3 : hi ≤ 100000) (x : Int32) : jmax (iI lo) (jmin (iI hi) x) = iI ((clp lo hi x.toInt : Nat) : Int) := by
  have hx : RI x.toInt := ⟨Int32.le_toInt x, Int32.toInt_lt x⟩
  unfold RI at hx
  have e : jmin (iI hi) x = iI (min hi x.toInt) := by
    conv => lhs; rw [iI_of x]
    unfold jmin
    by_cases c : x.toInt < hi
    · rw [if_pos ((iI_lt (by omega) (by omega)).mpr c)]
      exact congrArg iI (by omega)
    · rw [if_neg (fun q => c ((iI_lt (by omega) (by omega)).mp q))]
      exact congrArg iI (by omega)
  rw [e, jmax_iI (by unfold RI; omega) (by unfold RI; omega)]
  unfold clp
  exact congrArg iI (by omega)
theorem clp_range {lo hi : Int} (h0 : 0 ≤ lo) (h1 : lo ≤ hi) (z : Int) : lo.toNat ≤ clp lo hi z ∧ clp lo hi z ≤ hi.toNat := by
  unfold clp
  omega
section X91
variable {B : Nat} {σb σ : Sg} {x1 x2 x3 : Int32}
theorem Zs.at {N i k : Nat} {ws : Ws} {v : Value} (h : Zs B σb N ws σ) (hi : i < N) (hr : rd ws i k = some v) : σ.2.2 (B + i) k = v := by
  rw [h.2.2.1 i k hi, hr]
  rfl
theorem Zs.df {N i k : Nat} {ws : Ws} (h : Zs B σb N ws σ) (hi : i < N) (hw : (ws.all fun w => ! (Nat.beq w.1 i)) = true) : σ.2.2 (B + i) k = dft (knd i) k := by
  rw [h.2.2.1 i k hi, rd_none]
  · rfl
  · intro w hm e
    have := List.all_eq_true.mp hw w hm
    rw [e, Nat.beq_refl] at this
    cases this
theorem Zs.arr {N i : Nat} {ws : Ws} (h : Zs B σb N ws σ) (hi : i < N) (hk : knd i = 11) (hw : (ws.all fun w => ! (Nat.beq w.1 i)) = true) : σ.2.2 (B + i) = iz (fun _ => 0) := by
  funext k
  rw [h.df hi hw, hk]
  rfl
theorem Zs.net {N i : Nat} {ws : Ws} (h : Zs B σb N ws σ) (hi : i + 1 < N) (h1 : LL[i]? = some (4, 2)) (h2 : LL[i + 1]? = some (11, 81)) (hr : rd ws i 0 = some (.ref (B + (i + 1)))) (hp : rd ws i 1 = some (.int 1)) (hw : (ws.all fun w => ! (Nat.beq w.1 (i + 1))) = true) : NetOK σ (B + i) (B + (i + 1)) := by
  refine ⟨1, fun _ => 0, by omega, ⟨(h.2.1 i (by omega)).trans h1, (h.2.1 _ hi).trans h2, by omega, h.at (by omega) hr, (h.at (by omega) hp), h.arr hi (by unfold knd; rw [h2]) hw⟩, fun _ => ⟨(by decide : (-3000 : Int) ≤ 0), (by decide : (0 : Int) ≤ 3000)⟩⟩
theorem Zs.nil {N i k : Nat} {ws : Ws} (h : Zs B σb N ws σ) (hi : i < N) (hw : (ws.all fun w => ! (Nat.beq w.1 i && Nat.beq w.2.1 k)) = true) : σ.2.2 (B + i) k = dft (knd i) k := by
  rw [h.2.2.1 i k hi]
  have : rd ws i k = none := by
    clear h
    induction ws with
    | nil => rfl
    | cons w t ih =>
      rw [List.all_cons, Bool.and_eq_true] at hw
      rw [rd_cons, if_neg]
      · exact ih hw.2
      · rintro ⟨e1, e2⟩
        have := hw.1
        rw [e1, e2, Nat.beq_refl, Nat.beq_refl] at this
        cases this
  rw [this]
  rfl
theorem LL_x : ∀ k, k < 70 → LL[k]? = xtL[k]? := by decide +kernel
theorem LL_m : ∀ k, k < 19 → LL[70 + k]? = mtL[k]? := by decide +kernel
set_option maxRecDepth 100000 in
set_option maxHeartbeats 4000000 in
theorem s_pt : ∀ q, q ∈ ptL → rd (wsF B x1 x2 x3) q.1 q.2.1 = some (.ref (B + q.2.2)) := by
  intro q hq
  unfold ptL at hq
  simp only [List.mem_cons, List.not_mem_nil, or_false] at hq
  rcases hq with rfl | rfl | rfl | rfl | rfl | rfl | rfl | rfl | rfl | rfl | rfl | rfl | rfl | rfl | rfl | rfl | rfl | rfl | rfl | rfl | rfl | rfl | rfl <;> rfl
theorem pt_lt : ∀ q, q ∈ ptL → q.1 < 90 := by decide +kernel
set_option maxRecDepth 100000 in
set_option maxHeartbeats 4000000 in
theorem s_RS (h : Zs B σb 90 (wsF B x1 x2 x3) σ) : RS B σ := by
  refine ⟨h.net (by decide) rfl rfl rfl rfl rfl, fun k hk => ?_, fun k hk => ?_, ⟨_, h.arr (by decide) rfl rfl⟩, ⟨_, h.arr (by decide) rfl rfl⟩, ⟨_, h.arr (by decide) rfl rfl⟩, ⟨_, h.arr (by decide) rfl rfl⟩, ⟨_, h.arr (by decide) rfl rfl⟩, ⟨_, h.arr (by decide) rfl rfl⟩, ⟨_, h.arr (by decide) rfl rfl⟩, ⟨_, h.arr (by decide) rfl rfl⟩, ⟨_, h.arr (by decide) rfl rfl⟩⟩
  · have : k = 0 ∨ k = 1 ∨ k = 2 ∨ k = 3 ∨ k = 4 ∨ k = 5 ∨ k = 6 := by omega
    rcases this with rfl | rfl | rfl | rfl | rfl | rfl | rfl <;> exact h.net (by decide) rfl rfl rfl rfl rfl
  · have : k = 0 ∨ k = 1 ∨ k = 2 ∨ k = 3 ∨ k = 4 ∨ k = 5 := by omega
    rcases this with rfl | rfl | rfl | rfl | rfl | rfl <;> exact h.net (by decide) rfl rfl rfl rfl rfl
theorem s_Wf : Wf (A0 x1 x2 x3) := by
  have a := clp_range (lo := 2) (hi := 16) (by omega) (by omega) x1.toInt
  have b := clp_range (lo := 2) (hi := 16) (by omega) (by omega) x2.toInt
  have c := clp_range (lo := 10) (hi := 2000) (by omega) (by omega) x3.toInt
  exact ⟨⟨a.1, a.2, b.1, b.2, c.1, c.2⟩, ⟨Nat.zero_le _, fun k hk => (Nat.not_lt_zero _ hk).elim⟩, ⟨Nat.zero_le _, fun k hk => (Nat.not_lt_zero _ hk).elim⟩, ⟨Nat.zero_le _, fun k hk => (Nat.not_lt_zero _ hk).elim⟩, ⟨Nat.zero_le _, fun k hk => (Nat.not_lt_zero _ hk).elim⟩⟩
set_option maxRecDepth 100000 in
set_option maxHeartbeats 4000000 in
theorem s_RC (h : Zs B σb 90 (wsF B x1 x2 x3) σ) : RC B (fun _ => 0) σ (A0 x1 x2 x3) := by
  have w1 : (.int (jmax 2 (jmin 16 x1)) : Value) = .int (iI (wide (A0 x1 x2 x3))) := congrArg Value.int (jclamp (lo := 2) (hi := 16) (by omega) (by omega) (by omega) (by omega) x1)
  have w2 : (.int (jmax 2 (jmin 16 x2)) : Value) = .int (iI (deep (A0 x1 x2 x3))) := congrArg Value.int (jclamp (lo := 2) (hi := 16) (by omega) (by omega) (by omega) (by omega) x2)
  have w3 : (.int (jmax 10 (jmin 2000 x3)) : Value) = .int (iI (day (A0 x1 x2 x3))) := congrArg Value.int (jclamp (lo := 10) (hi := 2000) (by omega) (by omega) (by omega) (by omega) x3)
  refine ⟨fun k hk => (h.2.1 k (by omega)).trans (LL_x k hk), fun i q hq => h.at (pt_lt q (List.mem_of_getElem? hq)) (s_pt q (List.mem_of_getElem? hq)), fun k hk => ?_, fun k hk => ?_, fun k hk => ?_, ⟨(h.at (i := 0) (by decide) rfl).trans w1, (h.at (i := 0) (by decide) rfl).trans w2, (h.at (i := 0) (by decide) rfl).trans w3, h.at (i := 0) (by decide) rfl, h.at (i := 0) (by decide) rfl, h.at (i := 0) (by decide) rfl, h.at (by decide) rfl, (h.at (by decide) rfl).trans w1, (h.at (by decide) rfl).trans w2⟩,
    ⟨_, h.arr (by decide) rfl rfl, fun k hk => (Nat.not_lt_zero _ hk).elim⟩, ⟨_, h.arr (by decide) rfl rfl, fun k hk => (Nat.not_lt_zero _ hk).elim⟩, fun k hk => (Nat.not_lt_zero _ hk).elim, fun k hk => (Nat.not_lt_zero _ hk).elim, fun w _ _ => (h.df (i := 3) (by decide) rfl), fun v w _ hw => (Nat.not_lt_zero _ hw).elim, Nat.le_of_eq h.1.symm⟩
  · have : k = 0 ∨ k = 1 ∨ k = 2 ∨ k = 3 ∨ k = 4 ∨ k = 5 ∨ k = 6 := by omega
    rcases this with rfl | rfl | rfl | rfl | rfl | rfl | rfl <;> exact ⟨h.at (by decide) rfl, h.at (by decide) rfl⟩
  · have : k = 0 ∨ k = 1 ∨ k = 2 ∨ k = 3 ∨ k = 4 ∨ k = 5 := by omega
    rcases this with rfl | rfl | rfl | rfl | rfl | rfl <;> exact ⟨h.at (by decide) rfl, h.at (by decide) rfl⟩
  · have : k = 0 ∨ k = 1 ∨ k = 2 ∨ k = 3 ∨ k = 4 ∨ k = 5 ∨ k = 6 ∨ k = 7 ∨ k = 8 ∨ k = 9 ∨ k = 10 ∨ k = 11 ∨ k = 12 ∨ k = 13 ∨ k = 14 ∨ k = 15 ∨ k = 16 ∨ k = 17 ∨ k = 18 ∨ k = 19 := by omega
    rcases this with rfl | rfl | rfl | rfl | rfl | rfl | rfl | rfl | rfl | rfl | rfl | rfl | rfl | rfl | rfl | rfl | rfl | rfl | rfl | rfl <;> exact h.at (by decide) rfl
set_option maxRecDepth 100000 in
set_option maxHeartbeats 4000000 in
theorem s_MW (h : Zs B σb 90 (wsF B x1 x2 x3) σ) : σ = MW (B + 70) σ (f0 (wide (A0 x1 x2 x3)) (deep (A0 x1 x2 x3)) (day (A0 x1 x2 x3))) (fun _ _ => 0) := by
  have w1 : (.int (jmax 2 (jmin 16 x1)) : Value) = .int (iI (wide (A0 x1 x2 x3))) := congrArg Value.int (jclamp (lo := 2) (hi := 16) (by omega) (by omega) (by omega) (by omega) x1)
  have w2 : (.int (jmax 2 (jmin 16 x2)) : Value) = .int (iI (deep (A0 x1 x2 x3))) := congrArg Value.int (jclamp (lo := 2) (hi := 16) (by omega) (by omega) (by omega) (by omega) x2)
  have w3 : (.int (jmax 10 (jmin 2000 x3)) : Value) = .int (iI (day (A0 x1 x2 x3))) := congrArg Value.int (jclamp (lo := 10) (hi := 2000) (by omega) (by omega) (by omega) (by omega) x3)
  refine Prod.ext rfl (Prod.ext rfl (funext fun a => ?_))
  show σ.2.2 a = if a = B + 70 then _ else if B + 70 < a ∧ a < B + 70 + 19 then _ else _
  by_cases c : a = B + 70
  · rw [if_pos c, c]
    funext k
    by_cases hk : k < 41
    · have : k = 0 ∨ k = 1 ∨ k = 2 ∨ k = 3 ∨ k = 4 ∨ k = 5 ∨ k = 6 ∨ k = 7 ∨ k = 8 ∨ k = 9 ∨ k = 10 ∨ k = 11 ∨ k = 12 ∨ k = 13 ∨ k = 14 ∨ k = 15 ∨ k = 16 ∨ k = 17 ∨ k = 18 ∨ k = 19 ∨ k = 20 ∨ k = 21 ∨ k = 22 ∨ k = 23 ∨ k = 24 ∨ k = 25 ∨ k = 26 ∨ k = 27 ∨ k = 28 ∨ k = 29 ∨ k = 30 ∨ k = 31 ∨ k = 32 ∨ k = 33 ∨ k = 34 ∨ k = 35 ∨ k = 36 ∨ k = 37 ∨ k = 38 ∨ k = 39 ∨ k = 40 := by omega
      rcases this with rfl | rfl | rfl | rfl | rfl | rfl | rfl | rfl | rfl | rfl | rfl | rfl | rfl | rfl | rfl | rfl | rfl | rfl | rfl | rfl | rfl | rfl | rfl | rfl | rfl | rfl | rfl | rfl | rfl | rfl | rfl | rfl | rfl | rfl | rfl | rfl | rfl | rfl | rfl | rfl | rfl
      · exact (h.nil (by decide) rfl).trans rfl
      · exact (h.at (by decide) rfl).trans w1
      · exact (h.at (by decide) rfl).trans w2
      · exact (h.at (by decide) rfl).trans w3
      · exact (h.at (by decide) rfl).trans rfl
      · exact (h.nil (by decide) rfl).trans rfl
      · exact (h.nil (by decide) rfl).trans rfl
      · exact (h.nil (by decide) rfl).trans rfl
      · exact (h.nil (by decide) rfl).trans rfl
      · exact (h.at (by decide) rfl).trans rfl
      · exact (h.at (by decide) rfl).trans rfl
      · exact (h.nil (by decide) rfl).trans rfl
      · exact (h.nil (by decide) rfl).trans rfl
      · exact (h.nil (by decide) rfl).trans rfl
      · exact (h.nil (by decide) rfl).trans rfl
      · exact (h.at (by decide) rfl).trans rfl
      · exact (h.at (by decide) rfl).trans rfl
      · exact (h.at (by decide) rfl).trans rfl
      · exact (h.at (by decide) rfl).trans rfl
      · exact (h.at (by decide) rfl).trans rfl
      · exact (h.nil (by decide) rfl).trans rfl
      · exact (h.at (by decide) rfl).trans rfl
      · exact (h.at (by decide) rfl).trans rfl
      · exact (h.at (by decide) rfl).trans rfl
      · exact (h.at (by decide) rfl).trans rfl
      · exact (h.at (by decide) rfl).trans rfl
      · exact (h.at (by decide) rfl).trans rfl
      · exact (h.nil (by decide) rfl).trans rfl
      · exact (h.at (by decide) rfl).trans rfl
      · exact (h.nil (by decide) rfl).trans rfl
      · exact (h.nil (by decide) rfl).trans rfl
      · exact (h.nil (by decide) rfl).trans rfl
      · exact (h.nil (by decide) rfl).trans rfl
      · exact (h.at (by decide) rfl).trans rfl
      · exact (h.nil (by decide) rfl).trans rfl
      · exact (h.at (by decide) rfl).trans rfl
      · exact (h.nil (by decide) rfl).trans rfl
      · exact (h.at (by decide) rfl).trans rfl
      · exact (h.nil (by decide) rfl).trans rfl
      · exact (h.nil (by decide) rfl).trans rfl
      · exact (h.nil (by decide) rfl).trans rfl
    · have hd : σ.2.2 (B + 70) k = dft (knd 70) k := by
        rw [h.2.2.1 70 k (by decide)]
        have q : ((wsF B x1 x2 x3).all fun w => ! (Nat.beq w.1 70) || Nat.blt w.2.1 41) = true := rfl
        have : rd (wsF B x1 x2 x3) 70 k = none := by
          generalize wsF B x1 x2 x3 = ws at q
          induction ws with
          | nil => rfl
          | cons w t ih =>
            rw [List.all_cons, Bool.and_eq_true] at q
            rw [rd_cons, if_neg]
            · exact ih q.2
            · rintro ⟨e1, e2⟩
              have := q.1
              rw [e1, e2, Nat.beq_refl, Bool.not_true, Bool.false_or] at this
              exact hk (Nat.blt_eq.mp this)
        rw [this]
        rfl
      obtain ⟨j, rfl⟩ : ∃ j, k = j + 41 := ⟨k - 41, by omega⟩
      exact hd.trans rfl
  · rw [if_neg c]
    by_cases d : B + 70 < a ∧ a < B + 70 + 19
    · rw [if_pos d]
      obtain ⟨j, rfl⟩ : ∃ j, a = B + j := ⟨a - B, by omega⟩
      have : j = 71 ∨ j = 72 ∨ j = 73 ∨ j = 74 ∨ j = 75 ∨ j = 76 ∨ j = 77 ∨ j = 78 ∨ j = 79 ∨ j = 80 ∨ j = 81 ∨ j = 82 ∨ j = 83 ∨ j = 84 ∨ j = 85 ∨ j = 86 ∨ j = 87 ∨ j = 88 := by omega
      rcases this with rfl | rfl | rfl | rfl | rfl | rfl | rfl | rfl | rfl | rfl | rfl | rfl | rfl | rfl | rfl | rfl | rfl | rfl <;> exact (h.arr (by decide) rfl rfl).trans rfl
    · rw [if_neg d]
set_option maxRecDepth 100000 in
theorem s_J (h : Zs B σb 90 (wsF B x1 x2 x3) σ) : Jn B σ (A0 x1 x2 x3) := by
  refine ⟨fun _ => 0, _, _, ⟨s_RC h, s_RS h, s_Wf⟩, s_MW h, fun k hk => ?_, ⟨⟨rfl, rfl, rfl, fun _ _ => rfl⟩, ⟨rfl, fun k hk => (Nat.not_lt_zero _ hk).elim⟩, ⟨rfl, fun k hk => (Nat.not_lt_zero _ hk).elim⟩, ⟨rfl, fun k hk => (Nat.not_lt_zero _ hk).elim⟩, ⟨rfl, fun k hk => (Nat.not_lt_zero _ hk).elim⟩⟩, h.2.1 89 (by decide), 0, h.df (i := 89) (by decide) rfl⟩
  rw [show B + 70 + k = B + (70 + k) by omega, h.2.1 _ (by omega)]
  exact LL_m k hk
end X91
