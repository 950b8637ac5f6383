/-! ===== both objects made: the worlds from an empty start (printed by wip/whole/gen89.py) ===== -/
def LL : List (Nat × Nat) := xtL ++ mtL ++ [(12, 1)]
def dft (t : Nat) : Nat → Value := match t with
  | 0 => fun j => defaultValue (tyX0 j)
  | 1 => fun j => defaultValue (tyX1 j)
  | 2 => fun j => defaultValue (tyX2 j)
  | 3 => fun j => defaultValue (tyX3 j)
  | 4 => fun j => defaultValue (tyX4 j)
  | 5 => fun j => defaultValue (tyX5 j)
  | 6 => fun j => defaultValue (tyX6 j)
  | 7 => fun j => defaultValue (tyX7 j)
  | 9 => fun j => defaultValue (tyX9 j)
  | 10 => fun j => defaultValue (tyX10 j)
  | 11 => fun _ => .int 0
  | 12 => fun _ => .long 0
  | _ => fun _ => .null
abbrev Ws : Type := List (Nat × Nat × Value)
def rd : Ws → Nat → Nat → Option Value
  | [], _, _ => none
  | w :: t, i, k => match Nat.beq w.1 i && Nat.beq w.2.1 k with
    | true => some w.2.2
    | false => rd t i k
def knd (i : Nat) : Nat := match LL[i]? with
  | some q => q.1
  | none => 99
def Zs (B : Nat) (σb : Sg) (N : Nat) (ws : Ws) (σ : Sg) : Prop := σ.1 = B + N ∧ (∀ i, i < N → σ.2.1 (B + i) = LL[i]?) ∧ (∀ i k, i < N → σ.2.2 (B + i) k = (rd ws i k).getD (dft (knd i) k)) ∧ (∀ w, w ∈ ws → w.1 < N) ∧ ∀ q, q < B → σ.2.1 q = σb.2.1 q ∧ σ.2.2 q = σb.2.2 q
theorem rd_cons (w : Nat × Nat × Value) (ws : Ws) (i k : Nat) : rd (w :: ws) i k = if w.1 = i ∧ w.2.1 = k then some w.2.2 else rd ws i k := by
  show (match Nat.beq w.1 i && Nat.beq w.2.1 k with
    | true => some w.2.2
    | false => rd ws i k) = _
  by_cases h1 : w.1 = i
  · by_cases h2 : w.2.1 = k
    · rw [if_pos ⟨h1, h2⟩]
      subst h1
      subst h2
      rw [Nat.beq_refl, Nat.beq_refl]
      rfl
    · have e2 : Nat.beq w.2.1 k = false := by
        cases hb : Nat.beq w.2.1 k
        · rfl
        · exact (h2 (Nat.eq_of_beq_eq_true hb)).elim
      rw [if_neg (fun h => h2 h.2), e2, Bool.and_false]
  · have e1 : Nat.beq w.1 i = false := by
      cases hb : Nat.beq w.1 i
      · rfl
      · exact (h1 (Nat.eq_of_beq_eq_true hb)).elim
    rw [if_neg (fun h => h1 h.1), e1, Bool.false_and]
theorem rd_none {ws : Ws} {i k : Nat} (h : ∀ w, w ∈ ws → w.1 ≠ i) : rd ws i k = none := by
  induction ws with
  | nil => rfl
  | cons w t ih =>
    rw [rd_cons, if_neg (fun q => h w (List.mem_cons_self ..) q.1)]
    exact ih fun v hv => h v (List.mem_cons_of_mem _ hv)
section X89
variable {B N n t m i k : Nat} {σb σ : Sg} {ws : Ws} {α : Type} {P : α → Prop}
theorem okB {α β : Type} {o : Option α} {f : α → Option β} {Q : α → Prop} {P : β → Prop} (h : Ok o Q) (K : ∀ x, Q x → Ok (f x) P) : Ok (o.bind f) P := by
  obtain ⟨x, e, hx⟩ := h
  rw [e]
  exact K x hx
theorem okS {x : α} (h : P x) : Ok (some x) P := ⟨x, rfl, h⟩
theorem okIf {c : Prop} [Decidable c] {a b : Option α} (h : ¬ c) (K : Ok b P) : Ok (if c then a else b) P := by
  rw [if_neg h]
  exact K
theorem okIt {c : Prop} [Decidable c] {a b : Option α} (h : c) (K : Ok a P) : Ok (if c then a else b) P := by
  rw [if_pos h]
  exact K
theorem Zs.put (h : Zs B σb N ws σ) (v : Value) (hi : i < N) : Zs B σb N ((i, k, v) :: ws) (σ.1, σ.2.1, up2 σ.2.2 (B + i) k v) := by
  obtain ⟨h1, h2, h3, h4, h5⟩ := h
  refine ⟨h1, h2, fun j l hj => ?_, fun w hw => ?_, fun q hq => ⟨(h5 q hq).1, ?_⟩⟩
  · show up2 σ.2.2 (B + i) k v (B + j) l = _
    rw [rd_cons]
    unfold up2
    by_cases e : B + j = B + i
    · have e' : j = i := by omega
      subst e'
      rw [if_pos rfl]
      unfold updV
      by_cases el : l = k
      · subst el
        rw [if_pos rfl, if_pos ⟨rfl, rfl⟩]
        rfl
      · rw [if_neg el, if_neg (fun q => el q.2.symm)]
        exact h3 _ _ hj
    · rw [if_neg e, if_neg (fun q => e (congrArg (B + ·) q.1.symm))]
      exact h3 _ _ hj
  · rcases List.mem_cons.mp hw with rfl | hw
    · exact hi
    · exact h4 w hw
  · show up2 σ.2.2 (B + i) k v q = _
    unfold up2
    rw [if_neg (by omega)]
    exact (h5 q hq).2
theorem zPut {g : Sg → Option α} {v : Value} (h : Zs B σb N ws σ) (hi : i < N) (hL : LL[i]? = some (t, m)) (hk : k < m) (K : ∀ σ', Zs B σb N ((i, k, v) :: ws) σ' → Ok (g σ') P) : Ok ((pV t σ (B + i) k v).bind g) P := by
  have e : pV t σ (B + i) k v = some (σ.1, σ.2.1, up2 σ.2.2 (B + i) k v) := by
    unfold pV
    rw [h.2.1 i hi, hL]
    exact if_pos ⟨rfl, hk⟩
  rw [e]
  exact K _ (h.put v hi)
theorem zSet {g : Sg → Option α} {v : Value} {x : Int32} (h : Zs B σb N ws σ) (hi : i < N) (hL : LL[i]? = some (t, m)) (hx : ¬ (x < 0 ∨ m ≤ x.toNatClampNeg)) (hk : x.toNatClampNeg = k) (K : ∀ σ', Zs B σb N ((i, k, v) :: ws) σ' → Ok (g σ') P) : Ok ((sV t σ (B + i) x v).bind g) P := by
  have e : sV t σ (B + i) x v = some (σ.1, σ.2.1, up2 σ.2.2 (B + i) x.toNatClampNeg v) := by
    unfold sV
    rw [h.2.1 i hi, hL]
    exact if_pos ⟨rfl, hx⟩
  rw [e, hk]
  exact K _ (h.put v hi)
theorem zNew {g : Nat × Sg → Option α} {f : Nat → Value} (N' : Nat) (h : Zs B σb N ws σ) (hN : N' = N + 1) (hL : LL[N]? = some (t, m)) (hf : f = dft t) (K : ∀ σ', Zs B σb N' ws σ' → Ok (g (B + N, σ')) P) : Ok ((nwO t m f σ).bind g) P := by
  subst hN
  obtain ⟨h1, h2, h3, h4, h5⟩ := h
  have e : nwO t m f σ = some (B + N, nw σ t m f) := by
    unfold nwO
    rw [h1]
  rw [e]
  refine K _ ⟨by show σ.1 + 1 = _; rw [h1]; omega, fun i hi => ?_, fun i k hi => ?_, fun w hw => Nat.lt_succ_of_lt (h4 w hw), fun q hq => ⟨?_, ?_⟩⟩
  · show (if B + i = σ.1 then some (t, m) else σ.2.1 (B + i)) = _
    by_cases e : i = N
    · subst e
      rw [if_pos h1.symm, hL]
    · rw [if_neg (by omega)]
      exact h2 i (by omega)
  · show (if B + i = σ.1 then f else σ.2.2 (B + i)) k = _
    by_cases e : i = N
    · subst e
      have ek : knd i = t := by
        unfold knd
        rw [hL]
      rw [if_pos h1.symm, rd_none (fun w hw => Nat.ne_of_lt (h4 w hw)), ek, hf]
      rfl
    · rw [if_neg (by omega)]
      exact h3 i k (by omega)
  · show (if q = σ.1 then some (t, m) else σ.2.1 q) = _
    rw [if_neg (by omega)]
    exact (h5 q hq).1
  · show (if q = σ.1 then f else σ.2.2 q) = _
    rw [if_neg (by omega)]
    exact (h5 q hq).2
theorem zRef {g : Nat → Option α} (j : Nat) (h : Zs B σb N ws σ) (hi : i < N) (hL : LL[i]? = some (t, m)) (hk : k < m) (hr : rd ws i k = some (.ref (B + j))) (K : Ok (g (B + j)) P) : Ok ((toR (gV t σ (B + i) k)).bind g) P := by
  have e : gV t σ (B + i) k = some (.ref (B + j)) := by
    unfold gV
    rw [h.2.1 i hi, hL, h.2.2.1 i k hi, hr]
    exact if_pos ⟨rfl, hk⟩
  rw [e]
  exact K
theorem zInt {g : Int32 → Option α} (x : Int32) (h : Zs B σb N ws σ) (hi : i < N) (hL : LL[i]? = some (t, m)) (hk : k < m) (hr : rd ws i k = some (.int x)) (K : Ok (g x) P) : Ok ((toI (gV t σ (B + i) k)).bind g) P := by
  have e : gV t σ (B + i) k = some (.int x) := by
    unfold gV
    rw [h.2.1 i hi, hL, h.2.2.1 i k hi, hr]
    exact if_pos ⟨rfl, hk⟩
  rw [e]
  exact K
theorem zLen {g : Int32 → Option α} (h : Zs B σb N ws σ) (hi : i < N) (hL : LL[i]? = some (t, m)) (K : Ok (g (Int32.ofNat m)) P) : Ok ((lenA t σ (B + i)).bind g) P := by
  have e : lenA t σ (B + i) = some (Int32.ofNat m) := by
    unfold lenA
    rw [h.2.1 i hi, hL]
    exact if_pos rfl
  rw [e]
  exact K
theorem zIs {g : Unit → Option α} (h : Zs B σb N ws σ) (hi : i < N) (hL : LL[i]? = some (t, m)) (K : Ok (g ()) P) : Ok ((isO t σ (B + i)).bind g) P := by
  have e : isO t σ (B + i) = some () := by
    unfold isO
    rw [h.2.1 i hi, hL]
    exact if_pos rfl
  rw [e]
  exact K
theorem z4 (h : Zs B σb N ws σ) (hi : i < N) (hL : LL[i]? = some (4, 2)) (hN : LL[N]? = some (11, 81)) : Ok (mX4_init n σ (B + i)) (Zs B σb (N + 1) ((i, 1, .int 1) :: (i, 0, .ref (B + N)) :: ws)) := by
  unfold mX4_init
  refine zNew (N + 1) h rfl hN rfl fun _ h => ?_
  refine zPut h (by omega) hL (by decide) fun _ h => ?_
  refine zPut h (by omega) hL (by decide) fun _ h => ?_
  exact okS h
theorem z2 (h : Zs B σb N ws σ) (hi : i < N) (hL : LL[i]? = some (2, 5)) : Ok (mX2_init n σ (B + i)) (Zs B σb N ((i, 4, .int 1000000) :: (i, 3, .int (-1000000)) :: (i, 2, .int 0) :: (i, 1, .int 0) :: (i, 0, .int (-1)) :: ws)) := by
  unfold mX2_init
  refine zPut h hi hL (by decide) fun _ h => ?_
  refine zPut h hi hL (by decide) fun _ h => ?_
  refine zPut h hi hL (by decide) fun _ h => ?_
  refine zPut h hi hL (by decide) fun _ h => ?_
  refine zPut h hi hL (by decide) fun _ h => ?_
  exact okS h
set_option maxRecDepth 100000 in
set_option maxHeartbeats 4000000 in
theorem z7 (h : Zs B σb 2 ws σ) : Ok (mX7_init n σ (B + 1)) (Zs B σb 3 ((1, 6, .int (0)) :: (1, 5, .int (0)) :: (1, 4, .int (0)) :: (1, 3, .int (0)) :: (1, 2, .int (0)) :: (1, 1, .int (0)) :: (1, 0, .ref (B + 2)) :: ws)) := by
  unfold mX7_init
  refine zNew 3 h rfl rfl rfl fun _ h => ?_
  refine zPut h (by decide) rfl (by decide) fun _ h => ?_
  refine zPut h (by decide) rfl (by decide) fun _ h => ?_
  refine zPut h (by decide) rfl (by decide) fun _ h => ?_
  refine zPut h (by decide) rfl (by decide) fun _ h => ?_
  refine zPut h (by decide) rfl (by decide) fun _ h => ?_
  refine zPut h (by decide) rfl (by decide) fun _ h => ?_
  refine zPut h (by decide) rfl (by decide) fun _ h => ?_
  exact okS h
set_option maxRecDepth 100000 in
set_option maxHeartbeats 4000000 in
theorem z1 (h : Zs B σb 9 ws σ) : Ok (mX1_init n σ (B + 8)) (Zs B σb 11 ((8, 1, .ref (B + 10)) :: (8, 0, .ref (B + 9)) :: ws)) := by
  unfold mX1_init
  refine zNew 10 h rfl rfl rfl fun _ h => ?_
  refine zPut h (by decide) rfl (by decide) fun _ h => ?_
  refine zNew 11 h rfl rfl rfl fun _ h => ?_
  refine zPut h (by decide) rfl (by decide) fun _ h => ?_
  exact okS h
set_option maxRecDepth 100000 in
set_option maxHeartbeats 4000000 in
theorem z0 (h : Zs B σb 12 ws σ) : Ok (mX0_init n σ (B + 11)) (Zs B σb 29 ((12, 6, .ref (B + 27)) :: (27, 1, .int 1) :: (27, 0, .ref (B + 28)) :: (12, 5, .ref (B + 25)) :: (25, 1, .int 1) :: (25, 0, .ref (B + 26)) :: (12, 4, .ref (B + 23)) :: (23, 1, .int 1) :: (23, 0, .ref (B + 24)) :: (12, 3, .ref (B + 21)) :: (21, 1, .int 1) :: (21, 0, .ref (B + 22)) :: (12, 2, .ref (B + 19)) :: (19, 1, .int 1) :: (19, 0, .ref (B + 20)) :: (12, 1, .ref (B + 17)) :: (17, 1, .int 1) :: (17, 0, .ref (B + 18)) :: (12, 0, .ref (B + 15)) :: (15, 1, .int 1) :: (15, 0, .ref (B + 16)) :: (11, 4, .int (0)) :: (11, 3, .int (0)) :: (11, 2, .ref (B + 14)) :: (11, 1, .ref (B + 13)) :: (11, 0, .ref (B + 12)) :: ws)) := by
  unfold mX0_init
  refine zNew 13 h rfl rfl rfl fun _ h => ?_
  refine zPut h (by decide) rfl (by decide) fun _ h => ?_
  refine zNew 14 h rfl rfl rfl fun _ h => ?_
  refine zPut h (by decide) rfl (by decide) fun _ h => ?_
  refine zNew 15 h rfl rfl rfl fun _ h => ?_
  refine zPut h (by decide) rfl (by decide) fun _ h => ?_
  refine zPut h (by decide) rfl (by decide) fun _ h => ?_
  refine zPut h (by decide) rfl (by decide) fun _ h => ?_
  refine zRef 12 h (by decide) rfl (by decide) rfl ?_
  refine zLen h (by decide) rfl ?_
  refine okIf (by decide) ?_
  refine zRef 12 h (by decide) rfl (by decide) rfl ?_
  refine zNew 16 h rfl rfl rfl fun _ h => ?_
  refine okB (z4 h (by decide) rfl rfl) fun _ h => ?_
  refine zIs h (by decide) rfl ?_
  refine zSet (k := 0) h (by decide) rfl (by decide) (by decide) fun _ h => ?_
  refine zRef 12 h (by decide) rfl (by decide) rfl ?_
  refine zLen h (by decide) rfl ?_
  refine okIf (by decide) ?_
  refine zRef 12 h (by decide) rfl (by decide) rfl ?_
  refine zNew 18 h rfl rfl rfl fun _ h => ?_
  refine okB (z4 h (by decide) rfl rfl) fun _ h => ?_
  refine zIs h (by decide) rfl ?_
  refine zSet (k := 1) h (by decide) rfl (by decide) (by decide) fun _ h => ?_
  refine zRef 12 h (by decide) rfl (by decide) rfl ?_
  refine zLen h (by decide) rfl ?_
  refine okIf (by decide) ?_
  refine zRef 12 h (by decide) rfl (by decide) rfl ?_
  refine zNew 20 h rfl rfl rfl fun _ h => ?_
  refine okB (z4 h (by decide) rfl rfl) fun _ h => ?_
  refine zIs h (by decide) rfl ?_
  refine zSet (k := 2) h (by decide) rfl (by decide) (by decide) fun _ h => ?_
  refine zRef 12 h (by decide) rfl (by decide) rfl ?_
  refine zLen h (by decide) rfl ?_
  refine okIf (by decide) ?_
  refine zRef 12 h (by decide) rfl (by decide) rfl ?_
  refine zNew 22 h rfl rfl rfl fun _ h => ?_
  refine okB (z4 h (by decide) rfl rfl) fun _ h => ?_
  refine zIs h (by decide) rfl ?_
  refine zSet (k := 3) h (by decide) rfl (by decide) (by decide) fun _ h => ?_
  refine zRef 12 h (by decide) rfl (by decide) rfl ?_
  refine zLen h (by decide) rfl ?_
  refine okIf (by decide) ?_
  refine zRef 12 h (by decide) rfl (by decide) rfl ?_
  refine zNew 24 h rfl rfl rfl fun _ h => ?_
  refine okB (z4 h (by decide) rfl rfl) fun _ h => ?_
  refine zIs h (by decide) rfl ?_
  refine zSet (k := 4) h (by decide) rfl (by decide) (by decide) fun _ h => ?_
  refine zRef 12 h (by decide) rfl (by decide) rfl ?_
  refine zLen h (by decide) rfl ?_
  refine okIf (by decide) ?_
  refine zRef 12 h (by decide) rfl (by decide) rfl ?_
  refine zNew 26 h rfl rfl rfl fun _ h => ?_
  refine okB (z4 h (by decide) rfl rfl) fun _ h => ?_
  refine zIs h (by decide) rfl ?_
  refine zSet (k := 5) h (by decide) rfl (by decide) (by decide) fun _ h => ?_
  refine zRef 12 h (by decide) rfl (by decide) rfl ?_
  refine zLen h (by decide) rfl ?_
  refine okIf (by decide) ?_
  refine zRef 12 h (by decide) rfl (by decide) rfl ?_
  refine zNew 28 h rfl rfl rfl fun _ h => ?_
  refine okB (z4 h (by decide) rfl rfl) fun _ h => ?_
  refine zIs h (by decide) rfl ?_
  refine zSet (k := 6) h (by decide) rfl (by decide) (by decide) fun _ h => ?_
  refine zRef 12 h (by decide) rfl (by decide) rfl ?_
  refine zLen h (by decide) rfl ?_
  refine okIt (by decide) ?_
  exact okS h
set_option maxRecDepth 100000 in
set_option maxHeartbeats 4000000 in
theorem z6 (h : Zs B σb 30 ws σ) : Ok (mX6_init n σ (B + 29)) (Zs B σb 43 ((30, 5, .ref (B + 41)) :: (41, 1, .int 1) :: (41, 0, .ref (B + 42)) :: (30, 4, .ref (B + 39)) :: (39, 1, .int 1) :: (39, 0, .ref (B + 40)) :: (30, 3, .ref (B + 37)) :: (37, 1, .int 1) :: (37, 0, .ref (B + 38)) :: (30, 2, .ref (B + 35)) :: (35, 1, .int 1) :: (35, 0, .ref (B + 36)) :: (30, 1, .ref (B + 33)) :: (33, 1, .int 1) :: (33, 0, .ref (B + 34)) :: (30, 0, .ref (B + 31)) :: (31, 1, .int 1) :: (31, 0, .ref (B + 32)) :: (29, 4, .int (-1)) :: (29, 3, .int (0)) :: (29, 2, .int (-1)) :: (29, 1, .int (0)) :: (29, 0, .ref (B + 30)) :: ws)) := by
  unfold mX6_init
  refine zNew 31 h rfl rfl rfl fun _ h => ?_
  refine zPut h (by decide) rfl (by decide) fun _ h => ?_
  refine zPut h (by decide) rfl (by decide) fun _ h => ?_
  refine zPut h (by decide) rfl (by decide) fun _ h => ?_
  refine zPut h (by decide) rfl (by decide) fun _ h => ?_
  refine zPut h (by decide) rfl (by decide) fun _ h => ?_
  refine zRef 30 h (by decide) rfl (by decide) rfl ?_
  refine zLen h (by decide) rfl ?_
  refine okIf (by decide) ?_
  refine zRef 30 h (by decide) rfl (by decide) rfl ?_
  refine zNew 32 h rfl rfl rfl fun _ h => ?_
  refine okB (z4 h (by decide) rfl rfl) fun _ h => ?_
  refine zIs h (by decide) rfl ?_
  refine zSet (k := 0) h (by decide) rfl (by decide) (by decide) fun _ h => ?_
  refine zRef 30 h (by decide) rfl (by decide) rfl ?_
  refine zLen h (by decide) rfl ?_
  refine okIf (by decide) ?_
  refine zRef 30 h (by decide) rfl (by decide) rfl ?_
  refine zNew 34 h rfl rfl rfl fun _ h => ?_
  refine okB (z4 h (by decide) rfl rfl) fun _ h => ?_
  refine zIs h (by decide) rfl ?_
  refine zSet (k := 1) h (by decide) rfl (by decide) (by decide) fun _ h => ?_
  refine zRef 30 h (by decide) rfl (by decide) rfl ?_
  refine zLen h (by decide) rfl ?_
  refine okIf (by decide) ?_
  refine zRef 30 h (by decide) rfl (by decide) rfl ?_
  refine zNew 36 h rfl rfl rfl fun _ h => ?_
  refine okB (z4 h (by decide) rfl rfl) fun _ h => ?_
  refine zIs h (by decide) rfl ?_
  refine zSet (k := 2) h (by decide) rfl (by decide) (by decide) fun _ h => ?_
  refine zRef 30 h (by decide) rfl (by decide) rfl ?_
  refine zLen h (by decide) rfl ?_
  refine okIf (by decide) ?_
  refine zRef 30 h (by decide) rfl (by decide) rfl ?_
  refine zNew 38 h rfl rfl rfl fun _ h => ?_
  refine okB (z4 h (by decide) rfl rfl) fun _ h => ?_
  refine zIs h (by decide) rfl ?_
  refine zSet (k := 3) h (by decide) rfl (by decide) (by decide) fun _ h => ?_
  refine zRef 30 h (by decide) rfl (by decide) rfl ?_
  refine zLen h (by decide) rfl ?_
  refine okIf (by decide) ?_
  refine zRef 30 h (by decide) rfl (by decide) rfl ?_
  refine zNew 40 h rfl rfl rfl fun _ h => ?_
  refine okB (z4 h (by decide) rfl rfl) fun _ h => ?_
  refine zIs h (by decide) rfl ?_
  refine zSet (k := 4) h (by decide) rfl (by decide) (by decide) fun _ h => ?_
  refine zRef 30 h (by decide) rfl (by decide) rfl ?_
  refine zLen h (by decide) rfl ?_
  refine okIf (by decide) ?_
  refine zRef 30 h (by decide) rfl (by decide) rfl ?_
  refine zNew 42 h rfl rfl rfl fun _ h => ?_
  refine okB (z4 h (by decide) rfl rfl) fun _ h => ?_
  refine zIs h (by decide) rfl ?_
  refine zSet (k := 5) h (by decide) rfl (by decide) (by decide) fun _ h => ?_
  refine zRef 30 h (by decide) rfl (by decide) rfl ?_
  refine zLen h (by decide) rfl ?_
  refine okIt (by decide) ?_
  exact okS h
set_option maxRecDepth 100000 in
set_option maxHeartbeats 4000000 in
theorem z3 (h : Zs B σb 44 ws σ) : Ok (mX3_init n σ (B + 43)) (Zs B σb 44 ((43, 3, .int (-1)) :: (43, 2, .int (-1)) :: (43, 1, .int (-1)) :: (43, 0, .int (-1)) :: ws)) := by
  unfold mX3_init
  refine zPut h (by decide) rfl (by decide) fun _ h => ?_
  refine zPut h (by decide) rfl (by decide) fun _ h => ?_
  refine zPut h (by decide) rfl (by decide) fun _ h => ?_
  refine zPut h (by decide) rfl (by decide) fun _ h => ?_
  exact okS h
set_option maxRecDepth 100000 in
set_option maxHeartbeats 4000000 in
theorem z5 {x1 x2 : Int32} (h : Zs B σb 47 ws σ) : Ok (mX5_init n σ (B + 46) (jmax (2) (jmin (16) x1)) (jmax (2) (jmin (16) x2))) (Zs B σb 50 ((46, 1, .int (jmax (2) (jmin (16) x2))) :: (46, 0, .int (jmax (2) (jmin (16) x1))) :: (46, 5, .ref (B + 49)) :: (46, 4, .ref (B + 48)) :: (46, 3, .int (0)) :: (46, 2, .ref (B + 47)) :: ws)) := by
  unfold mX5_init
  refine zNew 48 h rfl rfl rfl fun _ h => ?_
  refine zPut h (by decide) rfl (by decide) fun _ h => ?_
  refine zPut h (by decide) rfl (by decide) fun _ h => ?_
  refine zNew 49 h rfl rfl rfl fun _ h => ?_
  refine zPut h (by decide) rfl (by decide) fun _ h => ?_
  refine zNew 50 h rfl rfl rfl fun _ h => ?_
  refine zPut h (by decide) rfl (by decide) fun _ h => ?_
  refine zPut h (by decide) rfl (by decide) fun _ h => ?_
  refine zPut h (by decide) rfl (by decide) fun _ h => ?_
  exact okS h
set_option maxRecDepth 100000 in
set_option maxHeartbeats 4000000 in
theorem z9 {x1 x2 x3 : Int32} (h : Zs B σb 1 ws σ) : Ok (mX9_init n σ (B + 0) x1 x2 x3) (Zs B σb 70 ((4, 19, .ref (B + 69)) :: (69, 4, .int 1000000) :: (69, 3, .int (-1000000)) :: (69, 2, .int 0) :: (69, 1, .int 0) :: (69, 0, .int (-1)) :: (4, 18, .ref (B + 68)) :: (68, 4, .int 1000000) :: (68, 3, .int (-1000000)) :: (68, 2, .int 0) :: (68, 1, .int 0) :: (68, 0, .int (-1)) :: (4, 17, .ref (B + 67)) :: (67, 4, .int 1000000) :: (67, 3, .int (-1000000)) :: (67, 2, .int 0) :: (67, 1, .int 0) :: (67, 0, .int (-1)) :: (4, 16, .ref (B + 66)) :: (66, 4, .int 1000000) :: (66, 3, .int (-1000000)) :: (66, 2, .int 0) :: (66, 1, .int 0) :: (66, 0, .int (-1)) :: (4, 15, .ref (B + 65)) :: (65, 4, .int 1000000) :: (65, 3, .int (-1000000)) :: (65, 2, .int 0) :: (65, 1, .int 0) :: (65, 0, .int (-1)) :: (4, 14, .ref (B + 64)) :: (64, 4, .int 1000000) :: (64, 3, .int (-1000000)) :: (64, 2, .int 0) :: (64, 1, .int 0) :: (64, 0, .int (-1)) :: (4, 13, .ref (B + 63)) :: (63, 4, .int 1000000) :: (63, 3, .int (-1000000)) :: (63, 2, .int 0) :: (63, 1, .int 0) :: (63, 0, .int (-1)) :: (4, 12, .ref (B + 62)) :: (62, 4, .int 1000000) :: (62, 3, .int (-1000000)) :: (62, 2, .int 0) :: (62, 1, .int 0) :: (62, 0, .int (-1)) :: (4, 11, .ref (B + 61)) :: (61, 4, .int 1000000) :: (61, 3, .int (-1000000)) :: (61, 2, .int 0) :: (61, 1, .int 0) :: (61, 0, .int (-1)) :: (4, 10, .ref (B + 60)) :: (60, 4, .int 1000000) :: (60, 3, .int (-1000000)) :: (60, 2, .int 0) :: (60, 1, .int 0) :: (60, 0, .int (-1)) :: (4, 9, .ref (B + 59)) :: (59, 4, .int 1000000) :: (59, 3, .int (-1000000)) :: (59, 2, .int 0) :: (59, 1, .int 0) :: (59, 0, .int (-1)) :: (4, 8, .ref (B + 58)) :: (58, 4, .int 1000000) :: (58, 3, .int (-1000000)) :: (58, 2, .int 0) :: (58, 1, .int 0) :: (58, 0, .int (-1)) :: (4, 7, .ref (B + 57)) :: (57, 4, .int 1000000) :: (57, 3, .int (-1000000)) :: (57, 2, .int 0) :: (57, 1, .int 0) :: (57, 0, .int (-1)) :: (4, 6, .ref (B + 56)) :: (56, 4, .int 1000000) :: (56, 3, .int (-1000000)) :: (56, 2, .int 0) :: (56, 1, .int 0) :: (56, 0, .int (-1)) :: (4, 5, .ref (B + 55)) :: (55, 4, .int 1000000) :: (55, 3, .int (-1000000)) :: (55, 2, .int 0) :: (55, 1, .int 0) :: (55, 0, .int (-1)) :: (4, 4, .ref (B + 54)) :: (54, 4, .int 1000000) :: (54, 3, .int (-1000000)) :: (54, 2, .int 0) :: (54, 1, .int 0) :: (54, 0, .int (-1)) :: (4, 3, .ref (B + 53)) :: (53, 4, .int 1000000) :: (53, 3, .int (-1000000)) :: (53, 2, .int 0) :: (53, 1, .int 0) :: (53, 0, .int (-1)) :: (4, 2, .ref (B + 52)) :: (52, 4, .int 1000000) :: (52, 3, .int (-1000000)) :: (52, 2, .int 0) :: (52, 1, .int 0) :: (52, 0, .int (-1)) :: (4, 1, .ref (B + 51)) :: (51, 4, .int 1000000) :: (51, 3, .int (-1000000)) :: (51, 2, .int 0) :: (51, 1, .int 0) :: (51, 0, .int (-1)) :: (4, 0, .ref (B + 50)) :: (50, 4, .int 1000000) :: (50, 3, .int (-1000000)) :: (50, 2, .int 0) :: (50, 1, .int 0) :: (50, 0, .int (-1)) :: (0, 4, .ref (B + 46)) :: (46, 1, .int (jmax (2) (jmin (16) x2))) :: (46, 0, .int (jmax (2) (jmin (16) x1))) :: (46, 5, .ref (B + 49)) :: (46, 4, .ref (B + 48)) :: (46, 3, .int (0)) :: (46, 2, .ref (B + 47)) :: (0, 2, .int (jmax (10) (jmin (2000) x3))) :: (0, 1, .int (jmax (2) (jmin (16) x2))) :: (0, 0, .int (jmax (2) (jmin (16) x1))) :: (0, 17, .ref (B + 45)) :: (0, 16, .ref (B + 44)) :: (0, 15, .ref (B + 43)) :: (43, 3, .int (-1)) :: (43, 2, .int (-1)) :: (43, 1, .int (-1)) :: (43, 0, .int (-1)) :: (0, 14, .ref (B + 29)) :: (30, 5, .ref (B + 41)) :: (41, 1, .int 1) :: (41, 0, .ref (B + 42)) :: (30, 4, .ref (B + 39)) :: (39, 1, .int 1) :: (39, 0, .ref (B + 40)) :: (30, 3, .ref (B + 37)) :: (37, 1, .int 1) :: (37, 0, .ref (B + 38)) :: (30, 2, .ref (B + 35)) :: (35, 1, .int 1) :: (35, 0, .ref (B + 36)) :: (30, 1, .ref (B + 33)) :: (33, 1, .int 1) :: (33, 0, .ref (B + 34)) :: (30, 0, .ref (B + 31)) :: (31, 1, .int 1) :: (31, 0, .ref (B + 32)) :: (29, 4, .int (-1)) :: (29, 3, .int (0)) :: (29, 2, .int (-1)) :: (29, 1, .int (0)) :: (29, 0, .ref (B + 30)) :: (0, 13, .ref (B + 11)) :: (12, 6, .ref (B + 27)) :: (27, 1, .int 1) :: (27, 0, .ref (B + 28)) :: (12, 5, .ref (B + 25)) :: (25, 1, .int 1) :: (25, 0, .ref (B + 26)) :: (12, 4, .ref (B + 23)) :: (23, 1, .int 1) :: (23, 0, .ref (B + 24)) :: (12, 3, .ref (B + 21)) :: (21, 1, .int 1) :: (21, 0, .ref (B + 22)) :: (12, 2, .ref (B + 19)) :: (19, 1, .int 1) :: (19, 0, .ref (B + 20)) :: (12, 1, .ref (B + 17)) :: (17, 1, .int 1) :: (17, 0, .ref (B + 18)) :: (12, 0, .ref (B + 15)) :: (15, 1, .int 1) :: (15, 0, .ref (B + 16)) :: (11, 4, .int (0)) :: (11, 3, .int (0)) :: (11, 2, .ref (B + 14)) :: (11, 1, .ref (B + 13)) :: (11, 0, .ref (B + 12)) :: (0, 12, .ref (B + 8)) :: (8, 1, .ref (B + 10)) :: (8, 0, .ref (B + 9)) :: (0, 11, .ref (B + 6)) :: (6, 1, .int 1) :: (6, 0, .ref (B + 7)) :: (0, 10, .int (0)) :: (0, 9, .ref (B + 5)) :: (0, 8, .int (0)) :: (0, 7, .ref (B + 4)) :: (0, 6, .int (0)) :: (0, 5, .ref (B + 3)) :: (0, 3, .ref (B + 1)) :: (1, 6, .int (0)) :: (1, 5, .int (0)) :: (1, 4, .int (0)) :: (1, 3, .int (0)) :: (1, 2, .int (0)) :: (1, 1, .int (0)) :: (1, 0, .ref (B + 2)) :: ws)) := by
  unfold mX9_init
  refine zNew 2 h rfl rfl rfl fun _ h => ?_
  refine okB (z7 h) fun _ h => ?_
  refine zPut h (by decide) rfl (by decide) fun _ h => ?_
  refine zNew 4 h rfl rfl rfl fun _ h => ?_
  refine zPut h (by decide) rfl (by decide) fun _ h => ?_
  refine zPut h (by decide) rfl (by decide) fun _ h => ?_
  refine zNew 5 h rfl rfl rfl fun _ h => ?_
  refine zPut h (by decide) rfl (by decide) fun _ h => ?_
  refine zPut h (by decide) rfl (by decide) fun _ h => ?_
  refine zNew 6 h rfl rfl rfl fun _ h => ?_
  refine zPut h (by decide) rfl (by decide) fun _ h => ?_
  refine zPut h (by decide) rfl (by decide) fun _ h => ?_
  refine zNew 7 h rfl rfl rfl fun _ h => ?_
  refine okB (z4 h (by decide) rfl rfl) fun _ h => ?_
  refine zPut h (by decide) rfl (by decide) fun _ h => ?_
  refine zNew 9 h rfl rfl rfl fun _ h => ?_
  refine okB (z1 h) fun _ h => ?_
  refine zPut h (by decide) rfl (by decide) fun _ h => ?_
  refine zNew 12 h rfl rfl rfl fun _ h => ?_
  refine okB (z0 h) fun _ h => ?_
  refine zPut h (by decide) rfl (by decide) fun _ h => ?_
  refine zNew 30 h rfl rfl rfl fun _ h => ?_
  refine okB (z6 h) fun _ h => ?_
  refine zPut h (by decide) rfl (by decide) fun _ h => ?_
  refine zNew 44 h rfl rfl rfl fun _ h => ?_
  refine okB (z3 h) fun _ h => ?_
  refine zPut h (by decide) rfl (by decide) fun _ h => ?_
  refine zNew 45 h rfl rfl rfl fun _ h => ?_
  refine zPut h (by decide) rfl (by decide) fun _ h => ?_
  refine zNew 46 h rfl rfl rfl fun _ h => ?_
  refine zPut h (by decide) rfl (by decide) fun _ h => ?_
  refine zPut h (by decide) rfl (by decide) fun _ h => ?_
  refine zPut h (by decide) rfl (by decide) fun _ h => ?_
  refine zPut h (by decide) rfl (by decide) fun _ h => ?_
  refine zNew 47 h rfl rfl rfl fun _ h => ?_
  refine zInt (jmax (2) (jmin (16) x1)) h (by decide) rfl (by decide) rfl ?_
  refine zInt (jmax (2) (jmin (16) x2)) h (by decide) rfl (by decide) rfl ?_
  refine okB (z5 h) fun _ h => ?_
  refine zPut h (by decide) rfl (by decide) fun _ h => ?_
  refine zRef 4 h (by decide) rfl (by decide) rfl ?_
  refine zLen h (by decide) rfl ?_
  refine okIf (by decide) ?_
  refine zRef 4 h (by decide) rfl (by decide) rfl ?_
  refine zNew 51 h rfl rfl rfl fun _ h => ?_
  refine okB (z2 h (by decide) rfl) fun _ h => ?_
  refine zIs h (by decide) rfl ?_
  refine zSet (k := 0) h (by decide) rfl (by decide) (by decide) fun _ h => ?_
  refine zRef 4 h (by decide) rfl (by decide) rfl ?_
  refine zLen h (by decide) rfl ?_
  refine okIf (by decide) ?_
  refine zRef 4 h (by decide) rfl (by decide) rfl ?_
  refine zNew 52 h rfl rfl rfl fun _ h => ?_
  refine okB (z2 h (by decide) rfl) fun _ h => ?_
  refine zIs h (by decide) rfl ?_
  refine zSet (k := 1) h (by decide) rfl (by decide) (by decide) fun _ h => ?_
  refine zRef 4 h (by decide) rfl (by decide) rfl ?_
  refine zLen h (by decide) rfl ?_
  refine okIf (by decide) ?_
  refine zRef 4 h (by decide) rfl (by decide) rfl ?_
  refine zNew 53 h rfl rfl rfl fun _ h => ?_
  refine okB (z2 h (by decide) rfl) fun _ h => ?_
  refine zIs h (by decide) rfl ?_
  refine zSet (k := 2) h (by decide) rfl (by decide) (by decide) fun _ h => ?_
  refine zRef 4 h (by decide) rfl (by decide) rfl ?_
  refine zLen h (by decide) rfl ?_
  refine okIf (by decide) ?_
  refine zRef 4 h (by decide) rfl (by decide) rfl ?_
  refine zNew 54 h rfl rfl rfl fun _ h => ?_
  refine okB (z2 h (by decide) rfl) fun _ h => ?_
  refine zIs h (by decide) rfl ?_
  refine zSet (k := 3) h (by decide) rfl (by decide) (by decide) fun _ h => ?_
  refine zRef 4 h (by decide) rfl (by decide) rfl ?_
  refine zLen h (by decide) rfl ?_
  refine okIf (by decide) ?_
  refine zRef 4 h (by decide) rfl (by decide) rfl ?_
  refine zNew 55 h rfl rfl rfl fun _ h => ?_
  refine okB (z2 h (by decide) rfl) fun _ h => ?_
  refine zIs h (by decide) rfl ?_
  refine zSet (k := 4) h (by decide) rfl (by decide) (by decide) fun _ h => ?_
  refine zRef 4 h (by decide) rfl (by decide) rfl ?_
  refine zLen h (by decide) rfl ?_
  refine okIf (by decide) ?_
  refine zRef 4 h (by decide) rfl (by decide) rfl ?_
  refine zNew 56 h rfl rfl rfl fun _ h => ?_
  refine okB (z2 h (by decide) rfl) fun _ h => ?_
  refine zIs h (by decide) rfl ?_
  refine zSet (k := 5) h (by decide) rfl (by decide) (by decide) fun _ h => ?_
  refine zRef 4 h (by decide) rfl (by decide) rfl ?_
  refine zLen h (by decide) rfl ?_
  refine okIf (by decide) ?_
  refine zRef 4 h (by decide) rfl (by decide) rfl ?_
  refine zNew 57 h rfl rfl rfl fun _ h => ?_
  refine okB (z2 h (by decide) rfl) fun _ h => ?_
  refine zIs h (by decide) rfl ?_
  refine zSet (k := 6) h (by decide) rfl (by decide) (by decide) fun _ h => ?_
  refine zRef 4 h (by decide) rfl (by decide) rfl ?_
  refine zLen h (by decide) rfl ?_
  refine okIf (by decide) ?_
  refine zRef 4 h (by decide) rfl (by decide) rfl ?_
  refine zNew 58 h rfl rfl rfl fun _ h => ?_
  refine okB (z2 h (by decide) rfl) fun _ h => ?_
  refine zIs h (by decide) rfl ?_
  refine zSet (k := 7) h (by decide) rfl (by decide) (by decide) fun _ h => ?_
  refine zRef 4 h (by decide) rfl (by decide) rfl ?_
  refine zLen h (by decide) rfl ?_
  refine okIf (by decide) ?_
  refine zRef 4 h (by decide) rfl (by decide) rfl ?_
  refine zNew 59 h rfl rfl rfl fun _ h => ?_
  refine okB (z2 h (by decide) rfl) fun _ h => ?_
  refine zIs h (by decide) rfl ?_
  refine zSet (k := 8) h (by decide) rfl (by decide) (by decide) fun _ h => ?_
  refine zRef 4 h (by decide) rfl (by decide) rfl ?_
  refine zLen h (by decide) rfl ?_
  refine okIf (by decide) ?_
  refine zRef 4 h (by decide) rfl (by decide) rfl ?_
  refine zNew 60 h rfl rfl rfl fun _ h => ?_
  refine okB (z2 h (by decide) rfl) fun _ h => ?_
  refine zIs h (by decide) rfl ?_
  refine zSet (k := 9) h (by decide) rfl (by decide) (by decide) fun _ h => ?_
  refine zRef 4 h (by decide) rfl (by decide) rfl ?_
  refine zLen h (by decide) rfl ?_
  refine okIf (by decide) ?_
  refine zRef 4 h (by decide) rfl (by decide) rfl ?_
  refine zNew 61 h rfl rfl rfl fun _ h => ?_
  refine okB (z2 h (by decide) rfl) fun _ h => ?_
  refine zIs h (by decide) rfl ?_
  refine zSet (k := 10) h (by decide) rfl (by decide) (by decide) fun _ h => ?_
  refine zRef 4 h (by decide) rfl (by decide) rfl ?_
  refine zLen h (by decide) rfl ?_
  refine okIf (by decide) ?_
  refine zRef 4 h (by decide) rfl (by decide) rfl ?_
  refine zNew 62 h rfl rfl rfl fun _ h => ?_
  refine okB (z2 h (by decide) rfl) fun _ h => ?_
  refine zIs h (by decide) rfl ?_
  refine zSet (k := 11) h (by decide) rfl (by decide) (by decide) fun _ h => ?_
  refine zRef 4 h (by decide) rfl (by decide) rfl ?_
  refine zLen h (by decide) rfl ?_
  refine okIf (by decide) ?_
  refine zRef 4 h (by decide) rfl (by decide) rfl ?_
  refine zNew 63 h rfl rfl rfl fun _ h => ?_
  refine okB (z2 h (by decide) rfl) fun _ h => ?_
  refine zIs h (by decide) rfl ?_
  refine zSet (k := 12) h (by decide) rfl (by decide) (by decide) fun _ h => ?_
  refine zRef 4 h (by decide) rfl (by decide) rfl ?_
  refine zLen h (by decide) rfl ?_
  refine okIf (by decide) ?_
  refine zRef 4 h (by decide) rfl (by decide) rfl ?_
  refine zNew 64 h rfl rfl rfl fun _ h => ?_
  refine okB (z2 h (by decide) rfl) fun _ h => ?_
  refine zIs h (by decide) rfl ?_
  refine zSet (k := 13) h (by decide) rfl (by decide) (by decide) fun _ h => ?_
  refine zRef 4 h (by decide) rfl (by decide) rfl ?_
  refine zLen h (by decide) rfl ?_
  refine okIf (by decide) ?_
  refine zRef 4 h (by decide) rfl (by decide) rfl ?_
  refine zNew 65 h rfl rfl rfl fun _ h => ?_
  refine okB (z2 h (by decide) rfl) fun _ h => ?_
  refine zIs h (by decide) rfl ?_
  refine zSet (k := 14) h (by decide) rfl (by decide) (by decide) fun _ h => ?_
  refine zRef 4 h (by decide) rfl (by decide) rfl ?_
  refine zLen h (by decide) rfl ?_
  refine okIf (by decide) ?_
  refine zRef 4 h (by decide) rfl (by decide) rfl ?_
  refine zNew 66 h rfl rfl rfl fun _ h => ?_
  refine okB (z2 h (by decide) rfl) fun _ h => ?_
  refine zIs h (by decide) rfl ?_
  refine zSet (k := 15) h (by decide) rfl (by decide) (by decide) fun _ h => ?_
  refine zRef 4 h (by decide) rfl (by decide) rfl ?_
  refine zLen h (by decide) rfl ?_
  refine okIf (by decide) ?_
  refine zRef 4 h (by decide) rfl (by decide) rfl ?_
  refine zNew 67 h rfl rfl rfl fun _ h => ?_
  refine okB (z2 h (by decide) rfl) fun _ h => ?_
  refine zIs h (by decide) rfl ?_
  refine zSet (k := 16) h (by decide) rfl (by decide) (by decide) fun _ h => ?_
  refine zRef 4 h (by decide) rfl (by decide) rfl ?_
  refine zLen h (by decide) rfl ?_
  refine okIf (by decide) ?_
  refine zRef 4 h (by decide) rfl (by decide) rfl ?_
  refine zNew 68 h rfl rfl rfl fun _ h => ?_
  refine okB (z2 h (by decide) rfl) fun _ h => ?_
  refine zIs h (by decide) rfl ?_
  refine zSet (k := 17) h (by decide) rfl (by decide) (by decide) fun _ h => ?_
  refine zRef 4 h (by decide) rfl (by decide) rfl ?_
  refine zLen h (by decide) rfl ?_
  refine okIf (by decide) ?_
  refine zRef 4 h (by decide) rfl (by decide) rfl ?_
  refine zNew 69 h rfl rfl rfl fun _ h => ?_
  refine okB (z2 h (by decide) rfl) fun _ h => ?_
  refine zIs h (by decide) rfl ?_
  refine zSet (k := 18) h (by decide) rfl (by decide) (by decide) fun _ h => ?_
  refine zRef 4 h (by decide) rfl (by decide) rfl ?_
  refine zLen h (by decide) rfl ?_
  refine okIf (by decide) ?_
  refine zRef 4 h (by decide) rfl (by decide) rfl ?_
  refine zNew 70 h rfl rfl rfl fun _ h => ?_
  refine okB (z2 h (by decide) rfl) fun _ h => ?_
  refine zIs h (by decide) rfl ?_
  refine zSet (k := 19) h (by decide) rfl (by decide) (by decide) fun _ h => ?_
  refine zRef 4 h (by decide) rfl (by decide) rfl ?_
  refine zLen h (by decide) rfl ?_
  refine okIt (by decide) ?_
  exact okS h
set_option maxRecDepth 100000 in
set_option maxHeartbeats 4000000 in
theorem z10 {x1 x2 x3 : Int32} (h : Zs B σb 71 ws σ) : Ok (mX10_init n σ (B + 70) x1 x2 x3) (Zs B σb 89 ((70, 3, .int (jmax 10 (jmin 2000 x3))) :: (70, 2, .int (jmax 2 (jmin 16 x2))) :: (70, 1, .int (jmax 2 (jmin 16 x1))) :: (70, 37, .ref (B + 88)) :: (70, 35, .ref (B + 87)) :: (70, 33, .ref (B + 86)) :: (70, 28, .ref (B + 85)) :: (70, 26, .ref (B + 84)) :: (70, 25, .ref (B + 83)) :: (70, 24, .ref (B + 82)) :: (70, 23, .ref (B + 81)) :: (70, 22, .ref (B + 80)) :: (70, 21, .ref (B + 79)) :: (70, 19, .ref (B + 78)) :: (70, 18, .ref (B + 77)) :: (70, 17, .ref (B + 76)) :: (70, 16, .ref (B + 75)) :: (70, 15, .ref (B + 74)) :: (70, 10, .ref (B + 73)) :: (70, 9, .ref (B + 72)) :: (70, 4, .ref (B + 71)) :: ws)) := by
  unfold mX10_init
  refine zNew 72 h rfl rfl rfl fun _ h => ?_
  refine zPut h (by decide) rfl (by decide) fun _ h => ?_
  refine zNew 73 h rfl rfl rfl fun _ h => ?_
  refine zPut h (by decide) rfl (by decide) fun _ h => ?_
  refine zNew 74 h rfl rfl rfl fun _ h => ?_
  refine zPut h (by decide) rfl (by decide) fun _ h => ?_
  refine zNew 75 h rfl rfl rfl fun _ h => ?_
  refine zPut h (by decide) rfl (by decide) fun _ h => ?_
  refine zNew 76 h rfl rfl rfl fun _ h => ?_
  refine zPut h (by decide) rfl (by decide) fun _ h => ?_
  refine zNew 77 h rfl rfl rfl fun _ h => ?_
  refine zPut h (by decide) rfl (by decide) fun _ h => ?_
  refine zNew 78 h rfl rfl rfl fun _ h => ?_
  refine zPut h (by decide) rfl (by decide) fun _ h => ?_
  refine zNew 79 h rfl rfl rfl fun _ h => ?_
  refine zPut h (by decide) rfl (by decide) fun _ h => ?_
  refine zNew 80 h rfl rfl rfl fun _ h => ?_
  refine zPut h (by decide) rfl (by decide) fun _ h => ?_
  refine zNew 81 h rfl rfl rfl fun _ h => ?_
  refine zPut h (by decide) rfl (by decide) fun _ h => ?_
  refine zNew 82 h rfl rfl rfl fun _ h => ?_
  refine zPut h (by decide) rfl (by decide) fun _ h => ?_
  refine zNew 83 h rfl rfl rfl fun _ h => ?_
  refine zPut h (by decide) rfl (by decide) fun _ h => ?_
  refine zNew 84 h rfl rfl rfl fun _ h => ?_
  refine zPut h (by decide) rfl (by decide) fun _ h => ?_
  refine zNew 85 h rfl rfl rfl fun _ h => ?_
  refine zPut h (by decide) rfl (by decide) fun _ h => ?_
  refine zNew 86 h rfl rfl rfl fun _ h => ?_
  refine zPut h (by decide) rfl (by decide) fun _ h => ?_
  refine zNew 87 h rfl rfl rfl fun _ h => ?_
  refine zPut h (by decide) rfl (by decide) fun _ h => ?_
  refine zNew 88 h rfl rfl rfl fun _ h => ?_
  refine zPut h (by decide) rfl (by decide) fun _ h => ?_
  refine zNew 89 h rfl rfl rfl fun _ h => ?_
  refine zPut h (by decide) rfl (by decide) fun _ h => ?_
  refine okB (okS (P := fun q => q = (jmax 2 (jmin 16 x1), _)) rfl) fun q hq => ?_
  subst hq
  refine zPut h (by decide) rfl (by decide) fun _ h => ?_
  refine okB (okS (P := fun q => q = (jmax 2 (jmin 16 x2), _)) rfl) fun q hq => ?_
  subst hq
  refine zPut h (by decide) rfl (by decide) fun _ h => ?_
  refine okB (okS (P := fun q => q = (jmax 10 (jmin 2000 x3), _)) rfl) fun q hq => ?_
  subst hq
  refine zPut h (by decide) rfl (by decide) fun _ h => ?_
  exact okS h
end X89
