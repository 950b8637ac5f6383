/-! ===== answers of my functions, loops ===== -/
def Ok {α : Type} (o : Option α) (P : α → Prop) : Prop := ∃ r, o = some r ∧ P r
theorem Ok.some {α : Type} {x : α} {P : α → Prop} (h : Ok (some x) P) : P x := by
  obtain ⟨r, h1, h2⟩ := h
  cases h1
  exact h2
theorem Ok.no {α : Type} {P : α → Prop} (h : Ok (none : Option α) P) : False := by
  obtain ⟨r, h1, h2⟩ := h
  cases h1
theorem Ok.bind {α β : Type} {o : Option α} {f : α → Option β} {P : β → Prop} (h : Ok (o.bind f) P) : ∃ v, o = Option.some v ∧ Ok (f v) P := by
  cases o with
  | none => exact (Ok.no h).elim
  | some v => exact ⟨v, rfl, h⟩
theorem Ok.bindK {α β : Type} {o : Option α} {f : α → Option β} {P : β → Prop} (h : Ok (o.bind f) P) : Ok o (fun v => Ok (f v) P) := by
  obtain ⟨v, h1, h2⟩ := Ok.bind h
  exact ⟨v, h1, h2⟩
theorem Ok.ite {α : Type} {c : Prop} [Decidable c] {a b : Option α} {P : α → Prop} (h : Ok (if c then a else b) P) : (c → Ok a P) ∧ (¬ c → Ok b P) :=
  ⟨fun hc => by rw [if_pos hc] at h; exact h, fun hc => by rw [if_neg hc] at h; exact h⟩
theorem Ok.guard {α : Type} {c : Prop} [Decidable c] {a : Option α} {P : α → Prop} (h : Ok (if c then a else none) P) : c ∧ Ok a P := by
  by_cases hc : c
  · exact ⟨hc, (Ok.ite h).1 hc⟩
  · exact (Ok.no ((Ok.ite h).2 hc)).elim
def nm {α β : Type} (x : α) (f : α → β) : β := f x
theorem Ok.nm {α β : Type} {x : α} {f : α → Option β} {P : β → Prop} (h : Ok (nm x f) P) : ∃ v, v = x ∧ Ok (f v) P := ⟨x, rfl, h⟩
theorem BW.nm {G : Cx} {mt : Mt} {E : Ev} {cells slots pc : Nat} {lv : Lv} {st : List Value} {σ : Sg} {v x : Int32} (hv : v = x) (k : BW G mt E cells slots pc lv (.int v :: st) σ) : BW G mt E cells slots pc lv (.int x :: st) σ := hv ▸ k
def isO (t : Nat) (σ : Sg) (a : Nat) : Option Unit := match σ.2.1 a with
  | some q => if q.1 = t then some () else none
  | none => none
theorem isO_spec {t : Nat} {σ : Sg} {a : Nat} {u : Unit} (h : isO t σ a = some u) : ∃ n0, σ.2.1 a = some (t, n0) := by
  unfold isO at h
  split at h
  · rename_i q hq
    split at h
    · rename_i hc
      obtain ⟨t', n'⟩ := q
      obtain rfl := hc
      exact ⟨n', hq⟩
    · cases h
  · cases h
theorem Ok.isO {β : Type} {t : Nat} {σ : Sg} {a : Nat} {f : Unit → Option β} {P : β → Prop} (h : Ok ((isO t σ a).bind f) P) : ∃ n0, σ.2.1 a = Option.some (t, n0) := by
  obtain ⟨u, h1, -⟩ := Ok.bind h
  exact isO_spec h1
def loopM {C E : Type} (body : C → Option (C ⊕ E)) : Nat → C → Option E
  | 0, _ => none
  | f + 1, c => match body c with
    | some (.inl c') => loopM body f c'
    | some (.inr e) => some e
    | none => none
def loopP {C E : Type} (body : C → Option (C ⊕ E)) (f : Nat) (K : E → Prop) : C ⊕ E → Prop := fun q => match q with
  | .inl c => Ok (loopM body f c) K
  | .inr e => K e
theorem loopM_ok {C E : Type} {body : C → Option (C ⊕ E)} {f : Nat} {c : C} {K : E → Prop} (h : Ok (loopM body (f + 1) c) K) : Ok (body c) (loopP body f K) := by
  unfold loopM at h
  cases hb : body c with
  | none => rw [hb] at h; exact (Ok.no h).elim
  | some q =>
    rw [hb] at h
    cases q with
    | inl c' => exact ⟨_, rfl, h⟩
    | inr e =>
      have h2 : K e := Ok.some h
      exact ⟨_, rfl, h2⟩
theorem Int32_nek {x c : Int32} {k : Int} (h : ¬ x = c) (hk : c.toInt = k) : x.toInt ≠ k := fun q => h (Int32.toInt_inj.mp (by rw [hk]; exact q))
theorem clsX0 : vwCl[0]? = some (RX0, TX0, 5) := rfl
