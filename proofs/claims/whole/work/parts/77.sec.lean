/-! ===== what the moves spell ===== -/
/-- from place i on, with a number that waits: the moves spelt till the group's end, and where that is -/
def sec (A : AS) : Nat → Nat → Nat → Option (List Nat × Nat)
  | 0, _, _ => none
  | f + 1, i, t =>
    if tn A ≤ i ∨ cb A i = 41 then some ([], i)
    else if cb A i = 32 then sec A f (i + 1) t
    else if isRp (cb A i) then sec A f (i + 1) (cb A i - 48)
    else if cb A i = 40 then (sec A f (i + 1) 1).bind fun p => (sec A f (p.2 + 1) 1).bind fun q => some ((List.replicate t p.1).flatten ++ q.1, q.2)
    else (sec A f (i + 1) 1).bind fun q => some (List.replicate t (cb A i) ++ q.1, q.2)
def Sec (A : AS) (i t : Nat) (L : List Nat) (j : Nat) : Prop := ∃ f, sec A f i t = some (L, j)
section X77
variable {A : AS}
theorem sec_s (f i t : Nat) : sec A (f + 1) i t = if tn A ≤ i ∨ cb A i = 41 then some ([], i)
    else if cb A i = 32 then sec A f (i + 1) t
    else if isRp (cb A i) then sec A f (i + 1) (cb A i - 48)
    else if cb A i = 40 then (sec A f (i + 1) 1).bind fun p => (sec A f (p.2 + 1) 1).bind fun q => some ((List.replicate t p.1).flatten ++ q.1, q.2)
    else (sec A f (i + 1) 1).bind fun q => some (List.replicate t (cb A i) ++ q.1, q.2) := rfl
theorem sec_up : ∀ (f i t : Nat) (x : List Nat × Nat), sec A f i t = some x → sec A (f + 1) i t = some x
  | 0, i, t, x, h => by cases h
  | f + 1, i, t, x, h => by
    rw [sec_s] at h ⊢
    by_cases c1 : tn A ≤ i ∨ cb A i = 41
    · rw [if_pos c1] at h ⊢; exact h
    · rw [if_neg c1] at h ⊢
      by_cases c2 : cb A i = 32
      · rw [if_pos c2] at h ⊢; exact sec_up f _ _ _ h
      · rw [if_neg c2] at h ⊢
        by_cases c3 : isRp (cb A i)
        · rw [if_pos c3] at h ⊢; exact sec_up f _ _ _ h
        · rw [if_neg c3] at h ⊢
          by_cases c4 : cb A i = 40
          · rw [if_pos c4] at h ⊢
            cases h1 : sec A f (i + 1) 1 with
            | none => rw [h1] at h; cases h
            | some p =>
              rw [h1] at h
              rw [sec_up f _ _ _ h1]
              simp only [Option.bind_some] at h ⊢
              cases h2 : sec A f (p.2 + 1) 1 with
              | none => rw [h2] at h; cases h
              | some q =>
                rw [h2] at h
                rw [sec_up f _ _ _ h2]
                exact h
          · rw [if_neg c4] at h ⊢
            cases h1 : sec A f (i + 1) 1 with
            | none => rw [h1] at h; cases h
            | some p =>
              rw [h1] at h
              rw [sec_up f _ _ _ h1]
              exact h
theorem sec_le {f g i t : Nat} {x : List Nat × Nat} (h : sec A f i t = some x) (hg : f ≤ g) : sec A g i t = some x := by
  induction g with
  | zero => rw [show f = 0 by omega] at h; exact h
  | succ g ih =>
    by_cases c : f = g + 1
    · rw [c] at h; exact h
    · exact sec_up _ _ _ _ (ih (by omega))
theorem Sec.unique {i t j j' : Nat} {L L' : List Nat} (h : Sec A i t L j) (h' : Sec A i t L' j') : L = L' ∧ j = j' := by
  obtain ⟨f, hf⟩ := h
  obtain ⟨g, hg⟩ := h'
  have a := sec_le hf (Nat.le_add_right f g)
  have b := sec_le hg (Nat.le_add_left g f)
  rw [a] at b
  cases b
  exact ⟨rfl, rfl⟩
theorem Sec.stop {i t : Nat} (h : tn A ≤ i ∨ cb A i = 41) : Sec A i t [] i := ⟨1, by rw [sec_s, if_pos h]⟩
theorem cb_lt {i c : Nat} (h : cb A i = c) (hc : 1 ≤ c) : ¬ tn A ≤ i := fun z => by rw [cb_end z] at h; omega
theorem Sec.blank {i t j : Nat} {L : List Nat} (h : cb A i = 32) (hs : Sec A (i + 1) t L j) : Sec A i t L j := by
  obtain ⟨f, hf⟩ := hs
  exact ⟨f + 1, by rw [sec_s, if_neg (fun z => by rcases z with z | z; exact cb_lt h (by omega) z; omega), if_pos h]; exact hf⟩
theorem Sec.rep {i t j : Nat} {L : List Nat} (h : isRp (cb A i)) (hs : Sec A (i + 1) (cb A i - 48) L j) : Sec A i t L j := by
  obtain ⟨f, hf⟩ := hs
  exact ⟨f + 1, by rw [sec_s, if_neg (fun z => by rcases z with z | z; exact cb_lt rfl (by omega) z; omega), if_neg (by omega), if_pos h]; exact hf⟩
theorem Sec.grp {i t j j' : Nat} {L L' : List Nat} (h : cb A i = 40) (h1 : Sec A (i + 1) 1 L j) (h2 : Sec A (j + 1) 1 L' j') : Sec A i t ((List.replicate t L).flatten ++ L') j' := by
  obtain ⟨f, hf⟩ := h1
  obtain ⟨g, hg⟩ := h2
  have a := sec_le hf (Nat.le_add_right f g)
  have b := sec_le hg (Nat.le_add_left g f)
  exact ⟨f + g + 1, by rw [sec_s, if_neg (fun z => by rcases z with z | z; exact cb_lt h (by omega) z; omega), if_neg (by omega), if_neg (by omega), if_pos h, a]; simp only [Option.bind_some, b]⟩
theorem Sec.mv {i t j : Nat} {L : List Nat} (h : isMv (cb A i)) (hs : Sec A (i + 1) 1 L j) : Sec A i t (List.replicate t (cb A i) ++ L) j := by
  obtain ⟨f, hf⟩ := hs
  exact ⟨f + 1, by rw [sec_s, if_neg (fun z => by rcases z with z | z; exact cb_lt rfl (by omega) z; omega), if_neg (by omega), if_neg (by omega), if_neg (by omega), hf]; rfl⟩
theorem Sec.blk {i k t j : Nat} {L : List Nat} (h : Blk A i k) (hs : Sec A k t L j) : Sec A i t L j := by
  have key : ∀ d i, i + d = k → Blk A i k → Sec A i t L j := by
    intro d
    induction d with
    | zero => intro i hi _; rw [show i = k by omega]; exact hs
    | succ d ih =>
      intro i hi hb
      refine Sec.blank (hb.2.1 i (Nat.le_refl _) (by omega)) (ih (i + 1) (by omega) ⟨by omega, fun m h1 h2 => hb.2.1 m (by omega) h2, hb.2.2⟩)
  exact key (k - i) i (by have := h.1; omega) h
theorem au_blk {i k o : Nat} {s r : Bool} (h : Blk A i k) (hi : i ≤ tn A) : au A (tn A - i) i o s r = au A (tn A - k) k o s r := by
  have hk := h.le hi
  have key : ∀ d i, i + d = k → Blk A i k → au A (tn A - i) i o s r = au A (tn A - k) k o s r := by
    intro d
    induction d with
    | zero => intro i hi _; rw [show i = k by omega]
    | succ d ih =>
      intro i hi hb
      have c := hb.2.1 i (Nat.le_refl _) (by omega)
      rw [show tn A - i = (tn A - (i + 1)) + 1 by omega, au_s, if_neg (by omega), if_neg (by omega), if_neg (by omega), if_neg (by omega), if_pos c]
      exact ih (i + 1) (by omega) ⟨by omega, fun m h1 h2 => hb.2.1 m (by omega) h2, hb.2.2⟩
  exact key (k - i) i (by have := h.1; omega) h
/-- a text that is well spells something -/
theorem au_sec : ∀ (k i o : Nat) (sm rp : Bool) (t : Nat), i + k = tn A → au A k i o sm rp = -1 → ∃ L j, Sec A i t L j ∧ i ≤ j ∧ j ≤ tn A ∧ ((o = 0 ∧ j = tn A) ∨ (0 < o ∧ j < tn A ∧ cb A j = 41 ∧ au A (tn A - (j + 1)) (j + 1) (o - 1) true false = -1)) := by
  intro k
  induction k using Nat.strongRecOn with
  | ind k ih =>
    intro i o sm rp t hk h
    cases k with
    | zero =>
      unfold au at h
      by_cases c : o = 0 ∧ sm = true ∧ rp = false
      · exact ⟨[], i, Sec.stop (Or.inl (by omega)), Nat.le_refl _, by omega, Or.inl ⟨c.1, by omega⟩⟩
      · rw [if_neg c] at h; omega
    | succ k =>
      rw [au_s] at h
      by_cases m1 : isMv (cb A i)
      · rw [if_pos m1] at h
        obtain ⟨L, j, s1, s2, s3, s4⟩ := ih k (by omega) (i + 1) o true false 1 (by omega) h
        exact ⟨_, j, Sec.mv m1 s1, by omega, s3, s4⟩
      · rw [if_neg m1] at h
        by_cases m2 : isRp (cb A i) ∧ rp = false
        · rw [if_pos m2] at h
          obtain ⟨L, j, s1, s2, s3, s4⟩ := ih k (by omega) (i + 1) o sm true (cb A i - 48) (by omega) h
          exact ⟨L, j, Sec.rep m2.1 s1, by omega, s3, s4⟩
        · rw [if_neg m2] at h
          by_cases m3 : cb A i = 40 ∧ o < 3
          · rw [if_pos m3] at h
            obtain ⟨L, j, s1, s2, s3, s4⟩ := ih k (by omega) (i + 1) (o + 1) false false 1 (by omega) h
            rcases s4 with s4 | ⟨u1, u2, u3, u4⟩
            · omega
            · obtain ⟨L', j', v1, v2, v3, v4⟩ := ih (tn A - (j + 1)) (by omega) (j + 1) o true false 1 (by omega) u4
              exact ⟨_, j', Sec.grp m3.1 s1 v1, by omega, v3, v4⟩
          · rw [if_neg m3] at h
            by_cases m4 : cb A i = 41 ∧ 0 < o ∧ sm = true ∧ rp = false
            · rw [if_pos m4] at h
              obtain ⟨e1, e2, e3, e4⟩ := m4
              subst e3 e4
              refine ⟨[], i, Sec.stop (Or.inr e1), Nat.le_refl _, by omega, Or.inr ⟨e2, by omega, e1, ?_⟩⟩
              rw [show tn A - (i + 1) = k by omega]
              exact h
            · rw [if_neg m4] at h
              by_cases m5 : cb A i = 32
              · rw [if_pos m5] at h
                obtain ⟨L, j, s1, s2, s3, s4⟩ := ih k (by omega) (i + 1) o sm rp t (by omega) h
                exact ⟨L, j, Sec.blank m5 s1, by omega, s3, s4⟩
              · rw [if_neg m5] at h; omega
end X77
/-! ===== a walk as it goes: last moment, cells, cells left and not gone back to ===== -/
abbrev Pu : Type := Nat × (Nat → Nat) × Nat × (Nat → Nat)
def nxt (A : AS) (c z : Nat) : Nat := if c = 110 ∧ 0 < z / 16 then z - 16 else if c = 115 ∧ z / 16 + 1 < deep A then z + 16 else if c = 119 ∧ 0 < z % 16 then z - 1 else if c = 101 ∧ z % 16 + 1 < wide A then z + 1 else z
def upN (f : Nat → Nat) (k v : Nat) : Nat → Nat := fun j => if j = k then v else f j
def pst (A : AS) (c : Nat) (u : Pu) : Pu :=
  if u.1 = 60 then u
  else if c = 98 then (if 0 < u.2.2.1 then (u.1 + 1, upN u.2.1 (u.1 + 1) (u.2.2.2 (u.2.2.1 - 1)), u.2.2.1 - 1, u.2.2.2) else (u.1 + 1, upN u.2.1 (u.1 + 1) (u.2.1 u.1), u.2.2.1, u.2.2.2))
  else if nxt A c (u.2.1 u.1) = u.2.1 u.1 then (u.1 + 1, upN u.2.1 (u.1 + 1) (u.2.1 u.1), u.2.2.1, u.2.2.2)
  else (u.1 + 1, upN u.2.1 (u.1 + 1) (nxt A c (u.2.1 u.1)), u.2.2.1 + 1, upN u.2.2.2 u.2.2.1 (u.2.1 u.1))
def pfo (A : AS) (L : List Nat) (u : Pu) : Pu := L.foldl (fun u c => pst A c u) u
/-- in the yard -/
abbrev inY (A : AS) (z : Nat) : Prop := z % 16 < wide A ∧ z / 16 < deep A
def PWf (A : AS) (u : Pu) : Prop := u.1 ≤ 60 ∧ u.2.2.1 ≤ u.1 ∧ (∀ k, k ≤ u.1 → inY A (u.2.1 k)) ∧ ∀ k, k < u.2.2.1 → inY A (u.2.2.2 k)
section X77b
variable {A : AS}
theorem pst_60 {c : Nat} {u : Pu} (h : u.1 = 60) : pst A c u = u := by unfold pst; rw [if_pos h]
theorem pfo_60 {u : Pu} (h : u.1 = 60) : ∀ L : List Nat, pfo A L u = u
  | [] => rfl
  | c :: L => by
    show pfo A L (pst A c u) = u
    rw [pst_60 h]
    exact pfo_60 h L
theorem pfo_app (L M : List Nat) (u : Pu) : pfo A (L ++ M) u = pfo A M (pfo A L u) := List.foldl_append
theorem nxt_Y (hA : Wf A) {c z : Nat} (hz : inY A z) : inY A (nxt A c z) := by
  have hd := hA.1
  unfold nxt inY
  unfold inY at hz
  split
  · omega
  · split
    · omega
    · split
      · omega
      · split
        · omega
        · exact hz
theorem upN_self (f : Nat → Nat) (k v : Nat) : upN f k v k = v := by unfold upN; rw [if_pos rfl]
theorem upN_ne (f : Nat → Nat) {k j : Nat} (v : Nat) (h : j ≠ k) : upN f k v j = f j := by unfold upN; rw [if_neg h]
theorem pst_wf (hA : Wf A) {c : Nat} {u : Pu} (h : PWf A u) : PWf A (pst A c u) := by
  obtain ⟨h1, h2, h3, h4⟩ := id h
  have up : ∀ z, inY A z → ∀ k, k ≤ u.1 + 1 → inY A (upN u.2.1 (u.1 + 1) z k) := fun z hz k hk => by
    by_cases e : k = u.1 + 1
    · rw [e, upN_self]; exact hz
    · rw [upN_ne _ _ e]; exact h3 k (by omega)
  have cur := h3 u.1 (Nat.le_refl _)
  unfold pst
  by_cases c0 : u.1 = 60
  · rw [if_pos c0]; exact h
  · rw [if_neg c0]
    by_cases c1 : c = 98
    · rw [if_pos c1]
      by_cases c2 : 0 < u.2.2.1
      · rw [if_pos c2]
        exact ⟨by show u.1 + 1 ≤ 60; omega, by show u.2.2.1 - 1 ≤ u.1 + 1; omega, up _ (h4 _ (by omega)), fun k hk => h4 k (by have hk' : k < u.2.2.1 - 1 := hk; omega)⟩
      · rw [if_neg c2]
        exact ⟨by show u.1 + 1 ≤ 60; omega, by show u.2.2.1 ≤ u.1 + 1; omega, up _ cur, h4⟩
    · rw [if_neg c1]
      by_cases c3 : nxt A c (u.2.1 u.1) = u.2.1 u.1
      · rw [if_pos c3]
        exact ⟨by show u.1 + 1 ≤ 60; omega, by show u.2.2.1 ≤ u.1 + 1; omega, up _ cur, h4⟩
      · rw [if_neg c3]
        refine ⟨by show u.1 + 1 ≤ 60; omega, by show u.2.2.1 + 1 ≤ u.1 + 1; omega, up _ (nxt_Y hA cur), fun k hk => ?_⟩
        have hk' : k < u.2.2.1 + 1 := hk
        show inY A (upN u.2.2.2 u.2.2.1 (u.2.1 u.1) k)
        by_cases e : k = u.2.2.1
        · rw [e, upN_self]; exact cur
        · rw [upN_ne _ _ e]; exact h4 k (by omega)
theorem pfo_wf (hA : Wf A) : ∀ (L : List Nat) (u : Pu), PWf A u → PWf A (pfo A L u)
  | [], u, h => h
  | c :: L, u, h => pfo_wf hA L (pst A c u) (pst_wf hA h)
end X77b
