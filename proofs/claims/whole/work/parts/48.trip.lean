/-! ===== round trips over the bounds of facts ===== -/
theorem fv_tri (day : Int) (hd : 0 ≤ day) (i j k : Nat) : fv day i j + fv day j k ≤ fv day i k := by
  unfold fv
  split <;> split <;> split <;> omega
theorem fv_0 (day : Int) (i : Nat) : fv day i i = 0 := by unfold fv; rw [if_pos (Or.inl rfl)]
theorem fv_R (day : Int) (hd : 0 ≤ day ∧ day ≤ 2000) (i j : Nat) : -2000 ≤ fv day i j ∧ fv day i j ≤ 0 := by
  unfold fv
  split <;> omega
/-- an arc of a fact: its number, whether it is the lower bound -/
abbrev Ac : Type := Nat × Bool
def ai (A : AS) (a : Ac) : Nat := if a.2 then (fc A a.1).2.2.1 else (fc A a.1).2.1
def aj (A : AS) (a : Ac) : Nat := if a.2 then (fc A a.1).2.1 else (fc A a.1).2.2.1
def ar (A : AS) (a : Ac) : Int := if a.2 then (fc A a.1).2.2.2.1 else -(fc A a.1).2.2.2.2
/-- the arcs of a set that bind -/
def aok (A : AS) (S : Nat) (a : Ac) : Prop := a.1 < fn A ∧ bt S a.1 ∧ -1000000 < ar A a
/-- what a trip from p to q over arcs comes to -/
def tv (A : AS) (p : Nat) : List Ac → Nat → Int
  | [], q => fv (day A) p q
  | a :: L, q => fv (day A) p (ai A a) + ar A a + tv A (aj A a) L q
section X48
variable {A : AS}
theorem tv_cut (p : Nat) (L : List Ac) (a : Ac) (M : List Ac) (r : Nat) : tv A p (L ++ a :: M) r = tv A p L (ai A a) + ar A a + tv A (aj A a) M r := by
  induction L generalizing p with
  | nil => rfl
  | cons b L ih =>
    show fv (day A) p (ai A b) + ar A b + tv A (aj A b) (L ++ a :: M) r = fv (day A) p (ai A b) + ar A b + tv A (aj A b) L (ai A a) + ar A a + tv A (aj A a) M r
    rw [ih]; omega
theorem tv_app (p : Nat) (L M : List Ac) (q r : Nat) : tv A p L q + tv A q M r ≤ tv A p (L ++ M) r := by
  induction L generalizing p with
  | nil =>
    cases M with
    | nil => exact fv_tri _ (by omega) p q r
    | cons a M =>
      show fv (day A) p q + (fv (day A) q (ai A a) + ar A a + tv A (aj A a) M r) ≤ fv (day A) p (ai A a) + ar A a + tv A (aj A a) M r
      have := fv_tri (day A) (by omega) p q (ai A a)
      omega
  | cons b L ih =>
    show fv (day A) p (ai A b) + ar A b + tv A (aj A b) L q + tv A q M r ≤ fv (day A) p (ai A b) + ar A b + tv A (aj A b) (L ++ M) r
    have := ih (aj A b)
    omega
theorem aok_pt (hA : Wf A) {S : Nat} {a : Ac} (h : aok A S a) : ai A a < wn A + 1 ∧ aj A a < wn A + 1 := by
  have hW := hA.2.2.2.1.2 a.1 h.1
  have h3 := hW.2.2.1
  have h4 := hW.2.2.2.1
  unfold ai aj
  split <;> omega
/-- a round trip above its beginning -/
def Rnd (A : AS) (S : Nat) (p : Nat) (L : List Ac) : Prop := p < wn A + 1 ∧ (∀ a, a ∈ L → aok A S a) ∧ 0 < tv A p L p
theorem CM.trip (hA : Wf A) {S : Nat} {Y : Nat → Nat → Int} (h : CM (wn A + 1) (conR A S (fn A)) Y) : ∀ (L : List Ac) (p q : Nat), (∀ a, a ∈ L → aok A S a) → p < wn A + 1 → q < wn A + 1 → tv A p L q ≤ Y p q := by
  have hfree : ∀ i j, i < wn A + 1 → j < wn A + 1 → fv (day A) i j ≤ Y i j := fun i j hi hj => by
    have h1 : CM (wn A + 1) (frR (day A)) Y := h.mono (fun i j v _ _ hr => Or.inl hr)
    exact (LM.free (wn A + 1) (show (0 : Int) ≤ day A by omega)).2 Y h1 i j hi hj
  intro L
  induction L with
  | nil => intro p q _ hp hq; exact hfree p q hp hq
  | cons a L ih =>
    intro p q ha hp hq
    have h0 := ha a List.mem_cons_self
    obtain ⟨hi, hj⟩ := aok_pt hA h0
    have h1 := ih (aj A a) q (fun b hb => ha b (List.mem_cons_of_mem _ hb)) hj hq
    have h2 := hfree p (ai A a) hp hi
    have h3 : ar A a ≤ Y (ai A a) (aj A a) := by
      refine h.2.1 _ _ _ hi hj (Or.inr ⟨a.1, h0.1, h0.2.1, ?_⟩)
      unfold ai aj ar
      cases a.2
      · right; exact ⟨rfl, rfl, rfl⟩
      · left; exact ⟨rfl, rfl, rfl⟩
    have h4 := h.2.2 p (ai A a) (aj A a) hp hi hj
    have h5 := h.2.2 p (aj A a) q hp hj hq
    show fv (day A) p (ai A a) + ar A a + tv A (aj A a) L q ≤ Y p q
    omega
theorem rnd_no (hA : Wf A) {S p : Nat} {L : List Ac} (h : Rnd A S p L) : ¬ can A S (fn A) := by
  rintro ⟨Y, hY⟩
  have h1 := hY.trip hA L p p h.2.1 h.1 h.1
  have h2 := hY.1 p h.1
  have h3 := h.2.2
  omega
theorem int_max {P : Int → Prop} {b : Int} (hb : ∀ z, P z → z ≤ b) : ∀ (k : Nat) (z : Int), P z → b - z ≤ k → ∃ m, P m ∧ ∀ w, P w → w ≤ m
  | 0, z, hz, hk => ⟨z, hz, fun w hw => by have := hb w hw; omega⟩
  | k + 1, z, hz, hk => by
    by_cases h : ∃ w, P w ∧ z < w
    · obtain ⟨w, h1, h2⟩ := h
      exact int_max hb k w h1 (by omega)
    · exact ⟨z, hz, fun w hw => Int.not_lt.mp (fun q => h ⟨w, hw, q⟩)⟩
theorem rnd_yes (hA : Wf A) {S : Nat} (h : ∀ p L, ¬ Rnd A S p L) : can A S (fn A) := by
  have hday : (0 : Int) ≤ day A ∧ (day A : Int) ≤ 2000 := by have := hA.1.2.2.2.2; omega
  have hle : ∀ p L, p < wn A + 1 → (∀ a, a ∈ L → aok A S a) → tv A p L p ≤ 0 := fun p L hp hL => Int.not_lt.mp (fun q => h p L ⟨hp, hL, q⟩)
  have hup : ∀ p q L, p < wn A + 1 → (∀ a, a ∈ L → aok A S a) → tv A p L q ≤ 2000 := fun p q L hp hL => by
    have h1 := tv_app (A := A) p L [] q p
    have h2 := hle p (L ++ []) hp (by simpa using hL)
    have h3 := fv_R (day A) hday q p
    have h4 : tv A q [] p = fv (day A) q p := rfl
    omega
  have hex : ∀ p q, ∃ z, p < wn A + 1 → (∃ L, (∀ a, a ∈ L → aok A S a) ∧ tv A p L q = z) ∧ ∀ L, (∀ a, a ∈ L → aok A S a) → tv A p L q ≤ z := by
    intro p q
    by_cases hp : p < wn A + 1
    · obtain ⟨m, ⟨L, h1, h2⟩, h3⟩ := int_max (P := fun z => ∃ L, (∀ a, a ∈ L → aok A S a) ∧ tv A p L q = z) (b := 2000) (by rintro z ⟨L, h1, rfl⟩; exact hup p q L hp h1) (2000 - tv A p [] q).toNat (tv A p [] q) ⟨[], (by intro a ha; cases ha), rfl⟩ (by omega)
      exact ⟨m, fun _ => ⟨⟨L, h1, h2⟩, fun L' hL' => h3 _ ⟨L', hL', rfl⟩⟩⟩
    · exact ⟨0, fun q => absurd q hp⟩
  have key := fun p q (hp : p < wn A + 1) => Classical.choose_spec (hex p q) hp
  have none : ∀ a, a ∈ ([] : List Ac) → aok A S a := by intro a ha; cases ha
  refine ⟨fun p q => Classical.choose (hex p q), fun i hi => ?_, fun i j v hi hj hr => ?_, fun i j k hi hj hk => ?_⟩
  · obtain ⟨⟨L, h1, h2⟩, h3⟩ := key i i hi
    have a := hle i L hi h1
    have b := h3 [] none
    have c : tv A i [] i = 0 := fv_0 _ _
    show Classical.choose (hex i i) = 0
    omega
  · obtain ⟨-, h3⟩ := key i j hi
    show v ≤ Classical.choose (hex i j)
    have f1 := h3 [] none
    have f2 : tv A i [] j = fv (day A) i j := rfl
    have f3 := fv_R (day A) hday i j
    have arc : ∀ a : Ac, a.1 < fn A → bt S a.1 → i = ai A a → j = aj A a → v = ar A a → v ≤ Classical.choose (hex i j) := by
      intro a a1 a2 ei ej ev
      by_cases c : -1000000 < ar A a
      · have f4 := h3 [a] (by
          intro b hb
          rw [List.mem_singleton] at hb
          rw [hb]; exact ⟨a1, a2, c⟩)
        have f5 : tv A i [a] j = fv (day A) i (ai A a) + ar A a + fv (day A) (aj A a) j := rfl
        rw [← ei, ← ej, fv_0, fv_0] at f5
        omega
      · omega
    rcases hr with hr | ⟨f, hf, hb, hr | hr⟩
    · have f6 : v ≤ fv (day A) i j := by
        unfold fv
        rcases hr with ⟨h1, h2⟩ | ⟨h1, h2, h4⟩
        · rw [if_pos (Or.inr h1)]; omega
        · rw [if_neg (by omega)]; omega
      omega
    · exact arc (f, true) hf hb hr.1 hr.2.1 hr.2.2
    · exact arc (f, false) hf hb hr.1 hr.2.1 hr.2.2
  · obtain ⟨⟨L, h1, h2⟩, -⟩ := key i j hi
    obtain ⟨⟨M, m1, m2⟩, -⟩ := key j k hj
    obtain ⟨-, h3⟩ := key i k hi
    have a := tv_app (A := A) i L M j k
    have b := h3 (L ++ M) (by
      intro a ha
      rcases List.mem_append.mp ha with q | q
      · exact h1 a q
      · exact m1 a q)
    show Classical.choose (hex i j) + Classical.choose (hex j k) ≤ Classical.choose (hex i k)
    omega
/-- how many bits below m -/
def cntB (S : Nat) : Nat → Nat
  | 0 => 0
  | m + 1 => cntB S m + S / 2 ^ m % 2
theorem nodup_few {S : Nat} : ∀ (m : Nat) (L : List Nat), L.Nodup → (∀ x, x ∈ L → x < m ∧ bt S x) → L.length ≤ cntB S m
  | 0, L, _, h => by
    cases L with
    | nil => exact Nat.le_refl 0
    | cons a L => have := (h a List.mem_cons_self).1; omega
  | m + 1, L, hd, h => by
    by_cases hm : m ∈ L
    · have h1 := nodup_few m (L.erase m) (hd.erase m) (fun x hx => by
        have h2 := (hd.mem_erase_iff).mp hx
        have h3 := h x h2.2
        exact ⟨by have := h2.1; omega, h3.2⟩)
      rw [List.length_erase_of_mem hm] at h1
      have h2 := (h m hm).2
      have h3 : 0 < L.length := List.length_pos_of_mem hm
      unfold bt at h2
      unfold cntB
      omega
    · have h1 := nodup_few m L hd (fun x hx => by
        have h3 := h x hx
        have : x ≠ m := fun e => hm (e ▸ hx)
        exact ⟨by omega, h3.2⟩)
      unfold cntB
      omega
theorem not_nodup : ∀ L : List Ac, ¬ (L.map Prod.fst).Nodup → ∃ L1 a L2 b L3, L = L1 ++ a :: (L2 ++ b :: L3) ∧ a.1 = b.1
  | [], h => absurd List.nodup_nil h
  | x :: T, h => by
    by_cases hx : x.1 ∈ T.map Prod.fst
    · obtain ⟨b, hb, he⟩ := List.mem_map.mp hx
      obtain ⟨L2, L3, rfl⟩ := List.append_of_mem hb
      exact ⟨[], x, L2, b, L3, rfl, he.symm⟩
    · have h2 : ¬ (T.map Prod.fst).Nodup := fun q => h (by rw [List.map_cons, List.nodup_cons]; exact ⟨hx, q⟩)
      obtain ⟨L1, a, L2, b, L3, e, he⟩ := not_nodup T h2
      exact ⟨x :: L1, a, L2, b, L3, by rw [e]; rfl, he⟩
/-- a least round trip has each fact once -/
theorem rnd_min (hA : Wf A) {S p : Nat} {L : List Ac} (h : Rnd A S p L) (hm : ∀ q M, Rnd A S q M → L.length ≤ M.length) : (L.map Prod.fst).Nodup := by
  refine Classical.byContradiction (fun hn => ?_)
  obtain ⟨L1, a, L2, b, L3, rfl, he⟩ := not_nodup L hn
  obtain ⟨hp, hL, hv⟩ := h
  rw [tv_cut, tv_cut] at hv
  have ha := hL a (by simp)
  have hb := hL b (by simp)
  have l1 : ∀ c, c ∈ L1 → aok A S c := fun c hc => hL c (by simp [hc])
  have l2 : ∀ c, c ∈ L2 → aok A S c := fun c hc => hL c (by simp [hc])
  have l3 : ∀ c, c ∈ L3 → aok A S c := fun c hc => hL c (by simp [hc])
  have len : (L1 ++ a :: (L2 ++ b :: L3)).length = L1.length + L2.length + L3.length + 2 := by
    simp only [List.length_append, List.length_cons]; omega
  by_cases hd : a.2 = b.2
  · have eab : a = b := Prod.ext he hd
    subst eab
    by_cases c1 : 0 < tv A p (L1 ++ a :: L3) p
    · have := hm p (L1 ++ a :: L3) ⟨hp, by
        intro c hc
        rcases List.mem_append.mp hc with q | q
        · exact l1 c q
        · rcases List.mem_cons.mp q with q | q
          · rw [q]; exact ha
          · exact l3 c q, c1⟩
      rw [len] at this
      simp only [List.length_append, List.length_cons] at this
      omega
    · rw [tv_cut] at c1
      have c2 : 0 < tv A (ai A a) (a :: L2) (ai A a) := by
        show 0 < fv (day A) (ai A a) (ai A a) + ar A a + tv A (aj A a) L2 (ai A a)
        rw [fv_0]; omega
      have := hm (ai A a) (a :: L2) ⟨(aok_pt hA ha).1, by
        intro c hc
        rcases List.mem_cons.mp hc with q | q
        · rw [q]; exact ha
        · exact l2 c q, c2⟩
      rw [len] at this
      simp only [List.length_cons] at this
      omega
  · have hW := hA.2.2.2.1.2 a.1 ha.1
    have hlh : (fc A a.1).2.2.2.1 ≤ (fc A a.1).2.2.2.2 := hW.2.2.2.2.2.2.2.2.2
    have e1 : ai A b = aj A a := by
      unfold ai aj
      rw [← he]
      cases h1 : a.2 <;> cases h2 : b.2 <;> simp_all
    have e2 : aj A b = ai A a := by
      unfold ai aj
      rw [← he]
      cases h1 : a.2 <;> cases h2 : b.2 <;> simp_all
    have e3 : ar A a + ar A b ≤ 0 := by
      unfold ar
      rw [← he]
      cases h1 : a.2 <;> cases h2 : b.2 <;> simp_all <;> omega
    rw [e1, e2] at hv
    have c0 := tv_app (A := A) p L1 L3 (ai A a) p
    by_cases c1 : 0 < tv A p (L1 ++ L3) p
    · have := hm p (L1 ++ L3) ⟨hp, by
        intro c hc
        rcases List.mem_append.mp hc with q | q
        · exact l1 c q
        · exact l3 c q, c1⟩
      rw [len] at this
      simp only [List.length_append] at this
      omega
    · have := hm (aj A a) L2 ⟨(aok_pt hA ha).2, l2, by omega⟩
      rw [len] at this
      omega
/-- the fewest arcs of a round trip -/
def MinT (A : AS) (S k : Nat) : Prop := (∃ p L, Rnd A S p L ∧ L.length = k) ∧ ∀ q M, Rnd A S q M → k ≤ M.length
theorem rnd_least {S : Nat} : ∀ (k p : Nat) (L : List Ac), Rnd A S p L → L.length ≤ k → ∃ m, m ≤ k ∧ MinT A S m
  | 0, p, L, h, hk => ⟨0, Nat.le_refl 0, ⟨p, L, h, by omega⟩, fun _ _ _ => Nat.zero_le _⟩
  | k + 1, p, L, h, hk => by
    by_cases c : ∃ q M, Rnd A S q M ∧ M.length ≤ k
    · obtain ⟨q, M, h1, h2⟩ := c
      obtain ⟨m, m1, m2⟩ := rnd_least k q M h1 h2
      exact ⟨m, by omega, m2⟩
    · have hall : ∀ q M, Rnd A S q M → k + 1 ≤ M.length := fun q M hM => Nat.lt_of_not_le (fun z => c ⟨q, M, hM, z⟩)
      exact ⟨k + 1, Nat.le_refl _, ⟨p, L, h, by have := hall p L h; omega⟩, hall⟩
theorem MinT.unique {S k j : Nat} (h : MinT A S k) (h' : MinT A S j) : k = j := by
  obtain ⟨⟨p, L, a, b⟩, c⟩ := h
  obtain ⟨⟨q, M, d, e⟩, f⟩ := h'
  have := c q M d
  have := f p L a
  omega
/-- what can not be has a round trip with no more arcs than facts -/
theorem no_few (hA : Wf A) {S : Nat} (h : ¬ can A S (fn A)) : ∃ k, k ≤ cntB S (fn A) ∧ MinT A S k := by
  have h1 : ∃ p L, Rnd A S p L := Classical.byContradiction (fun q => h (rnd_yes hA (fun p L z => q ⟨p, L, z⟩)))
  obtain ⟨p, L, hL⟩ := h1
  obtain ⟨k, -, hk⟩ := rnd_least L.length p L hL (Nat.le_refl _)
  refine ⟨k, ?_, hk⟩
  obtain ⟨⟨q, M, m1, m2⟩, m3⟩ := hk
  have nd := rnd_min hA m1 (fun r N hN => by rw [m2]; exact m3 r N hN)
  have := nodup_few (S := S) (fn A) (M.map Prod.fst) nd (fun x hx => by
    obtain ⟨a, ha, rfl⟩ := List.mem_map.mp hx
    exact ⟨(m1.2.1 a ha).1, (m1.2.1 a ha).2.1⟩)
  rw [List.length_map] at this
  omega
theorem rnd_sub {S T p : Nat} {L : List Ac} (h : Rnd A S p L) (hs : ∀ f, f < fn A → bt S f → bt T f) : Rnd A T p L := ⟨h.1, fun a ha => ⟨(h.2.1 a ha).1, hs _ (h.2.1 a ha).1 (h.2.1 a ha).2.1, (h.2.1 a ha).2.2⟩, h.2.2⟩
end X48
