/-! ===== reads and writes of my worlds ===== -/
def gV (t : Nat) (σ : Sg) (a k : Nat) : Option Value := match σ.2.1 a with
  | some q => if q.1 = t ∧ k < q.2 then some (σ.2.2 a k) else none
  | none => none
def toI (v : Option Value) : Option Int32 := match v with
  | some (.int x) => some x
  | _ => none
def toR (v : Option Value) : Option Nat := match v with
  | some (.ref x) => some x
  | _ => none
def toQ (v : Option Value) : Option (Option Nat) := match v with
  | some (.ref x) => some (some x)
  | some .null => some none
  | _ => none
def aV (t : Nat) (σ : Sg) (a : Nat) (i : Int32) : Option Value := match σ.2.1 a with
  | some q => if q.1 = t ∧ ¬ (i < 0 ∨ q.2 ≤ i.toNatClampNeg) then some (σ.2.2 a i.toNatClampNeg) else none
  | none => none
def up2 (m : Nat → Nat → Value) (a k : Nat) (v : Value) : Nat → Nat → Value := fun a' => if a' = a then updV (m a) k v else m a'
def pV (t : Nat) (σ : Sg) (a k : Nat) (v : Value) : Option Sg := match σ.2.1 a with
  | some q => if q.1 = t ∧ k < q.2 then some (σ.1, σ.2.1, up2 σ.2.2 a k v) else none
  | none => none
def sV (t : Nat) (σ : Sg) (a : Nat) (i : Int32) (v : Value) : Option Sg := match σ.2.1 a with
  | some q => if q.1 = t ∧ ¬ (i < 0 ∨ q.2 ≤ i.toNatClampNeg) then some (σ.1, σ.2.1, up2 σ.2.2 a i.toNatClampNeg v) else none
  | none => none
def lenA (t : Nat) (σ : Sg) (a : Nat) : Option Int32 := match σ.2.1 a with
  | some q => if q.1 = t then some (Int32.ofNat q.2) else none
  | none => none
theorem toI_V {v : Option Value} {x : Int32} (h : toI v = some x) : v = some (.int x) := by
  unfold toI at h
  split at h
  · cases h; rfl
  · cases h
theorem toR_V {v : Option Value} {x : Nat} (h : toR v = some x) : v = some (.ref x) := by
  unfold toR at h
  split at h
  · cases h; rfl
  · cases h
theorem toQ_V {v : Option Value} {x : Option Nat} (h : toQ v = some x) : v = some (va_rf x) := by
  unfold toQ at h
  split at h
  · cases h; rfl
  · cases h; rfl
  · cases h
theorem gV_spec {t : Nat} {σ : Sg} {a k : Nat} {v : Value} (h : gV t σ a k = some v) : ∃ n, σ.2.1 a = some (t, n) ∧ k < n ∧ σ.2.2 a k = v := by
  unfold gV at h
  split at h
  · rename_i q hq
    obtain ⟨t', n⟩ := q
    split at h
    · rename_i hc
      cases h
      obtain ⟨rfl, hk⟩ := hc
      exact ⟨n, hq, hk, rfl⟩
    · cases h
  · cases h
theorem aV_spec {t : Nat} {σ : Sg} {a : Nat} {i : Int32} {v : Value} (h : aV t σ a i = some v) : ∃ n, σ.2.1 a = some (t, n) ∧ vp_in i n ∧ σ.2.2 a i.toNatClampNeg = v := by
  unfold aV at h
  split at h
  · rename_i q hq
    obtain ⟨t', n⟩ := q
    split at h
    · rename_i hc
      cases h
      obtain ⟨rfl, hk⟩ := hc
      exact ⟨n, hq, hk, rfl⟩
    · cases h
  · cases h
theorem pV_spec {t : Nat} {σ σ' : Sg} {a k : Nat} {v : Value} (h : pV t σ a k v = some σ') : ∃ n, σ.2.1 a = some (t, n) ∧ k < n ∧ σ' = (σ.1, σ.2.1, up2 σ.2.2 a k v) := by
  unfold pV at h
  split at h
  · rename_i q hq
    obtain ⟨t', n⟩ := q
    split at h
    · rename_i hc
      cases h
      obtain ⟨rfl, hk⟩ := hc
      exact ⟨n, hq, hk, rfl⟩
    · cases h
  · cases h
theorem sV_spec {t : Nat} {σ σ' : Sg} {a : Nat} {i : Int32} {v : Value} (h : sV t σ a i v = some σ') : ∃ n, σ.2.1 a = some (t, n) ∧ vp_in i n ∧ σ' = (σ.1, σ.2.1, up2 σ.2.2 a i.toNatClampNeg v) := by
  unfold sV at h
  split at h
  · rename_i q hq
    obtain ⟨t', n⟩ := q
    split at h
    · rename_i hc
      cases h
      obtain ⟨rfl, hk⟩ := hc
      exact ⟨n, hq, hk, rfl⟩
    · cases h
  · cases h
theorem lenA_spec {t : Nat} {σ : Sg} {a : Nat} {v : Int32} (h : lenA t σ a = some v) : ∃ n, σ.2.1 a = some (t, n) ∧ Int32.ofNat n = v := by
  unfold lenA at h
  split at h
  · rename_i q hq
    obtain ⟨t', n⟩ := q
    split at h
    · rename_i hc
      cases h
      obtain rfl := hc
      exact ⟨n, hq, rfl⟩
    · cases h
  · cases h
/-- a class of vwCl, by its tables -/
def CI (t : Nat) (C : String) (T : u_T) (N : Nat) (ty : Nat → FieldType) : Prop :=
  vwCl[t]? = some (C, T, N) ∧ (∀ w ∈ u_ws C T N, w ∈ lw_tbl.filter goodWord) ∧ (∀ k, k < N → parseFieldDescriptor (T k).2.2.1 = some (ty k)) ∧ (∀ a, a < N → ∀ b, b < N → a ≠ b → (T a).2.1 ≠ (T b).2.1) ∧ (∀ k, k < N → (T k).1 = C)
theorem RepS.obj {G : Cx} {H : Heap} {σ : Sg} (hR : RepS G H σ) {t a n : Nat} {C : String} {T : u_T} {N : Nat} {ty : Nat → FieldType} (ci : CI t C T N ty) (ha : σ.2.1 a = some (t, n)) : n = N ∧ t_OB a (G.2.1.1 t) N (G.2.1.2 t) H (σ.2.2 a) := by
  rcases hR.2.2 a t n ha with ⟨h0, r, h1, h2, h3⟩ | ⟨h0, -⟩
  · have hr : r = (C, T, N) := Option.some.inj (h1.symm.trans ci.1)
    subst hr
    exact ⟨h2, h3⟩
  · have h := ci.1
    rw [List.getElem?_eq_none (by show 11 ≤ t; exact h0)] at h
    cases h
theorem RepS.arr {G : Cx} {H : Heap} {σ : Sg} (hR : RepS G H σ) {t a n : Nat} (ht : 11 ≤ t) (ha : σ.2.1 a = some (t, n)) : H[a]? = some (arrV (G.2.2.1 t) n (σ.2.2 a)) := by
  rcases hR.2.2 a t n ha with ⟨h0, -⟩ | ⟨-, h⟩
  · omega
  · exact h
/-- one place of one cell is written -/
theorem RepS.put {G : Cx} {H H1 : Heap} {σ : Sg} (hR : RepS G H σ) {a k : Nat} {v : Value} {t n : Nat} (ha : σ.2.1 a = some (t, n)) (hc : celR G H1 a t n (updV (σ.2.2 a) k v)) (hz : H1.size = H.size) (ho : ∀ q, q ≠ a → H1[q]? = H[q]?) : RepS G H1 (σ.1, σ.2.1, up2 σ.2.2 a k v) := by
  refine ⟨hz.trans hR.1, hR.2.1, fun b t' n' hb => ?_⟩
  by_cases hba : b = a
  · subst hba
    have h1 : σ.2.1 b = some (t', n') := hb
    rw [ha] at h1
    cases h1
    show celR G H1 b t n (up2 σ.2.2 b k v b)
    unfold up2
    rw [if_pos rfl]
    exact hc
  · show celR G H1 b t' n' (up2 σ.2.2 a k v b)
    unfold up2
    rw [if_neg hba]
    exact (hR.2.2 b t' n' hb).kept (ho b hba)
/-- a cell is made -/
def nw (σ : Sg) (t n : Nat) (f : Nat → Value) : Sg := (σ.1 + 1, fun a => if a = σ.1 then some (t, n) else σ.2.1 a, fun a => if a = σ.1 then f else σ.2.2 a)
theorem RepS.new {G : Cx} {H H1 : Heap} {σ : Sg} (hR : RepS G H σ) (hb : G.2.2.2.1 < H.size) {t n : Nat} {f : Nat → Value} (hc : celR G H1 σ.1 t n f) (hz : H1.size = H.size + 1) (ho : ∀ q, q < H.size → H1[q]? = H[q]?) : RepS G H1 (nw σ t n f) := by
  refine ⟨by rw [hz, hR.1]; rfl, ?_, fun b t' n' hb' => ?_⟩
  · show (if G.2.2.2.1 = σ.1 then some (t, n) else σ.2.1 G.2.2.2.1) = none
    rw [if_neg (by rw [← hR.1]; omega)]
    exact hR.2.1
  · by_cases hbs : b = σ.1
    · subst hbs
      have h1 : (if σ.1 = σ.1 then some (t, n) else σ.2.1 σ.1) = some (t', n') := hb'
      rw [if_pos rfl] at h1
      cases h1
      show celR G H1 σ.1 t n (if σ.1 = σ.1 then f else σ.2.2 σ.1)
      rw [if_pos rfl]
      exact hc
    · have h1 : (if b = σ.1 then some (t, n) else σ.2.1 b) = some (t', n') := hb'
      rw [if_neg hbs] at h1
      show celR G H1 b t' n' (if b = σ.1 then f else σ.2.2 b)
      rw [if_neg hbs]
      have h2 := hR.2.2 b t' n' h1
      exact h2.kept (ho b h2.lt)
theorem vp_V_range (n : Nat) (f : Nat → Value) {k : Nat} (hk : k < n) : vp_V ((List.range n).map f) k = f k := by
  simp [vp_V, List.getD_eq_getElem?_getD, hk]
section BWH
variable {G : Cx} {mt : Mt} {E : Ev} {cells slots pc : Nat} {lv : Lv} {st : List Value} {σ σ' : Sg} {a k t idx : Nat} {C : String} {T : u_T} {N : Nat} {ty : Nat → FieldType} {v : Value} {i : Int32}
theorem BW.get (hd : decode mt.2.1 pc = .ok (.getfield idx, 3)) (ci : CI t C T N ty) (hk : k < N) (hlk : Cond.fieldLink mt.1.cls idx C (T k).2.1 (T k).2.2.1 ∈ lw_tbl) (hv : gV t σ a k = some v) (kk : BW G mt E cells slots (pc + 3) lv (v :: st) σ) : BW G mt E cells slots pc lv (.ref a :: st) σ := by
  intro p e s m args below meth c H locs ls C0 hR hS hA hl
  have kk' := kk p e s m args below meth c H locs ls C0 hR hS hA hl
  obtain ⟨hx, hb, -, -, -, hown, hts, hK, -⟩ := C0
  obtain ⟨n, h1, h2, rfl⟩ := gV_spec hv
  obtain ⟨rfl, hO⟩ := hR.obj ci h1
  refine va_get (D := G.2.1) (cl := vwCl) (ws := [(a, .inr (t, (List.range n).map (σ.2.2 a)))]) (Ts := lw_tbl.filter goodWord) hx hb (fun w hw => hts w (List.mem_filter.mp hw).1 (List.mem_filter.mp hw).2) ci.2.1 hown hK.1 ?_ 0 rfl ci.1 k hk (hts _ hlk rfl) (fun x h => by rw [ci.2.2.2.2 k hk] at h; exact h) (by simp [hk]) hd kk'
  intro q x hq
  have hz : q < 1 := (List.getElem?_eq_some_iff.mp hq).1
  rw [show q = 0 by omega] at hq
  cases hq
  exact ⟨_, ci.1, hO.to (fun j hj => (vp_V_range n _ hj).symm)⟩
theorem BW.getN {host : String} (hd : decode mt.2.1 pc = .ok (.getfield idx, 3)) (ci : CI t C T N ty) (hk : k < N) (hlk : Cond.fieldLinkNest mt.1.cls idx C (T k).2.1 (T k).2.2.1 host ∈ lw_tbl) (hv : gV t σ a k = some v) (kk : BW G mt E cells slots (pc + 3) lv (v :: st) σ) : BW G mt E cells slots pc lv (.ref a :: st) σ := by
  intro p e s m args below meth c H locs ls C0 hR hS hA hl
  have kk' := kk p e s m args below meth c H locs ls C0 hR hS hA hl
  obtain ⟨hx, hb, -, -, -, hown, hts, hK, -⟩ := C0
  obtain ⟨n, h1, h2, rfl⟩ := gV_spec hv
  obtain ⟨rfl, hO⟩ := hR.obj ci h1
  refine va_getN (D := G.2.1) (cl := vwCl) (ws := [(a, .inr (t, (List.range n).map (σ.2.2 a)))]) (Ts := lw_tbl.filter goodWord) hx hb (fun w hw => hts w (List.mem_filter.mp hw).1 (List.mem_filter.mp hw).2) ci.2.1 hown hK.1 ?_ 0 rfl ci.1 k hk (va_Nw.use rfl (hK.2.1 _ hlk rfl)) (fun x h => by rw [ci.2.2.2.2 k hk] at h; exact h) (by simp [hk]) hd kk'
  intro q x hq
  have hz : q < 1 := (List.getElem?_eq_some_iff.mp hq).1
  rw [show q = 0 by omega] at hq
  cases hq
  exact ⟨_, ci.1, hO.to (fun j hj => (vp_V_range n _ hj).symm)⟩
theorem BW.put (hd : decode mt.2.1 pc = .ok (.putfield idx, 3)) (ci : CI t C T N ty) (hk : k < N) (hlk : Cond.fieldLink mt.1.cls idx C (T k).2.1 (T k).2.2.1 ∈ lw_tbl) (hfin : (T k).2.2.2 = false) (hn : narrow (ty k) v = v) (hfit : fits (ty k) v = true) (hv : pV t σ a k v = some σ') (kk : BW G mt E cells slots (pc + 3) lv st σ') : BW G mt E cells slots pc lv (v :: .ref a :: st) σ := by
  intro p e s m args below meth c H locs ls C0 hR hS hA hl
  have C1 := C0
  obtain ⟨hx, hb, -, -, -, hown, hts, hK, -⟩ := C0
  obtain ⟨n, h1, h2, rfl⟩ := pV_spec hv
  obtain ⟨rfl, cell, q1, q2, q3, q4⟩ := hR.obj ci h1
  have hts' : ∀ w ∈ lw_tbl.filter goodWord, w.before args s = true := fun w hw => hts w (List.mem_filter.mp hw).1 (List.mem_filter.mp hw).2
  have hap := va_apart (own := mt.1.cls) hts' ci.2.1 ty ci.2.2.1 ci.2.2.2.1 hK.1 ci.1
  obtain ⟨hS', hfc, kC, hkC, hkind⟩ := hK.1.1 t _ ci.1
  obtain ⟨cf, kf, fi, f, hi, hsl⟩ := hS' k hk
  have hlay := hts' _ (ci.2.1 _ (u_in_lay hk))
  unfold u_lay at hlay
  rw [if_neg (by rw [hfin]; decide)] at hlay
  have hst := (u_facts hfc hkC (u_lays hts' ci.2.1 hk) hi).1
  have h6 := u_store hfc hkC hkind hlay hi (ci.2.2.1 k hk) hn hfit
  refine W.putK hx hb (f := f) ⟨hown, hts _ hlk rfl, ⟨_, _, _, by rw [ci.2.2.2.2 k hk] at hi; exact hi⟩, hst⟩ (by rw [q2]; exact h6) q1 q3 (by rw [hsl]; exact k2_hasslot (q4 k hk)) rfl rfl hd fun H' e1 e2 e3 => ?_
  rw [hsl] at e1 ⊢
  have ht : t < 11 := by
    rcases hR.2.2 a t n h1 with ⟨h0, -⟩ | ⟨-, h0⟩
    · exact h0
    · have := (List.getElem?_eq_some_iff.mp ci.1).1
      simpa using this
  refine kk p e s m args below meth c H' _ ls C1 (hR.put h1 (Or.inl ⟨ht, _, ci.1, rfl, _, e1, q2, q3, t_set q4 hap hk v⟩) e2 e3) (hS.put e2 e3 (hA a (by rw [h1]; exact fun h => by cases h))) hA hl
theorem BW.putN {host : String} (hd : decode mt.2.1 pc = .ok (.putfield idx, 3)) (ci : CI t C T N ty) (hk : k < N) (hlk : Cond.fieldLinkNest mt.1.cls idx C (T k).2.1 (T k).2.2.1 host ∈ lw_tbl) (hfin : (T k).2.2.2 = false) (hn : narrow (ty k) v = v) (hfit : fits (ty k) v = true) (hv : pV t σ a k v = some σ') (kk : BW G mt E cells slots (pc + 3) lv st σ') : BW G mt E cells slots pc lv (v :: .ref a :: st) σ := by
  intro p e s m args below meth c H locs ls C0 hR hS hA hl
  have C1 := C0
  obtain ⟨hx, hb, -, -, -, hown, hts, hK, -⟩ := C0
  obtain ⟨n, h1, h2, rfl⟩ := pV_spec hv
  obtain ⟨rfl, cell, q1, q2, q3, q4⟩ := hR.obj ci h1
  have hts' : ∀ w ∈ lw_tbl.filter goodWord, w.before args s = true := fun w hw => hts w (List.mem_filter.mp hw).1 (List.mem_filter.mp hw).2
  have hap := va_apart (own := mt.1.cls) hts' ci.2.1 ty ci.2.2.1 ci.2.2.2.1 hK.1 ci.1
  obtain ⟨hS', hfc, kC, hkC, hkind⟩ := hK.1.1 t _ ci.1
  obtain ⟨cf, kf, fi, f, hi, hsl⟩ := hS' k hk
  have hlay := hts' _ (ci.2.1 _ (u_in_lay hk))
  unfold u_lay at hlay
  rw [if_neg (by rw [hfin]; decide)] at hlay
  have hst := (u_facts hfc hkC (u_lays hts' ci.2.1 hk) hi).1
  have h6 := u_store hfc hkC hkind hlay hi (ci.2.2.1 k hk) hn hfit
  refine va_WputK hx hb (f := f) hown (va_Nw.use rfl (hK.2.1 _ hlk rfl)) (by rw [ci.2.2.2.2 k hk] at hi; exact hi) hst (by rw [q2]; exact h6) q1 q3 (by rw [hsl]; exact k2_hasslot (q4 k hk)) rfl rfl hd fun H' e1 e2 e3 => ?_
  rw [hsl] at e1 ⊢
  have ht : t < 11 := by
    have := (List.getElem?_eq_some_iff.mp ci.1).1
    simpa using this
  refine kk p e s m args below meth c H' _ ls C1 (hR.put h1 (Or.inl ⟨ht, _, ci.1, rfl, _, e1, q2, q3, t_set q4 hap hk v⟩) e2 e3) (hS.put e2 e3 (hA a (by rw [h1]; exact fun h => by cases h))) hA hl
theorem BW.putF (hd : decode mt.2.1 pc = .ok (.putfield idx, 3)) (ci : CI t C T N ty) (hk : k < N) (hlk : Cond.fieldLink mt.1.cls idx C (T k).2.1 (T k).2.2.1 ∈ lw_tbl) (hfin : (T k).2.2.2 = true) (hi2 : mt.1.name = "<init>") (hC : C = mt.1.cls) (hn : narrow (ty k) v = v) (hfit : fits (ty k) v = true) (hv : pV t σ a k v = some σ') (kk : BW G mt E cells slots (pc + 3) lv st σ') : BW G mt E cells slots pc lv (v :: .ref a :: st) σ := by
  intro p e s m args below meth c H locs ls C0 hR hS hA hl
  have C1 := C0
  obtain ⟨hx, hb, -, -, -, hown, hts, hK, -, -, -, hin2, -⟩ := C0
  obtain ⟨n, h1, h2, rfl⟩ := pV_spec hv
  obtain ⟨rfl, cell, q1, q2, q3, q4⟩ := hR.obj ci h1
  have hts' : ∀ w ∈ lw_tbl.filter goodWord, w.before args s = true := fun w hw => hts w (List.mem_filter.mp hw).1 (List.mem_filter.mp hw).2
  have hap := va_apart (own := mt.1.cls) hts' ci.2.1 ty ci.2.2.1 ci.2.2.2.1 hK.1 ci.1
  obtain ⟨hS', hfc, kC, hkC, hkind⟩ := hK.1.1 t _ ci.1
  obtain ⟨cf, kf, fi, f, hi, hsl⟩ := hS' k hk
  have hlay := hts' _ (ci.2.1 _ (u_in_lay hk))
  unfold u_lay at hlay
  rw [if_pos hfin] at hlay
  have hst := (u_facts hfc hkC (u_lays hts' ci.2.1 hk) hi).1
  have hcf : m.cls = cf := by
    obtain ⟨_, _, c', _, _, _, -, -, hf', -, -, -, hown2, -⟩ := Cond.laysFinal_spec hlay
    have e1 : c' = cf := by have := hi.symm.trans hf'; simp at this; exact this.1.symm
    rw [ci.2.2.2.2 k hk, hC] at hown2
    rw [← e1]; exact Option.some.inj (hown.symm.trans hown2)
  have h6 := u_fits hfc hkC hkind (Or.inr hlay) hi (ci.2.2.1 k hk) hn hfit
  refine W.putFinK hx hb hown (hts _ hlk rfl) (by rw [ci.2.2.2.2 k hk] at hi; exact hi) hst hcf (by rw [hin2]; exact hi2) (by rw [q2]; exact h6) q1 q3 (by rw [hsl]; exact k2_hasslot (q4 k hk)) rfl rfl hd fun H' e1 e2 e3 => ?_
  rw [hsl] at e1 ⊢
  have ht : t < 11 := by
    have := (List.getElem?_eq_some_iff.mp ci.1).1
    simpa using this
  refine kk p e s m args below meth c H' _ ls C1 (hR.put h1 (Or.inl ⟨ht, _, ci.1, rfl, _, e1, q2, q3, t_set q4 hap hk v⟩) e2 e3) (hS.put e2 e3 (hA a (by rw [h1]; exact fun h => by cases h))) hA hl
end BWH
