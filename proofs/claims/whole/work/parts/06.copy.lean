/-! ===== System.arraycopy of ints ===== -/
def allI (f : Nat → Value) (sp n : Nat) : Bool := (List.range n).all (fun j => (toI (some (f (sp + j)))).isSome)
def upA (m : Nat → Nat → Value) (a : Nat) (f : Nat → Value) : Nat → Nat → Value := fun a' => if a' = a then f else m a'
def cpA (σ : Sg) (a0 : Nat) (sp : Int32) (a : Nat) (dp n : Int32) : Option Sg := match σ.2.1 a0, σ.2.1 a with
  | some q0, some q1 => if q0.1 = 11 ∧ q1.1 = 11 ∧ ¬ sp < 0 ∧ ¬ dp < 0 ∧ ¬ n < 0 ∧ sp.toNatClampNeg + n.toNatClampNeg ≤ q0.2 ∧ dp.toNatClampNeg + n.toNatClampNeg ≤ q1.2 ∧ allI (σ.2.2 a0) sp.toNatClampNeg n.toNatClampNeg = true then some (σ.1, σ.2.1, upA σ.2.2 a (va_cpy (σ.2.2 a0) (σ.2.2 a) sp.toNatClampNeg dp.toNatClampNeg n.toNatClampNeg)) else none
  | _, _ => none
theorem cpA_spec {σ σ' : Sg} {a0 a : Nat} {sp dp n : Int32} (h : cpA σ a0 sp a dp n = some σ') : ∃ n0 n1, σ.2.1 a0 = some (11, n0) ∧ σ.2.1 a = some (11, n1) ∧ ¬ sp < 0 ∧ ¬ dp < 0 ∧ ¬ n < 0 ∧ sp.toNatClampNeg + n.toNatClampNeg ≤ n0 ∧ dp.toNatClampNeg + n.toNatClampNeg ≤ n1 ∧ (∀ j, j < n.toNatClampNeg → ∃ z, σ.2.2 a0 (sp.toNatClampNeg + j) = .int z) ∧ σ' = (σ.1, σ.2.1, upA σ.2.2 a (va_cpy (σ.2.2 a0) (σ.2.2 a) sp.toNatClampNeg dp.toNatClampNeg n.toNatClampNeg)) := by
  unfold cpA at h
  split at h
  · rename_i q0 q1 h0 h1
    obtain ⟨t0, n0⟩ := q0
    obtain ⟨t1, n1⟩ := q1
    split at h
    · rename_i hc
      cases h
      obtain ⟨rfl, rfl, c1, c2, c3, c4, c5, c6⟩ := hc
      refine ⟨n0, n1, h0, h1, c1, c2, c3, c4, c5, fun j hj => ?_, rfl⟩
      have h6 := List.all_eq_true.mp c6 j (List.mem_range.mpr hj)
      obtain ⟨z, hz⟩ := Option.isSome_iff_exists.mp h6
      exact ⟨z, Option.some.inj (toI_V hz)⟩
    · cases h
  · cases h
section BWCP
variable {G : Cx} {mt : Mt} {E : Ev} {cells slots pc : Nat} {lv : Lv} {st : List Value} {σ σ' : Sg} {a a0 idx : Nat} {sp dp n : Int32}
theorem BW.copy (hd : decode mt.2.1 pc = .ok (.invokestatic idx, 3)) (hlk : Cond.methodLink mt.1.cls idx arraycopyName ∈ lw_tbl) (hnat : Cond.native arraycopyName ∈ lw_tbl) (hst : Cond.static arraycopyName ∈ lw_tbl) (hini : Cond.initialized "java/lang/System" ∈ lw_tbl) (hw : (st.map fun v => v.category).sum ≤ 8) (hRm : 1 ≤ E.1.frames ∧ 8 + (nativeFrameWords "java/lang/System" "arraycopy" 5 + 11) ≤ E.1.locals) (hv : cpA σ a0 sp a dp n = some σ')
    (kk : BW G mt E cells slots (pc + 3) lv st σ') : BW G mt E cells slots pc lv (.int n :: .int dp :: .ref a :: .int sp :: .ref a0 :: st) σ := by
  intro p e s m args below meth c H locs ls C0 hR hS hA hl
  have C1 := C0
  obtain ⟨hx, hb, -, -, hml, hown, hts, hK, -⟩ := C0
  obtain ⟨n0, n1, g0, g1, h1, h2, h3, h4, h5, h6, rfl⟩ := cpA_spec hv
  have nn : ∀ z : Int32, ¬ z < 0 → z.toInt = (z.toNatClampNeg : Int) := by
    intro z hz
    have hz0 : (0 : Int) ≤ z.toInt := by
      have := Int32.not_lt.mp hz
      simpa using Int32.le_iff_toInt_le.mp this
    show z.toInt = ((z.toInt.toNat : Nat) : Int)
    omega
  have hc0 := hR.arr (Nat.le_refl 11) g0
  have hc1 := hR.arr (Nat.le_refl 11) g1
  obtain ⟨-, k0, hk0, cm0, hkk0⟩ := (hK.ty (Nat.le_refl 11) (by omega)).1 n0 (σ.2.2 a0)
  obtain ⟨-, k1, hk1, cm1, hkk1⟩ := (hK.ty (Nat.le_refl 11) (by omega)).1 n1 (σ.2.2 a)
  intro T hT X
  obtain ⟨vm', X', step⟩ := X.arraycopy hx hown (hts _ hlk rfl) (hts _ hnat rfl) (hts _ hst rfl) (hts _ hini rfl) (src := a0) (dst := a) (cs := arrV (G.2.2.1 11) n0 (σ.2.2 a0)) (cd := arrV (G.2.2.1 11) n1 (σ.2.2 a)) (srcPos := sp) (destPos := dp) (n := n) (by rw [hT]; exact hc0) (by rw [hT]; exact hc1)
    (fun _ h => by cases h) (fun _ h => by cases h) (fun h => by cases h) (fun h => by cases h) hk0 hk1 hkk0 hkk1 (by simp [tgF, refKind]) h1 h2 h3
    (by rw [nn sp h1, nn n h3, arrV_size]; omega)
    (by rw [nn dp h2, nn n h3, arrV_size]; omega)
    (fun vm₁ _ i hi => by
      obtain ⟨z, hz⟩ := h6 i hi
      have e : (arrV (G.2.2.1 11) n0 (σ.2.2 a0)).slots.getD (sp.toNatClampNeg + i) .null = .int z := by
        rw [Array.getD_eq_getD_getElem?, arrV_read _ _ (by omega), hz]
        rfl
      refine ⟨?_, ?_⟩
      · rw [e]; rfl
      · rw [e]; exact trivial)
    (g := F0 m pc ls (.int n :: .int dp :: .ref a :: .int sp :: .ref a0 :: st)) rfl (hl.1.trans hml.symm) (rest := st) rfl (by rw [hb]; exact hd) hRm.1 (by show 2 * 0 + _ + _ ≤ _; omega)
  have e1 : copied (arrV (G.2.2.1 11) n0 (σ.2.2 a0)) (arrV (G.2.2.1 11) n1 (σ.2.2 a)) sp dp n = arrV (G.2.2.1 11) n1 (va_cpy (σ.2.2 a0) (σ.2.2 a) sp.toNatClampNeg dp.toNatClampNeg n.toNatClampNeg) := va_copied (fun z => z) _ _ _ _ h4
  rw [e1] at X' step
  generalize hnew : arrV (G.2.2.1 11) n1 (va_cpy (σ.2.2 a0) (σ.2.2 a) sp.toNatClampNeg dp.toNatClampNeg n.toNatClampNeg) = nc at X' step
  have hlt : a < H.size := (Array.getElem?_eq_some_iff.mp hc1).1
  have hheap : ((T.setVm vm').setCell a nc).heap = H.setIfInBounds a nc := by rw [← hT]; rfl
  have oq : ∀ q : Nat, q ≠ a → (H.setIfInBounds a nc)[q]? = H[q]? := fun q hq => by simp [Array.getElem?_setIfInBounds, Ne.symm hq]
  have hca : (H.setIfInBounds a nc)[a]? = some nc := by simp [Array.getElem?_setIfInBounds, hlt]
  have hAa : E.2.1 a := hA a (by rw [g1]; exact fun h => by cases h)
  have hR' : RepS G (H.setIfInBounds a nc) (σ.1, σ.2.1, upA σ.2.2 a (va_cpy (σ.2.2 a0) (σ.2.2 a) sp.toNatClampNeg dp.toNatClampNeg n.toNatClampNeg)) := by
    refine ⟨by simp; exact hR.1, hR.2.1, fun b t' n' hb' => ?_⟩
    by_cases hba : b = a
    · subst hba
      have h1 : σ.2.1 b = some (t', n') := hb'
      rw [g1] at h1
      cases h1
      show celR G _ b 11 n1 (upA σ.2.2 b _ b)
      unfold upA
      rw [if_pos rfl]
      exact Or.inr ⟨Nat.le_refl 11, by rw [hca, ← hnew]⟩
    · show celR G _ b t' n' (upA σ.2.2 a _ b)
      unfold upA
      rw [if_neg hba]
      exact (hR.2.2 b t' n' hb').kept (oq b hba)
  obtain ⟨t, a1, b1⟩ := kk p e s m args below meth c _ _ ls C1 hR' ⟨by simp; exact hS.1, fun q g1 g2 => by
      rw [oq q (fun e => g2 (by rw [e]; exact hAa))]
      exact hS.2.1 q g1 g2, fun q hq => by
      rcases List.mem_append.mp hq with h | h
      · exact hS.2.2 q h
      · obtain ⟨z, -, hz⟩ := List.mem_map.mp h
        rw [← hz]
        exact hAa⟩ hA hl _ hheap X'
  exact ⟨t, step t a1, b1⟩
end BWCP
