/-! ===== the law's case of told ===== -/
section X99b
variable {p : Program} {l : Launch} {e : Env} {R : Room} {s : State} {m : MethodId} {args : Array Value} {below : List Frame} {meth : Method} {c : Code} {H : Heap} {locs : List Loc} {cells slots : Nat} {Q : State → Prop} {cc : ByteArray} {pc : Nat} {ls : Array Slot} {rest : List Value}
theorem lv_lcmp (hexec : p.tables.exec = Jvm.exec) (hb : c.code = cc) {x : Int64} (hdg : decode cc pc = .ok (.lcmp, 1))
    (k : W p l e R s m args below meth c H locs cells slots Q (F0 m (pc + 1) ls (.int 0 :: rest))) : W p l e R s m args below meth c H locs cells slots Q (F0 m pc ls (.long x :: .long x :: rest)) := by
  intro T hT X
  obtain ⟨t, a, b⟩ := k T hT X
  refine ⟨t, ?_, b⟩
  jvm_step X.here [X.here.top, hexec, hb, hdg]
  simpa using a
end X99b
section X99c
variable {G : Cx} {B : Nat} {σ σ' : Sg} {A : AS}
theorem MW_kp' {f : Nat → Int} {e : Nat → Int → Int} (hz : B + 90 ≤ σ.1) (h : σ = MW (B + 70) σ f e) (hS : Msh (B + 70) σ) (k2 : σ'.2.1 = σ.2.1) (k3 : ∀ a, a ≠ B + 89 → σ'.2.2 a = σ.2.2 a) : σ' = MW (B + 70) σ' f e ∧ Msh (B + 70) σ' := by
  refine ⟨Prod.ext rfl (Prod.ext rfl (funext fun a => ?_)), fun j hj => by rw [k2]; exact hS j hj⟩
  by_cases c : B + 70 ≤ a ∧ a < B + 89
  · have e1 := k3 a (by omega)
    have e2 : σ.2.2 a = (MW (B + 70) σ f e).2.2 a := congrArg (fun t : Sg => t.2.2 a) h
    rw [e1, e2]
    by_cases c2 : a = B + 70
    · funext i
      rw [c2, MW_M, MW_M]
    · obtain ⟨r, rfl⟩ : ∃ r, a = B + 70 + r := ⟨a - (B + 70), by omega⟩
      rw [MW_r _ _ _ _ (by omega) (by omega), MW_r _ _ _ _ (by omega) (by omega)]
  · rw [MW_far _ _ _ _ (by omega)]
/-- what stands after the law's told, and what the reference answers -/
theorem told_pair {w z : Int} (h : Jn B σ A) (hw : RI w) (hz : RI z) (k1 : σ.1 ≤ σ'.1) (k2 : σ'.2.1 = σ.2.1) (k3 : ∀ a, a ≠ B + 89 → σ'.2.2 a = σ.2.2 a) (kx : ∃ x, σ'.2.2 (B + 89) 0 = .long x) :
    ∃ r t σ2, mX10_told 2000000 σ' (B + 70) (iI w) (iI z) = some (iI r, σ2) ∧ mX10_thrown 2000000 σ2 (B + 70) = some (iI t, σ2) ∧ Jn B σ2 A ∧ σ2.2.2 (B + 89) = σ'.2.2 (B + 89) ∧ ((isW A w ∧ 0 ≤ z ∧ z ≤ 4) → t = 0 ∧ r = tldV (wk A w.toNat) z) ∧ (¬ (isW A w ∧ 0 ≤ z ∧ z ≤ 4) → t = 1) := by
  obtain ⟨wa, f, e, g1, g2, g3, g4, g5, g6⟩ := h
  have hsz := g1.sz
  obtain ⟨m1, m2⟩ := MW_kp' hsz g2 g3 k2 k3
  obtain ⟨r, f', a1, a2, a3⟩ := m_told (n := 2000000) m2 g4 g1.2.2 hw hz le_n1
  rw [← m1] at a1
  have W := mAll m2
  have hst : St B wa σ' A := g1.ext2 k1 (fun a _ => by rw [k2]) (fun a _ ha => k3 a (by omega))
  have hfar : (MW (B + 70) σ' f' e).2.2 (B + 89) = σ'.2.2 (B + 89) := MW_far _ _ _ _ (by omega)
  refine ⟨r, f' 0, MW (B + 70) σ' f' e, a1, ?_, ⟨wa, f', e, hst.mw f' e, MW_MW.symm, m2, a2, by show σ'.2.1 (B + 89) = _; rw [k2]; exact g5, by rw [hfar]; exact kx⟩, hfar, fun q => ?_, fun q => ?_⟩
  · unfold mX10_thrown
    simp only [W, Option.bind_some]
  · rcases a3 with ⟨b1, b2, b3, b4, b5⟩ | ⟨b1, b2⟩
    · exact ⟨b4, b5⟩
    · exact (b1 q).elim
  · rcases a3 with ⟨b1, b2, b3, b4, b5⟩ | ⟨b1, b2⟩
    · exact (q ⟨b1, b2, b3⟩).elim
    · exact b2
end X99c
