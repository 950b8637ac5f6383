/-! ===== makings, with names for what is made ===== -/
def nwO (t n : Nat) (f : Nat → Value) (σ : Sg) : Option (Nat × Sg) := some (σ.1, nw σ t n f)
section BWN
variable {G : Cx} {mt : Mt} {E : Ev} {cells slots pc : Nat} {lv : Lv} {st : List Value} {σ σ' : Sg} {b t idx n : Nat} {C : String} {T : u_T} {N : Nat} {ty : Nat → FieldType} {x : Int32}
theorem BW.newB (hd : decode mt.2.1 pc = .ok (.new idx, 3)) (ci : CI t C T N ty) (hm : Cond.classLink mt.1.cls idx C ∈ lw_tbl) (hi : Cond.instantiable C N ∈ lw_tbl) (hini : Cond.initialized C ∈ lw_tbl) (hc : cells + 1 ≤ E.1.cells) (hs : slots + N ≤ E.1.slots) (e : nwO t N (fun j => defaultValue (ty j)) σ = some (b, σ'))
    (kk : BW G mt E (cells + 1) (slots + N) (pc + 3) lv (.ref b :: st) σ') : BW G mt E cells slots pc lv st σ := by
  cases e
  exact BW.new hd ci hm hi hini hc hs kk
theorem BW.newaB {atype : ArrayType} {f : Nat → Value} (hd : decode mt.2.1 pc = .ok (.newarray atype, 2)) (ht : (t = 11 ∧ atype = .int) ∨ (t = 12 ∧ atype = .long)) (hm : Cond.arrayClass (newarray.typeOf atype) ∈ lw_tbl) (hn : ¬ x < 0) (hN : x.toNatClampNeg = n) (hby : n ≤ 60000000) (hc : cells + 1 ≤ E.1.cells) (hs : slots + n ≤ E.1.slots) (e : nwO t n f σ = some (b, σ')) (hf : f = fun _ => defaultValue (tgF t))
    (kk : BW G mt E (cells + 1) (slots + n) (pc + 2) lv (.ref b :: st) σ') : BW G mt E cells slots pc lv (.int x :: st) σ := by
  cases e
  subst hf
  exact BW.newa hd ht hm hn hN hby hc hs kk
theorem BW.anewB (hd : decode mt.2.1 pc = .ok (.anewarray idx, 3)) (ht : 13 ≤ t ∧ t ≤ 15) (hC : tgF t = .object C) (hm : Cond.classLink mt.1.cls idx C ∈ lw_tbl) (hn : ¬ x < 0) (hN : x.toNatClampNeg = n) (hby : n ≤ 60000000) (hc : cells + 1 ≤ E.1.cells) (hs : slots + n ≤ E.1.slots) (e : nwO t n (fun _ => .null) σ = some (b, σ'))
    (kk : BW G mt E (cells + 1) (slots + n) (pc + 3) lv (.ref b :: st) σ') : BW G mt E cells slots pc lv (.int x :: st) σ := by
  cases e
  exact BW.anew hd ht hC hm hn hN hby hc hs kk
end BWN
