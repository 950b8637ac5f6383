/-! ===== Math.max, Math.min ===== -/
def jmax (x y : Int32) : Int32 := if x < y then y else x
def jmin (x y : Int32) : Int32 := if y < x then y else x
set_option maxRecDepth 100000 in
theorem ma_static : Cond.static Lib.Math.max.name ∈ lw_tbl := smJ_max
set_option maxRecDepth 100000 in
theorem mi_static : Cond.static Lib.Math.min.name ∈ lw_tbl := smJ_min
set_option maxRecDepth 100000 in
theorem ma_code : Cond.code Lib.Math.max.name Lib.Math.max.code 2 (some .int) ∈ lw_tbl := mfJ_max.1
set_option maxRecDepth 100000 in
theorem mi_code : Cond.code Lib.Math.min.name Lib.Math.min.code 2 (some .int) ∈ lw_tbl := mfJ_min.1
section BWM
variable {G : Cx} {mt : Mt} {E : Ev} {cells slots pc : Nat} {lv : Lv} {st : List Value} {σ : Sg} {idx : Nat} {x y : Int32}
theorem BW.mmax (hd : decode mt.2.1 pc = .ok (.invokestatic idx, 3)) (hlk : Cond.methodLink mt.1.cls idx tJ_max.1 ∈ lw_tbl) (hw : (st.map fun v => v.category).sum ≤ 8) (hRm : 1 ≤ E.1.frames ∧ 21 ≤ E.1.locals) (hc : cells ≤ E.1.cells ∧ slots ≤ E.1.slots) (kk : BW G mt E cells slots (pc + 3) lv (.int (jmax x y) :: st) σ) : BW G mt E cells slots pc lv (.int y :: .int x :: st) σ := by
  intro p e s m args below meth c H locs ls C0 hR hS hA hl
  have hts := C0.2.2.2.2.2.2.1
  exact va_mmax C0.1 C0.2.1 (C0.2.2.2.2.1.trans hl.1.symm) C0.2.2.2.2.2.1 (hts _ hlk rfl) (hts _ ma_static rfl) (hts _ mfJ_max.2.1 rfl) (hts _ ma_code rfl) hRm.1 (by omega) hc.1 hc.2 hd (kk p e s m args below meth c H locs ls C0 hR hS hA hl)
theorem BW.mmin (hd : decode mt.2.1 pc = .ok (.invokestatic idx, 3)) (hlk : Cond.methodLink mt.1.cls idx tJ_min.1 ∈ lw_tbl) (hw : (st.map fun v => v.category).sum ≤ 8) (hRm : 1 ≤ E.1.frames ∧ 21 ≤ E.1.locals) (hc : cells ≤ E.1.cells ∧ slots ≤ E.1.slots) (kk : BW G mt E cells slots (pc + 3) lv (.int (jmin x y) :: st) σ) : BW G mt E cells slots pc lv (.int y :: .int x :: st) σ := by
  intro p e s m args below meth c H locs ls C0 hR hS hA hl
  have hts := C0.2.2.2.2.2.2.1
  exact va_mmin C0.1 C0.2.1 (C0.2.2.2.2.1.trans hl.1.symm) C0.2.2.2.2.2.1 (hts _ hlk rfl) (hts _ mi_static rfl) (hts _ mfJ_min.2.1 rfl) (hts _ mi_code rfl) hRm.1 (by omega) hc.1 hc.2 hd (kk p e s m args below meth c H locs ls C0 hR hS hA hl)
end BWM
