/-! ===== every pair of calls: one answer, one state (printed by wip/whole/gen94.py) ===== -/
theorem le_n1 : 100000 ≤ 2000000 := by decide
theorem le_n2 : 2000000 ≤ 2000000 := by decide
section X94
variable {B : Nat} {σ : Sg} {A : AS}
theorem j_feed (h : Jn B σ A) (y0 y1 y2 y3 y4 : Int32) : JP B (fun s => mX9_feed 2000000 s B y0 y1 y2 y3 y4) (fun s => mX10_feed 2000000 s (B + 70) y0 y1 y2 y3 y4) σ := by
  refine h.chg (fun _ _ _ _ a b => Feed.unique a b) (fun wa hs => ?_) (fun σ' f e p q w => m_feed (n := 2000000) p q w y0 y1 y2 y3 y4 le_n1)
  obtain ⟨r, A', σ', a, b, c, d⟩ := x_feed (n := 2000000) hs y0 y1 y2 y3 y4 le_n1
  exact ⟨r, A', wa, σ', a, b, c, d⟩
theorem j_end (h : Jn B σ A) (y0 : Int32) : JP B (fun s => mX9_end 2000000 s B y0) (fun s => mX10_end 2000000 s (B + 70) y0) σ := by
  rw [iI_of y0]
  refine h.chg (fun _ _ _ _ a b => EndQ.unique a b) (fun wa hs => ?_) (fun σ' f e p q w => m_end (n := 2000000) p q w (RI_of y0))
  obtain ⟨r, A', σ', a, b, c, d⟩ := x_end (n := 2000000) hs (RI_of y0)
  exact ⟨r, A', wa, σ', a, b, c, d⟩
theorem j_fault (h : Jn B σ A) : JP B (fun s => mX9_fault 2000000 s B) (fun s => mX10_fault 2000000 s (B + 70)) σ := by
  refine h.ask (R := fun r => r = flt A) (fun _ _ _ a b => a.trans b.symm) (fun wa hs => ?_) (fun σ' f e p q w => ?_)
  · obtain ⟨σ', a, b, c⟩ := x_fault (n := 2000000) hs le_n1
    exact ⟨_, σ', a, b, c, rfl⟩
  · obtain ⟨f', e', a, b⟩ := m_fault (n := 2000000) p q w le_n1
    exact ⟨_, f', e', a, b, rfl⟩
theorem j_walk (h : Jn B σ A) (y0 y1 : Int32) : JP B (fun s => mX9_walk 2000000 s B y0 y1) (fun s => mX10_walk 2000000 s (B + 70) y0 y1) σ := by
  rw [iI_of y0]
  rw [iI_of y1]
  exact h.chg (fun _ _ _ _ a b => WalkQ.unique a b) (fun wa hs => x_walk (n := 2000000) hs (RI_of y0) (RI_of y1) le_n2) (fun σ' f e p q w => m_walk (n := 2000000) p q w (RI_of y0) (RI_of y1) le_n1)
theorem j_where (h : Jn B σ A) (y0 y1 : Int32) : JP B (fun s => mX9_where 2000000 s B y0 y1) (fun s => mX10_where 2000000 s (B + 70) y0 y1) σ := by
  rw [iI_of y0]
  rw [iI_of y1]
  refine h.ask (R := fun r => r = _) (fun _ _ _ a b => a.trans b.symm) (fun wa hs => ⟨_, σ, x_where (n := 2000000) hs.1 hs.2.2 (RI_of y0) (RI_of y1), hs, Fr.refl _ _, rfl⟩) (fun σ' f e p q w => ⟨_, f, e, m_where (n := 2000000) p q w (RI_of y0) (RI_of y1), q, rfl⟩)
theorem j_latest (h : Jn B σ A) (y0 y1 y2 : Int32) : JP B (fun s => mX9_latest 2000000 s B y0 y1 y2) (fun s => mX10_latest 2000000 s (B + 70) y0 y1 y2) σ := by
  rw [iI_of y0]
  rw [iI_of y1]
  rw [iI_of y2]
  refine h.ask (R := fun r => r = _) (fun _ _ _ a b => a.trans b.symm) (fun wa hs => ⟨_, σ, x_latest (n := 2000000) hs.1 hs.2.2 (RI_of y0) (RI_of y1) (RI_of y2), hs, Fr.refl _ _, rfl⟩) (fun σ' f e p q w => ⟨_, f, e, m_latest (n := 2000000) p q w (RI_of y0) (RI_of y1) (RI_of y2) le_n1, q, rfl⟩)
theorem j_prints (h : Jn B σ A) (y0 y1 : Int32) : JP B (fun s => mX9_prints 2000000 s B y0 y1) (fun s => mX10_prints 2000000 s (B + 70) y0 y1) σ := by
  rw [iI_of y0]
  rw [iI_of y1]
  refine h.ask (R := fun r => r = _) (fun _ _ _ a b => a.trans b.symm) (fun wa hs => ⟨_, σ, x_prints (n := 2000000) hs.1 hs.2.2 (RI_of y0) (RI_of y1) le_n1, hs, Fr.refl _ _, rfl⟩) (fun σ' f e p q w => ⟨_, f, e, m_prints (n := 2000000) p q w (RI_of y0) (RI_of y1) le_n1, q, rfl⟩)
theorem j_fact (h : Jn B σ A) (y0 y1 y2 y3 y4 y5 : Int32) : JP B (fun s => mX9_fact 2000000 s B y0 y1 y2 y3 y4 y5) (fun s => mX10_fact 2000000 s (B + 70) y0 y1 y2 y3 y4 y5) σ := by
  rw [iI_of y0]
  rw [iI_of y1]
  rw [iI_of y2]
  rw [iI_of y3]
  rw [iI_of y4]
  rw [iI_of y5]
  refine h.chg (fun _ _ _ _ a b => AddQ.unique a b) (fun wa hs => ?_) (fun σ' f e p q w => m_fact (n := 2000000) p q w (RI_of y0) (RI_of y1) (RI_of y2) (RI_of y3) (RI_of y4) (RI_of y5) le_n1)
  obtain ⟨r, A', σ', a, b, c, d⟩ := x_fact (n := 2000000) hs (RI_of y0) (RI_of y1) (RI_of y2) (RI_of y3) (RI_of y4) (RI_of y5)
  exact ⟨r, A', wa, σ', a, b, c, d⟩
theorem j_undo (h : Jn B σ A) : JP B (fun s => mX9_undo 2000000 s B) (fun s => mX10_undo 2000000 s (B + 70)) σ := by
  refine h.chg (R := fun A1 r => A1 = (if fn A = 0 then A else setFn A (fn A - 1) (fc A)) ∧ r = if fn A = 0 then -1 else (fn A : Int) - 1) (fun _ _ _ _ a b => ⟨a.1.trans b.1.symm, a.2.trans b.2.symm⟩) (fun wa hs => ?_) (fun σ' f e p q w => ?_)
  · obtain ⟨r, σ', a, b, c, d⟩ := x_undo (n := 2000000) hs
    exact ⟨r, _, wa, σ', a, b, c, rfl, d⟩
  · obtain ⟨r, f', e', a, b, c⟩ := m_undo (n := 2000000) p q w
    exact ⟨r, _, f', e', a, b, rfl, c⟩
theorem j_words (h : Jn B σ A) (y0 : Int32) : JP B (fun s => mX9_words 2000000 s B y0) (fun s => mX10_words 2000000 s (B + 70) y0) σ := by
  rw [iI_of y0]
  refine h.ask (R := fun r => r = _) (fun _ _ _ a b => a.trans b.symm) (fun wa hs => ⟨_, σ, x_words (n := 2000000) hs.1 hs.2.2 (RI_of y0) le_n1, hs, Fr.refl _ _, rfl⟩) (fun σ' f e p q w => ⟨_, f, e, m_words (n := 2000000) p q w (RI_of y0) le_n1, q, rfl⟩)
theorem j_can (h : Jn B σ A) (y0 : Int32) : JP B (fun s => mX9_can 2000000 s B y0) (fun s => mX10_can 2000000 s (B + 70) y0) σ := by
  refine h.ask (fun hA _ _ a b => ?_) (fun wa hs => x_can (n := 2000000) hs y0 le_n1) (fun σ' f e p q w => m_can (n := 2000000) p q w y0 le_n1)
  rcases a with ⟨a1, a2⟩ | ⟨a1, a2, a3⟩ | ⟨a1, a2, a3⟩ <;> rcases b with ⟨b1, b2⟩ | ⟨b1, b2, b3⟩ | ⟨b1, b2, b3⟩ <;> first | (exact (a1 b1).elim) | (exact (b1 a1).elim) | (exact (a2 b2).elim) | (exact (b2 a2).elim) | omega
theorem j_bars (h : Jn B σ A) (y0 : Int32) : JP B (fun s => mX9_bars 2000000 s B y0) (fun s => mX10_bars 2000000 s (B + 70) y0) σ := by
  exact h.ask (fun hA _ _ a b => Bars.unique a b) (fun wa hs => x_bars (n := 2000000) hs y0 le_n1) (fun σ' f e p q w => m_bars (n := 2000000) p q w y0 le_n1)
theorem j_core (h : Jn B σ A) (y0 : Int32) : JP B (fun s => mX9_core 2000000 s B y0) (fun s => mX10_core 2000000 s (B + 70) y0) σ := by
  exact h.ask (fun hA _ _ a b => CoreQ.unique a b) (fun wa hs => x_core (n := 2000000) hs y0 le_n1) (fun σ' f e p q w => m_core (n := 2000000) p q w y0 le_n2)
theorem j_liars (h : Jn B σ A) (y0 : Int32) : JP B (fun s => mX9_liars 2000000 s B y0) (fun s => mX10_liars 2000000 s (B + 70) y0) σ := by
  exact h.ask (fun hA _ _ a b => a.unique (fun _ b1 b2 => b1.unique hA b2) b) (fun wa hs => x_liars (n := 2000000) hs y0 le_n1) (fun σ' f e p q w => m_liars (n := 2000000) p q w y0 le_n1)
theorem j_begins (h : Jn B σ A) (y0 y1 y2 : Int32) : JP B (fun s => mX9_begins 2000000 s B y0 y1 y2) (fun s => mX10_begins 2000000 s (B + 70) y0 y1 y2) σ := by
  rw [iI_of y1]
  rw [iI_of y2]
  exact h.ask (fun hA _ _ a b => Begins.unique a b) (fun wa hs => x_begins (n := 2000000) hs y0 (RI_of y1) (RI_of y2) le_n1) (fun σ' f e p q w => m_begins (n := 2000000) p q w y0 (RI_of y1) (RI_of y2) le_n1)
theorem j_gap (h : Jn B σ A) (y0 y1 y2 y3 : Int32) : JP B (fun s => mX9_gap 2000000 s B y0 y1 y2 y3) (fun s => mX10_gap 2000000 s (B + 70) y0 y1 y2 y3) σ := by
  rw [iI_of y1]
  rw [iI_of y2]
  rw [iI_of y3]
  exact h.ask (fun hA _ _ a b => u_gap a b) (fun wa hs => x_gap (n := 2000000) hs y0 (RI_of y1) (RI_of y2) (RI_of y3) le_n1) (fun σ' f e p q w => m_gap (n := 2000000) p q w y0 (RI_of y1) (RI_of y2) (RI_of y3) le_n1)
theorem j_crossings (h : Jn B σ A) (y0 y1 y2 : Int32) : JP B (fun s => mX9_crossings 2000000 s B y0 y1 y2) (fun s => mX10_crossings 2000000 s (B + 70) y0 y1 y2) σ := by
  rw [iI_of y0]
  rw [iI_of y1]
  rw [iI_of y2]
  refine h.ask (R := Two (isW A y0.toInt ∧ isW A y1.toInt ∧ y0.toInt ≠ y1.toInt) (-1) (Crsg (wk A y0.toInt.toNat) (wk A y1.toInt.toNat) y2.toInt)) (fun hA _ _ a b => Two.unique (fun _ b1 b2 => b1.unique b2) a b) (fun wa hs => ?_) (fun σ' f e p q w => ?_)
  · obtain ⟨r, a, b⟩ := x_crossings (n := 2000000) hs (RI_of y0) (RI_of y1) (RI_of y2) le_n1
    exact ⟨r, σ, a, hs, Fr.refl _ _, b⟩
  · obtain ⟨r, a, b⟩ := m_crossings (n := 2000000) p q w (RI_of y0) (RI_of y1) (RI_of y2) le_n1
    exact ⟨r, f, e, a, q, b⟩
theorem j_sure (h : Jn B σ A) (y0 y1 y2 y3 y4 : Int32) : JP B (fun s => mX9_sure 2000000 s B y0 y1 y2 y3 y4) (fun s => mX10_sure 2000000 s (B + 70) y0 y1 y2 y3 y4) σ := by
  rw [iI_of y1]
  rw [iI_of y2]
  rw [iI_of y3]
  rw [iI_of y4]
  exact h.ask (fun hA _ _ a b => u_sure a b) (fun wa hs => x_sure (n := 2000000) hs y0 (RI_of y1) (RI_of y2) (RI_of y3) (RI_of y4) le_n1) (fun σ' f e p q w => m_sure (n := 2000000) p q w y0 (RI_of y1) (RI_of y2) (RI_of y3) (RI_of y4) le_n1)
theorem j_ahead (h : Jn B σ A) (y0 y1 y2 : Int32) : JP B (fun s => mX9_ahead 2000000 s B y0 y1 y2) (fun s => mX10_ahead 2000000 s (B + 70) y0 y1 y2) σ := by
  rw [iI_of y1]
  rw [iI_of y2]
  exact h.ask (fun hA _ _ a b => u_ahead a b) (fun wa hs => x_ahead (n := 2000000) hs y0 (RI_of y1) (RI_of y2) le_n1) (fun σ' f e p q w => m_ahead (n := 2000000) p q w y0 (RI_of y1) (RI_of y2) le_n1)
theorem j_span (h : Jn B σ A) (y0 : Int32) : JP B (fun s => mX9_span 2000000 s B y0) (fun s => mX10_span 2000000 s (B + 70) y0) σ := by
  exact h.ask (fun hA _ _ a b => u_span a b) (fun wa hs => x_span (n := 2000000) hs y0 le_n1) (fun σ' f e p q w => m_span (n := 2000000) p q w y0 le_n1)
theorem j_look (h : Jn B σ A) (y0 y1 : Int32) : JP B (fun s => mX9_look 2000000 s B y0 y1) (fun s => mX10_look_ 2000000 s (B + 70) y0 y1) σ := by
  rw [iI_of y1]
  exact h.ask (fun hA _ _ a b => u_look a b) (fun wa hs => x_look (n := 2000000) hs y0 (RI_of y1) le_n1) (fun σ' f e p q w => m_look (n := 2000000) p q w y0 (RI_of y1) le_n1)
theorem j_meets (h : Jn B σ A) (y0 y1 y2 : Int32) : JP B (fun s => mX9_meets 2000000 s B y0 y1 y2) (fun s => mX10_meets 2000000 s (B + 70) y0 y1 y2) σ := by
  rw [iI_of y1]
  rw [iI_of y2]
  exact h.ask (fun hA _ _ a b => u_meets a b) (fun wa hs => x_meets (n := 2000000) hs y0 (RI_of y1) (RI_of y2) le_n1) (fun σ' f e p q w => m_meets (n := 2000000) p q w y0 (RI_of y1) (RI_of y2) le_n1)
theorem j_one (h : Jn B σ A) (y0 y1 y2 : Int32) : JP B (fun s => mX9_one 2000000 s B y0 y1 y2) (fun s => mX10_one 2000000 s (B + 70) y0 y1 y2) σ := by
  rw [iI_of y1]
  rw [iI_of y2]
  exact h.ask (fun hA _ _ a b => u_one a b) (fun wa hs => x_one (n := 2000000) hs y0 (RI_of y1) (RI_of y2) le_n1) (fun σ' f e p q w => m_one (n := 2000000) p q w y0 (RI_of y1) (RI_of y2) le_n1)
theorem j_walkers (h : Jn B σ A) (y0 : Int32) : JP B (fun s => mX9_walkers 2000000 s B y0) (fun s => mX10_walkers 2000000 s (B + 70) y0) σ := by
  exact h.ask (fun hA _ _ a b => u_walkers a b) (fun wa hs => x_walkers (n := 2000000) hs y0 le_n1) (fun σ' f e p q w => m_walkers (n := 2000000) p q w y0 le_n1)
theorem j_start (h : Jn B σ A) (y0 y1 : Int32) : JP B (fun s => mX9_start 2000000 s B y0 y1) (fun s => mX10_start 2000000 s (B + 70) y0 y1) σ := by
  rw [iI_of y0]
  rw [iI_of y1]
  refine h.chg (fun _ _ _ _ a b => Start.unique a b) (fun wa hs => ?_) (fun σ' f e p q w => m_start (n := 2000000) p q w (RI_of y0) (RI_of y1))
  obtain ⟨r, A', σ', a, b, c, d⟩ := x_start (n := 2000000) hs (RI_of y0) (RI_of y1)
  exact ⟨r, A', wa, σ', a, b, c, d⟩
theorem j_judge (h : Jn B σ A) (y0 : Int32) : JP B (fun s => mX9_judge 2000000 s B y0) (fun s => mX10_judge 2000000 s (B + 70) y0) σ := by
  refine h.ask (R := Two (un y0 < 2 ^ fn A) (-1) (Judge A y0)) (fun hA _ _ a b => Two.unique (fun _ b1 b2 => b1.unique b2) a b) (fun wa hs => ?_) (fun σ' f e p q w => ?_)
  · obtain ⟨r, a, b⟩ := x_judge (n := 2000000) hs.1 hs.2.2 y0 le_n1
    exact ⟨r, σ, a, hs, Fr.refl _ _, b⟩
  · obtain ⟨r, a, b⟩ := m_judge (n := 2000000) p q w y0 le_n1
    exact ⟨r, f, e, a, q, b⟩
theorem j_top (h : Jn B σ A) (y0 y1 : Int32) : JP B (fun s => mX9_top 2000000 s B y0 y1) (fun s => mX10_top 2000000 s (B + 70) y0 y1) σ := by
  rw [iI_of y0]
  rw [iI_of y1]
  refine h.ask (R := fun r => r = _) (fun _ _ _ a b => a.trans b.symm) (fun wa hs => ⟨_, σ, x_top (n := 2000000) hs.1 hs.2.2 (RI_of y0) (RI_of y1) le_n1, hs, Fr.refl _ _, rfl⟩) (fun σ' f e p q w => ⟨_, f, e, m_top (n := 2000000) p q w (RI_of y0) (RI_of y1) le_n1, q, rfl⟩)
theorem j_settle (h : Jn B σ A) (y0 : Int32) : JP B (fun s => mX9_settle 2000000 s B y0) (fun s => mX10_settle 2000000 s (B + 70) y0) σ := by
  refine h.chg (fun _ _ _ _ a b => Settle.unique a b) (fun wa hs => ?_) (fun σ' f e p q w => m_settle (n := 2000000) p q w y0 le_n1)
  obtain ⟨r, A', σ', a, b, c, d⟩ := x_settle (n := 2000000) hs y0 le_n1
  exact ⟨r, A', wa, σ', a, b, c, d⟩
theorem j_snow (h : Jn B σ A) (y0 : Int32) : JP B (fun s => mX9_snow 2000000 s B y0) (fun s => mX10_snow 2000000 s (B + 70) y0) σ := by
  rw [iI_of y0]
  refine h.chg (fun _ _ _ _ a b => Snow.unique a b) (fun wa hs => ?_) (fun σ' f e p q w => m_snow (n := 2000000) p q w (RI_of y0))
  obtain ⟨r, A', σ', a, b, c, d⟩ := x_snow (n := 2000000) hs (RI_of y0)
  exact ⟨r, A', wa, σ', a, b, c, d⟩
theorem j_shown (h : Jn B σ A) (y0 y1 y2 : Int32) : JP B (fun s => mX9_shown 2000000 s B y0 y1 y2) (fun s => mX10_shown 2000000 s (B + 70) y0 y1 y2) σ := by
  rw [iI_of y0]
  rw [iI_of y1]
  rw [iI_of y2]
  exact h.ask (fun _ _ _ a b => a.trans b.symm) (fun wa hs => x_shown (n := 2000000) hs (RI_of y0) (RI_of y1) (RI_of y2) le_n1) (fun σ' f e p q w => ⟨_, f, e, m_shown (n := 2000000) p q w (RI_of y0) (RI_of y1) (RI_of y2) le_n1, q, rfl⟩)
theorem j_trail (h : Jn B σ A) (y0 y1 : Int32) : JP B (fun s => mX9_trail 2000000 s B y0 y1) (fun s => mX10_trail 2000000 s (B + 70) y0 y1) σ := by
  rw [iI_of y0]
  rw [iI_of y1]
  exact h.ask (fun _ _ _ a b => a.trans b.symm) (fun wa hs => x_trail (n := 2000000) hs (RI_of y0) (RI_of y1) le_n1) (fun σ' f e p q w => ⟨_, f, e, m_trail (n := 2000000) p q w (RI_of y0) (RI_of y1) le_n1, q, rfl⟩)
theorem j_orders (h : Jn B σ A) (y0 y1 : Int32) : JP B (fun s => mX9_orders 2000000 s B y0 y1) (fun s => mX10_orders 2000000 s (B + 70) y0 y1) σ := by
  rw [iI_of y1]
  exact h.ask (fun hA _ _ a b => u_orders a b) (fun wa hs => x_orders (n := 2000000) hs y0 (RI_of y1) le_n1) (fun σ' f e p q w => m_orders (n := 2000000) p q w y0 (RI_of y1) le_n1)
theorem j_photo (h : Jn B σ A) (y0 y1 y2 y3 : Int32) : JP B (fun s => mX9_photo 2000000 s B y0 y1 y2 y3) (fun s => mX10_photo 2000000 s (B + 70) y0 y1 y2 y3) σ := by
  rw [iI_of y0]
  rw [iI_of y1]
  rw [iI_of y2]
  rw [iI_of y3]
  refine h.chg (fun _ _ _ _ a b => Photo.unique a b) (fun wa hs => ?_) (fun σ' f e p q w => m_photo (n := 2000000) p q w (RI_of y0) (RI_of y1) (RI_of y2) (RI_of y3) le_n1)
  obtain ⟨r, A', σ', a, b, c, d⟩ := x_photo (n := 2000000) hs (RI_of y0) (RI_of y1) (RI_of y2) (RI_of y3) le_n1
  exact ⟨r, A', wa, σ', a, b, c, d⟩
theorem j_count (h : Jn B σ A) (y0 : Int32) : JP B (fun s => mX9_count 2000000 s B y0) (fun s => mX10_count 2000000 s (B + 70) y0) σ := by
  rw [iI_of y0]
  refine h.ask (R := fun r => r = _) (fun _ _ _ a b => a.trans b.symm) (fun wa hs => ⟨_, σ, x_count (n := 2000000) hs.1 (RI_of y0), hs, Fr.refl _ _, rfl⟩) (fun σ' f e p q w => ⟨_, f, e, m_count (n := 2000000) p q (RI_of y0), q, rfl⟩)
end X94
