/-- in the whole heap every kind can be opened -/
theorem lay_top {x1 x2 lg nu ri sp va : Int → Int} {nk b0 : Int} (h1 : rg x1 201 0 1000) (h2 : rg x2 201 0 1000) (hl : layOK x1 x2 402 nk lg nu ri sp) (hv : vTab lg nu ri sp nk b0 va (prI x1 x2 402)) (hm : prI x1 x2 402 ≤ 20000) : ∀ k : Int, 0 ≤ k → k < nk → (1 ≤ lg k ∧ lg k ≤ 200) ∧ (ri k = 0 ∨ ri k = 1) ∧ (0 ≤ prI x1 x2 402 - 1 - sp k ∧ prI x1 x2 402 - 1 - sp k ≤ 20000) ∧ (-10000000 ≤ va (prI x1 x2 402 - 1 - sp k) ∧ va (prI x1 x2 402 - 1 - sp k) ≤ 10000000) := by
  intro k a b
  have r := lay_rg h1 h2 hl a b
  obtain ⟨q, q0, q1, q2, q3⟩ := ix_on (x1 := x1) (x2 := x2) (p := 402) (k := k) (by omega) (by omega) (by rw [← hl.1]; exact b)
  have e := (hl.2 q q0 q1 q2).2.2.2
  rw [q3] at e
  have f := prI_s (x1 := x1) (x2 := x2) (p := q) q0
  have g := prI_mono h1 h2 (p := q + 1) (q := 402) (by omega) (by omega)
  have i := prI_pos h1 h2 q
  have j : prI x1 x2 q * 2 ≤ prI x1 x2 q * (kN x1 x2 q + 1) := Int.mul_le_mul_of_nonneg_left (by omega) (by omega)
  have lo : 0 ≤ prI x1 x2 402 - 1 - sp k := by omega
  have v := hv.2.2 (prI x1 x2 402 - 1 - sp k) lo (by omega)
  exact ⟨r.1, r.2.2.1, ⟨lo, by omega⟩, by omega, by omega⟩
