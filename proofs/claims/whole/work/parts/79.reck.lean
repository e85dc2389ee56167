/-! RECKONING: chains and rings put by their lengths, loose ones apart -/
def rkI (kd fl lo : Int → Int) (k hl l2 l4 lf : Int) (nb : Int → Int) : Prop := (hl = 0 ∨ hl = 1) ∧ (l2 = 0 ∨ l2 = 1) ∧ (l4 = 0 ∨ l4 = 1) ∧ (∀ j : Int, 0 ≤ j → j < 201 → nb j = chN kd fl lo k j ∧ nb (j + 201) = rnN kd fl k j) ∧ lf = lfN kd fl lo k ∧ (hl = 1 ↔ 0 < lfN kd fl lo k) ∧ (l2 = 1 ↔ 0 < ltN kd fl lo 1 2 k) ∧ (l4 = 1 ↔ 0 < ltN kd fl lo 2 4 k)
theorem rkI_0 {kd fl lo nb : Int → Int} (h : ∀ j : Int, 0 ≤ j → j < 402 → nb j = 0) : rkI kd fl lo 0 0 0 0 0 nb := by
  have e1 : lfN kd fl lo 0 = 0 := rfl
  have e2 : ltN kd fl lo 1 2 0 = 0 := rfl
  have e3 : ltN kd fl lo 2 4 0 = 0 := rfl
  refine ⟨Or.inl rfl, Or.inl rfl, Or.inl rfl, fun j a b => ?_, rfl, by omega, by omega, by omega⟩
  rw [h j a (by omega), h (j + 201) (by omega) (by omega)]
  exact ⟨rfl, rfl⟩
theorem lfN_nn {kd fl lo : Int → Int} {k : Int} (h : ∀ p : Int, 0 ≤ p → p < k → 1 ≤ fl p) : 0 ≤ lfN kd fl lo k := su_nn (fun p a b => by
  show 0 ≤ (if kd p ≠ 1 ∧ lo p ≠ 0 then fl p else 0)
  have := h p a b
  split <;> omega)
theorem rkI_lo {kd fl lo nb : Int → Int} {k hl l2 l4 lf : Int} (h : rkI kd fl lo k hl l2 l4 lf nb) (k0 : 0 ≤ k) (hlo : 0 < lo k) (hkd : kd k = 0) (hfl : 1 ≤ fl k) (hn : 0 ≤ lfN kd fl lo k) : rkI kd fl lo (k + 1) 1 (if l2 = 1 ∨ (lo k = 1 ∧ 2 ≤ fl k) then 1 else 0) (if l4 = 1 ∨ (lo k = 2 ∧ 4 ≤ fl k) then 1 else 0) (lf + fl k) nb := by
  obtain ⟨h1, h2, h3, h4, h5, h6, h7, h8⟩ := h
  have u2 := ltN_nn kd fl lo 1 2 k
  have u4 := ltN_nn kd fl lo 2 4 k
  have s5 := lfN_s (pK := kd) (pF := fl) (pL := lo) (n := k) k0
  rw [if_pos (show kd k ≠ 1 ∧ lo k ≠ 0 by omega)] at s5
  have s2 := ltN_s (pK := kd) (pF := fl) (pL := lo) (a := 1) (b := 2) (n := k) k0
  have s4 := ltN_s (pK := kd) (pF := fl) (pL := lo) (a := 2) (b := 4) (n := k) k0
  refine ⟨Or.inr rfl, by split <;> omega, by split <;> omega, fun j a b => ?_, by omega, by omega, ?_, ?_⟩
  · rw [chN_s k0, rnN_s k0, if_neg (show ¬ (kd k ≠ 1 ∧ lo k = 0 ∧ fl k = j) by omega), if_neg (show ¬ (kd k = 1 ∧ fl k = j) by omega)]
    have := h4 j a b
    omega
  · rw [s2]
    by_cases c : lo k = 1 ∧ 2 ≤ fl k
    · rw [if_pos (Or.inr c), if_pos (show kd k ≠ 1 ∧ lo k = 1 ∧ 2 ≤ fl k by omega)]; omega
    · rw [if_neg (show ¬ (kd k ≠ 1 ∧ lo k = 1 ∧ 2 ≤ fl k) from fun z => c z.2)]
      by_cases d : l2 = 1
      · rw [if_pos (Or.inl d)]; have := h7.mp d; omega
      · rw [if_neg (fun z => z.elim d c)]
        have : ¬ 0 < ltN kd fl lo 1 2 k := fun z => d (h7.mpr z)
        omega
  · rw [s4]
    by_cases c : lo k = 2 ∧ 4 ≤ fl k
    · rw [if_pos (Or.inr c), if_pos (show kd k ≠ 1 ∧ lo k = 2 ∧ 4 ≤ fl k by omega)]; omega
    · rw [if_neg (show ¬ (kd k ≠ 1 ∧ lo k = 2 ∧ 4 ≤ fl k) from fun z => c z.2)]
      by_cases d : l4 = 1
      · rw [if_pos (Or.inl d)]; have := h8.mp d; omega
      · rw [if_neg (fun z => z.elim d c)]
        have : ¬ 0 < ltN kd fl lo 2 4 k := fun z => d (h8.mpr z)
        omega
theorem rkI_put {kd fl lo nb : Int → Int} {k hl l2 l4 lf rr : Int} (h : rkI kd fl lo k hl l2 l4 lf nb) (k0 : 0 ≤ k) (hlo : lo k = 0) (hfl : 1 ≤ fl k ∧ fl k ≤ 200) (hr : (rr = 1 ∧ kd k = 1) ∨ (rr = 0 ∧ kd k ≠ 1)) : rkI kd fl lo (k + 1) hl l2 l4 lf (uI nb ((if rr = 0 then 0 else 201) + fl k) (nb ((if rr = 0 then 0 else 201) + fl k) + 1)) := by
  obtain ⟨h1, h2, h3, h4, h5, h6, h7, h8⟩ := h
  have s5 := lfN_s (pK := kd) (pF := fl) (pL := lo) (n := k) k0
  rw [if_neg (show ¬ (kd k ≠ 1 ∧ lo k ≠ 0) by omega)] at s5
  have s2 := ltN_s (pK := kd) (pF := fl) (pL := lo) (a := 1) (b := 2) (n := k) k0
  rw [if_neg (show ¬ (kd k ≠ 1 ∧ lo k = 1 ∧ 2 ≤ fl k) by omega)] at s2
  have s4 := ltN_s (pK := kd) (pF := fl) (pL := lo) (a := 2) (b := 4) (n := k) k0
  rw [if_neg (show ¬ (kd k ≠ 1 ∧ lo k = 2 ∧ 4 ≤ fl k) by omega)] at s4
  rw [show lfN kd fl lo k + 0 = lfN kd fl lo k by omega] at s5
  rw [show ltN kd fl lo 1 2 k + 0 = ltN kd fl lo 1 2 k by omega] at s2
  rw [show ltN kd fl lo 2 4 k + 0 = ltN kd fl lo 2 4 k by omega] at s4
  refine ⟨h1, h2, h3, fun j a b => ?_, by rw [s5]; exact h5, by rw [s5]; exact h6, by rw [s2]; exact h7, by rw [s4]; exact h8⟩
  rw [chN_s k0, rnN_s k0]
  have e := h4 j a b
  rcases hr with ⟨r1, r2⟩ | ⟨r1, r2⟩
  · rw [if_neg (show ¬ rr = 0 by omega), if_neg (show ¬ (kd k ≠ 1 ∧ lo k = 0 ∧ fl k = j) by omega), uI_ne (show j ≠ 201 + fl k by omega)]
    refine ⟨by omega, ?_⟩
    by_cases c : fl k = j
    · rw [show j + 201 = 201 + fl k by omega, uI_eq, if_pos (show kd k = 1 ∧ fl k = j from ⟨r2, c⟩), show 201 + fl k = j + 201 by omega]; omega
    · rw [uI_ne (show j + 201 ≠ 201 + fl k by omega), if_neg (show ¬ (kd k = 1 ∧ fl k = j) from fun z => c z.2)]; omega
  · rw [if_pos (show rr = 0 by omega), if_neg (show ¬ (kd k = 1 ∧ fl k = j) by omega), uI_ne (show j + 201 ≠ 0 + fl k by omega)]
    refine ⟨?_, by omega⟩
    by_cases c : fl k = j
    · rw [show 0 + fl k = j by omega, uI_eq, if_pos (show kd k ≠ 1 ∧ lo k = 0 ∧ fl k = j from ⟨r2, hlo, c⟩)]; omega
    · rw [uI_ne (show j ≠ 0 + fl k by omega), if_neg (show ¬ (kd k ≠ 1 ∧ lo k = 0 ∧ fl k = j) from fun z => c z.2.2)]; omega
theorem rkI_ok {kd fl lo nb : Int → Int} {k hl l2 l4 lf : Int} (h : rkI kd fl lo k hl l2 l4 lf nb) (k0 : 0 ≤ k) (k1 : k ≤ 200) (hfl : ∀ p : Int, 0 ≤ p → p < k → 1 ≤ fl p) : nbOK nb := by
  have h4 := h.2.2.2.1
  have c0 : chN kd fl lo k 0 = 0 := by
    have : chN kd fl lo k 0 = su (fun _ => 0) k := su_congr (fun p a b => by
      show (if kd p ≠ 1 ∧ lo p = 0 ∧ fl p = 0 then (1 : Int) else 0) = 0
      rw [if_neg (fun z => by have := hfl p a b; omega)])
    rw [this, su_const 0 k0]; omega
  have r0 : rnN kd fl k 0 = 0 := by
    have : rnN kd fl k 0 = su (fun _ => 0) k := su_congr (fun p a b => by
      show (if kd p = 1 ∧ fl p = 0 then (1 : Int) else 0) = 0
      rw [if_neg (fun z => by have := hfl p a b; omega)])
    rw [this, su_const 0 k0]; omega
  refine ⟨fun j a b => ?_, by rw [(h4 0 (by omega) (by omega)).1, c0], ?_⟩
  · by_cases c : j < 201
    · rw [(h4 j a c).1]
      have := chN_bd kd fl lo (n := k) j k0
      omega
    · have e := (h4 (j - 201) (by omega) (by omega)).2
      rw [show j - 201 + 201 = j by omega] at e
      rw [e]
      have := rnN_bd kd fl (n := k) (j - 201) k0
      omega
  · have e := (h4 0 (by omega) (by omega)).2
    rw [show (0 : Int) + 201 = 201 by omega] at e
    rw [e, r0]
theorem ktS_0 {kd : Int → Int} {n : Int} (h : ktS kd n = 0) : ∀ p : Int, 0 ≤ p → p < n → kd p ≠ 2 := fun p a b e => by
  have z := su_z (f := fun q => if kd q = 2 then 1 else 0) (n := n) (fun j _ _ => (ite_bd _).1) (show su _ n ≤ 0 from Int.le_of_eq h) a b
  have z' : (if kd p = 2 then (1 : Int) else 0) = 0 := z
  rw [if_pos e] at z'
  omega
theorem ktS_1 {kd : Int → Int} {n : Int} (h0 : 0 ≤ n) (h : ∀ p : Int, 0 ≤ p → p < n → kd p ≠ 2) : ktS kd n = 0 := by
  have : ktS kd n = su (fun _ => 0) n := su_congr (fun p a b => by
    show (if kd p = 2 then (1 : Int) else 0) = 0
    rw [if_neg (h p a b)])
  rw [this, su_const 0 h0]; omega
/-- what the class's Ends holds of the parts -/
def rkS (kd fl lo : Int → Int) (ct is_ hl l2 l4 lf : Int) (nb : Int → Int) : Prop := (is_ = 0 ∨ is_ = 1) ∧ (is_ = 1 ↔ ∀ p : Int, 0 ≤ p → p < ct → kd p ≠ 2) ∧ ((hl = 0 ∨ hl = 1) ∧ (l2 = 0 ∨ l2 = 1) ∧ (l4 = 0 ∨ l4 = 1)) ∧ nbOK nb ∧ (is_ = 1 → rkI kd fl lo ct hl l2 l4 lf nb) ∧ (is_ = 0 → ∀ j : Int, 0 ≤ j → j < 402 → nb j = 0)
theorem rkI_z {kd fl lo nb : Int → Int} {hl l2 l4 lf : Int} (h : rkI kd fl lo 0 hl l2 l4 lf nb) : ∀ j : Int, 0 ≤ j → j < 402 → nb j = 0 := fun j a b => by
  by_cases c : j < 201
  · exact (h.2.2.2.1 j a c).1
  · have e := (h.2.2.2.1 (j - 201) (by omega) (by omega)).2
    rw [show j - 201 + 201 = j by omega] at e
    exact e
