/-! COUNTING UP: the digits of the next heap -/
def chn (sp nu : Int → Int) (nk : Int) : Prop := (0 < nk → sp 0 = 1) ∧ ∀ k : Int, 0 ≤ k → k < nk → 1 ≤ sp k ∧ 1 ≤ nu k ∧ (k + 1 < nk → sp (k + 1) = sp k * (nu k + 1))
theorem dv_1 {h N : Int} (hN : 0 < N) (hd : ¬ N ∣ h + 1) : (h + 1) / N = h / N := by
  have a := Int.emod_nonneg h (show N ≠ 0 by omega)
  have b := Int.emod_lt_of_pos h hN
  have c := Int.emod_add_mul_ediv h N
  have d : h % N + 1 ≠ N := fun g => hd ⟨h / N + 1, by rw [Int.mul_add]; omega⟩
  exact ((Int.ediv_emod_unique hN (r := h % N + 1) (q := h / N)).mpr ⟨by omega, by omega, by omega⟩).1
theorem dv_2 {h N : Int} (hN : 0 < N) (hd : N ∣ h + 1) : (h + 1) / N = h / N + 1 := by
  obtain ⟨m, hm⟩ := hd
  rw [hm, Int.mul_ediv_cancel_left m (by omega)]
  have e : h / N = m - 1 := ((Int.ediv_emod_unique hN (a := h) (r := N - 1) (q := m - 1)).mpr ⟨by rw [Int.mul_sub]; omega, by omega, by omega⟩).1
  omega
theorem dv_3 {h N n : Int} (hN : 0 < N) (hn : 1 ≤ n) (hd : N ∣ h + 1) (he : h / N % (n + 1) = n) : N * (n + 1) ∣ h + 1 := by
  have a := dv_2 hN hd
  have b := Int.emod_add_mul_ediv (h / N) (n + 1)
  obtain ⟨m, hm⟩ := hd
  have e : (h + 1) / N = m := by rw [hm, Int.mul_ediv_cancel_left m (by omega)]
  refine ⟨h / N / (n + 1) + 1, ?_⟩
  have f : m = (n + 1) * (h / N / (n + 1) + 1) := by rw [Int.mul_add]; omega
  rw [hm, Int.mul_assoc, ← f]
theorem dv_4 {h N n : Int} (hN : 0 < N) (hn : 1 ≤ n) (hd : N * (n + 1) ∣ h + 1) : (h + 1) / N % (n + 1) = 0 := by
  obtain ⟨m, hm⟩ := hd
  rw [hm, Int.mul_assoc, Int.mul_ediv_cancel_left _ (by omega)]
  exact Int.mul_emod_right _ _
theorem dv_5 {h N n : Int} (hN : 0 < N) (hn : 1 ≤ n) (hd : N ∣ h + 1) (he : h / N % (n + 1) < n) : (h + 1) / N % (n + 1) = h / N % (n + 1) + 1 := by
  have a := dv_2 hN hd
  have b := Int.emod_add_mul_ediv (h / N) (n + 1)
  have c := Int.emod_nonneg (h / N) (show n + 1 ≠ 0 by omega)
  rw [a]
  exact ((Int.ediv_emod_unique (show 0 < n + 1 by omega) (r := h / N % (n + 1) + 1) (q := h / N / (n + 1))).mpr ⟨by omega, by omega, by omega⟩).2
theorem chn_dvdN {sp nu : Int → Int} {nk : Int} (hc : chn sp nu nk) {k : Int} (h0 : 0 ≤ k) : ∀ d : Nat, k + d < nk → sp k ∣ sp (k + d)
  | 0, _ => by rw [show k + ((0 : Nat) : Int) = k by omega]; exact Int.dvd_refl _
  | d + 1, hd => by
    have a := chn_dvdN hc h0 d (by omega)
    have b := (hc.2 (k + d) (by omega) (by omega)).2.2 (by omega)
    rw [show k + ((d + 1 : Nat) : Int) = k + d + 1 by omega, b]
    exact Int.dvd_trans a ⟨_, rfl⟩
theorem chn_dvd {sp nu : Int → Int} {nk : Int} (hc : chn sp nu nk) {k j : Int} (h0 : 0 ≤ k) (h1 : k ≤ j) (h2 : j < nk) : sp k ∣ sp j := by
  have := chn_dvdN hc h0 (j - k).toNat (by omega)
  rw [show k + ((j - k).toNat : Int) = j by omega] at this
  exact this
theorem cy_dvd {sp nu : Int → Int} {nk h : Int} (hc : chn sp nu nk) : ∀ k : Nat, (k : Int) < nk → (∀ j : Int, 0 ≤ j → j < k → dgI sp nu h j = nu j) → sp k ∣ h + 1
  | 0, hk, _ => by
    rw [show sp ((0 : Nat) : Int) = 1 from hc.1 (by omega)]
    exact ⟨h + 1, by omega⟩
  | k + 1, hk, hj => by
    have a := cy_dvd hc k (by omega) (fun j a b => hj j a (by omega))
    have b := hc.2 k (by omega) (by omega)
    rw [show ((k + 1 : Nat) : Int) = (k : Int) + 1 from rfl, b.2.2 (by omega)]
    exact dv_3 (by omega) b.2.1 a (hj k (by omega) (by omega))
theorem cy_at {sp nu : Int → Int} {nk h k : Int} (hc : chn sp nu nk) (h0 : 0 ≤ k) (h1 : k < nk) (hj : ∀ j : Int, 0 ≤ j → j < k → dgI sp nu h j = nu j) : sp k ∣ h + 1 := by
  have := cy_dvd (h := h) hc k.toNat (by omega) (fun j a b => hj j a (by omega))
  rw [Int.toNat_of_nonneg h0] at this
  exact this
/-- a digit that is full goes back to 0 -/
theorem cy_zero {sp nu : Int → Int} {nk h k : Int} (hc : chn sp nu nk) (h0 : 0 ≤ k) (h1 : k < nk) (hj : ∀ j : Int, 0 ≤ j → j ≤ k → dgI sp nu h j = nu j) : dgI sp nu (h + 1) k = 0 := by
  have a := cy_at hc h0 h1 (fun j a b => hj j a (by omega))
  have b := hc.2 k h0 h1
  exact dv_4 (by omega) b.2.1 (dv_3 (by omega) b.2.1 a (hj k h0 (by omega)))
/-- the first that isn't full grows by one -/
theorem cy_one {sp nu : Int → Int} {nk h k : Int} (hc : chn sp nu nk) (h0 : 0 ≤ k) (h1 : k < nk) (hj : ∀ j : Int, 0 ≤ j → j < k → dgI sp nu h j = nu j) (hk : dgI sp nu h k < nu k) : dgI sp nu (h + 1) k = dgI sp nu h k + 1 := by
  have a := cy_at hc h0 h1 hj
  have b := hc.2 k h0 h1
  exact dv_5 (by omega) b.2.1 a hk
/-- those behind it stay -/
theorem cy_more {sp nu : Int → Int} {nk h k i : Int} (hc : chn sp nu nk) (h0 : 0 ≤ k) (h1 : k < i) (h2 : i < nk) (hj : ∀ j : Int, 0 ≤ j → j < k → dgI sp nu h j = nu j) (hk : dgI sp nu h k < nu k) : dgI sp nu (h + 1) i = dgI sp nu h i := by
  have a := cy_at hc h0 (by omega) hj
  have b := hc.2 k h0 (by omega)
  have c := hc.2 i (by omega) h2
  have nd : ¬ sp (k + 1) ∣ h + 1 := fun g => by
    rw [b.2.2 (by omega)] at g
    have e := dv_4 (by omega) b.2.1 g
    have f := cy_one hc h0 (by omega) hj hk
    unfold dgI at f hk
    have := Int.emod_nonneg (h / sp k) (show nu k + 1 ≠ 0 by omega)
    omega
  have nd2 : ¬ sp i ∣ h + 1 := fun g => nd (Int.dvd_trans (chn_dvd hc (by omega) (by omega) h2) g)
  unfold dgI
  rw [dv_1 (by omega) nd2]
theorem dg_0 (sp nu : Int → Int) (k : Int) : dgI sp nu 0 k = 0 := by
  unfold dgI
  rw [Int.zero_ediv, Int.zero_emod]
theorem dg_bd {sp nu : Int → Int} {nk h k : Int} (hc : chn sp nu nk) (h0 : 0 ≤ k) (h1 : k < nk) : 0 ≤ dgI sp nu h k ∧ dgI sp nu h k ≤ nu k := by
  have b := hc.2 k h0 h1
  have c := Int.emod_nonneg (h / sp k) (show nu k + 1 ≠ 0 by omega)
  have d := Int.emod_lt_of_pos (h / sp k) (show 0 < nu k + 1 by omega)
  unfold dgI
  omega
/-- no kind between two places: the same product -/
theorem pr_gapN {x1 x2 : Int → Int} (h1 : rg x1 201 0 1000) (h2 : rg x2 201 0 1000) {q : Int} (h0 : 0 ≤ q) : ∀ d : Nat, ixI x1 x2 (q + d) = ixI x1 x2 q → prI x1 x2 (q + d) = prI x1 x2 q
  | 0, _ => by rw [show q + ((0 : Nat) : Int) = q by omega]
  | d + 1, hd => by
    rw [show q + ((d + 1 : Nat) : Int) = q + d + 1 by omega] at hd ⊢
    have a := ixI_mono x1 x2 (show q ≤ q + d by omega)
    rw [ixI_s (by omega)] at hd
    have hz : ¬ 0 < kN x1 x2 (q + d) := fun g => by rw [if_pos g] at hd; omega
    rw [if_neg hz] at hd
    rw [prI_s (by omega), pr_gapN h1 h2 h0 d (by omega)]
    have := (kN_nn h1 h2 (q + d)).1
    rw [show kN x1 x2 (q + d) = 0 by omega]; omega
theorem pr_gap {x1 x2 : Int → Int} (h1 : rg x1 201 0 1000) (h2 : rg x2 201 0 1000) {q r : Int} (h0 : 0 ≤ q) (hr : q ≤ r) (he : ixI x1 x2 r = ixI x1 x2 q) : prI x1 x2 r = prI x1 x2 q := by
  have := pr_gapN h1 h2 h0 (r - q).toNat (by rw [show q + ((r - q).toNat : Int) = r by omega]; exact he)
  rw [show q + ((r - q).toNat : Int) = r by omega] at this
  exact this
/-- a layout's steps: each is the one before times one more than its number -/
theorem lay_chn {x1 x2 lg nu ri sp : Int → Int} {nk : Int} (h1 : rg x1 201 0 1000) (h2 : rg x2 201 0 1000) (hl : layOK x1 x2 402 nk lg nu ri sp) : chn sp nu nk := by
  refine ⟨fun h => ?_, fun k a b => ?_⟩
  · obtain ⟨q, q0, q1, q2, q3⟩ := ix_on (x1 := x1) (x2 := x2) (p := 402) (k := 0) (by omega) (by omega) (by rw [← hl.1]; exact h)
    have e := (hl.2 q q0 q1 q2).2.2.2
    rw [q3] at e
    rw [e, pr_gap h1 h2 (q := 0) (by omega) q0 q3]
    rfl
  · have r := lay_rg h1 h2 hl a b
    refine ⟨r.2.2.2.1, r.2.1.1, fun c => ?_⟩
    obtain ⟨q, q0, q1, q2, q3⟩ := ix_on (x1 := x1) (x2 := x2) (p := 402) (k := k) (by omega) (by omega) (by rw [← hl.1]; exact b)
    obtain ⟨t, t0, t1, t2, t3⟩ := ix_on (x1 := x1) (x2 := x2) (p := 402) (k := k + 1) (by omega) (by omega) (by rw [← hl.1]; exact c)
    have e := hl.2 q q0 q1 q2
    have f := (hl.2 t t0 t1 t2).2.2.2
    rw [q3] at e
    rw [t3] at f
    have lt : q < t := by
      apply Classical.byContradiction
      intro g
      have := ixI_mono x1 x2 (show t ≤ q by omega)
      omega
    rw [f, e.2.2.2, e.2.1, ← prI_s q0]
    exact pr_gap h1 h2 (by omega) (by omega) (by rw [t3, ixI_s q0, if_pos q2, q3])
def opc (lg co sp va : Int → Int) (h k : Int) : Int := -(if 0 < co k then max (lg k + va (h - sp k)) (lg k - co k - va (h - sp k)) else lg k + va (h - sp k))
