/-! LENGTHS: the kinds of a heap laid out, and V of all heaps within it -/
theorem ite_t01 (p : Prop) [Decidable p] : (if p then (1 : Int) else 0) = 0 ∨ (if p then (1 : Int) else 0) = 1 := by
  split <;> omega
/-- the i-th k below n that is good: z is f of it, or -1 -/
def isI (g : Int → Int) (n i : Int) (f : Int → Int) (z : Int) : Prop := (∃ k : Int, 0 ≤ k ∧ k < n ∧ g k = 1 ∧ su g k = i ∧ z = f k) ∨ ((∀ k : Int, 0 ≤ k → k < n → g k = 1 → su g k ≠ i) ∧ z = -1)
theorem sN_mono {g : Int → Int} (h : ∀ k : Int, 0 ≤ g k) : ∀ (a b : Nat), a ≤ b → sN g a ≤ sN g b
  | a, 0, hb => by rw [show a = 0 by omega]; exact Int.le_refl _
  | a, b + 1, hb => by
    by_cases e : a = b + 1
    · rw [e]; exact Int.le_refl _
    · have := sN_mono h a b (by omega)
      have := h b
      show sN g a ≤ sN g b + g b
      omega
theorem su_mono {g : Int → Int} (h : ∀ k : Int, 0 ≤ g k) {a b : Int} (hab : a ≤ b) : su g a ≤ su g b := sN_mono h a.toNat b.toNat (by omega)
theorem isI_uniq {g g' f f' : Int → Int} {n i z z' : Int} (hg : ∀ k : Int, 0 ≤ g k) (hgg : ∀ k : Int, 0 ≤ k → k < n → g k = g' k) (hff : ∀ k : Int, 0 ≤ k → k < n → g k = 1 → f k = f' k) (h : isI g n i f z) (h' : isI g' n i f' z') : z = z' := by
  have hs : ∀ k : Int, k ≤ n → su g k = su g' k := fun k hk => su_congr (fun j a b => hgg j a (by omega))
  rcases h with ⟨k, k0, k1, k2, k3, k4⟩ | ⟨h1, h2⟩
  · rcases h' with ⟨q, q0, q1, q2, q3, q4⟩ | ⟨h1', h2'⟩
    · have e : k = q := by
        have q2' : g q = 1 := by rw [hgg q q0 q1]; exact q2
        have q3' : su g q = i := by rw [hs q (by omega)]; exact q3
        rcases Int.lt_trichotomy k q with a | a | a
        · have := su_mono hg (show k + 1 ≤ q by omega)
          rw [su_s k0] at this
          omega
        · exact a
        · have := su_mono hg (show q + 1 ≤ k by omega)
          rw [su_s q0] at this
          omega
      subst e
      rw [k4, q4, hff k k0 k1 k2]
    · exact absurd (by rw [← hs k (by omega)]; exact k3) (h1' k k0 k1 (by rw [← hgg k k0 k1]; exact k2))
  · rcases h' with ⟨q, q0, q1, q2, q3, q4⟩ | ⟨h1', h2'⟩
    · exact absurd (by rw [hs q (by omega)]; exact q3) (h1 q q0 q1 (by rw [hgg q q0 q1]; exact q2))
    · rw [h2, h2']
/-- how many of the kind at a place: chains by length, then rings by length -/
def kN (x1 x2 : Int → Int) (p : Int) : Int := if 1 ≤ p ∧ p ≤ 200 then x1 p else if 202 ≤ p ∧ p ≤ 401 then x2 (p - 201) else 0
def ixI (x1 x2 : Int → Int) (p : Int) : Int := su (fun q => if 0 < kN x1 x2 q then 1 else 0) p
theorem ixI_s {x1 x2 : Int → Int} {p : Int} (h : 0 ≤ p) : ixI x1 x2 (p + 1) = ixI x1 x2 p + (if 0 < kN x1 x2 p then 1 else 0) := su_s h
theorem ixI_bd (x1 x2 : Int → Int) {p : Int} (h : 0 ≤ p) : 0 ≤ ixI x1 x2 p ∧ ixI x1 x2 p ≤ p :=
  ⟨su_nn (fun j _ _ => (ite_bd _).1), su_ub h (fun j _ _ => (ite_bd _).2)⟩
theorem ixI_mono (x1 x2 : Int → Int) {a b : Int} (h : a ≤ b) : ixI x1 x2 a ≤ ixI x1 x2 b := su_mono (fun k => (ite_bd (0 < kN x1 x2 k)).1) h
theorem ixI_lt {x1 x2 : Int → Int} {a b : Int} (h0 : 0 ≤ a) (h : a < b) (hp : 0 < kN x1 x2 a) : ixI x1 x2 a < ixI x1 x2 b := by
  have := ixI_mono x1 x2 (show a + 1 ≤ b by omega)
  rw [ixI_s h0, if_pos hp] at this
  omega
def prN (x1 x2 : Int → Int) : Nat → Int
  | 0 => 1
  | p + 1 => prN x1 x2 p * (kN x1 x2 (p : Int) + 1)
def prI (x1 x2 : Int → Int) (p : Int) : Int := prN x1 x2 p.toNat
theorem prI_s {x1 x2 : Int → Int} {p : Int} (h : 0 ≤ p) : prI x1 x2 (p + 1) = prI x1 x2 p * (kN x1 x2 p + 1) := by
  unfold prI
  rw [show (p + 1).toNat = p.toNat + 1 by omega]
  show prN x1 x2 p.toNat * (kN x1 x2 ((p.toNat : Nat) : Int) + 1) = _
  rw [Int.toNat_of_nonneg h]
theorem kN_nn {x1 x2 : Int → Int} (h1 : rg x1 201 0 1000) (h2 : rg x2 201 0 1000) (p : Int) : 0 ≤ kN x1 x2 p ∧ kN x1 x2 p ≤ 1000 := by
  unfold kN
  split
  · exact h1 p (by omega) (by omega)
  · split
    · exact h2 (p - 201) (by omega) (by omega)
    · omega
theorem prN_pos {x1 x2 : Int → Int} (h1 : rg x1 201 0 1000) (h2 : rg x2 201 0 1000) : ∀ p : Nat, 1 ≤ prN x1 x2 p
  | 0 => Int.le_refl _
  | p + 1 => by
    have a := prN_pos h1 h2 p
    have b := (kN_nn h1 h2 (p : Int)).1
    show 1 ≤ prN x1 x2 p * (kN x1 x2 p + 1)
    have c : prN x1 x2 p * 1 ≤ prN x1 x2 p * (kN x1 x2 p + 1) := Int.mul_le_mul_of_nonneg_left (by omega) (by omega)
    omega
theorem prI_pos {x1 x2 : Int → Int} (h1 : rg x1 201 0 1000) (h2 : rg x2 201 0 1000) (p : Int) : 1 ≤ prI x1 x2 p := prN_pos h1 h2 p.toNat
theorem prI_up {x1 x2 : Int → Int} (h1 : rg x1 201 0 1000) (h2 : rg x2 201 0 1000) {p : Int} (h : 0 ≤ p) : prI x1 x2 p ≤ prI x1 x2 (p + 1) := by
  rw [prI_s h]
  have a := prI_pos h1 h2 p
  have b := (kN_nn h1 h2 p).1
  have c : prI x1 x2 p * 1 ≤ prI x1 x2 p * (kN x1 x2 p + 1) := Int.mul_le_mul_of_nonneg_left (by omega) (by omega)
  omega
theorem prI_monoN {x1 x2 : Int → Int} (h1 : rg x1 201 0 1000) (h2 : rg x2 201 0 1000) (p : Int) (h : 0 ≤ p) : ∀ d : Nat, prI x1 x2 p ≤ prI x1 x2 (p + d)
  | 0 => by rw [show p + ((0 : Nat) : Int) = p by omega]; exact Int.le_refl _
  | d + 1 => by
    have a := prI_monoN h1 h2 p h d
    have b := prI_up h1 h2 (p := p + d) (by omega)
    rw [show p + ((d + 1 : Nat) : Int) = p + d + 1 by omega]
    omega
theorem prI_mono {x1 x2 : Int → Int} (h1 : rg x1 201 0 1000) (h2 : rg x2 201 0 1000) {p q : Int} (h : 0 ≤ p) (hq : p ≤ q) : prI x1 x2 p ≤ prI x1 x2 q := by
  have := prI_monoN h1 h2 p h (q - p).toNat
  rw [show p + ((q - p).toNat : Int) = q by omega] at this
  exact this
/-- so many kinds make so many heaps -/
theorem prN_two {x1 x2 : Int → Int} (h1 : rg x1 201 0 1000) (h2 : rg x2 201 0 1000) : ∀ p : Nat, (2 : Int) ^ (ixI x1 x2 p).toNat ≤ prN x1 x2 p
  | 0 => Int.le_refl _
  | p + 1 => by
    have a := prN_two h1 h2 p
    have b := kN_nn h1 h2 (p : Int)
    have c := (ixI_bd x1 x2 (p := (p : Int)) (by omega)).1
    have hpos := prN_pos h1 h2 p
    rw [show ((p + 1 : Nat) : Int) = (p : Int) + 1 from rfl, ixI_s (by omega)]
    show _ ≤ prN x1 x2 p * (kN x1 x2 p + 1)
    split
    · rw [show (ixI x1 x2 (p : Int) + 1).toNat = (ixI x1 x2 (p : Int)).toNat + 1 by omega, Int.pow_succ]
      have d : prN x1 x2 p * 2 ≤ prN x1 x2 p * (kN x1 x2 p + 1) := Int.mul_le_mul_of_nonneg_left (by omega) (by omega)
      omega
    · rw [show (ixI x1 x2 (p : Int) + 0).toNat = (ixI x1 x2 (p : Int)).toNat by omega]
      have d : prN x1 x2 p * 1 ≤ prN x1 x2 p * (kN x1 x2 p + 1) := Int.mul_le_mul_of_nonneg_left (by omega) (by omega)
      omega
theorem pr_kinds {x1 x2 : Int → Int} (h1 : rg x1 201 0 1000) (h2 : rg x2 201 0 1000) {p : Int} (hp : 0 ≤ p) (h : prI x1 x2 p ≤ 20000) : ixI x1 x2 p ≤ 14 := by
  have a := prN_two h1 h2 p.toNat
  rw [Int.toNat_of_nonneg hp] at a
  have h : prN x1 x2 p.toNat ≤ 20000 := h
  apply Classical.byContradiction
  intro g
  have b : (2 : Int) ^ 15 ≤ 2 ^ (ixI x1 x2 p).toNat := by
    have := Nat.pow_le_pow_right (show 0 < 2 by decide) (show 15 ≤ (ixI x1 x2 p).toNat by omega)
    have e : ((2 ^ 15 : Nat) : Int) ≤ ((2 ^ (ixI x1 x2 p).toNat : Nat) : Int) := Int.ofNat_le.mpr this
    rw [Int.natCast_pow, Int.natCast_pow] at e
    exact e
  have e : (2 : Int) ^ 15 = 32768 := by decide
  omega
/-- the kinds of the places below p stand laid out -/
def layOK (x1 x2 : Int → Int) (p nk : Int) (lg nu ri sp : Int → Int) : Prop := nk = ixI x1 x2 p ∧ ∀ q : Int, 0 ≤ q → q < p → 0 < kN x1 x2 q →
  lg (ixI x1 x2 q) = (if q ≤ 200 then q else q - 201) ∧ nu (ixI x1 x2 q) = kN x1 x2 q ∧ ri (ixI x1 x2 q) = (if q ≤ 200 then 0 else 1) ∧ sp (ixI x1 x2 q) = prI x1 x2 q
theorem layOK_skip {x1 x2 : Int → Int} {p nk : Int} {lg nu ri sp : Int → Int} (hp : 0 ≤ p) (h : layOK x1 x2 p nk lg nu ri sp) (hz : ¬ 0 < kN x1 x2 p) : layOK x1 x2 (p + 1) nk lg nu ri sp := by
  obtain ⟨a, b⟩ := h
  refine ⟨by rw [ixI_s hp, if_neg hz]; omega, fun q q0 q1 q2 => ?_⟩
  by_cases e : q = p
  · rw [e] at q2; exact absurd q2 hz
  · exact b q q0 (by omega) q2
theorem layOK_add {x1 x2 : Int → Int} {p nk : Int} {lg nu ri sp : Int → Int} (hp : 0 ≤ p) (h : layOK x1 x2 p nk lg nu ri sp) (hz : 0 < kN x1 x2 p) {a b c d : Int} (ha : a = (if p ≤ 200 then p else p - 201)) (hb : b = kN x1 x2 p) (hc : c = (if p ≤ 200 then 0 else 1)) (hd : d = prI x1 x2 p) :
    layOK x1 x2 (p + 1) (nk + 1) (uI lg nk a) (uI nu nk b) (uI ri nk c) (uI sp nk d) := by
  obtain ⟨e, f⟩ := h
  refine ⟨by rw [ixI_s hp, if_pos hz]; omega, fun q q0 q1 q2 => ?_⟩
  by_cases g : q = p
  · rw [g, ← e, uI_eq, uI_eq, uI_eq, uI_eq]
    exact ⟨ha, hb, hc, hd⟩
  · have hlt := ixI_lt (b := p) q0 (by omega) q2
    rw [uI_ne (by omega), uI_ne (by omega), uI_ne (by omega), uI_ne (by omega)]
    exact f q q0 (by omega) q2
/-- every kind below nk stands for a place -/
theorem ix_onto (x1 x2 : Int → Int) : ∀ (p : Nat) (k : Int), 0 ≤ k → k < ixI x1 x2 p → ∃ q : Int, 0 ≤ q ∧ q < p ∧ 0 < kN x1 x2 q ∧ ixI x1 x2 q = k
  | 0, k, h0, h1 => by
    have : ixI x1 x2 ((0 : Nat) : Int) = 0 := rfl
    omega
  | p + 1, k, h0, h1 => by
    rw [show ((p + 1 : Nat) : Int) = (p : Int) + 1 from rfl, ixI_s (by omega)] at h1
    by_cases g : k < ixI x1 x2 p
    · obtain ⟨q, a, b, c, d⟩ := ix_onto x1 x2 p k h0 g
      exact ⟨q, a, by omega, c, d⟩
    · by_cases hz : 0 < kN x1 x2 p
      · rw [if_pos hz] at h1
        exact ⟨p, by omega, by omega, hz, by omega⟩
      · rw [if_neg hz] at h1
        omega
theorem ix_on {x1 x2 : Int → Int} {p k : Int} (hp : 0 ≤ p) (h0 : 0 ≤ k) (h1 : k < ixI x1 x2 p) : ∃ q : Int, 0 ≤ q ∧ q < p ∧ 0 < kN x1 x2 q ∧ ixI x1 x2 q = k := by
  have := ix_onto x1 x2 p.toNat k h0 (by rw [Int.toNat_of_nonneg hp]; exact h1)
  rw [Int.toNat_of_nonneg hp] at this
  exact this
/-- what opening one of kind k in heap h is worth -/
def opv (lg ri sp va : Int → Int) (h k : Int) : Int := -(if ri k = 1 ∧ 4 ≤ lg k then max (lg k + va (h - sp k)) (lg k - 8 - va (h - sp k)) else if ri k = 0 ∧ 3 ≤ lg k then max (lg k + va (h - sp k)) (lg k - 4 - va (h - sp k)) else lg k + va (h - sp k))
def dgI (sp nu : Int → Int) (h k : Int) : Int := h / sp k % (nu k + 1)
/-- the best over the kinds below n of those that heap h has -/
def bstN (lg nu ri sp va : Int → Int) (b0 h : Int) : Nat → Int
  | 0 => b0
  | k + 1 => if 0 < dgI sp nu h (k : Int) then max (bstN lg nu ri sp va b0 h k) (opv lg ri sp va h (k : Int)) else bstN lg nu ri sp va b0 h k
def bst (lg nu ri sp va : Int → Int) (b0 h n : Int) : Int := bstN lg nu ri sp va b0 h n.toNat
theorem bst_s {lg nu ri sp va : Int → Int} {b0 h n : Int} (hn : 0 ≤ n) : bst lg nu ri sp va b0 h (n + 1) = if 0 < dgI sp nu h n then max (bst lg nu ri sp va b0 h n) (opv lg ri sp va h n) else bst lg nu ri sp va b0 h n := by
  unfold bst
  rw [show (n + 1).toNat = n.toNat + 1 by omega]
  show (if 0 < dgI sp nu h ((n.toNat : Nat) : Int) then max _ (opv lg ri sp va h ((n.toNat : Nat) : Int)) else _) = _
  rw [Int.toNat_of_nonneg hn]
/-- a table of V for the heaps below N -/
def vTab (lg nu ri sp : Int → Int) (nk b0 : Int) (va : Int → Int) (N : Int) : Prop := va 0 = 0 ∧ (∀ h : Int, 1 ≤ h → h < N → va h = bst lg nu ri sp va b0 h nk) ∧ ∀ h : Int, 0 ≤ h → h < N → -208 * h ≤ va h ∧ va h ≤ 208 * h
