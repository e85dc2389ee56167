/-! SUMS over 0 .. n-1 -/
def sN (f : Int → Int) : Nat → Int
  | 0 => 0
  | n + 1 => sN f n + f (n : Int)
def su (f : Int → Int) (n : Int) : Int := sN f n.toNat
theorem su_0 (f : Int → Int) : su f 0 = 0 := rfl
theorem su_neg {f : Int → Int} {n : Int} (h : n ≤ 0) : su f n = 0 := by
  unfold su
  rw [show n.toNat = 0 by omega]
  rfl
theorem su_s {f : Int → Int} {n : Int} (h : 0 ≤ n) : su f (n + 1) = su f n + f n := by
  unfold su
  rw [show (n + 1).toNat = n.toNat + 1 by omega]
  show sN f n.toNat + f ((n.toNat : Nat) : Int) = _
  rw [Int.toNat_of_nonneg h]
theorem sN_congr {f g : Int → Int} : ∀ (n : Nat), (∀ j : Int, 0 ≤ j → j < n → f j = g j) → sN f n = sN g n
  | 0, _ => rfl
  | n + 1, h => by
    show sN f n + f n = sN g n + g n
    rw [sN_congr n (fun j h1 h2 => h j h1 (by omega)), h n (by omega) (by omega)]
theorem su_congr {f g : Int → Int} {n : Int} (h : ∀ j : Int, 0 ≤ j → j < n → f j = g j) : su f n = su g n :=
  sN_congr n.toNat (fun j h1 h2 => h j h1 (by omega))
theorem sN_add (f g : Int → Int) : ∀ (n : Nat), sN (fun j => f j + g j) n = sN f n + sN g n
  | 0 => rfl
  | n + 1 => by
    show sN _ n + (f n + g n) = sN f n + f n + (sN g n + g n)
    rw [sN_add f g n]; omega
theorem su_add (f g : Int → Int) (n : Int) : su (fun j => f j + g j) n = su f n + su g n := sN_add f g n.toNat
theorem sN_le {f g : Int → Int} : ∀ (n : Nat), (∀ j : Int, 0 ≤ j → j < n → f j ≤ g j) → sN f n ≤ sN g n
  | 0, _ => Int.le_refl _
  | n + 1, h => by
    show sN f n + f n ≤ sN g n + g n
    have h1 := sN_le n (fun j h1 h2 => h j h1 (by omega))
    have h2 := h n (by omega) (by omega)
    omega
theorem su_le {f g : Int → Int} {n : Int} (h : ∀ j : Int, 0 ≤ j → j < n → f j ≤ g j) : su f n ≤ su g n :=
  sN_le n.toNat (fun j h1 h2 => h j h1 (by omega))
theorem sN_const (x : Int) : ∀ n : Nat, sN (fun _ => x) n = x * n
  | 0 => by show (0 : Int) = x * 0; omega
  | n + 1 => by
    show sN _ n + x = x * ((n + 1 : Nat) : Int)
    rw [sN_const x n, show ((n + 1 : Nat) : Int) = (n : Int) + 1 from rfl, Int.mul_add]; omega
theorem su_const (x : Int) {n : Int} (h : 0 ≤ n) : su (fun _ => x) n = x * n := by
  have := sN_const x n.toNat
  rw [Int.toNat_of_nonneg h] at this
  exact this
theorem su_nn {f : Int → Int} {n : Int} (h : ∀ j : Int, 0 ≤ j → j < n → 0 ≤ f j) : 0 ≤ su f n := by
  by_cases hn : 0 ≤ n
  · have := su_le (f := fun _ => 0) (g := f) (n := n) h
    rw [su_const 0 hn] at this
    omega
  · rw [su_neg (by omega)]; omega
theorem su_ub {f : Int → Int} {n : Int} (hn : 0 ≤ n) (h : ∀ j : Int, 0 ≤ j → j < n → f j ≤ 1) : su f n ≤ n := by
  have := su_le (f := f) (g := fun _ => 1) (n := n) h
  rw [su_const 1 hn] at this
  omega
theorem sN_up {f g : Int → Int} {k : Int} (h : ∀ j : Int, j ≠ k → f j = g j) : ∀ (n : Nat), 0 ≤ k → sN f n = sN g n + (if k < n then f k - g k else 0)
  | 0, hk => by
    rw [if_neg (by omega)]; rfl
  | n + 1, hk => by
    show sN f n + f n = sN g n + g n + _
    rw [sN_up h n hk]
    by_cases e : (n : Int) = k
    · subst e
      rw [if_neg (by omega), if_pos (by omega)]; omega
    · rw [h n e]
      by_cases c : k < n
      · rw [if_pos c, if_pos (by omega)]; omega
      · rw [if_neg c, if_neg (by omega)]; omega
/-- one term changes -/
theorem su_up {f g : Int → Int} {k n : Int} (h : ∀ j : Int, j ≠ k → f j = g j) (h0 : 0 ≤ k) (h1 : k < n) : su f n = su g n + (f k - g k) := by
  unfold su
  rw [sN_up h n.toNat h0, if_pos (by omega)]
theorem su_out {f g : Int → Int} {k n : Int} (h : ∀ j : Int, j ≠ k → f j = g j) (h1 : k < 0 ∨ n ≤ k) : su f n = su g n :=
  su_congr (fun j a b => h j (by omega))
theorem su_one {k n x : Int} (h0 : 0 ≤ k) (h1 : k < n) : su (fun j => if j = k then x else 0) n = x := by
  rw [su_up (f := fun j => if j = k then x else 0) (g := fun _ => 0) (k := k) (fun j hj => if_neg hj) h0 h1, su_const 0 (by omega), if_pos rfl]; omega
theorem sN_z {f : Int → Int} : ∀ (n : Nat), (∀ j : Int, 0 ≤ j → j < n → 0 ≤ f j) → sN f n ≤ 0 → ∀ j : Int, 0 ≤ j → j < n → f j = 0
  | 0, _, _ => fun j h1 h2 => absurd h2 (by omega)
  | n + 1, h, hz => by
    intro j h1 h2
    have hz : sN f n + f n ≤ 0 := hz
    have a := h n (by omega) (by omega)
    have b : 0 ≤ sN f n := by
      have := su_nn (f := f) (n := (n : Int)) (fun j a b => h j a (by omega))
      exact this
    by_cases e : j = n
    · rw [e]; omega
    · exact sN_z n (fun j a b => h j a (by omega)) (by omega) j h1 (by omega)
theorem su_z {f : Int → Int} {n : Int} (h : ∀ j : Int, 0 ≤ j → j < n → 0 ≤ f j) (hz : su f n ≤ 0) {j : Int} (h1 : 0 ≤ j) (h2 : j < n) : f j = 0 :=
  sN_z n.toNat (fun j a b => h j a (by omega)) hz j h1 (by omega)
theorem su_ex {f : Int → Int} {n : Int} (hp : 0 < su f n) : ∃ j : Int, 0 ≤ j ∧ j < n ∧ 0 < f j := by
  apply Classical.byContradiction
  intro hc
  have hn : 0 ≤ n := by
    apply Classical.byContradiction
    intro g
    rw [su_neg (by omega)] at hp; omega
  have h : ∀ j : Int, 0 ≤ j → j < n → f j ≤ 0 := fun j a b => by
    apply Classical.byContradiction
    intro g
    exact hc ⟨j, a, b, by omega⟩
  have := su_le (f := f) (g := fun _ => 0) (n := n) h
  rw [su_const 0 hn] at this
  omega
theorem sN_swap (F : Int → Int → Int) (m : Int) : ∀ n : Nat, sN (fun i => su (fun j => F i j) m) n = su (fun j => sN (fun i => F i j) n) m
  | 0 => by
    show 0 = su (fun j => 0) m
    by_cases h : 0 ≤ m
    · rw [su_const 0 h]; omega
    · rw [su_neg (by omega)]
  | n + 1 => by
    show sN (fun i => su (fun j => F i j) m) n + su (fun j => F n j) m = _
    rw [sN_swap F m n, ← su_add]
    rfl
theorem su_swap (F : Int → Int → Int) (n m : Int) : su (fun i => su (fun j => F i j) m) n = su (fun j => su (fun i => F i j) n) m := sN_swap F m n.toNat
theorem su_mul (x : Int) (f : Int → Int) (n : Int) : su (fun j => x * f j) n = x * su f n := by
  unfold su
  induction n.toNat with
  | zero => show (0 : Int) = x * 0; omega
  | succ k ih =>
    show sN _ k + x * f k = x * (sN f k + f k)
    rw [ih, Int.mul_add]
/-- an indicator -/
def ind (p : Prop) [Decidable p] : Int := if p then 1 else 0
theorem ind_t {p : Prop} [Decidable p] (h : p) : ind p = 1 := if_pos h
theorem ind_f {p : Prop} [Decidable p] (h : ¬ p) : ind p = 0 := if_neg h
theorem ind_01 (p : Prop) [Decidable p] : ind p = 0 ∨ ind p = 1 := by
  by_cases h : p
  · exact Or.inr (ind_t h)
  · exact Or.inl (ind_f h)
theorem ind_c {p q : Prop} [Decidable p] [Decidable q] (h : p ↔ q) : ind p = ind q := by
  by_cases a : p
  · rw [ind_t a, ind_t (h.mp a)]
  · rw [ind_f a, ind_f (fun b => a (h.mpr b))]
