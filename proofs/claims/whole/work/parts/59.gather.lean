/-! GATHERING a part: the queue lists, each once, the fields that bear the part's number -/
def qen (nf ct nq : Int) (p q : Int → Int) : Prop := ∀ h : Int → Int, su (fun i => h (q i)) nq = su (fun g => if p g = ct then h g else 0) nf
theorem qen_add {nf ct nq a : Int} {p q : Int → Int} (h : qen nf ct nq p q) (h0 : 0 ≤ nq) (a0 : 0 ≤ a) (a1 : a < nf) (hp : p a ≠ ct) : qen nf ct (nq + 1) (uI p a ct) (uI q nq a) := fun f => by
  rw [su_s h0, uI_eq, su_congr (g := fun i => f (q i)) (fun j _ b => by rw [uI_ne (by omega)]), h f]
  rw [su_up (f := fun g => if uI p a ct g = ct then f g else 0) (g := fun g => if p g = ct then f g else 0) (k := a) (fun j hj => by rw [uI_ne hj]) a0 a1]
  rw [uI_eq, if_pos rfl, if_neg hp]
  omega
theorem qen_n {nf ct nq : Int} {p q : Int → Int} (h : qen nf ct nq p q) (h0 : 0 ≤ nq) : nq = cF p ct nf := by
  have a := h (fun _ => 1)
  have b := su_const 1 h0
  have e : su (fun i => (fun _ : Int => (1 : Int)) (q i)) nq = su (fun _ => 1) nq := rfl
  rw [e, b] at a
  have d : su (fun g => if p g = ct then (fun _ : Int => (1 : Int)) g else 0) nf = cF p ct nf := rfl
  rw [d] at a
  omega
/-- one that does not bear the number leaves room for itself -/
theorem cF_lt {p : Int → Int} {ct n a : Int} (a0 : 0 ≤ a) (a1 : a < n) (h : p a ≠ ct) : cF p ct n < n := by
  have e : cF (uI p a ct) ct n = cF p ct n + 1 := by
    unfold cF
    rw [su_up (f := fun f => if uI p a ct f = ct then 1 else 0) (g := fun f => if p f = ct then 1 else 0) (k := a) (fun j hj => by rw [uI_ne hj]) a0 a1, uI_eq, if_pos rfl, if_neg h]
    omega
  have b : cF (uI p a ct) ct n ≤ n := su_ub (by omega) (fun j _ _ => (ite_bd _).2)
  omega
/-- the state of a gathering: x the open sides, fd the field that it began with, r the numbers before it -/
def gst (x o1 o2 : Int → Int) (nf ns fd ct : Int) (r : Int → Int) (nq : Int) (p q : Int → Int) : Prop := (1 ≤ nq ∧ nq ≤ nf) ∧ q 0 = fd ∧ (∀ i : Int, 0 ≤ i → i < nq → 0 ≤ q i ∧ q i < nf ∧ p (q i) = ct ∧ con x o1 o2 ns fd (q i)) ∧ (∀ g : Int, 0 ≤ g → g < nf → (p g = ct ∧ con x o1 o2 ns fd g) ∨ (p g = r g ∧ p g ≠ ct)) ∧ qen nf ct nq p q
theorem gst_join {x o1 o2 : Int → Int} {nf ns fd ct nq a b : Int} {r p q : Int → Int} (h : gst x o1 o2 nf ns fd ct r nq p q) (b0 : 0 ≤ b) (b1 : b < nf) (hb : p b ≠ ct) (ha : con x o1 o2 ns fd a) (hab : adj x o1 o2 ns a b) : nq < nf ∧ gst x o1 o2 nf ns fd ct r (nq + 1) (uI p b ct) (uI q nq b) := by
  obtain ⟨h1, h2, h3, h4, h5⟩ := h
  have e := qen_n h5 (by omega)
  have f := cF_lt b0 b1 hb
  have cb : con x o1 o2 ns fd b := con_step ha hab
  refine ⟨by omega, by omega, by rw [uI_ne (by omega)]; exact h2, fun i i0 i1 => ?_, fun g g0 g1 => ?_, qen_add h5 (by omega) b0 b1 hb⟩
  · by_cases k : i = nq
    · rw [k, uI_eq, uI_eq]; exact ⟨b0, b1, rfl, cb⟩
    · rw [uI_ne k]
      obtain ⟨a1, a2, a3, a4⟩ := h3 i i0 (by omega)
      refine ⟨a1, a2, ?_, a4⟩
      rw [uI_ne (fun z => hb (by rw [← z]; exact a3))]; exact a3
  · by_cases k : g = b
    · rw [k, uI_eq]; exact Or.inl ⟨rfl, cb⟩
    · rw [uI_ne k]; exact h4 g g0 g1
/-- the field a has all its neighbours numbered, as far as its first n sides go -/
def gcl (x o1 o2 sx : Int → Int) (ct a n : Int) (p : Int → Int) : Prop := ∀ j : Int, 0 ≤ j → j < n → x (sx (a * 4 + j)) = 1 → acr o1 o2 (sx (a * 4 + j)) a ≠ -1 → p (acr o1 o2 (sx (a * 4 + j)) a) = ct
theorem gcl_up {x o1 o2 sx : Int → Int} {ct a n b : Int} {p : Int → Int} (h : gcl x o1 o2 sx ct a n p) : gcl x o1 o2 sx ct a n (uI p b ct) := fun j j0 j1 j2 j3 => by
  by_cases k : acr o1 o2 (sx (a * 4 + j)) a = b
  · rw [k, uI_eq]
  · rw [uI_ne k]; exact h j j0 j1 j2 j3
/-- all is gathered when every queued field has its neighbours numbered -/
theorem gst_end {x o1 o2 sx sc : Int → Int} {nf ns fd ct nq : Int} {r p q : Int → Int} (h : gst x o1 o2 nf ns fd ct r nq p q) (hin : ∀ g s : Int, 0 ≤ g → g < nf → 0 ≤ s → s < ns → (o1 s = g ∨ o2 s = g) → ∃ j : Int, 0 ≤ j ∧ j < sc g ∧ sx (g * 4 + j) = s) (ho1 : ∀ j : Int, 0 ≤ j → j < ns → 0 ≤ o1 j ∧ o1 j < nf) (ho2 : ∀ j : Int, 0 ≤ j → j < ns → -1 ≤ o2 j ∧ o2 j < nf) (hne : ∀ j : Int, 0 ≤ j → j < ns → o1 j ≠ o2 j)
    (hc : ∀ i : Int, 0 ≤ i → i < nq → gcl x o1 o2 sx ct (q i) (sc (q i)) p) {g : Int} (hg : con x o1 o2 ns fd g) : 0 ≤ g ∧ g < nf ∧ p g = ct := by
  obtain ⟨h1, h2, h3, h4, h5⟩ := h
  have inq : ∀ u : Int, 0 ≤ u → u < nf → p u = ct → ∃ i : Int, 0 ≤ i ∧ i < nq ∧ q i = u := fun u u0 u1 u2 => by
    apply Classical.byContradiction
    intro z
    have e := h5 (fun v => if v = u then 1 else 0)
    rw [su_congr (g := fun _ => 0) (n := nq) (fun j a b => by
      show (if q j = u then (1 : Int) else 0) = 0
      rw [if_neg (fun w => z ⟨j, a, b, w⟩)]), su_const 0 (by omega)] at e
    rw [su_congr (g := fun v => if v = u then 1 else 0) (n := nf) (fun j a b => by
      show (if p j = ct then (if j = u then (1 : Int) else 0) else 0) = (if j = u then 1 else 0)
      by_cases k : j = u
      · rw [k, if_pos u2]
      · rw [if_neg k, ite_self]), su_one u0 u1] at e
    omega
  refine hg (fun y => 0 ≤ y ∧ y < nf ∧ p y = ct) ?_ (fun u v hu hv => ?_)
  · have := h3 0 (by omega) (by omega)
    rw [h2] at this
    exact ⟨this.1, this.2.1, this.2.2.1⟩
  · obtain ⟨s, s0, s1, s2, s3, s4⟩ := hv
    obtain ⟨i, i0, i1, i2⟩ := inq u hu.1 hu.2.1 hu.2.2
    obtain ⟨j, j0, j1, j2⟩ := hin u s hu.1 hu.2.1 s0 s1 (by rcases s4 with k | k; exact Or.inl k.1; exact Or.inr k.2)
    have cl := hc i i0 i1
    rw [i2] at cl
    have cj := cl j j0 j1
    rw [j2] at cj
    have a := ho1 s s0 s1
    have b := ho2 s s0 s1
    have d := hne s s0 s1
    unfold acr at cj
    rcases s4 with ⟨k1, k2⟩ | ⟨k1, k2⟩
    · rw [if_pos k1] at cj
      have := cj s2 s3
      rw [k2] at this b s3
      exact ⟨by omega, b.2, this⟩
    · rw [if_neg (by omega)] at cj
      have := cj s2 (by omega)
      rw [k1] at this a
      exact ⟨a.1, a.2, this⟩
theorem qen_0 {nf ct : Int} {p q : Int → Int} (hn : 0 ≤ nf) (h : ∀ g : Int, 0 ≤ g → g < nf → p g ≠ ct) : qen nf ct 0 p q := fun f => by
  rw [su_0, su_congr (g := fun _ => 0) (n := nf) (fun j a b => by show (if p j = ct then f j else 0) = 0; rw [if_neg (h j a b)]), su_const 0 hn]
  omega
theorem gst_0 {x o1 o2 : Int → Int} {nf ns fd ct : Int} {r q : Int → Int} (f0 : 0 ≤ fd) (f1 : fd < nf) (h : ∀ g : Int, 0 ≤ g → g < nf → r g ≠ ct) : gst x o1 o2 nf ns fd ct r (0 + 1) (uI r fd ct) (uI q 0 fd) := by
  refine ⟨by omega, uI_eq _ _ _, fun i i0 i1 => ?_, fun g g0 g1 => ?_, qen_add (qen_0 (by omega) h) (by omega) f0 f1 (h fd f0 f1)⟩
  · rw [show i = 0 by omega, uI_eq, uI_eq]; exact ⟨f0, f1, rfl, con_refl _ _ _ _ _⟩
  · by_cases k : g = fd
    · rw [k, uI_eq]; exact Or.inl ⟨rfl, con_refl _ _ _ _ _⟩
    · rw [uI_ne k]; exact Or.inr ⟨rfl, h g g0 g1⟩
theorem gst_old {x o1 o2 : Int → Int} {nf ns fd ct nq b : Int} {r p q : Int → Int} (h : gst x o1 o2 nf ns fd ct r nq p q) (b0 : 0 ≤ b) (b1 : b < nf) (hr : r b = -1) (hp : p b ≠ -1) : p b = ct := by
  rcases h.2.2.2.1 b b0 b1 with g | g
  · exact g.1
  · exact absurd (by rw [g.1]; exact hr) hp
theorem acr_adj {x o1 o2 : Int → Int} {ns s a : Int} (s0 : 0 ≤ s) (s1 : s < ns) (hx : x s = 1) (ha : 0 ≤ a) (hi : o1 s = a ∨ o2 s = a) (hn : acr o1 o2 s a ≠ -1) : adj x o1 o2 ns a (acr o1 o2 s a) := by
  unfold acr at hn ⊢
  by_cases e : o1 s = a
  · rw [if_pos e] at hn ⊢
    exact ⟨s, s0, s1, hx, hn, Or.inl ⟨e, rfl⟩⟩
  · rw [if_neg e] at hn ⊢
    have : o2 s = a := by rcases hi with g | g; exact absurd g e; exact g
    exact ⟨s, s0, s1, hx, by omega, Or.inr ⟨rfl, this⟩⟩
