/-! SURVEYING: the parts whose least field lies below i are known -/
theorem con_live {x o1 o2 : Int → Int} {nf ns : Int} (ho1 : ∀ j : Int, 0 ≤ j → j < ns → 0 ≤ o1 j ∧ o1 j < nf) (ho2 : ∀ j : Int, 0 ≤ j → j < ns → -1 ≤ o2 j ∧ o2 j < nf) {f d : Int} (h0 : 0 ≤ f) (h1 : f < nf) (hl : osd x o1 o2 f ns ≠ 0) (hc : con x o1 o2 ns f d) : 0 ≤ d ∧ d < nf ∧ osd x o1 o2 d ns ≠ 0 := by
  have := stb_live (w := fun _ => 0) (fun s _ _ _ _ => rfl) ho1 ho2 h0 h1 hl hc
  exact ⟨this.1, this.2.1, this.2.2.1⟩
def svI (x o1 o2 : Int → Int) (nf ns i ct : Int) (p le : Int → Int) : Prop := (0 ≤ ct ∧ ct ≤ i) ∧
  (∀ g : Int, 0 ≤ g → g < nf → (osd x o1 o2 g ns = 0 → p g = -1) ∧ (osd x o1 o2 g ns ≠ 0 → (p g = -1 ∧ ∀ d : Int, con x o1 o2 ns g d → i ≤ d) ∨ (0 ≤ p g ∧ p g < ct ∧ isL x o1 o2 ns g (le (p g)) ∧ le (p g) < i))) ∧
  (∀ q : Int, 0 ≤ q → q < ct → 0 ≤ le q ∧ le q < i ∧ osd x o1 o2 (le q) ns ≠ 0 ∧ p (le q) = q) ∧ (∀ q r : Int, 0 ≤ q → q < r → r < ct → le q < le r)
theorem svI_0 {x o1 o2 : Int → Int} {nf ns : Int} {p le : Int → Int} (ho1 : ∀ j : Int, 0 ≤ j → j < ns → 0 ≤ o1 j ∧ o1 j < nf) (ho2 : ∀ j : Int, 0 ≤ j → j < ns → -1 ≤ o2 j ∧ o2 j < nf) (h : ∀ g : Int, 0 ≤ g → g < nf → p g = -1) : svI x o1 o2 nf ns 0 0 p le :=
  ⟨by omega, fun g g0 g1 => ⟨fun _ => h g g0 g1, fun l => Or.inl ⟨h g g0 g1, fun d hd => (con_live ho1 ho2 g0 g1 l hd).1⟩⟩, fun q a b => absurd b (by omega), fun q r a b c => absurd c (by omega)⟩
theorem svI_skip {x o1 o2 : Int → Int} {nf ns i ct : Int} {p le : Int → Int} (ho1 : ∀ j : Int, 0 ≤ j → j < ns → 0 ≤ o1 j ∧ o1 j < nf) (ho2 : ∀ j : Int, 0 ≤ j → j < ns → -1 ≤ o2 j ∧ o2 j < nf) (h : svI x o1 o2 nf ns i ct p le) (hi : ¬ (osd x o1 o2 i ns ≠ 0 ∧ p i = -1)) : svI x o1 o2 nf ns (i + 1) ct p le := by
  obtain ⟨a, b, c, d⟩ := h
  refine ⟨by omega, fun g g0 g1 => ⟨(b g g0 g1).1, fun l => ?_⟩, fun q q0 q1 => ?_, d⟩
  · rcases (b g g0 g1).2 l with k | k
    · refine Or.inl ⟨k.1, fun e he => ?_⟩
      have m1 := k.2 e he
      by_cases z : e = i
      · exfalso
        rw [z] at he
        obtain ⟨i0, i1, i2⟩ := con_live ho1 ho2 g0 g1 l he
        rcases (b i i0 i1).2 i2 with v | v
        · exact hi ⟨i2, v.1⟩
        · have := k.2 _ (con_trans he v.2.2.1.1)
          omega
      · omega
    · exact Or.inr ⟨k.1, k.2.1, k.2.2.1, by omega⟩
  · have := c q q0 q1
    exact ⟨this.1, by omega, this.2.2⟩
theorem svI_new {x o1 o2 : Int → Int} {nf ns i ct : Int} {p p' le : Int → Int} (ho1 : ∀ j : Int, 0 ≤ j → j < ns → 0 ≤ o1 j ∧ o1 j < nf) (ho2 : ∀ j : Int, 0 ≤ j → j < ns → -1 ≤ o2 j ∧ o2 j < nf) (h : svI x o1 o2 nf ns i ct p le) (i0 : 0 ≤ i) (i1 : i < nf) (hl : osd x o1 o2 i ns ≠ 0) (hp : p i = -1)
    (h1 : ∀ g : Int, 0 ≤ g → g < nf → (p' g = ct ∧ con x o1 o2 ns i g) ∨ (p' g = p g ∧ p' g ≠ ct)) (h2 : ∀ g : Int, con x o1 o2 ns i g → p' g = ct) : svI x o1 o2 nf ns (i + 1) (ct + 1) p' (uI le ct i) := by
  obtain ⟨a, b, c, d⟩ := h
  have li : ∀ e : Int, con x o1 o2 ns i e → i ≤ e := by
    rcases (b i i0 i1).2 hl with k | k
    · exact k.2
    · have := k.1; omega
  refine ⟨by omega, fun g g0 g1 => ⟨fun z => ?_, fun l => ?_⟩, fun q q0 q1 => ?_, fun q r q0 qr r1 => ?_⟩
  · rcases h1 g g0 g1 with k | k
    · exact absurd z (con_live ho1 ho2 i0 i1 hl k.2).2.2
    · rw [k.1]; exact (b g g0 g1).1 z
  · by_cases k : con x o1 o2 ns i g
    · rw [h2 g k, uI_eq]
      exact Or.inr ⟨by omega, by omega, isL_con k ⟨con_refl _ _ _ _ _, li⟩, by omega⟩
    · rcases h1 g g0 g1 with v | v
      · exact absurd v.2 k
      · rcases (b g g0 g1).2 l with u | u
        · refine Or.inl ⟨by rw [v.1]; exact u.1, fun e he => ?_⟩
          have := u.2 e he
          have ne : e ≠ i := fun z => k (by rw [z] at he; exact con_symm he)
          omega
        · rw [v.1, uI_ne (by omega)]
          exact Or.inr ⟨u.1, by omega, u.2.2.1, by omega⟩
  · by_cases k : q = ct
    · rw [k, uI_eq]; exact ⟨i0, by omega, hl, h2 i (con_refl _ _ _ _ _)⟩
    · rw [uI_ne k]
      obtain ⟨e0, e1, e2, e3⟩ := c q q0 (by omega)
      refine ⟨e0, by omega, e2, ?_⟩
      rcases h1 (le q) e0 (by omega) with v | v
      · have := li _ v.2; omega
      · rw [v.1]; exact e3
  · rw [uI_ne (show q ≠ ct by omega)]
    by_cases k : r = ct
    · rw [k, uI_eq]; exact (c q q0 (by omega)).2.1
    · rw [uI_ne k]; exact d q r q0 qr (by omega)
theorem svI_end {x o1 o2 : Int → Int} {nf ns ct : Int} {p le : Int → Int} (hnf : 0 ≤ nf ∧ nf ≤ 200) (h : svI x o1 o2 nf ns nf ct p le) : ptS x o1 o2 nf ns ct p le := by
  obtain ⟨a, b, c, d⟩ := h
  refine ⟨by omega, fun f f0 f1 => ⟨(b f f0 f1).1, fun l => ?_⟩, fun q q0 q1 => c q q0 q1, d⟩
  rcases (b f f0 f1).2 l with k | k
  · have := k.2 f (con_refl _ _ _ _ _); omega
  · exact ⟨k.1, k.2.1, k.2.2.1⟩
/-- what the class tells of each part -/
def ptG (oc x o1 o2 : Int → Int) (nf ns n : Int) (pO pF pS pK pL : Int → Int) : Prop := ∀ p : Int, 0 ≤ p → p < n → pF p = cF pO p nf ∧ pS p = cS x o1 pO p ns ∧ pK p = kdG oc x o1 o2 pO nf ns p ∧ pL p = loG oc x o1 o2 pO nf ns p
theorem cnt_congr {p p' oc x o1 o2 : Int → Int} {nf ns q : Int} (ho1 : ∀ j : Int, 0 ≤ j → j < ns → 0 ≤ o1 j ∧ o1 j < nf) (h : ∀ g : Int, 0 ≤ g → g < nf → (p g = q ↔ p' g = q)) : cF p q nf = cF p' q nf ∧ cS x o1 p q ns = cS x o1 p' q ns ∧ kdG oc x o1 o2 p nf ns q = kdG oc x o1 o2 p' nf ns q ∧ loG oc x o1 o2 p nf ns q = loG oc x o1 o2 p' nf ns q := by
  have e1 : cF p q nf = cF p' q nf := su_congr (fun g a b => by
    have := h g a b
    by_cases k : p g = q
    · rw [if_pos k, if_pos (this.mp k)]
    · rw [if_neg k, if_neg (fun z => k (this.mpr z))])
  have e2 : cO p oc q nf = cO p' oc q nf := su_congr (fun g a b => by
    have := h g a b
    by_cases k : p g = q ∧ oc g = 1
    · rw [if_pos k, if_pos ⟨this.mp k.1, k.2⟩]
    · rw [if_neg k, if_neg (fun z => k ⟨this.mpr z.1, z.2⟩)])
  have e3 : cC p oc q nf = cC p' oc q nf := su_congr (fun g a b => by
    have := h g a b
    by_cases k : p g = q ∧ 2 < oc g
    · rw [if_pos k, if_pos ⟨this.mp k.1, k.2⟩]
    · rw [if_neg k, if_neg (fun z => k ⟨this.mpr z.1, z.2⟩)])
  have e4 : cS x o1 p q ns = cS x o1 p' q ns := su_congr (fun s a b => by
    have o := ho1 s a b
    have := h (o1 s) o.1 o.2
    by_cases k : x s = 1 ∧ p (o1 s) = q
    · rw [if_pos k, if_pos ⟨k.1, this.mp k.2⟩]
    · rw [if_neg k, if_neg (fun z => k ⟨z.1, this.mpr z.2⟩)])
  have e5 : cU x o1 o2 p q ns = cU x o1 o2 p' q ns := su_congr (fun s a b => by
    have o := ho1 s a b
    have := h (o1 s) o.1 o.2
    by_cases k : x s = 1 ∧ p (o1 s) = q ∧ o2 s = -1
    · rw [if_pos k, if_pos ⟨k.1, this.mp k.2.1, k.2.2⟩]
    · rw [if_neg k, if_neg (fun z => k ⟨z.1, this.mpr z.2.1, z.2.2⟩)])
  have e6 : kdG oc x o1 o2 p nf ns q = kdG oc x o1 o2 p' nf ns q := by unfold kdG; rw [e2, e3, e5]
  exact ⟨e1, e4, e6, by unfold loG; rw [e6, e2]⟩
theorem ptG_s {oc x o1 o2 p p' pF pS pK pL : Int → Int} {nf ns n nq : Int} (ho1 : ∀ j : Int, 0 ≤ j → j < ns → 0 ≤ o1 j ∧ o1 j < nf) (h : ptG oc x o1 o2 nf ns n p pF pS pK pL) (hp : ∀ g q : Int, 0 ≤ g → g < nf → 0 ≤ q → q < n → (p g = q ↔ p' g = q)) (hq : nq = cF p' n nf) : ptG oc x o1 o2 nf ns (n + 1) p' (uI pF n nq) (uI pS n (cS x o1 p' n ns)) (uI pK n (kdG oc x o1 o2 p' nf ns n)) (uI pL n (loG oc x o1 o2 p' nf ns n)) := fun q q0 q1 => by
  by_cases e : q = n
  · rw [e, uI_eq, uI_eq, uI_eq, uI_eq]; exact ⟨hq, rfl, rfl, rfl⟩
  · rw [uI_ne e, uI_ne e, uI_ne e, uI_ne e]
    have c := cnt_congr (oc := oc) (x := x) (o2 := o2) ho1 (fun g a b => hp g q a b q0 (by omega))
    rw [← c.1, ← c.2.1, ← c.2.2.1, ← c.2.2.2]
    exact h q q0 (by omega)
theorem svI_comp {x o1 o2 : Int → Int} {nf ns i ct g : Int} {p le : Int → Int} (ho1 : ∀ j : Int, 0 ≤ j → j < ns → 0 ≤ o1 j ∧ o1 j < nf) (ho2 : ∀ j : Int, 0 ≤ j → j < ns → -1 ≤ o2 j ∧ o2 j < nf) (h : svI x o1 o2 nf ns i ct p le) (i0 : 0 ≤ i) (i1 : i < nf) (hl : osd x o1 o2 i ns ≠ 0) (hp : p i = -1) (hc : con x o1 o2 ns i g) : p g = -1 := by
  obtain ⟨g0, g1, g2⟩ := con_live ho1 ho2 i0 i1 hl hc
  have li : ∀ e : Int, con x o1 o2 ns i e → i ≤ e := by
    rcases (h.2.1 i i0 i1).2 hl with k | k
    · exact k.2
    · have := k.1; omega
  rcases (h.2.1 g g0 g1).2 g2 with k | k
  · exact k.1
  · have := li _ (con_trans hc k.2.2.1.1); omega
theorem svI_rg {x o1 o2 : Int → Int} {nf ns i ct : Int} {p le : Int → Int} (h : svI x o1 o2 nf ns i ct p le) {g : Int} (g0 : 0 ≤ g) (g1 : g < nf) : -1 ≤ p g ∧ p g < ct := by
  have a := h.1
  have b := h.2.1 g g0 g1
  by_cases e : osd x o1 o2 g ns = 0
  · have := b.1 e; omega
  · rcases b.2 e with k | k
    · have := k.1; omega
    · omega
def ktS (kd : Int → Int) (n : Int) : Int := su (fun q => if kd q = 2 then 1 else 0) n
theorem ktS_s {kd : Int → Int} {n v : Int} (h : 0 ≤ n) : ktS (uI kd n v) (n + 1) = ktS kd n + (if v = 2 then 1 else 0) := by
  unfold ktS
  rw [su_s h, uI_eq, su_congr (g := fun q => if kd q = 2 then 1 else 0) (fun j _ b => by rw [uI_ne (by omega)])]
theorem ktS_bd (kd : Int → Int) {n : Int} (h : 0 ≤ n) : 0 ≤ ktS kd n ∧ ktS kd n ≤ n := ⟨su_nn (fun j _ _ => (ite_bd _).1), su_ub h (fun j _ _ => (ite_bd _).2)⟩
