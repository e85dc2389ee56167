/-! WHAT HANGS TOGETHER: fields by open sides of two; the least field of each part -/
def adj (x o1 o2 : Int → Int) (ns a b : Int) : Prop := ∃ s : Int, 0 ≤ s ∧ s < ns ∧ x s = 1 ∧ o2 s ≠ -1 ∧ ((o1 s = a ∧ o2 s = b) ∨ (o1 s = b ∧ o2 s = a))
def con (x o1 o2 : Int → Int) (ns a b : Int) : Prop := ∀ P : Int → Prop, P a → (∀ u v : Int, P u → adj x o1 o2 ns u v → P v) → P b
theorem adj_symm {x o1 o2 : Int → Int} {ns a b : Int} (h : adj x o1 o2 ns a b) : adj x o1 o2 ns b a := by
  obtain ⟨s, h0, h1, h2, h3, h4⟩ := h
  exact ⟨s, h0, h1, h2, h3, h4.symm⟩
theorem con_refl (x o1 o2 : Int → Int) (ns a : Int) : con x o1 o2 ns a a := fun _ h _ => h
theorem con_step {x o1 o2 : Int → Int} {ns a b d : Int} (h : con x o1 o2 ns a b) (g : adj x o1 o2 ns b d) : con x o1 o2 ns a d := fun P h0 h1 => h1 b d (h P h0 h1) g
theorem con_trans {x o1 o2 : Int → Int} {ns a b d : Int} (h : con x o1 o2 ns a b) (g : con x o1 o2 ns b d) : con x o1 o2 ns a d := fun P h0 h1 => g P (h P h0 h1) h1
theorem con_adj {x o1 o2 : Int → Int} {ns a b : Int} (g : adj x o1 o2 ns a b) : con x o1 o2 ns a b := con_step (con_refl x o1 o2 ns a) g
theorem con_symm {x o1 o2 : Int → Int} {ns a b : Int} (h : con x o1 o2 ns a b) : con x o1 o2 ns b a :=
  h (fun y => con x o1 o2 ns y a) (con_refl x o1 o2 ns a) (fun u v hu hv => con_trans (con_adj (adj_symm hv)) hu)
theorem adj_congr {x y o1 o2 : Int → Int} {ns a b : Int} (h : ∀ s : Int, 0 ≤ s → s < ns → x s = y s) (g : adj x o1 o2 ns a b) : adj y o1 o2 ns a b := by
  obtain ⟨s, h0, h1, h2, h3, h4⟩ := g
  exact ⟨s, h0, h1, by rw [← h s h0 h1]; exact h2, h3, h4⟩
theorem con_congr {x y o1 o2 : Int → Int} {ns a b : Int} (h : ∀ s : Int, 0 ≤ s → s < ns → x s = y s) (g : con x o1 o2 ns a b) : con y o1 o2 ns a b := fun P h0 h1 => g P h0 (fun u v hu hv => h1 u v hu (adj_congr h hv))
/-- g is the least field that hangs together with f -/
def isL (x o1 o2 : Int → Int) (ns f g : Int) : Prop := con x o1 o2 ns f g ∧ ∀ d : Int, con x o1 o2 ns f d → g ≤ d
theorem isL_uniq {x o1 o2 : Int → Int} {ns f g g' : Int} (h : isL x o1 o2 ns f g) (h' : isL x o1 o2 ns f g') : g = g' := by
  have a := h.2 g' h'.1
  have b := h'.2 g h.1
  omega
theorem isL_con {x o1 o2 : Int → Int} {ns f d g : Int} (hc : con x o1 o2 ns f d) (h : isL x o1 o2 ns f g) : isL x o1 o2 ns d g :=
  ⟨con_trans (con_symm hc) h.1, fun e he => h.2 e (con_trans hc he)⟩
theorem isL_self {x o1 o2 : Int → Int} {ns f g : Int} (h : isL x o1 o2 ns f g) : isL x o1 o2 ns g g := isL_con h.1 h
/-- the parts: their least fields rising, the part of each field -/
def ptS (x o1 o2 : Int → Int) (nf ns np : Int) (pO pM : Int → Int) : Prop := (0 ≤ np ∧ np ≤ 200) ∧
  (∀ f : Int, 0 ≤ f → f < nf → (osd x o1 o2 f ns = 0 → pO f = -1) ∧ (osd x o1 o2 f ns ≠ 0 → 0 ≤ pO f ∧ pO f < np ∧ isL x o1 o2 ns f (pM (pO f)))) ∧
  (∀ p : Int, 0 ≤ p → p < np → 0 ≤ pM p ∧ pM p < nf ∧ osd x o1 o2 (pM p) ns ≠ 0 ∧ pO (pM p) = p) ∧ (∀ p q : Int, 0 ≤ p → p < q → q < np → pM p < pM q)
theorem mono_ge {n : Int} {m : Int → Int} (h0 : ∀ p : Int, 0 ≤ p → p < n → 0 ≤ m p) (h : ∀ p q : Int, 0 ≤ p → p < q → q < n → m p < m q) : ∀ k : Nat, (k : Int) < n → (k : Int) ≤ m k
  | 0, hk => h0 0 (by omega) hk
  | k + 1, hk => by
    have a := mono_ge h0 h k (by omega)
    have b := h k ((k + 1 : Nat) : Int) (by omega) (by omega) hk
    omega
theorem ptS_to {x o1 o2 : Int → Int} {nf ns np np' : Int} {pO pM pO' pM' : Int → Int} (h : ptS x o1 o2 nf ns np pO pM) (h' : ptS x o1 o2 nf ns np' pO' pM') {p : Int} (a : 0 ≤ p) (b : p < np) : 0 ≤ pO' (pM p) ∧ pO' (pM p) < np' ∧ pM' (pO' (pM p)) = pM p := by
  obtain ⟨c0, c1, c2, c3⟩ := h.2.2.1 p a b
  obtain ⟨d0, d1, d2⟩ := (h'.2.1 (pM p) c0 c1).2 c2
  obtain ⟨e0, e1, e2⟩ := (h.2.1 (pM p) c0 c1).2 c2
  rw [c3] at e2
  exact ⟨d0, d1, isL_uniq d2 e2⟩
theorem ptS_lt {x o1 o2 : Int → Int} {nf ns np : Int} {pO pM : Int → Int} (h : ptS x o1 o2 nf ns np pO pM) {p q : Int} (a : 0 ≤ p) (b : p < np) (c : 0 ≤ q) (d : q < np) (e : pM p < pM q) : p < q := by
  apply Classical.byContradiction
  intro g
  by_cases f : p = q
  · rw [f] at e; omega
  · have := h.2.2.2 q p c (by omega) b
    omega
theorem ptS_le {x o1 o2 : Int → Int} {nf ns np np' : Int} {pO pM pO' pM' : Int → Int} (h : ptS x o1 o2 nf ns np pO pM) (h' : ptS x o1 o2 nf ns np' pO' pM') {p : Int} (a : 0 ≤ p) (b : p < np) : p ≤ pO' (pM p) := by
  have := mono_ge (n := np) (m := fun p => pO' (pM p)) (fun p a b => (ptS_to h h' a b).1) (fun p q a b c => by
    have e1 := ptS_to h h' a (show p < np by omega)
    have e2 := ptS_to h h' (show 0 ≤ q by omega) c
    exact ptS_lt h' e1.1 e1.2.1 e2.1 e2.2.1 (by rw [e1.2.2, e2.2.2]; exact h.2.2.2 p q a b c)) p.toNat (by omega)
  rw [Int.toNat_of_nonneg a] at this
  exact this
theorem ptS_eq {x o1 o2 : Int → Int} {nf ns np np' : Int} {pO pM pO' pM' : Int → Int} (h : ptS x o1 o2 nf ns np pO pM) (h' : ptS x o1 o2 nf ns np' pO' pM') {p : Int} (a : 0 ≤ p) (b : p < np) : p < np' ∧ pM p = pM' p := by
  have e := ptS_to h h' a b
  have f := ptS_le h h' a b
  have g := ptS_le h' h e.1 e.2.1
  rw [e.2.2, (h.2.2.1 p a b).2.2.2] at g
  have i : pO' (pM p) = p := by omega
  rw [i] at e
  exact ⟨e.2.1, e.2.2.symm⟩
/-- there is one such layout alone -/
theorem ptS_uniq {x o1 o2 : Int → Int} {nf ns np np' : Int} {pO pM pO' pM' : Int → Int} (h : ptS x o1 o2 nf ns np pO pM) (h' : ptS x o1 o2 nf ns np' pO' pM') : np = np' ∧ (∀ p : Int, 0 ≤ p → p < np → pM p = pM' p) ∧ ∀ f : Int, 0 ≤ f → f < nf → pO f = pO' f := by
  have hn : np = np' := by
    have a := h.1
    have b := h'.1
    rcases Int.lt_trichotomy np np' with g | g | g
    · have := (ptS_eq h' h (p := np' - 1) (by omega) (by omega)).1
      omega
    · exact g
    · have := (ptS_eq h h' (p := np - 1) (by omega) (by omega)).1
      omega
  refine ⟨hn, fun p a b => (ptS_eq h h' a b).2, fun f a b => ?_⟩
  by_cases g : osd x o1 o2 f ns = 0
  · rw [(h.2.1 f a b).1 g, (h'.2.1 f a b).1 g]
  · obtain ⟨c0, c1, c2⟩ := (h.2.1 f a b).2 g
    obtain ⟨d0, d1, d2⟩ := (h'.2.1 f a b).2 g
    have e := isL_uniq c2 d2
    have i := (ptS_eq h h' c0 c1).2
    have j := (ptS_eq h' h d0 d1).2
    rw [j] at e
    have k1 := (h.2.2.1 _ c0 c1).2.2.2
    have k2 := (h.2.2.1 _ d0 (by omega)).2.2.2
    rw [e, k2] at k1
    exact k1.symm
/-! counts of a part -/
def cF (pO : Int → Int) (p n : Int) : Int := su (fun f => if pO f = p then 1 else 0) n
def cO (pO dg : Int → Int) (p n : Int) : Int := su (fun f => if pO f = p ∧ dg f = 1 then 1 else 0) n
def cC (pO dg : Int → Int) (p n : Int) : Int := su (fun f => if pO f = p ∧ 2 < dg f then 1 else 0) n
def cS (x o1 pO : Int → Int) (p n : Int) : Int := su (fun s => if x s = 1 ∧ pO (o1 s) = p then 1 else 0) n
def cU (x o1 o2 pO : Int → Int) (p n : Int) : Int := su (fun s => if x s = 1 ∧ pO (o1 s) = p ∧ o2 s = -1 then 1 else 0) n
theorem cF_s {pO : Int → Int} {p n : Int} (h : 0 ≤ n) : cF pO p (n + 1) = cF pO p n + (if pO n = p then 1 else 0) := su_s h
theorem cO_s {pO dg : Int → Int} {p n : Int} (h : 0 ≤ n) : cO pO dg p (n + 1) = cO pO dg p n + (if pO n = p ∧ dg n = 1 then 1 else 0) := su_s h
theorem cC_s {pO dg : Int → Int} {p n : Int} (h : 0 ≤ n) : cC pO dg p (n + 1) = cC pO dg p n + (if pO n = p ∧ 2 < dg n then 1 else 0) := su_s h
theorem cS_s {x o1 pO : Int → Int} {p n : Int} (h : 0 ≤ n) : cS x o1 pO p (n + 1) = cS x o1 pO p n + (if x n = 1 ∧ pO (o1 n) = p then 1 else 0) := su_s h
theorem cU_s {x o1 o2 pO : Int → Int} {p n : Int} (h : 0 ≤ n) : cU x o1 o2 pO p (n + 1) = cU x o1 o2 pO p n + (if x n = 1 ∧ pO (o1 n) = p ∧ o2 n = -1 then 1 else 0) := su_s h
theorem cF_nn (pO : Int → Int) (p n : Int) : 0 ≤ cF pO p n := su_nn' (fun k => (ite_bd _).1) n
theorem cO_nn (pO dg : Int → Int) (p n : Int) : 0 ≤ cO pO dg p n := su_nn' (fun k => (ite_bd _).1) n
theorem cC_nn (pO dg : Int → Int) (p n : Int) : 0 ≤ cC pO dg p n := su_nn' (fun k => (ite_bd _).1) n
theorem cU_nn (x o1 o2 pO : Int → Int) (p n : Int) : 0 ≤ cU x o1 o2 pO p n := su_nn' (fun k => (ite_bd _).1) n
theorem cS_nn (x o1 pO : Int → Int) (p n : Int) : 0 ≤ cS x o1 pO p n := su_nn' (fun k => (ite_bd _).1) n
/-- the fields' numbers of open sides -/
def dgF (x o1 o2 : Int → Int) (ns : Int) : Int → Int := fun f => osd x o1 o2 f ns
def kdS (x o1 o2 pO : Int → Int) (nf ns p : Int) : Int := if 0 < cC pO (dgF x o1 o2 ns) p nf then 2 else if cO pO (dgF x o1 o2 ns) p nf = 0 ∧ cU x o1 o2 pO p ns = 0 then 1 else 0
def loS (x o1 o2 pO : Int → Int) (nf ns p : Int) : Int := if kdS x o1 o2 pO nf ns p = 0 then cO pO (dgF x o1 o2 ns) p nf else 0
theorem cF_pos {pO : Int → Int} {p n f : Int} (h0 : 0 ≤ f) (h1 : f < n) (h : pO f = p) : 0 < cF pO p n := by
  apply Classical.byContradiction
  intro g
  have := su_z (f := fun f => if pO f = p then 1 else 0) (n := n) (fun j _ _ => (ite_bd _).1) (show su _ n ≤ 0 by show cF pO p n ≤ 0; omega) h0 h1
  have e : (if pO f = p then (1 : Int) else 0) = 0 := this
  rw [if_pos h] at e
  omega
