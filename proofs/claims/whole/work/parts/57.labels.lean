/-! LABELS that go down to the least field of a part -/
theorem osd_pos {x o1 o2 : Int → Int} {ns f s : Int} (h0 : 0 ≤ s) (h1 : s < ns) (hx : x s = 1) (hf : o1 s = f ∨ o2 s = f) : 0 < osd x o1 o2 f ns := by
  apply Classical.byContradiction
  intro g
  have := su_z (f := inc x o1 o2 f) (n := ns) (fun j _ _ => (inc_01 x o1 o2 f j).1) (show su _ ns ≤ 0 by show osd x o1 o2 f ns ≤ 0; omega) h0 h1
  unfold inc at this
  rw [if_pos ⟨hx, hf⟩] at this
  omega
def wsm (w : Int → Int) (n : Int) : Int := su (fun f => w f + 1) n
theorem wsm_nn {w : Int → Int} {n : Int} (h : ∀ f : Int, 0 ≤ f → f < n → -1 ≤ w f) : 0 ≤ wsm w n := su_nn (fun j a b => by have := h j a b; omega)
theorem wsm_up {w : Int → Int} {n a v : Int} (h0 : 0 ≤ a) (h1 : a < n) : wsm (uI w a v) n = wsm w n + (v - w a) := by
  unfold wsm
  rw [su_up (f := fun f => uI w a v f + 1) (g := fun f => w f + 1) (k := a) (fun j hj => by rw [uI_ne hj]) h0 h1, uI_eq]
  omega
/-- the labels so far: -1 where no side is open, else a field that hangs together with it, not above it -/
def lbl (x o1 o2 : Int → Int) (nf ns : Int) (w : Int → Int) : Prop := ∀ f : Int, 0 ≤ f → f < nf → (osd x o1 o2 f ns = 0 → w f = -1) ∧ (osd x o1 o2 f ns ≠ 0 → 0 ≤ w f ∧ w f ≤ f ∧ con x o1 o2 ns f (w f))
theorem lbl_rg {x o1 o2 : Int → Int} {nf ns : Int} {w : Int → Int} (h : lbl x o1 o2 nf ns w) {f : Int} (h0 : 0 ≤ f) (h1 : f < nf) : -1 ≤ w f ∧ w f ≤ f := by
  have a := h f h0 h1
  by_cases e : osd x o1 o2 f ns = 0
  · have := a.1 e; omega
  · have := a.2 e; omega
theorem lbl_up {x o1 o2 : Int → Int} {nf ns : Int} {w : Int → Int} (h : lbl x o1 o2 nf ns w) {a v : Int} (hl : osd x o1 o2 a ns ≠ 0) (hv : 0 ≤ v ∧ v ≤ a) (hc : con x o1 o2 ns a v) : lbl x o1 o2 nf ns (uI w a v) := fun f f0 f1 => by
  by_cases e : f = a
  · rw [e, uI_eq]
    exact ⟨fun g => absurd g hl, fun _ => ⟨hv.1, hv.2, hc⟩⟩
  · rw [uI_ne e]
    exact h f f0 f1
/-- one step down along an open side -/
theorem lbl_relax {x o1 o2 : Int → Int} {nf ns s : Int} {w : Int → Int} (h : lbl x o1 o2 nf ns w) (h0 : 0 ≤ s) (h1 : s < ns) (hx : x s = 1) (h2 : o2 s ≠ -1) (ha : 0 ≤ o1 s ∧ o1 s < nf) (hb : 0 ≤ o2 s ∧ o2 s < nf) (hne : w (o1 s) ≠ w (o2 s)) :
    lbl x o1 o2 nf ns (uI (uI w (o1 s) (min (w (o1 s)) (w (o2 s)))) (o2 s) (min (w (o1 s)) (w (o2 s)))) ∧ wsm (uI (uI w (o1 s) (min (w (o1 s)) (w (o2 s)))) (o2 s) (min (w (o1 s)) (w (o2 s)))) nf + 1 ≤ wsm w nf := by
  have la : osd x o1 o2 (o1 s) ns ≠ 0 := by have := osd_pos (f := o1 s) (o1 := o1) (o2 := o2) h0 h1 hx (Or.inl rfl); omega
  have lb : osd x o1 o2 (o2 s) ns ≠ 0 := by have := osd_pos (f := o2 s) (o1 := o1) (o2 := o2) h0 h1 hx (Or.inr rfl); omega
  obtain ⟨a0, a1, a2⟩ := (h (o1 s) ha.1 ha.2).2 la
  obtain ⟨b0, b1, b2⟩ := (h (o2 s) hb.1 hb.2).2 lb
  have ad : adj x o1 o2 ns (o1 s) (o2 s) := ⟨s, h0, h1, hx, h2, Or.inl ⟨rfl, rfl⟩⟩
  have ab : o1 s ≠ o2 s := fun e => hne (by rw [e])
  have ca : con x o1 o2 ns (o1 s) (min (w (o1 s)) (w (o2 s))) := by
    by_cases g : w (o1 s) ≤ w (o2 s)
    · rw [show min (w (o1 s)) (w (o2 s)) = w (o1 s) by omega]; exact a2
    · rw [show min (w (o1 s)) (w (o2 s)) = w (o2 s) by omega]; exact con_trans (con_adj ad) b2
  have cb : con x o1 o2 ns (o2 s) (min (w (o1 s)) (w (o2 s))) := con_trans (con_adj (adj_symm ad)) ca
  have va : min (w (o1 s)) (w (o2 s)) ≤ o1 s := by omega
  have vb : min (w (o1 s)) (w (o2 s)) ≤ o2 s := by omega
  refine ⟨lbl_up (lbl_up h la ⟨by omega, va⟩ ca) lb ⟨by omega, vb⟩ cb, ?_⟩
  rw [wsm_up hb.1 hb.2, wsm_up ha.1 ha.2, uI_ne (fun e => ab e.symm)]
  omega
/-- every open side of two has one label -/
def stb (x o1 o2 : Int → Int) (ns : Int) (w : Int → Int) (n : Int) : Prop := ∀ s : Int, 0 ≤ s → s < n → x s = 1 → o2 s ≠ -1 → w (o1 s) = w (o2 s)
theorem stb_live {x o1 o2 : Int → Int} {nf ns : Int} {w : Int → Int} (hs : stb x o1 o2 ns w ns) (ho1 : ∀ j : Int, 0 ≤ j → j < ns → 0 ≤ o1 j ∧ o1 j < nf) (ho2 : ∀ j : Int, 0 ≤ j → j < ns → -1 ≤ o2 j ∧ o2 j < nf) {f d : Int} (h0 : 0 ≤ f) (h1 : f < nf) (hl : osd x o1 o2 f ns ≠ 0) (hc : con x o1 o2 ns f d) : 0 ≤ d ∧ d < nf ∧ osd x o1 o2 d ns ≠ 0 ∧ w d = w f :=
  hc (fun y => 0 ≤ y ∧ y < nf ∧ osd x o1 o2 y ns ≠ 0 ∧ w y = w f) ⟨h0, h1, hl, rfl⟩ (fun u v hu hv => by
    obtain ⟨s, s0, s1, s2, s3, s4⟩ := hv
    have e := hs s s0 s1 s2 s3
    have a := ho1 s s0 s1
    have b := ho2 s s0 s1
    have pa := osd_pos (f := o1 s) (o1 := o1) (o2 := o2) s0 s1 s2 (Or.inl rfl)
    have pb := osd_pos (f := o2 s) (o1 := o1) (o2 := o2) s0 s1 s2 (Or.inr rfl)
    rcases s4 with ⟨g1, g2⟩ | ⟨g1, g2⟩
    · rw [← g2]
      refine ⟨by omega, b.2, by omega, ?_⟩
      rw [← e, g1]; exact hu.2.2.2
    · rw [← g1]
      refine ⟨a.1, a.2, by omega, ?_⟩
      rw [e, g2]; exact hu.2.2.2)
theorem stb_isL {x o1 o2 : Int → Int} {nf ns : Int} {w : Int → Int} (h : lbl x o1 o2 nf ns w) (hs : stb x o1 o2 ns w ns) (ho1 : ∀ j : Int, 0 ≤ j → j < ns → 0 ≤ o1 j ∧ o1 j < nf) (ho2 : ∀ j : Int, 0 ≤ j → j < ns → -1 ≤ o2 j ∧ o2 j < nf) {f : Int} (h0 : 0 ≤ f) (h1 : f < nf) (hl : osd x o1 o2 f ns ≠ 0) : isL x o1 o2 ns f (w f) ∧ w (w f) = w f := by
  have a := (h f h0 h1).2 hl
  refine ⟨⟨a.2.2, fun d hd => ?_⟩, ?_⟩
  · obtain ⟨d0, d1, d2, d3⟩ := stb_live hs ho1 ho2 h0 h1 hl hd
    have := ((h d d0 d1).2 d2).2.1
    omega
  · exact (stb_live hs ho1 ho2 h0 h1 hl a.2.2).2.2.2
/-- the roots below i, listed rising -/
def rts (w : Int → Int) (i np : Int) (m : Int → Int) : Prop := (0 ≤ np ∧ np ≤ i) ∧ (∀ p : Int, 0 ≤ p → p < np → 0 ≤ m p ∧ m p < i ∧ w (m p) = m p) ∧ (∀ p q : Int, 0 ≤ p → p < q → q < np → m p < m q) ∧ ∀ g : Int, 0 ≤ g → g < i → w g = g → ∃ p : Int, 0 ≤ p ∧ p < np ∧ m p = g
theorem rts_skip {w m : Int → Int} {i np : Int} (h : rts w i np m) (hi : ¬ w i = i) : rts w (i + 1) np m := by
  obtain ⟨a, b, d, e⟩ := h
  refine ⟨by omega, fun p p0 p1 => ?_, d, fun g g0 g1 g2 => ?_⟩
  · have := b p p0 p1; exact ⟨this.1, by omega, this.2.2⟩
  · by_cases q : g = i
    · rw [q] at g2; exact absurd g2 hi
    · exact e g g0 (by omega) g2
theorem rts_add {w m : Int → Int} {i np : Int} (h0 : 0 ≤ i) (h : rts w i np m) (hi : w i = i) : rts w (i + 1) (np + 1) (uI m np i) := by
  obtain ⟨a, b, d, e⟩ := h
  refine ⟨by omega, fun p p0 p1 => ?_, fun p q p0 pq q1 => ?_, fun g g0 g1 g2 => ?_⟩
  · by_cases k : p = np
    · rw [k, uI_eq]; exact ⟨h0, by omega, hi⟩
    · rw [uI_ne k]
      have := b p p0 (by omega); exact ⟨this.1, by omega, this.2.2⟩
  · rw [uI_ne (show p ≠ np by omega)]
    by_cases k : q = np
    · rw [k, uI_eq]; exact (b p p0 (by omega)).2.1
    · rw [uI_ne k]; exact d p q p0 pq (by omega)
  · by_cases k : g = i
    · exact ⟨np, by omega, by omega, by rw [uI_eq, k]⟩
    · obtain ⟨p, p0, p1, p2⟩ := e g g0 (by omega) g2
      exact ⟨p, p0, by omega, by rw [uI_ne (by omega)]; exact p2⟩
theorem rts_inj {w m : Int → Int} {i np p q : Int} (h : rts w i np m) (p0 : 0 ≤ p) (p1 : p < np) (q0 : 0 ≤ q) (q1 : q < np) (e : m p = m q) : p = q := by
  rcases Int.lt_trichotomy p q with g | g | g
  · have := h.2.2.1 p q p0 g q1; omega
  · exact g
  · have := h.2.2.1 q p q0 g p1; omega
/-- the parts of the fields below i, by their roots -/
def pfi (x o1 o2 : Int → Int) (ns : Int) (w m : Int → Int) (np i : Int) (v : Int → Int) : Prop := ∀ g : Int, 0 ≤ g → g < i → (osd x o1 o2 g ns = 0 → v g = -1) ∧ (osd x o1 o2 g ns ≠ 0 → 0 ≤ v g ∧ v g < np ∧ m (v g) = w g)
theorem ptS_of {x o1 o2 : Int → Int} {nf ns np : Int} {w m v : Int → Int} (hnf : 0 ≤ nf ∧ nf ≤ 200) (h : lbl x o1 o2 nf ns w) (hs : stb x o1 o2 ns w ns) (ho1 : ∀ j : Int, 0 ≤ j → j < ns → 0 ≤ o1 j ∧ o1 j < nf) (ho2 : ∀ j : Int, 0 ≤ j → j < ns → -1 ≤ o2 j ∧ o2 j < nf) (hr : rts w nf np m) (hv : pfi x o1 o2 ns w m np nf v) : ptS x o1 o2 nf ns np v m := by
  have live : ∀ g : Int, 0 ≤ g → g < nf → w g = g → osd x o1 o2 g ns ≠ 0 := fun g g0 g1 e z => by
    have := (h g g0 g1).1 z; omega
  refine ⟨by have := hr.1; omega, fun f f0 f1 => ⟨(hv f f0 f1).1, fun l => ?_⟩, fun p p0 p1 => ?_, hr.2.2.1⟩
  · obtain ⟨a, b, d⟩ := (hv f f0 f1).2 l
    refine ⟨a, b, ?_⟩
    rw [d]
    exact (stb_isL h hs ho1 ho2 f0 f1 l).1
  · obtain ⟨a, b, d⟩ := hr.2.1 p p0 p1
    have l := live (m p) a b d
    obtain ⟨q0, q1, q2⟩ := (hv (m p) a b).2 l
    exact ⟨a, b, l, rts_inj hr q0 q1 p0 p1 (by rw [q2, d])⟩
/-- what is told of each part -/
def ptA (x o1 o2 : Int → Int) (nf ns n : Int) (pO pF pS pK pL : Int → Int) : Prop := ∀ p : Int, 0 ≤ p → p < n → pF p = cF pO p nf ∧ pS p = cS x o1 pO p ns ∧ pK p = kdS x o1 o2 pO nf ns p ∧ pL p = loS x o1 o2 pO nf ns p
theorem ptA_s {x o1 o2 : Int → Int} {nf ns n : Int} {pO pF pS pK pL : Int → Int} (h : ptA x o1 o2 nf ns n pO pF pS pK pL) : ptA x o1 o2 nf ns (n + 1) pO (uI pF n (cF pO n nf)) (uI pS n (cS x o1 pO n ns)) (uI pK n (kdS x o1 o2 pO nf ns n)) (uI pL n (loS x o1 o2 pO nf ns n)) := fun p p0 p1 => by
  by_cases e : p = n
  · rw [e, uI_eq, uI_eq, uI_eq, uI_eq]; exact ⟨rfl, rfl, rfl, rfl⟩
  · rw [uI_ne e, uI_ne e, uI_ne e, uI_ne e]; exact h p p0 (by omega)
