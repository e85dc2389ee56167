/-! BOTH SIDES ANSWER ALIKE -/
theorem opX_same {un x : Int → Int} {ns : Int} (h : ∀ s : Int, 0 ≤ s → s < ns → un s = x s) : opX un ns = opX x ns := funext fun s => by
  unfold opX
  by_cases c : 0 ≤ s ∧ s < ns
  · rw [h s c.1 c.2]
  · rw [if_neg (fun z => c ⟨z.1, z.2.1⟩), if_neg (fun z => c ⟨z.1, z.2.1⟩)]
theorem msk_same {b o1 o2 p1 p2_ : Int → Int} {n f hh : Int} (e : ∀ j : Int, 0 ≤ j → j < n → o1 (b j) = p1 (b j) ∧ o2 (b j) = p2_ (b j)) (h : msk b o1 o2 n f hh) : msk b p1 p2_ n f hh :=
  ⟨h.1, fun j a c => by rw [← (e j a c).1, ← (e j a c).2]; exact h.2 j a c⟩
theorem wyI_same {fa sb fa' sb' ba ff sf : Int → Int} {ns ns' wz : Int} {tT : Int → Int64} {nT : Nat} (e : ∀ s : Int, 0 ≤ s → s < ns → fa s = fa' s ∧ sb s = sb' s) (hn : ns ≤ ns') (hs : ns ≤ 500) (h : wyI fa sb ns wz ba ff sf tT nT) : wyI fa' sb' ns' wz ba ff sf tT nT := by
  obtain ⟨h1, h2, h3, h4, h5, h6⟩ := h
  have eb : ∀ j : Int, 0 ≤ j → j < wz → fa (ba j) = fa' (ba j) ∧ sb (ba j) = sb' (ba j) := fun j a b => e _ (h2.1 j a b).1 (h2.1 j a b).2
  refine ⟨h1, inj_mono h2 (Int.le_refl _) hn, fun j a b => ?_, h4, h5, h6.1, fun t t0 t1 => ?_⟩
  · obtain ⟨k1, k2, k3⟩ := h3 j a b
    rw [← (eb j a b).1, ← (eb j a b).2]
    exact ⟨msk_same eb k1, k2, fun g => msk_same eb (k3 g)⟩
  · refine isW_congr _ (fun s s0 s1 s2 => ?_) (h6.2 t t0 t1)
    obtain ⟨j, j0, j1, j2, j3⟩ := xs_ex s2
    rw [← j2]
    exact eb j j0 j1
theorem wyI_0 {fa sb fa' sb' ba ff sf : Int → Int} {ns ns' wz : Int} {tT : Int → Int64} {nT : Nat} (h : wyI fa sb ns wz ba ff sf tT nT) : wyI fa' sb' ns' 0 ba ff sf tT nT := by
  obtain ⟨h1, h2, h3, h4, h5, h6⟩ := h
  have p0 : p2 0 = 1 := by decide
  have i0 : ∀ m : Int, inj ba 0 m := fun m => ⟨fun j a b => by omega, fun i j a b => by omega⟩
  refine ⟨by omega, i0 _, fun j a b => by omega, h4, by rw [p0]; omega, ?_⟩
  rw [p0]
  exact tbI_1 (i0 _) (by omega) h6.1
theorem pcS_bump {oc un fa sb oc' un' fa' sb' : Int → Int} {nf ns nf' ns' ch ch' se ct kt : Int} {pO kd fl ss lo le_ : Int → Int} (h : pcS oc un fa sb nf ns ch se ct kt pO kd fl ss lo le_) (hc : ch < ch') : pcS oc' un' fa' sb' nf' ns' ch' se ct kt pO kd fl ss lo le_ := ⟨by have := h.1; omega, fun e => by have := h.1; omega⟩
theorem ask_same {nf ns no nd nk tn sd wt : Int} {fa sb un ln dw sx sc oc ow od : Int → Int} (h : mI nf ns no nd nk tn fa sb un ln dw sx sc oc ow od) : askC un fa sb oc ns sd wt = askR (opI ln nd) fa sb ns sd wt := by
  obtain ⟨h1, h2, h3, h4, h5, h6, h7, h8, h9, h10, h11, h12⟩ := h
  unfold askC askR
  by_cases c : 0 ≤ sd ∧ sd < ns
  · have cc : ¬ ¬ (0 ≤ sd ∧ sd < ns) := fun z => z c
    rw [if_neg cc, if_neg cc, clB_F (h1.2.2.1 sd c.1 c.2) (h1.2.2.2.1 sd c.1 c.2) h6, clF_congr h4, h4 sd c.1 c.2]
  · rw [if_pos c, if_pos c]
theorem ptG_x {oc oc' x y o1 o2 : Int → Int} {nf ns n : Int} {pO pF pS pK pL : Int → Int} (hx : ∀ s : Int, 0 ≤ s → s < ns → x s = y s) (hc : ∀ f : Int, 0 ≤ f → f < nf → oc f = oc' f) (ho : ∀ s : Int, 0 ≤ s → s < ns → 0 ≤ o1 s ∧ o1 s < nf) (h : ptG oc x o1 o2 nf ns n pO pF pS pK pL) : ptG oc' y o1 o2 nf ns n pO pF pS pK pL := fun p a b => by
  obtain ⟨h1, h2, h3, h4⟩ := h p a b
  have r : ∀ f : Int, 0 ≤ f → f < nf → pO f = pO f := fun _ _ _ => rfl
  exact ⟨h1, by rw [h2, cS_congr hx r ho], by rw [h3, kdG_congr hc hx r ho], by rw [h4, loG_congr hc hx r ho]⟩
/-- the class's parts are the reference's -/
theorem pt_same {nf ns no nd nk tn ct np : Int} {fa sb un ln dw sx sc oc ow od io pO le_ fl ss kd lo rO rM rF rS rK rL : Int → Int} (h : mI nf ns no nd nk tn fa sb un ln dw sx sc oc ow od) (a : ptS un fa sb nf ns ct pO le_) (b : ptG oc un fa sb nf ns ct pO fl ss kd lo) (k1 : ∀ s : Int, 0 ≤ s → s < ns → io s = opI ln nd s) (k4 : ptS io fa sb nf ns np rO rM) (k5 : ptA io fa sb nf ns np rO rF rS rK rL) : ct = np ∧ (∀ f : Int, 0 ≤ f → f < nf → pO f = rO f) ∧ ∀ p : Int, 0 ≤ p → p < ct → fl p = rF p ∧ ss p = rS p ∧ kd p = rK p ∧ lo p = rL p ∧ le_ p = rM p := by
  obtain ⟨h1, h2, h3, h4, h5, h6, h7, h8, h9, h10, h11, h12⟩ := h
  have e : ∀ s : Int, 0 ≤ s → s < ns → io s = un s := fun s x y => by rw [k1 s x y, h4 s x y]
  have ho := h1.2.2.1
  exact pt_eq ho (fun _ _ _ => rfl) a b (ptS_congr e k4) (ptG_x e (fun f x y => by rw [h6 f x y]; exact osd_congr e) ho (ptA_G k5))
theorem zer_iff {x y o1 o2 : Int → Int} {nf ns : Int} (h : ∀ s : Int, 0 ≤ s → s < ns → (x s = 1 ↔ y s = 1)) : zer x o1 o2 nf ns = zer y o1 o2 nf ns := su_congr (fun f _ _ => by
  have : osd x o1 o2 f ns = osd y o1 o2 f ns := su_congr (fun s a b => by
    unfold inc
    by_cases c : x s = 1
    · have := (h s a b).mp c
      by_cases d : o1 s = f ∨ o2 s = f
      · rw [if_pos ⟨c, d⟩, if_pos ⟨this, d⟩]
      · rw [if_neg (fun z => d z.2), if_neg (fun z => d z.2)]
    · rw [if_neg (fun z => c z.1), if_neg (fun z => c ((h s a b).mpr z.1))])
  show (if osd x o1 o2 f ns = 0 then (1 : Int) else 0) = (if osd y o1 o2 f ns = 0 then 1 else 0)
  rw [this])
theorem loose_same {un x io fa sb : Int → Int} {nf ns z z' : Int} (hu : ∀ s : Int, 0 ≤ s → s < ns → un s = x s) (h : ∃ y : Int → Int, pee fa sb ns un y ∧ sta fa sb ns y ∧ z = zer y fa sb nf ns - zer un fa sb nf ns) (h1 : pee fa sb ns x io) (h2 : sta fa sb ns io) (h3 : z' = zer io fa sb nf ns - zer x fa sb nf ns) : z = z' := by
  obtain ⟨y, a, b, c⟩ := h
  have p := pee_congr hu a
  rw [c, h3, zer_congr hu, zer_iff (fun s s0 s1 => pee_uniq p b h1 h2 s0 s1)]
theorem lt_lf {kd fl lo : Int → Int} {n u v : Int} (hu : 1 ≤ u) (hv : 1 ≤ v) (hf : ∀ p : Int, 0 ≤ p → p < n → 1 ≤ fl p) (h : 0 < ltN kd fl lo u v n) : 0 < lfN kd fl lo n := by
  obtain ⟨p, a, b, c⟩ := su_ex (f := fun p => if kd p ≠ 1 ∧ lo p = u ∧ v ≤ fl p then 1 else 0) (n := n) h
  have c : 0 < (if kd p ≠ 1 ∧ lo p = u ∧ v ≤ fl p then (1 : Int) else 0) := c
  by_cases d : kd p ≠ 1 ∧ lo p = u ∧ v ≤ fl p
  · apply Classical.byContradiction
    intro g
    have z := su_z (f := fun p => if kd p ≠ 1 ∧ lo p ≠ 0 then fl p else 0) (n := n) (fun j x y => by
      show 0 ≤ (if kd j ≠ 1 ∧ lo j ≠ 0 then fl j else 0)
      have := hf j x y
      split <;> omega) (show su _ n ≤ 0 by show lfN kd fl lo n ≤ 0; omega) a b
    have z : (if kd p ≠ 1 ∧ lo p ≠ 0 then fl p else 0) = 0 := z
    rw [if_pos ⟨d.1, by omega⟩] at z
    have := hf p a b
    omega
  · rw [if_neg d] at c; omega
/-- what the reference has reckoned, in short -/
def rcR (rK rF rL cn rn : Int → Int) (np lf l2 l4 fl nk tp : Int) (lg nu ri sp va : Int → Int) : Prop := ((∀ p : Int, 0 ≤ p → p < np → rK p ≠ 2) ∧ (∀ k : Int, 0 ≤ k → k < 201 → cn k = chN rK rF rL np k ∧ rn k = rnN rK rF np k) ∧ lf = lfN rK rF rL np ∧ ((l2 = 0 ∨ l2 = 1) ∧ (l2 = 1 ↔ 0 < ltN rK rF rL 1 2 np)) ∧ ((l4 = 0 ∨ l4 = 1) ∧ (l4 = 1 ↔ 0 < ltN rK rF rL 2 4 np)) ∧ rg cn 201 0 1000 ∧ rg rn 201 0 1000 ∧ ((prI cn rn 402 ≤ 20000 ∧ fl = 1 ∧ layOK cn rn 402 nk lg nu ri sp ∧ vTab lg nu ri sp nk (-2147483648) va (prI cn rn 402) ∧ tp = prI cn rn 402 - 1) ∨ (¬ prI cn rn 402 ≤ 20000 ∧ fl = 0))) ∨ (¬ (∀ p : Int, 0 ≤ p → p < np → rK p ≠ 2) ∧ fl = 0)
/-- the class's reckoning is the reference's -/
theorem reck_same {kd flc lo rK rF rL cn rn nb lg nu ri sp va : Int → Int} {ct is_ hl l2 l4 lf lf' l2' l4' fl nk tp : Int} (hct : 0 ≤ ct ∧ ct ≤ 200) (hf : ∀ p : Int, 0 ≤ p → p < ct → 1 ≤ flc p ∧ flc p ≤ 200) (e : ∀ p : Int, 0 ≤ p → p < ct → kd p = rK p ∧ flc p = rF p ∧ lo p = rL p) (h : rkS kd flc lo ct is_ hl l2 l4 lf nb) (h' : rcR rK rF rL cn rn ct lf' l2' l4' fl nk tp lg nu ri sp va) : ((is_ = 1 ∧ prI (nb1 nb) (nb2 nb) 402 ≤ 20000) ↔ fl = 1) ∧ (fl = 0 ∨ fl = 1) ∧ (fl = 1 → lf = lf' ∧ l2 = l2' ∧ l4 = l4' ∧ (hl = 0 ∨ hl = 1) ∧ (hl = 1 ↔ 0 < lf') ∧ (0 ≤ lf' ∧ lf' ≤ 40000) ∧ (l2' = 1 ∨ l4' = 1 → 0 < lf') ∧ (∀ k : Int, 0 ≤ k → k < 201 → cn k = nb k ∧ rn k = nb (k + 201)) ∧ rg cn 201 0 1000 ∧ rg rn 201 0 1000 ∧ prI cn rn 402 ≤ 20000 ∧ layOK cn rn 402 nk lg nu ri sp ∧ vTab lg nu ri sp nk (-2147483648) va (prI cn rn 402) ∧ tp = prI cn rn 402 - 1 ∧ (l2' = 0 ∨ l2' = 1) ∧ (l4' = 0 ∨ l4' = 1)) := by
  obtain ⟨a1, a2, a3, a4, a5, a6⟩ := h
  have q : (∀ p : Int, 0 ≤ p → p < ct → kd p ≠ 2) ↔ (∀ p : Int, 0 ≤ p → p < ct → rK p ≠ 2) := ⟨fun z p u v => by rw [← (e p u v).1]; exact z p u v, fun z p u v => by rw [(e p u v).1]; exact z p u v⟩
  rcases h' with ⟨b1, b2, b3, b4, b5, b6, b7, b8⟩ | ⟨b1, b2⟩
  · have i1 : is_ = 1 := a2.mpr (q.mpr b1)
    obtain ⟨c1, c2, c3, c4, c5, c6, c7, c8⟩ := a5 i1
    have cr : ∀ k : Int, 0 ≤ k → k < 201 → cn k = nb k ∧ rn k = nb (k + 201) := fun k x y => by
      rw [(b2 k x y).1, (b2 k x y).2, (c4 k x y).1, (c4 k x y).2, chN_congr e, rnN_congr (fun p a b => ⟨(e p a b).1, (e p a b).2.1⟩)]
      exact ⟨rfl, rfl⟩
    have hk : ∀ p : Int, kN (nb1 nb) (nb2 nb) p = kN cn rn p := fun p => by
      unfold kN nb1 nb2
      by_cases a : 1 ≤ p ∧ p ≤ 200
      · rw [if_pos a, if_pos a, (cr p (by omega) (by omega)).1]
      · rw [if_neg a, if_neg a]
        by_cases b : 202 ≤ p ∧ p ≤ 401
        · rw [if_pos b, if_pos b, (cr (p - 201) (by omega) (by omega)).2]
        · rw [if_neg b, if_neg b]
    have ep := prI_congr hk 402
    have elf := lfN_congr e
    have e2 := ltN_congr (u := 1) (v := 2) e
    have e4 := ltN_congr (u := 2) (v := 4) e
    have bl := lfN_bd (kd := kd) (lo := lo) hct hf
    rw [← elf] at b3
    rw [← e2] at b4
    rw [← e4] at b5
    have x2 := lt_lf (kd := kd) (lo := lo) (u := 1) (v := 2) (by omega) (by omega) (fun p a b => (hf p a b).1)
    have x4 := lt_lf (kd := kd) (lo := lo) (u := 2) (v := 4) (by omega) (by omega) (fun p a b => (hf p a b).1)
    rw [ep]
    rcases b8 with ⟨d1, d2, d3, d4, d5⟩ | ⟨d1, d2⟩
    · refine ⟨⟨fun _ => d2, fun _ => ⟨i1, d1⟩⟩, Or.inr d2, fun _ => ⟨by omega, by omega, by omega, c1, by rw [b3]; exact c6, by omega, fun g => ?_, cr, b6, b7, d1, d3, d4, d5, b4.1, b5.1⟩⟩
      rw [b3]
      rcases g with g | g
      · exact x2 (b4.2.mp g)
      · exact x4 (b5.2.mp g)
    · exact ⟨⟨fun z => absurd z.2 d1, fun z => by omega⟩, Or.inl d2, fun z => by omega⟩
  · have i0 : is_ ≠ 1 := fun z => b1 (q.mp (a2.mp z))
    exact ⟨⟨fun z => absurd z.1 i0, fun z => by omega⟩, Or.inl b2, fun z => by omega⟩
theorem dff_nb {kc kr nb : Int → Int} (e : ∀ k : Int, 0 ≤ k → k < 201 → kc k = nb k ∧ kr k = nb (k + 201)) : dff kc kr 201 = dff nb (fun k => nb (k + 201)) 201 := su_congr (fun k a b => by
  show (if 0 < kc k then (1 : Int) else 0) + (if 0 < kr k then 1 else 0) = _
  rw [(e k a b).1, (e k a b).2])
/-- the class's heap and the reference's -/
def hpS (nb kc kr : Int → Int) (df : Int) : Prop := nbOK nb ∧ (∀ k : Int, 0 ≤ k → k < 201 → kc k = nb k ∧ kr k = nb (k + 201)) ∧ df = dff kc kr 201 ∧ dff kc kr 201 ≤ 30
theorem hpS_ok {nb kc kr : Int → Int} {df rr n t : Int} (h : hpS nb kc kr df) (hr : rr = 0 ∨ rr = 1) : hcOK nb df rr n t ↔ hpOK kc kr rr n t := by
  obtain ⟨h1, h2, h3, h4⟩ := h
  unfold hcOK hpOK
  rcases hr with e | e
  · rw [e, if_pos rfl, if_pos rfl, if_pos rfl]
    constructor
    · rintro ⟨a1, a2, a3, a4, a5, a6⟩
      have q := h2 n (by omega) (by omega)
      rw [show (0 : Int) + n = n by omega] at a5 a6
      exact ⟨a1, a2, a3, a4, by rw [q.1, ← h3]; exact a6, by rw [q.1]; exact a5⟩
    · rintro ⟨a1, a2, a3, a4, a5, a6⟩
      have q := h2 n (by omega) (by omega)
      rw [q.1] at a5 a6
      rw [show (0 : Int) + n = n by omega, h3]
      exact ⟨a1, a2, a3, a4, a6, a5⟩
  · rw [e, if_neg (by omega), if_neg (by omega), if_neg (by omega)]
    constructor
    · rintro ⟨a1, a2, a3, a4, a5, a6⟩
      have q := h2 n (by omega) (by omega)
      rw [show (201 : Int) + n = n + 201 by omega] at a5 a6
      exact ⟨a1, a2, a3, a4, by rw [q.2, ← h3]; exact a6, by rw [q.2]; exact a5⟩
    · rintro ⟨a1, a2, a3, a4, a5, a6⟩
      have q := h2 n (by omega) (by omega)
      rw [q.2] at a5 a6
      rw [show (201 : Int) + n = n + 201 by omega, h3]
      exact ⟨a1, a2, a3, a4, a6, a5⟩
theorem dff_up1 {kc kr : Int → Int} {n v : Int} (n0 : 0 ≤ n) (n1 : n < 201) : dff (uI kc n v) kr 201 = dff kc kr 201 + ((if 0 < v then 1 else 0) - (if 0 < kc n then 1 else 0)) := by
  unfold dff
  rw [su_up (f := fun k => (if 0 < uI kc n v k then 1 else 0) + (if 0 < kr k then 1 else 0)) (g := fun k => (if 0 < kc k then 1 else 0) + (if 0 < kr k then 1 else 0)) (k := n) (fun j hj => by rw [uI_ne hj]) n0 n1, uI_eq]
  omega
theorem dff_up2 {kc kr : Int → Int} {n v : Int} (n0 : 0 ≤ n) (n1 : n < 201) : dff kc (uI kr n v) 201 = dff kc kr 201 + ((if 0 < v then 1 else 0) - (if 0 < kr n then 1 else 0)) := by
  unfold dff
  rw [su_up (f := fun k => (if 0 < kc k then 1 else 0) + (if 0 < uI kr n v k then 1 else 0)) (g := fun k => (if 0 < kc k then 1 else 0) + (if 0 < kr k then 1 else 0)) (k := n) (fun j hj => by rw [uI_ne hj]) n0 n1, uI_eq]
  omega
/-- more of a kind comes to both -/
theorem hpS_put {nb kc kr : Int → Int} {df rr n t : Int} (h : hpS nb kc kr df) (hr : rr = 0 ∨ rr = 1) (ok : hpOK kc kr rr n t) : hpS (uI nb ((if rr = 0 then 0 else 201) + n) (nb ((if rr = 0 then 0 else 201) + n) + t)) (if rr = 0 then uI kc n (kc n + t) else kc) (if rr = 0 then kr else uI kr n (kr n + t)) (df + (if nb ((if rr = 0 then 0 else 201) + n) = 0 then 1 else 0)) ∧ nb ((if rr = 0 then 0 else 201) + n) + t = (if rr = 0 then kc n else kr n) + t := by
  obtain ⟨h1, h2, h3, h4⟩ := h
  unfold hpOK at ok
  rcases hr with e | e
  · rw [e, if_pos rfl, if_pos rfl] at ok
    obtain ⟨o1, o2, o3, o4, o5, o6⟩ := ok
    have q := h2 n (by omega) (by omega)
    have b := h1.1 n (by omega) (by omega)
    rw [e]
    simp only [if_true]
    rw [show (0 : Int) + n = n by omega]
    have du := dff_up1 (kc := kc) (kr := kr) (n := n) (v := kc n + t) (by omega) (by omega)
    rw [if_pos (show 0 < kc n + t by omega)] at du
    have dd : dff (uI kc n (kc n + t)) kr 201 = df + (if nb n = 0 then 1 else 0) ∧ dff (uI kc n (kc n + t)) kr 201 ≤ 30 := by
      rw [du, ← h3, q.1]
      by_cases z : nb n = 0
      · rw [if_pos z, if_neg (by omega)]; omega
      · rw [if_neg z, if_pos (by omega)]; omega
    refine ⟨⟨⟨fun j x y => ?_, by rw [uI_ne (by omega)]; exact h1.2.1, by rw [uI_ne (by omega)]; exact h1.2.2⟩, fun k x y => ?_, dd.1.symm, dd.2⟩, by rw [q.1]⟩
    · unfold uI
      split
      · omega
      · exact h1.1 j x y
    · have r := h2 k x y
      by_cases g : k = n
      · rw [g, uI_eq, uI_eq, uI_ne (by omega), q.1]; rw [g] at r; exact ⟨rfl, r.2⟩
      · rw [uI_ne g, uI_ne g, uI_ne (by omega)]; exact r
  · rw [e, if_neg (show ¬ (1 : Int) = 0 by omega), if_neg (show ¬ (1 : Int) = 0 by omega)] at ok
    obtain ⟨o1, o2, o3, o4, o5, o6⟩ := ok
    have q := h2 n (by omega) (by omega)
    have b := h1.1 (n + 201) (by omega) (by omega)
    rw [e]
    simp only [if_neg (show ¬ (1 : Int) = 0 by omega)]
    rw [show (201 : Int) + n = n + 201 by omega]
    have du := dff_up2 (kc := kc) (kr := kr) (n := n) (v := kr n + t) (by omega) (by omega)
    rw [if_pos (show 0 < kr n + t by omega)] at du
    have dd : dff kc (uI kr n (kr n + t)) 201 = df + (if nb (n + 201) = 0 then 1 else 0) ∧ dff kc (uI kr n (kr n + t)) 201 ≤ 30 := by
      rw [du, ← h3, q.2]
      by_cases z : nb (n + 201) = 0
      · rw [if_pos z, if_neg (by omega)]; omega
      · rw [if_neg z, if_pos (by omega)]; omega
    refine ⟨⟨⟨fun j x y => ?_, by rw [uI_ne (by omega)]; exact h1.2.1, by rw [uI_ne (by omega)]; exact h1.2.2⟩, fun k x y => ?_, dd.1.symm, dd.2⟩, by rw [q.2]⟩
    · unfold uI
      split
      · omega
      · exact h1.1 j x y
    · have r := h2 k x y
      by_cases g : k = n
      · rw [g, uI_eq, uI_eq, uI_ne (by omega), q.2]; rw [g] at r; exact ⟨r.1, rfl⟩
      · rw [uI_ne g, uI_ne (by omega), uI_ne (by omega)]; exact r
theorem hpS_0 {nb kc kr : Int → Int} (h : ∀ j : Int, 0 ≤ j → j < 402 → nb j = 0) (g : ∀ j : Int, 0 ≤ j → j < 201 → kc j = 0 ∧ kr j = 0) : hpS nb kc kr 0 := by
  have d : dff kc kr 201 = su (fun _ => 0) 201 := su_congr (fun k a b => by
    show (if 0 < kc k then (1 : Int) else 0) + (if 0 < kr k then 1 else 0) = 0
    rw [(g k a b).1, (g k a b).2]
    rfl)
  have z : dff kc kr 201 = 0 := by rw [d, su_const 0 (by omega)]; rfl
  exact ⟨⟨fun j a b => by rw [h j a b]; omega, h 0 (by omega) (by omega), h 201 (by omega) (by omega)⟩, fun k a b => ⟨by rw [(g k a b).1, h k a (by omega)], by rw [(g k a b).2, h (k + 201) (by omega) (by omega)]⟩, z.symm, by omega⟩
