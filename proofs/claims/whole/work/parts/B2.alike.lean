/-! the calls' answers, in the forms that the law compares -/
theorem ecS_N {oc un fa sb : Int → Int} {nf ns ch se ct kt se1 ct1 kt1 es is_ hl l2 l4 lf : Int} {kd fl lo pO1 kd1 fl1 ss1 lo1 le_1 nb : Int → Int} (h : ecS kd fl lo ct se es is_ hl l2 l4 lf nb) (g : pcN oc un fa sb nf ns ch se ct kt kd fl lo se1 ct1 kt1 pO1 kd1 fl1 ss1 lo1 le_1) : ecS kd1 fl1 lo1 ct1 se1 es is_ hl l2 l4 lf nb := by
  have g2 := g.2.1
  have h1 := h.1
  refine ⟨by omega, fun e e0 => ?_⟩
  obtain ⟨a1, a2, a3, a4, a5⟩ := g.2.2 (by omega)
  rw [a1, a3, a4, a5]
  exact h.2 (by omega) e0
theorem look_same {nf ns no nd nk tn ch se ct kt se1 ct1 kt1 np fd wt tn' : Int} {fa sb un ln dw sx sc oc ow od kd fl lo pO1 kd1 fl1 ss1 lo1 le_1 io owr rO rM rF rS rK rL : Int → Int} (h : mI nf ns no nd nk tn fa sb un ln dw sx sc oc ow od) (g : pcN oc un fa sb nf ns ch se ct kt kd fl lo se1 ct1 kt1 pO1 kd1 fl1 ss1 lo1 le_1) (hs : 0 ≤ fd → fd < nf → wt = 3 → se1 = ch) (k : (∀ s : Int, 0 ≤ s → s < ns → io s = opI ln nd s) ∧ (∀ f : Int, 0 ≤ f → f < nf → owr f = owI fa sb ln ns nd f) ∧ tn' = tnI fa sb ln ns nd ∧ ptS io fa sb nf ns np rO rM ∧ ptA io fa sb nf ns np rO rF rS rK rL) : lookC oc sc ow pO1 nf fd wt = (if ¬ (0 ≤ fd ∧ fd < nf) then -1 else if wt = 0 then osd io fa sb fd ns else if wt = 1 then sc fd else if wt = 2 then owr fd else if wt = 3 then rO fd else -1) := by
  obtain ⟨k1, k2, k3, k4, k5⟩ := k
  unfold lookC
  by_cases c : 0 ≤ fd ∧ fd < nf
  · have cc : ¬ ¬ (0 ≤ fd ∧ fd < nf) := fun z => z c
    rw [if_neg cc, if_neg cc]
    have hm := h
    obtain ⟨h1, h2, h3, h4, h5, h6, h7, h8, h9, h10, h11, h12⟩ := h
    have e0 : oc fd = osd io fa sb fd ns := by rw [h6 fd c.1 c.2]; exact osd_congr (fun s a b => by rw [h4 s a b, k1 s a b])
    have e2 : ow fd = owr fd := by rw [h10 fd c.1 c.2, k2 fd c.1 c.2]
    rw [e0, e2]
    by_cases d : wt = 3
    · have pv := g.1.2 (hs c.1 c.2 d)
      rw [(pt_same hm pv.1 pv.2.1 k1 k4 k5).2.1 fd c.1 c.2]
    · by_cases d0 : wt = 0
      · rw [if_pos d0, if_pos d0]
      · by_cases d1 : wt = 1
        · rw [if_neg d0, if_neg d0, if_pos d1, if_pos d1]
        · by_cases d2 : wt = 2
          · rw [if_neg d0, if_neg d0, if_neg d1, if_neg d1, if_pos d2, if_pos d2]
          · rw [if_neg d0, if_neg d0, if_neg d1, if_neg d1, if_neg d2, if_neg d2, if_neg d, if_neg d]
  · rw [if_pos c, if_pos c]
theorem part_same {nf ns no nd nk tn ch se ct kt se1 ct1 kt1 np ii wt tn' : Int} {fa sb un ln dw sx sc oc ow od kd fl lo pO1 kd1 fl1 ss1 lo1 le_1 io owr rO rM rF rS rK rL : Int → Int} (h : mI nf ns no nd nk tn fa sb un ln dw sx sc oc ow od) (g : pcN oc un fa sb nf ns ch se ct kt kd fl lo se1 ct1 kt1 pO1 kd1 fl1 ss1 lo1 le_1) (hs : se1 = ch) (k : (∀ s : Int, 0 ≤ s → s < ns → io s = opI ln nd s) ∧ (∀ f : Int, 0 ≤ f → f < nf → owr f = owI fa sb ln ns nd f) ∧ tn' = tnI fa sb ln ns nd ∧ ptS io fa sb nf ns np rO rM ∧ ptA io fa sb nf ns np rO rF rS rK rL) : partC kd1 fl1 ss1 lo1 le_1 ct1 ii wt = (if ¬ (0 ≤ ii ∧ ii < np) then -1 else if wt = 0 then rK ii else if wt = 1 then rF ii else if wt = 2 then rS ii else if wt = 3 then rL ii else if wt = 4 then rM ii else -1) := by
  obtain ⟨k1, k2, k3, k4, k5⟩ := k
  have pv := g.1.2 hs
  obtain ⟨e1, e2, e3⟩ := pt_same h pv.1 pv.2.1 k1 k4 k5
  unfold partC
  rw [← e1]
  by_cases c : 0 ≤ ii ∧ ii < ct1
  · have cc : ¬ ¬ (0 ≤ ii ∧ ii < ct1) := fun z => z c
    obtain ⟨a1, a2, a3, a4, a5⟩ := e3 ii c.1 c.2
    rw [if_neg cc, if_neg cc, a1, a2, a3, a4, a5]
  · rw [if_pos c, if_pos c]
theorem longs_same {nf ns no nd nk tn ch se ct kt se1 ct1 kt1 np tn' : Int} {fa sb un ln dw sx sc oc ow od kd fl lo pO1 kd1 fl1 ss1 lo1 le_1 io owr rO rM rF rS rK rL : Int → Int} (h : mI nf ns no nd nk tn fa sb un ln dw sx sc oc ow od) (g : pcN oc un fa sb nf ns ch se ct kt kd fl lo se1 ct1 kt1 pO1 kd1 fl1 ss1 lo1 le_1) (hs : se1 = ch) (k : (∀ s : Int, 0 ≤ s → s < ns → io s = opI ln nd s) ∧ (∀ f : Int, 0 ≤ f → f < nf → owr f = owI fa sb ln ns nd f) ∧ tn' = tnI fa sb ln ns nd ∧ ptS io fa sb nf ns np rO rM ∧ ptA io fa sb nf ns np rO rF rS rK rL) : lng kd1 fl1 lo1 ct1 = lng rK rF rL np := by
  obtain ⟨k1, k2, k3, k4, k5⟩ := k
  have pv := g.1.2 hs
  obtain ⟨e1, e2, e3⟩ := pt_same h pv.1 pv.2.1 k1 k4 k5
  rw [← e1]
  exact lng_congr (fun p a b => ⟨(e3 p a b).2.2.1, (e3 p a b).1, (e3 p a b).2.2.2.1⟩)
theorem cow_3 {ow : Int → Int} {n : Int} (h : ∀ f : Int, 0 ≤ f → f < n → -1 ≤ ow f ∧ ow f ≤ 1) : cow ow 3 n = cow ow 8 n + cow ow 9 n := by
  unfold cow
  rw [← su_add]
  refine su_congr (fun f a b => ?_)
  show (if (3 : Int) = 3 then (if ow f ≠ -1 then (1 : Int) else 0) else (if ow f = 3 - 8 then 1 else 0)) = (if (8 : Int) = 3 then (if ow f ≠ -1 then (1 : Int) else 0) else (if ow f = 8 - 8 then 1 else 0)) + (if (9 : Int) = 3 then (if ow f ≠ -1 then (1 : Int) else 0) else (if ow f = 9 - 8 then 1 else 0))
  rw [if_pos (show (3 : Int) = 3 from rfl), if_neg (show ¬ (8 : Int) = 3 by omega), if_neg (show ¬ (9 : Int) = 3 by omega)]
  have := h f a b
  by_cases c : ow f = -1
  · rw [if_neg (show ¬ ow f ≠ -1 from fun z => z c), if_neg (show ¬ ow f = 8 - 8 by omega), if_neg (show ¬ ow f = 9 - 8 by omega)]; rfl
  · rw [if_pos (show ow f ≠ -1 from c)]
    by_cases d : ow f = 0
    · rw [if_pos (show ow f = 8 - 8 by omega), if_neg (show ¬ ow f = 9 - 8 by omega)]; rfl
    · rw [if_neg (show ¬ ow f = 8 - 8 by omega), if_pos (show ow f = 9 - 8 by omega)]; rfl
theorem count_same {nf ns no nd nk tn ch se ct kt se1 ct1 kt1 np wt sm tn' : Int} {fa sb un ln dw sx sc oc ow od kd fl lo pO1 kd1 fl1 ss1 lo1 le_1 io owr rO rM rF rS rK rL : Int → Int} (h : mI nf ns no nd nk tn fa sb un ln dw sx sc oc ow od) (g : pcN oc un fa sb nf ns ch se ct kt kd fl lo se1 ct1 kt1 pO1 kd1 fl1 ss1 lo1 le_1) (hs : wt = 6 ∨ wt = 7 → se1 = ch) (k : (∀ s : Int, 0 ≤ s → s < ns → io s = opI ln nd s) ∧ (∀ f : Int, 0 ≤ f → f < nf → owr f = owI fa sb ln ns nd f) ∧ tn' = tnI fa sb ln ns nd ∧ ptS io fa sb nf ns np rO rM ∧ ptA io fa sb nf ns np rO rF rS rK rL) (hm : (sm = 0 ∨ sm = 1) ∧ (sm = 1 ↔ ∀ p : Int, 0 ≤ p → p < np → rK p ≠ 2)) : cntC nf ns no nd nk (od 0) (od 1) ct1 kt1 wt = cntR nf ns (nop (opI ln nd) ns) nd nk np sm wt owr := by
  obtain ⟨k1, k2, k3, k4, k5⟩ := k
  have hmI := h
  obtain ⟨h1, h2, h3, h4, h5, h6, h7, h8, h9, h10, h11, h12⟩ := h
  have eo : ∀ f : Int, 0 ≤ f → f < nf → ow f = owr f := fun f a b => by rw [h10 f a b, k2 f a b]
  have c8 : od 0 = cow owr 8 nf := by rw [h11, cow_congr eo]
  have c9 : od 1 = cow owr 9 nf := by rw [h12, cow_congr eo]
  have c3 : od 0 + od 1 = cow owr 3 nf := by rw [c8, c9, cow_3 (fun f a b => by rw [k2 f a b]; exact owI_bd _ _ _ _ _ _)]
  have en : no = nop (opI ln nd) ns := by rw [h5, nop_congr h4]
  unfold cntC cntR
  rw [c3, ← en]
  by_cases d : wt = 6 ∨ wt = 7
  · have pv := g.1.2 (hs d)
    obtain ⟨e1, e2, e3⟩ := pt_same hmI pv.1 pv.2.1 k1 k4 k5
    rw [← e1]
    have n0 := pv.1.1.1
    have e7 : (if kt1 = 0 then (1 : Int) else 0) = sm := by
      by_cases z : kt1 = 0
      · rw [if_pos z]
        have nz := ktS_0 (kd := kd1) (n := ct1) (by rw [← pv.2.2]; exact z)
        exact (hm.2.mpr (fun p a b => by rw [← (e3 p a (by omega)).2.2.1]; exact nz p a (by omega))).symm
      · rw [if_neg z]
        rcases hm.1 with q | q
        · exact q.symm
        · exfalso
          have kk := hm.2.mp q
          exact z (by rw [pv.2.2]; exact ktS_1 n0 (fun p a b => by rw [(e3 p a b).2.2.1]; exact kk p a (by omega)))
    rw [e7, ← c8, ← c9]
  · rw [if_neg (show ¬ wt = 6 from fun z => d (Or.inl z)), if_neg (show ¬ wt = 6 from fun z => d (Or.inl z)), if_neg (show ¬ wt = 7 from fun z => d (Or.inr z)), if_neg (show ¬ wt = 7 from fun z => d (Or.inr z)), ← c8, ← c9]
theorem worth_same {un x fa sb : Int → Int} {ns no z z' : Int} (hu : ∀ s : Int, 0 ≤ s → s < ns → un s = x s) (hn : no = nop un ns) (a : (16 < no ∧ z = 1000) ∨ (¬ 16 < no ∧ isWo fa sb (opX un ns) z)) (b : (nop x ns ≤ 16 ∧ isWo fa sb (opX x ns) z') ∨ (¬ nop x ns ≤ 16 ∧ z' = 1000)) : z = z' := by
  have en : nop un ns = nop x ns := nop_congr hu
  have eo := opX_same hu
  rcases a with a | a <;> rcases b with b | b
  · omega
  · omega
  · rw [eo] at a; exact isWo_uniq a.2 b.2
  · omega
theorem worthOf_same {un x fa sb : Int → Int} {ns no sd z z' : Int} (hu : ∀ s : Int, 0 ≤ s → s < ns → un s = x s) (hn : no = nop un ns) (a : ((16 < no ∨ ¬ (0 ≤ sd ∧ sd < ns ∧ un sd = 1)) ∧ z = 1000) ∨ (¬ 16 < no ∧ (0 ≤ sd ∧ sd < ns ∧ un sd = 1) ∧ isD fa sb (opX un ns) sd z)) (b : (nop x ns ≤ 16 ∧ ((opX x ns sd = 1 ∧ isD fa sb (opX x ns) sd z') ∨ (opX x ns sd ≠ 1 ∧ z' = 1000))) ∨ (¬ nop x ns ≤ 16 ∧ z' = 1000)) : z = z' := by
  have en : nop un ns = nop x ns := nop_congr hu
  have eo := opX_same hu
  rcases b with ⟨b1, b2⟩ | b
  · rcases b2 with b2 | b2
    · rw [← eo] at b2
      obtain ⟨q0, q1, q2⟩ := opX_d b2.1
      rcases a with a | a
      · rcases a.1 with g | g
        · omega
        · exact absurd ⟨q0, q1, q2⟩ g
      · exact isD_uniq a.2.2 b2.2
    · rcases a with a | a
      · omega
      · exfalso
        exact b2.1 (by rw [← eo]; exact opX_1 a.2.1.1 a.2.1.2.1 a.2.1.2.2)
  · rcases a with a | a
    · omega
    · omega
theorem best_same {un x fa sb : Int → Int} {ns no ii z z' : Int} (hu : ∀ s : Int, 0 ≤ s → s < ns → un s = x s) (hn : no = nop un ns) (a : (16 < no ∧ z = -1) ∨ (¬ 16 < no ∧ isB fa sb (opX un ns) ns ii z)) (b : (nop x ns ≤ 16 ∧ isB fa sb (opX x ns) ns ii z') ∨ (¬ nop x ns ≤ 16 ∧ z' = -1)) : z = z' := by
  have en : nop un ns = nop x ns := nop_congr hu
  have eo := opX_same hu
  rcases a with a | a <;> rcases b with b | b
  · omega
  · omega
  · rw [eo] at a; exact isB_uniq a.2 b.2
  · omega
