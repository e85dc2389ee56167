/-! worths by lengths: both sides -/
theorem ends_core {nf ns no nd nk tn ch se ct kt se1 ct1 kt1 np tn' is_ hl l2 l4 lf lf' l2' l4' fl nk' tp kk hp fr1 : Int} {nV : Nat} {fa sb un ln dw sx sc oc ow od kd flc lo pO1 kd1 fl1 ss1 lo1 le_1 io owr rO rM rF rS rK rL nb pl lg co sp va cn rn lg' nu' ri' sp' va' : Int → Int} (h : mI nf ns no nd nk tn fa sb un ln dw sx sc oc ow od) (g : pcN oc un fa sb nf ns ch se ct kt kd flc lo se1 ct1 kt1 pO1 kd1 fl1 ss1 lo1 le_1) (hs : se1 = ch) (hk : rkS kd1 fl1 lo1 ct1 is_ hl l2 l4 lf nb) (hln : fr1 = 1 → lnT nb kk hp pl lg co sp va nV) (k : (∀ s : Int, 0 ≤ s → s < ns → io s = opI ln nd s) ∧ (∀ f : Int, 0 ≤ f → f < nf → owr f = owI fa sb ln ns nd f) ∧ tn' = tnI fa sb ln ns nd ∧ ptS io fa sb nf ns np rO rM ∧ ptA io fa sb nf ns np rO rF rS rK rL) (hc : rcR rK rF rL cn rn np lf' l2' l4' fl nk' tp lg' nu' ri' sp' va') :
    ((is_ = 1 ∧ prI (nb1 nb) (nb2 nb) 402 ≤ 20000) ↔ fl = 1) ∧ (fl = 0 ∨ fl = 1) ∧ (fl = 1 → (lf = lf' ∧ l2 = l2' ∧ l4 = l4') ∧ (hl = 0 ∨ hl = 1) ∧ (hl = 1 ↔ 0 < lf') ∧ (0 ≤ lf' ∧ lf' ≤ 40000) ∧ (l2' = 1 ∨ l4' = 1 → 0 < lf') ∧ (l2' = 0 ∨ l2' = 1) ∧ (l4' = 0 ∨ l4' = 1) ∧ (fr1 = 1 → va (hp - 1) = va' tp ∧ (-10000000 ≤ va' tp ∧ va' tp ≤ 10000000) ∧ ∀ ii z z' : Int, isI (gdK lg (fun k => riP (pl k)) sp va (hp - 1)) kk ii (fun k => 10 * lg k + riP (pl k)) z → isI (gdK lg' ri' sp' va' tp) nk' ii (fun k => 10 * lg' k + ri' k) z' → z = z')) := by
  obtain ⟨k1, k2, k3, k4, k5⟩ := k
  have pv := g.1.2 hs
  obtain ⟨e1, e2, e3⟩ := pt_same h pv.1 pv.2.1 k1 k4 k5
  rw [← e1] at hc
  have bd := ptG_bd h.1.1 pv.1 pv.2.1
  obtain ⟨r1, r2, r3⟩ := reck_same pv.1.1 (fun p a b => (bd p a b).2.1) (fun p a b => ⟨(e3 p a b).2.2.1, (e3 p a b).1, (e3 p a b).2.2.2.1⟩) hk hc
  refine ⟨r1, r2, fun f => ?_⟩
  obtain ⟨q1, q2, q3, q4, q5, q6, q7, q8, q9, q10, q11, q12, q13, q14, q15, q16⟩ := r3 f
  refine ⟨⟨q1, q2, q3⟩, q4, q5, q6, q7, q15, q16, fun z => ?_⟩
  have nbk := hk.2.2.2.1
  obtain ⟨s1, s2, s3⟩ := heap_same nbk q9 q10 q8 (hln z) q11 q12 q13 q14
  have i := lnT_in nbk (hln z) ((r1.mpr f).2)
  exact ⟨s2, by rw [← s2]; exact i.2.2.2.2.2.1, s3⟩
theorem simple_val {l2 l4 lf v z z' : Int} (b1 : l2 = 0 ∨ l2 = 1) (b2 : l4 = 0 ∨ l4 = 1) (hl : 0 ≤ lf ∧ lf ≤ 40000) (hp : l2 = 1 ∨ l4 = 1 → 0 < lf) (hv : -10000000 ≤ v ∧ v ≤ 10000000) (a : z = if l2 = 1 ∨ l4 = 1 then max (lf + v) (lf - (if l2 = 1 then 4 else 8) - v) else lf + v) (b : z' = if lf = 0 then v else max (lf + v) (if l2 = 1 then lf - 4 - v else if l4 = 1 then lf - 8 - v else -2147483648)) : z = z' := by
  rw [a, b]
  by_cases c2 : l2 = 1
  · rw [if_pos (Or.inl c2), if_neg (show ¬ lf = 0 by have := hp (Or.inl c2); omega), if_pos c2, if_pos c2]
  · by_cases c4 : l4 = 1
    · rw [if_pos (Or.inr c4), if_neg (show ¬ lf = 0 by have := hp (Or.inr c4); omega), if_neg c2, if_neg c2, if_pos c4]
    · rw [if_neg (fun q => q.elim c2 c4), if_neg c2, if_neg c4]
      by_cases q : lf = 0
      · rw [if_pos q]; omega
      · rw [if_neg q]; omega
theorem keep_val {l2 l4 lf v z z' : Int} (b1 : l2 = 0 ∨ l2 = 1) (b2 : l4 = 0 ∨ l4 = 1) (hl : 0 ≤ lf ∧ lf ≤ 40000) (hv : -10000000 ≤ v ∧ v ≤ 10000000) (a : z = if ¬ (l2 = 1 ∨ l4 = 1) ∨ lf - (if l2 = 1 then 4 else 8) - v < lf + v then 1 else if lf + v = lf - (if l2 = 1 then 4 else 8) - v then 0 else -1) (b : z' = if lf + v < (if l2 = 1 then lf - 4 - v else if l4 = 1 then lf - 8 - v else -2147483648) then -1 else if lf + v = (if l2 = 1 then lf - 4 - v else if l4 = 1 then lf - 8 - v else -2147483648) then 0 else 1) : z = z' := by
  rw [a, b]
  by_cases c2 : l2 = 1
  · rw [if_pos c2, if_pos c2]
    by_cases q : lf - 4 - v < lf + v
    · rw [if_pos (Or.inr q), if_neg (by omega), if_neg (by omega)]
    · rw [if_neg (show ¬ (¬ (l2 = 1 ∨ l4 = 1) ∨ lf - 4 - v < lf + v) from fun w => w.elim (fun y => y (Or.inl c2)) q)]
      by_cases r : lf + v = lf - 4 - v
      · rw [if_pos r, if_neg (by omega), if_pos r]
      · rw [if_neg r, if_pos (by omega)]
  · rw [if_neg c2, if_neg c2]
    by_cases c4 : l4 = 1
    · rw [if_pos c4]
      by_cases q : lf - 8 - v < lf + v
      · rw [if_pos (Or.inr q), if_neg (by omega), if_neg (by omega)]
      · rw [if_neg (show ¬ (¬ (l2 = 1 ∨ l4 = 1) ∨ lf - 8 - v < lf + v) from fun w => w.elim (fun y => y (Or.inr c4)) q)]
        by_cases r : lf + v = lf - 8 - v
        · rw [if_pos r, if_neg (by omega), if_pos r]
        · rw [if_neg r, if_pos (by omega)]
    · rw [if_neg c4, if_pos (Or.inl (fun w => w.elim c2 c4)), if_neg (by omega), if_neg (by omega)]
/-- the row of V behind a reckoning, and what it has taken -/
theorem sp_gw {oc un fa sb nb nb1_ : Int → Int} {nf ns ch es fr fr9 is_ hl : Int} {nV nV1 gw sp : Nat} {cond : Int → Prop} (hg : ∀ (nb9 : Int → Int) (fr9 is9 hl9 : Int), sPO oc un fa sb nf ns ch es fr nb nb9 fr9 is9 hl9 → (is9 = 1 ∧ cond hl9 → gw = tgr nb9 fr9 nV) ∧ (¬ (is9 = 1 ∧ cond hl9) → gw = 0)) (h : spB sp nV) (a : sPO oc un fa sb nf ns ch es fr nb nb1_ fr9 is_ hl) (b : (is_ = 1 ∧ cond hl ∧ tln nb1_ fr9 nV nV1) ∨ (¬ (is_ = 1 ∧ cond hl) ∧ nV1 = nV)) : spB (sp + gw) nV1 := by
  have q := hg nb1_ fr9 is_ hl a
  rcases b with ⟨b1, b2, b3⟩ | ⟨b1, b2⟩
  · rw [q.1 ⟨b1, b2⟩]; exact spB_tln h b3
  · rw [q.2 b1, b2]; exact h
theorem prI_kr {nb x1 x2 : Int → Int} (e1 : ∀ k : Int, 0 ≤ k → k < 201 → x1 k = nb k ∧ x2 k = nb (k + 201)) : prI (nb1 nb) (nb2 nb) 402 = prI x1 x2 402 := prI_congr (fun p => by
  unfold kN nb1 nb2
  by_cases a : 1 ≤ p ∧ p ≤ 200
  · rw [if_pos a, if_pos a, (e1 p (by omega) (by omega)).1]
  · rw [if_neg a, if_neg a]
    by_cases b : 202 ≤ p ∧ p ≤ 401
    · rw [if_pos b, if_pos b, (e1 (p - 201) (by omega) (by omega)).2]
    · rw [if_neg b, if_neg b]) 402
