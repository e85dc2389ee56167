/-! what the class keeps of its parts between calls -/
def pcS (oc un fa sb : Int → Int) (nf ns ch se ct kt : Int) (pO kd fl ss lo le_ : Int → Int) : Prop := (-1 ≤ se ∧ se ≤ ch) ∧ (se = ch → ptS un fa sb nf ns ct pO le_ ∧ ptG oc un fa sb nf ns ct pO fl ss kd lo ∧ kt = ktS kd ct)
/-- behind a call that may have surveyed -/
def pcN (oc un fa sb : Int → Int) (nf ns ch se ct kt : Int) (kd fl lo : Int → Int) (se1 ct1 kt1 : Int) (pO1 kd1 fl1 ss1 lo1 le_1 : Int → Int) : Prop := pcS oc un fa sb nf ns ch se1 ct1 kt1 pO1 kd1 fl1 ss1 lo1 le_1 ∧ se ≤ se1 ∧ (se1 = se → ct1 = ct ∧ kt1 = kt ∧ kd1 = kd ∧ fl1 = fl ∧ lo1 = lo)
theorem pcN_same {oc un fa sb : Int → Int} {nf ns ch se ct kt : Int} {pO kd fl ss lo le_ : Int → Int} (h : pcS oc un fa sb nf ns ch se ct kt pO kd fl ss lo le_) : pcN oc un fa sb nf ns ch se ct kt kd fl lo se ct kt pO kd fl ss lo le_ := ⟨h, Int.le_refl _, fun _ => ⟨rfl, rfl, rfl, rfl, rfl⟩⟩
theorem pcN_new {oc un fa sb : Int → Int} {nf ns ch se ct kt se1 ct1 kt1 : Int} {pO kd fl ss lo le_ pO1 kd1 fl1 ss1 lo1 le_1 : Int → Int} (h : pcS oc un fa sb nf ns ch se ct kt pO kd fl ss lo le_) (hs : se1 = ch ∧ (ptS un fa sb nf ns ct1 pO1 le_1 ∧ ptG oc un fa sb nf ns ct1 pO1 fl1 ss1 kd1 lo1 ∧ kt1 = ktS kd1 ct1) ∧ (se = ch → ct1 = ct ∧ kt1 = kt ∧ pO1 = pO ∧ kd1 = kd ∧ fl1 = fl ∧ ss1 = ss ∧ lo1 = lo ∧ le_1 = le_)) : pcN oc un fa sb nf ns ch se ct kt kd fl lo se1 ct1 kt1 pO1 kd1 fl1 ss1 lo1 le_1 := by
  have h1 := h.1
  have h2 := hs.1
  refine ⟨⟨by omega, fun _ => hs.2.1⟩, by omega, fun e => ?_⟩
  obtain ⟨a1, a2, a3, a4, a5, a6, a7, a8⟩ := hs.2.2 (by omega)
  exact ⟨a1, a2, a4, a5, a7⟩
theorem cO_ub {pO dg : Int → Int} {p n : Int} (h : 0 ≤ n) : cO pO dg p n ≤ n := su_ub h (fun j _ _ => (ite_bd _).2)
theorem ptG_bd {oc un fa sb : Int → Int} {nf ns ct : Int} {pO fl ss kd lo le_ : Int → Int} (hnf : 0 ≤ nf ∧ nf ≤ 200) (hp : ptS un fa sb nf ns ct pO le_) (h : ptG oc un fa sb nf ns ct pO fl ss kd lo) : ∀ p : Int, 0 ≤ p → p < ct → (0 ≤ kd p ∧ kd p ≤ 2) ∧ (1 ≤ fl p ∧ fl p ≤ 200) ∧ (0 ≤ lo p ∧ lo p ≤ 200) ∧ (kd p ≠ 0 → lo p = 0) := fun p a b => by
  obtain ⟨h1, h2, h3, h4⟩ := h p a b
  obtain ⟨g1, g2, g3, g4⟩ := hp.2.2.1 p a b
  have c1 := cF_pos (pO := pO) (p := p) g1 g2 g4
  have c2 : cF pO p nf ≤ nf := su_ub hnf.1 (fun j _ _ => (ite_bd _).2)
  have c3 := cO_nn pO oc p nf
  have c4 := cO_ub (pO := pO) (dg := oc) (p := p) hnf.1
  have k : kd p = kdG oc un fa sb pO nf ns p := h3
  have kb : 0 ≤ kdG oc un fa sb pO nf ns p ∧ kdG oc un fa sb pO nf ns p ≤ 2 := by unfold kdG; (repeat' split) <;> omega
  have l : lo p = if kdG oc un fa sb pO nf ns p = 0 then cO pO oc p nf else 0 := h4
  refine ⟨by omega, by omega, ?_, fun e => ?_⟩
  · rw [l]; split <;> omega
  · rw [l, if_neg (by omega)]
def askC (un fa sb oc : Int → Int) (ns sd wt : Int) : Int := if ¬ (0 ≤ sd ∧ sd < ns) then -1 else if wt = 0 then un sd else if wt = 1 then fa sd else if wt = 2 then sb sd else if wt = 3 then (if un sd = 1 then clB fa sb oc sd else 0) else -1
def lookC (oc sc ow pO : Int → Int) (nf fd wt : Int) : Int := if ¬ (0 ≤ fd ∧ fd < nf) then -1 else if wt = 0 then oc fd else if wt = 1 then sc fd else if wt = 2 then ow fd else if wt = 3 then pO fd else -1
def partC (kd fl ss lo le_ : Int → Int) (ct ii wt : Int) : Int := if ¬ (0 ≤ ii ∧ ii < ct) then -1 else if wt = 0 then kd ii else if wt = 1 then fl ii else if wt = 2 then ss ii else if wt = 3 then lo ii else if wt = 4 then le_ ii else -1
def cntC (nf ns no nd nk a b ct kt wt : Int) : Int := if wt = 0 then nf else if wt = 1 then ns else if wt = 2 then no else if wt = 3 then a + b else if wt = 4 then nd else if wt = 5 then nk - nd else if wt = 6 then ct else if wt = 7 then (if kt = 0 then 1 else 0) else if wt = 8 then a else if wt = 9 then b else -1
