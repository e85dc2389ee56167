/-! THE PARTS ARE WHAT THEY ARE: whoever finds them, in whatever row -/
theorem cF_congr {pO pO' : Int → Int} {p n : Int} (h : ∀ f : Int, 0 ≤ f → f < n → pO f = pO' f) : cF pO p n = cF pO' p n := su_congr (fun f a b => by
  show (if pO f = p then (1 : Int) else 0) = (if pO' f = p then 1 else 0)
  rw [h f a b])
theorem cO_congr {pO pO' dg dg' : Int → Int} {p n : Int} (h : ∀ f : Int, 0 ≤ f → f < n → pO f = pO' f) (g : ∀ f : Int, 0 ≤ f → f < n → dg f = dg' f) : cO pO dg p n = cO pO' dg' p n := su_congr (fun f a b => by
  show (if pO f = p ∧ dg f = 1 then (1 : Int) else 0) = (if pO' f = p ∧ dg' f = 1 then 1 else 0)
  rw [h f a b, g f a b])
theorem cC_congr {pO pO' dg dg' : Int → Int} {p n : Int} (h : ∀ f : Int, 0 ≤ f → f < n → pO f = pO' f) (g : ∀ f : Int, 0 ≤ f → f < n → dg f = dg' f) : cC pO dg p n = cC pO' dg' p n := su_congr (fun f a b => by
  show (if pO f = p ∧ 2 < dg f then (1 : Int) else 0) = (if pO' f = p ∧ 2 < dg' f then 1 else 0)
  rw [h f a b, g f a b])
theorem cS_congr {x y o1 pO pO' : Int → Int} {p nf ns : Int} (hx : ∀ s : Int, 0 ≤ s → s < ns → x s = y s) (h : ∀ f : Int, 0 ≤ f → f < nf → pO f = pO' f) (ho : ∀ s : Int, 0 ≤ s → s < ns → 0 ≤ o1 s ∧ o1 s < nf) : cS x o1 pO p ns = cS y o1 pO' p ns := su_congr (fun s a b => by
  show (if x s = 1 ∧ pO (o1 s) = p then (1 : Int) else 0) = (if y s = 1 ∧ pO' (o1 s) = p then 1 else 0)
  rw [hx s a b, h _ (ho s a b).1 (ho s a b).2])
theorem cU_congr {x y o1 o2 pO pO' : Int → Int} {p nf ns : Int} (hx : ∀ s : Int, 0 ≤ s → s < ns → x s = y s) (h : ∀ f : Int, 0 ≤ f → f < nf → pO f = pO' f) (ho : ∀ s : Int, 0 ≤ s → s < ns → 0 ≤ o1 s ∧ o1 s < nf) : cU x o1 o2 pO p ns = cU y o1 o2 pO' p ns := su_congr (fun s a b => by
  show (if x s = 1 ∧ pO (o1 s) = p ∧ o2 s = -1 then (1 : Int) else 0) = (if y s = 1 ∧ pO' (o1 s) = p ∧ o2 s = -1 then 1 else 0)
  rw [hx s a b, h _ (ho s a b).1 (ho s a b).2])
theorem kdG_congr {oc oc' x y o1 o2 pO pO' : Int → Int} {nf ns p : Int} (hc : ∀ f : Int, 0 ≤ f → f < nf → oc f = oc' f) (hx : ∀ s : Int, 0 ≤ s → s < ns → x s = y s) (h : ∀ f : Int, 0 ≤ f → f < nf → pO f = pO' f) (ho : ∀ s : Int, 0 ≤ s → s < ns → 0 ≤ o1 s ∧ o1 s < nf) : kdG oc x o1 o2 pO nf ns p = kdG oc' y o1 o2 pO' nf ns p := by
  unfold kdG
  rw [cC_congr h hc, cO_congr h hc, cU_congr hx h ho]
theorem loG_congr {oc oc' x y o1 o2 pO pO' : Int → Int} {nf ns p : Int} (hc : ∀ f : Int, 0 ≤ f → f < nf → oc f = oc' f) (hx : ∀ s : Int, 0 ≤ s → s < ns → x s = y s) (h : ∀ f : Int, 0 ≤ f → f < nf → pO f = pO' f) (ho : ∀ s : Int, 0 ≤ s → s < ns → 0 ≤ o1 s ∧ o1 s < nf) : loG oc x o1 o2 pO nf ns p = loG oc' y o1 o2 pO' nf ns p := by
  unfold loG
  rw [kdG_congr hc hx h ho, cO_congr h hc]
theorem ptA_G {x o1 o2 : Int → Int} {nf ns n : Int} {pO pF pS pK pL : Int → Int} (h : ptA x o1 o2 nf ns n pO pF pS pK pL) : ptG (dgF x o1 o2 ns) x o1 o2 nf ns n pO pF pS pK pL := fun p a b => h p a b
theorem ptS_congr {x y o1 o2 : Int → Int} {nf ns np : Int} {pO pM : Int → Int} (hx : ∀ s : Int, 0 ≤ s → s < ns → x s = y s) (h : ptS x o1 o2 nf ns np pO pM) : ptS y o1 o2 nf ns np pO pM := by
  have hy : ∀ s : Int, 0 ≤ s → s < ns → y s = x s := fun s a b => (hx s a b).symm
  have ho : ∀ f : Int, osd y o1 o2 f ns = osd x o1 o2 f ns := fun f => osd_congr hy
  refine ⟨h.1, fun f a b => ?_, fun p a b => ?_, h.2.2.2⟩
  · rw [ho f]
    obtain ⟨h1, h2⟩ := h.2.1 f a b
    refine ⟨h1, fun g => ?_⟩
    obtain ⟨k1, k2, k3⟩ := h2 g
    exact ⟨k1, k2, con_congr hx k3.1, fun d hd => k3.2 d (con_congr hy hd)⟩
  · rw [ho]; exact h.2.2.1 p a b
/-- two surveys of one meadow say the same -/
theorem pt_eq {oc oc' x o1 o2 : Int → Int} {nf ns ct ct' : Int} {pO le_ fl ss kd lo pO' le_' fl' ss' kd' lo' : Int → Int} (ho : ∀ s : Int, 0 ≤ s → s < ns → 0 ≤ o1 s ∧ o1 s < nf) (hc : ∀ f : Int, 0 ≤ f → f < nf → oc f = oc' f) (h : ptS x o1 o2 nf ns ct pO le_) (g : ptG oc x o1 o2 nf ns ct pO fl ss kd lo) (h' : ptS x o1 o2 nf ns ct' pO' le_') (g' : ptG oc' x o1 o2 nf ns ct' pO' fl' ss' kd' lo') : ct = ct' ∧ (∀ f : Int, 0 ≤ f → f < nf → pO f = pO' f) ∧ ∀ p : Int, 0 ≤ p → p < ct → fl p = fl' p ∧ ss p = ss' p ∧ kd p = kd' p ∧ lo p = lo' p ∧ le_ p = le_' p := by
  obtain ⟨u1, u2, u3⟩ := ptS_uniq h h'
  refine ⟨u1, u3, fun p a b => ?_⟩
  obtain ⟨a1, a2, a3, a4⟩ := g p a b
  obtain ⟨b1, b2, b3, b4⟩ := g' p a (by omega)
  have rx : ∀ s : Int, 0 ≤ s → s < ns → x s = x s := fun _ _ _ => rfl
  exact ⟨by rw [a1, b1, cF_congr u3], by rw [a2, b2, cS_congr rx u3 ho], by rw [a3, b3, kdG_congr hc rx u3 ho], by rw [a4, b4, loG_congr hc rx u3 ho], u2 p a b⟩
theorem chN_congr {kd fl lo kd' fl' lo' : Int → Int} {n k : Int} (h : ∀ p : Int, 0 ≤ p → p < n → kd p = kd' p ∧ fl p = fl' p ∧ lo p = lo' p) : chN kd fl lo n k = chN kd' fl' lo' n k := su_congr (fun p a b => by
  show (if kd p ≠ 1 ∧ lo p = 0 ∧ fl p = k then (1 : Int) else 0) = (if kd' p ≠ 1 ∧ lo' p = 0 ∧ fl' p = k then 1 else 0)
  obtain ⟨e1, e2, e3⟩ := h p a b
  rw [e1, e2, e3])
theorem rnN_congr {kd fl kd' fl' : Int → Int} {n k : Int} (h : ∀ p : Int, 0 ≤ p → p < n → kd p = kd' p ∧ fl p = fl' p) : rnN kd fl n k = rnN kd' fl' n k := su_congr (fun p a b => by
  show (if kd p = 1 ∧ fl p = k then (1 : Int) else 0) = (if kd' p = 1 ∧ fl' p = k then 1 else 0)
  obtain ⟨e1, e2⟩ := h p a b
  rw [e1, e2])
theorem lfN_congr {kd fl lo kd' fl' lo' : Int → Int} {n : Int} (h : ∀ p : Int, 0 ≤ p → p < n → kd p = kd' p ∧ fl p = fl' p ∧ lo p = lo' p) : lfN kd fl lo n = lfN kd' fl' lo' n := su_congr (fun p a b => by
  show (if kd p ≠ 1 ∧ lo p ≠ 0 then fl p else 0) = (if kd' p ≠ 1 ∧ lo' p ≠ 0 then fl' p else 0)
  obtain ⟨e1, e2, e3⟩ := h p a b
  rw [e1, e2, e3])
theorem ltN_congr {kd fl lo kd' fl' lo' : Int → Int} {n u v : Int} (h : ∀ p : Int, 0 ≤ p → p < n → kd p = kd' p ∧ fl p = fl' p ∧ lo p = lo' p) : ltN kd fl lo u v n = ltN kd' fl' lo' u v n := su_congr (fun p a b => by
  show (if kd p ≠ 1 ∧ lo p = u ∧ v ≤ fl p then (1 : Int) else 0) = (if kd' p ≠ 1 ∧ lo' p = u ∧ v ≤ fl' p then 1 else 0)
  obtain ⟨e1, e2, e3⟩ := h p a b
  rw [e1, e2, e3])
theorem rk_uniq {kd fl lo kd' fl' lo' nb nb' : Int → Int} {ct is_ hl l2 l4 lf is' hl' l2' l4' lf' : Int} (e : ∀ p : Int, 0 ≤ p → p < ct → kd p = kd' p ∧ fl p = fl' p ∧ lo p = lo' p) (h : rkS kd fl lo ct is_ hl l2 l4 lf nb) (h' : rkS kd' fl' lo' ct is' hl' l2' l4' lf' nb') : is_ = is' ∧ (is_ = 1 → hl = hl' ∧ l2 = l2' ∧ l4 = l4' ∧ lf = lf') ∧ ∀ j : Int, 0 ≤ j → j < 402 → nb j = nb' j := by
  obtain ⟨a1, a2, a3, a4, a5, a6⟩ := h
  obtain ⟨b1, b2, b3, b4, b5, b6⟩ := h'
  have q : (∀ p : Int, 0 ≤ p → p < ct → kd p ≠ 2) ↔ (∀ p : Int, 0 ≤ p → p < ct → kd' p ≠ 2) := ⟨fun z p u v => by rw [← (e p u v).1]; exact z p u v, fun z p u v => by rw [(e p u v).1]; exact z p u v⟩
  have i : is_ = is' := by
    rcases a1 with g | g
    · rcases b1 with f | f
      · omega
      · have := a2.mpr (q.mpr (b2.mp f)); omega
    · have := b2.mpr (q.mp (a2.mp g)); omega
  refine ⟨i, fun g => ?_, fun j u v => ?_⟩
  · obtain ⟨c1, c2, c3, c4, c5, c6, c7, c8⟩ := a5 g
    obtain ⟨d1, d2, d3, d4, d5, d6, d7, d8⟩ := b5 (by omega)
    rw [← lfN_congr e] at d5 d6
    rw [← ltN_congr e] at d7 d8
    exact ⟨by omega, by omega, by omega, by omega⟩
  · by_cases g : is_ = 1
    · have c4 := (a5 g).2.2.2.1
      have d4 := (b5 (by omega)).2.2.2.1
      by_cases k : j < 201
      · rw [(c4 j u k).1, (d4 j u k).1, chN_congr e]
      · have c := (c4 (j - 201) (by omega) (by omega)).2
        have d := (d4 (j - 201) (by omega) (by omega)).2
        rw [show j - 201 + 201 = j by omega] at c d
        rw [c, d, rnN_congr (fun p a b => ⟨(e p a b).1, (e p a b).2.1⟩)]
    · rw [a6 (by omega) j u v, b6 (by omega) j u v]
theorem kN_congr {nb nb' : Int → Int} (h : ∀ j : Int, 0 ≤ j → j < 402 → nb j = nb' j) (p : Int) : kN (nb1 nb) (nb2 nb) p = kN (nb1 nb') (nb2 nb') p := by
  unfold kN nb1 nb2
  by_cases a : 1 ≤ p ∧ p ≤ 200
  · rw [if_pos a, if_pos a, h p (by omega) (by omega)]
  · rw [if_neg a, if_neg a]
    by_cases b : 202 ≤ p ∧ p ≤ 401
    · rw [if_pos b, if_pos b, h (p - 201 + 201) (by omega) (by omega)]
    · rw [if_neg b, if_neg b]
theorem prN_congr {x1 x2 y1 y2 : Int → Int} (h : ∀ p : Int, kN x1 x2 p = kN y1 y2 p) : ∀ n : Nat, prN x1 x2 n = prN y1 y2 n
  | 0 => rfl
  | n + 1 => by
    show prN x1 x2 n * (kN x1 x2 (n : Int) + 1) = prN y1 y2 n * (kN y1 y2 (n : Int) + 1)
    rw [prN_congr h n, h]
theorem prI_nb {nb nb' : Int → Int} (h : ∀ j : Int, 0 ≤ j → j < 402 → nb j = nb' j) : prI (nb1 nb) (nb2 nb) 402 = prI (nb1 nb') (nb2 nb') 402 := prN_congr (kN_congr h) _
theorem prN_1 {x1 x2 : Int → Int} (h : ∀ p : Int, kN x1 x2 p = 0) : ∀ n : Nat, prN x1 x2 n = 1
  | 0 => rfl
  | n + 1 => by
    show prN x1 x2 n * (kN x1 x2 (n : Int) + 1) = 1
    rw [prN_1 h n, h]; rfl
theorem prI_z {nb : Int → Int} (h : ∀ j : Int, 0 ≤ j → j < 402 → nb j = 0) : prI (nb1 nb) (nb2 nb) 402 = 1 := prN_1 (fun p => by
  unfold kN nb1 nb2
  by_cases a : 1 ≤ p ∧ p ≤ 200
  · rw [if_pos a, h p (by omega) (by omega)]
  · rw [if_neg a]
    by_cases b : 202 ≤ p ∧ p ≤ 401
    · rw [if_pos b, h (p - 201 + 201) (by omega) (by omega)]
    · rw [if_neg b]) _
theorem tgr_nb {nb nb' : Int → Int} {fr : Int} {nV : Nat} (h : ∀ j : Int, 0 ≤ j → j < 402 → nb j = nb' j) : tgr nb fr nV = tgr nb' fr nV := by
  unfold tgr
  rw [prI_nb h]
theorem tgr_z {nb : Int → Int} {fr : Int} {nV : Nat} (h : ∀ j : Int, 0 ≤ j → j < 402 → nb j = 0) (hV : 1 ≤ nV) : tgr nb fr nV = 0 := by
  unfold tgr grw
  rw [prI_z h]
  by_cases c : fr = 0 ∧ (1 : Int) ≤ 20000
  · rw [if_pos c, if_neg (by omega)]
  · rw [if_neg c]
/-- what the class's Ends keep between calls -/
def ecS (kd fl lo : Int → Int) (ct se es is_ hl l2 l4 lf : Int) (nb : Int → Int) : Prop := (-1 ≤ es ∧ es ≤ se) ∧ (es = se → 0 ≤ es → rkS kd fl lo ct is_ hl l2 l4 lf nb)
/-- what the reckoning of a meadow may come to -/
def sPO (oc un fa sb : Int → Int) (nf ns ch es fr : Int) (nb nb9 : Int → Int) (fr9 is9 hl9 : Int) : Prop := (∃ (ct : Int) (pO le_ fl ss kd lo : Int → Int) (l2 l4 lf : Int), ptS un fa sb nf ns ct pO le_ ∧ ptG oc un fa sb nf ns ct pO fl ss kd lo ∧ rkS kd fl lo ct is9 hl9 l2 l4 lf nb9) ∧ (es = ch → nb9 = nb ∧ fr9 = fr) ∧ (es ≠ ch → fr9 = 0)
theorem sPO_uniq {oc un fa sb nb nb9 nb8 : Int → Int} {nf ns ch es fr fr9 is9 hl9 fr8 is8 hl8 : Int} {nV : Nat} (ho : ∀ s : Int, 0 ≤ s → s < ns → 0 ≤ fa s ∧ fa s < nf) (h : sPO oc un fa sb nf ns ch es fr nb nb9 fr9 is9 hl9) (h' : sPO oc un fa sb nf ns ch es fr nb nb8 fr8 is8 hl8) : is9 = is8 ∧ (is9 = 1 → hl9 = hl8) ∧ tgr nb9 fr9 nV = tgr nb8 fr8 nV := by
  obtain ⟨⟨ct, pO, le_, fl, ss, kd, lo, l2, l4, lf, a1, a2, a3⟩, a4, a5⟩ := h
  obtain ⟨⟨ct', pO', le_', fl', ss', kd', lo', l2', l4', lf', b1, b2, b3⟩, b4, b5⟩ := h'
  obtain ⟨e1, e2, e3⟩ := pt_eq ho (fun _ _ _ => rfl) a1 a2 b1 b2
  subst e1
  obtain ⟨u1, u2, u3⟩ := rk_uniq (fun p a b => ⟨(e3 p a b).2.2.1, (e3 p a b).1, (e3 p a b).2.2.2.1⟩) a3 b3
  refine ⟨u1, fun g => (u2 g).1, ?_⟩
  have ef : fr9 = fr8 := by
    by_cases g : es = ch
    · rw [(a4 g).2, (b4 g).2]
    · rw [a5 g, b5 g]
  rw [ef, tgr_nb u3]
/-- what holds of a heap that is told -/
theorem lnT_in {nb pl lg co sp va : Int → Int} {nk hp : Int} {nV : Nat} (hb : nbOK nb) (h : lnT nb nk hp pl lg co sp va nV) (hp2 : prI (nb1 nb) (nb2 nb) 402 ≤ 20000) : hp = prI (nb1 nb) (nb2 nb) 402 ∧ layC nb 402 nk pl lg co sp ∧ vTab lg (fun k => nb (pl k)) (fun k => riP (pl k)) sp nk (-1000000000) va hp ∧ (1 ≤ hp ∧ hp ≤ (nV : Int)) ∧ (0 ≤ nk ∧ nk ≤ 30) ∧ (-10000000 ≤ va (hp - 1) ∧ va (hp - 1) ≤ 10000000) ∧ (∀ k : Int, 0 ≤ k → k < nk → (0 ≤ pl k ∧ pl k < 402) ∧ (1 ≤ lg k ∧ lg k ≤ 200) ∧ co k = cst (lg k) (riP (pl k)) ∧ (0 ≤ hp - 1 - sp k ∧ hp - 1 - sp k < (nV : Int)) ∧ (-10000000 ≤ va (hp - 1 - sp k) ∧ va (hp - 1 - sp k) ≤ 10000000)) := by
  rcases h with ⟨h1, h2, h3, h4, h5⟩ | h
  · have pp := prI_pos (nb1_rg hb) (nb2_rg hb) 402
    have ki := pr_kinds (nb1_rg hb) (nb2_rg hb) (p := 402) (by omega) hp2
    have k0 := ixI_bd (nb1 nb) (nb2 nb) (p := 402) (by omega)
    have nk' := h3.1.1
    have v := h4.2.2 (hp - 1) (by omega) (by omega)
    have tp := lay_top (nb1_rg hb) (nb2_rg hb) h3.1 (by rw [← h2]; exact h4) hp2
    rw [← h2] at tp
    refine ⟨h2, h3, h4, by omega, by omega, by omega, fun k a b => ?_⟩
    have l := h3.2 k a b
    obtain ⟨t1, t2, t3, t4⟩ := tp k a b
    have s1 := (lay_rg (nb1_rg hb) (nb2_rg hb) h3.1 a b).2.2.2.1
    exact ⟨⟨l.1, l.2.1⟩, t1, l.2.2, ⟨t3.1, by omega⟩, t4⟩
  · exact absurd hp2 h.1
theorem lfN_bd {kd fl lo : Int → Int} {n : Int} (hn : 0 ≤ n ∧ n ≤ 200) (h : ∀ p : Int, 0 ≤ p → p < n → 1 ≤ fl p ∧ fl p ≤ 200) : 0 ≤ lfN kd fl lo n ∧ lfN kd fl lo n ≤ 40000 := by
  refine ⟨lfN_nn (fun p a b => (h p a b).1), ?_⟩
  have u : lfN kd fl lo n ≤ su (fun _ => 200) n := su_le (fun p a b => by
    show (if kd p ≠ 1 ∧ lo p ≠ 0 then fl p else 0) ≤ 200
    have := h p a b
    split <;> omega)
  rw [su_const 200 hn.1] at u
  omega
def tgx (nT : Nat) (no : Int) : Nat := if 16 < no then 0 else tgw nT no
theorem tgx_le {nT : Nat} {no : Int} : tgx nT no ≤ 8192 := by
  unfold tgx
  by_cases c : 16 < no
  · rw [if_pos c]; omega
  · rw [if_neg c]
    unfold tgw
    have := p2_16 (k := no) (by omega)
    by_cases d : (nT : Int) < (p2 no + 7) / 8
    · rw [if_pos d]; omega
    · rw [if_neg d]; omega
