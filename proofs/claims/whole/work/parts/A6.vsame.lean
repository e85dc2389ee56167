/-! V IS THE SAME on both sides -/
theorem ixI_congr {x1 x2 y1 y2 : Int → Int} (h : ∀ p : Int, kN x1 x2 p = kN y1 y2 p) (p : Int) : ixI x1 x2 p = ixI y1 y2 p := su_congr (fun q _ _ => by
  show (if 0 < kN x1 x2 q then (1 : Int) else 0) = _
  rw [h])
theorem prI_congr {x1 x2 y1 y2 : Int → Int} (h : ∀ p : Int, kN x1 x2 p = kN y1 y2 p) (p : Int) : prI x1 x2 p = prI y1 y2 p := prN_congr h _
theorem lay_eq {x1 x2 y1 y2 lg nu ri sp lg' nu' ri' sp' : Int → Int} {nk nk' : Int} (h : ∀ p : Int, kN x1 x2 p = kN y1 y2 p) (a : layOK x1 x2 402 nk lg nu ri sp) (b : layOK y1 y2 402 nk' lg' nu' ri' sp') : nk = nk' ∧ ∀ k : Int, 0 ≤ k → k < nk → lg k = lg' k ∧ nu k = nu' k ∧ ri k = ri' k ∧ sp k = sp' k := by
  refine ⟨by rw [a.1, b.1, ixI_congr h], fun k k0 k1 => ?_⟩
  obtain ⟨q, q0, q1, q2, q3⟩ := ix_on (x1 := x1) (x2 := x2) (p := 402) (k := k) (by omega) k0 (by rw [← a.1]; exact k1)
  obtain ⟨a1, a2, a3, a4⟩ := a.2 q q0 q1 q2
  obtain ⟨b1, b2, b3, b4⟩ := b.2 q q0 q1 (by rw [← h]; exact q2)
  rw [← ixI_congr h, q3] at b1 b2 b3 b4
  rw [q3] at a1 a2 a3 a4
  exact ⟨by rw [a1, b1], by rw [a2, b2, h], by rw [a3, b3], by rw [a4, b4, prI_congr h]⟩
theorem opv_same {lg ri sp va lg' ri' sp' va' : Int → Int} {h k : Int} (e1 : lg k = lg' k) (e2 : ri k = ri' k) (e3 : sp k = sp' k) (e4 : va (h - sp k) = va' (h - sp k)) : opv lg ri sp va h k = opv lg' ri' sp' va' h k := by
  unfold opv
  rw [← e3, ← e4, ← e1, ← e2]
theorem dgI_same {sp nu sp' nu' : Int → Int} {h k : Int} (e1 : sp k = sp' k) (e2 : nu k = nu' k) : dgI sp nu h k = dgI sp' nu' h k := by
  unfold dgI
  rw [e1, e2]
theorem v_le {x1 x2 lg nu ri sp va lg' nu' ri' sp' va' : Int → Int} {nk b0 b0' h : Int} (h1 : rg x1 201 0 1000) (h2 : rg x2 201 0 1000) (hl : layOK x1 x2 402 nk lg nu ri sp) (e : ∀ k : Int, 0 ≤ k → k < nk → lg k = lg' k ∧ nu k = nu' k ∧ ri k = ri' k ∧ sp k = sp' k) (hb : b0 ≤ -10000000) (ha : 1 ≤ h) (hh : h < prI x1 x2 402) (hm : prI x1 x2 402 ≤ 20000) (hv : ∀ q : Int, 0 ≤ q → q < prI x1 x2 402 → -208 * q ≤ va q ∧ va q ≤ 208 * q) (ih : ∀ q : Int, 0 ≤ q → q < h → va q = va' q) : bst lg nu ri sp va b0 h nk ≤ bst lg' nu' ri' sp' va' b0' h nk := by
  have key : ∀ k : Int, 0 ≤ k → k < nk → 0 < dgI sp nu h k → opv lg ri sp va h k ≤ bst lg' nu' ri' sp' va' b0' h nk ∧ -10000000 ≤ opv lg ri sp va h k := fun k k0 k1 k2 => by
    obtain ⟨e1, e2, e3, e4⟩ := e k k0 k1
    have r := lay_rg h1 h2 hl k0 k1
    have p := dg_pos (sp := sp) (nu := nu) (h := h) r.2.2.2.1 (by omega) k2
    have s := opv_same (va := va) (va' := va') (h := h) e1 e3 e4 (ih _ (by omega) (by omega))
    have v := hv (h - sp k) (by omega) (by omega)
    have o := opv_bd (lg := lg) (ri := ri) (sp := sp) (va := va) (h := h) (k := k) (B := 208 * 20000) r.1 (by omega)
    rw [dgI_same e4 e2] at k2
    refine ⟨?_, by omega⟩
    rw [s]
    exact bst_ge k0 k1 k2
  obtain ⟨k, k0, k1, k2⟩ := dg_ex h1 h2 hl ha hh
  have q := key k k0 k1 k2
  exact (bst_le (by omega) (fun j j0 j1 j2 => (key j j0 j1 j2).1)).2
theorem v_eq {x1 x2 y1 y2 lg nu ri sp va lg' nu' ri' sp' va' : Int → Int} {nk nk' b0 b0' : Int} (h1 : rg x1 201 0 1000) (h2 : rg x2 201 0 1000) (g1 : rg y1 201 0 1000) (g2 : rg y2 201 0 1000) (hk : ∀ p : Int, kN x1 x2 p = kN y1 y2 p) (hl : layOK x1 x2 402 nk lg nu ri sp) (hl' : layOK y1 y2 402 nk' lg' nu' ri' sp') (hb : b0 ≤ -10000000) (hb' : b0' ≤ -10000000) (hm : prI x1 x2 402 ≤ 20000) (hv : vTab lg nu ri sp nk b0 va (prI x1 x2 402)) (hv' : vTab lg' nu' ri' sp' nk' b0' va' (prI x1 x2 402)) : ∀ h : Int, 0 ≤ h → h < prI x1 x2 402 → va h = va' h := by
  obtain ⟨ek, ea⟩ := lay_eq hk hl hl'
  subst ek
  have ep := prI_congr hk 402
  have st : ∀ n : Nat, ∀ h : Int, 0 ≤ h → h < prI x1 x2 402 → h ≤ n → va h = va' h := fun n => by
    induction n with
    | zero => intro h a b c; rw [show h = 0 by omega, hv.1, hv'.1]
    | succ n ih =>
      intro h a b c
      by_cases z : h = 0
      · rw [z, hv.1, hv'.1]
      · have ih' : ∀ q : Int, 0 ≤ q → q < h → va q = va' q := fun q q0 q1 => ih q q0 (by omega) (by omega)
        rw [hv.2.1 h (by omega) b, hv'.2.1 h (by omega) b]
        have u := v_le (b0' := b0') h1 h2 hl ea hb (by omega) b hm hv.2.2 ih'
        have w := v_le (b0' := b0) g1 g2 hl' (fun k k0 k1 => by obtain ⟨a1, a2, a3, a4⟩ := ea k k0 k1; exact ⟨a1.symm, a2.symm, a3.symm, a4.symm⟩) hb' (by omega) (by rw [← ep]; exact b) (by rw [← ep]; exact hm) (by rw [← ep]; exact hv'.2.2) (fun q q0 q1 => (ih' q q0 q1).symm)
        omega
  exact fun h a b => st h.toNat h a b (by omega)
/-- the class's heap that is told, and the reference's of the same numbers -/
theorem heap_same {nb pl lg co sp va x1 x2 lg' nu' ri' sp' va' : Int → Int} {kk hp nk' tp : Int} {nV : Nat} (hb : nbOK nb) (g1 : rg x1 201 0 1000) (g2 : rg x2 201 0 1000) (e1 : ∀ k : Int, 0 ≤ k → k < 201 → x1 k = nb k ∧ x2 k = nb (k + 201)) (h : lnT nb kk hp pl lg co sp va nV) (hm : prI x1 x2 402 ≤ 20000) (hl' : layOK x1 x2 402 nk' lg' nu' ri' sp') (hv' : vTab lg' nu' ri' sp' nk' (-2147483648) va' (prI x1 x2 402)) (ht : tp = prI x1 x2 402 - 1) : hp = prI x1 x2 402 ∧ va (hp - 1) = va' tp ∧ ∀ ii z z' : Int, isI (gdK lg (fun k => riP (pl k)) sp va (hp - 1)) kk ii (fun k => 10 * lg k + riP (pl k)) z → isI (gdK lg' ri' sp' va' tp) nk' ii (fun k => 10 * lg' k + ri' k) z' → z = z' := by
  have hk : ∀ p : Int, kN (nb1 nb) (nb2 nb) p = kN x1 x2 p := fun p => by
    unfold kN nb1 nb2
    by_cases a : 1 ≤ p ∧ p ≤ 200
    · rw [if_pos a, if_pos a, (e1 p (by omega) (by omega)).1]
    · rw [if_neg a, if_neg a]
      by_cases b : 202 ≤ p ∧ p ≤ 401
      · rw [if_pos b, if_pos b, (e1 (p - 201) (by omega) (by omega)).2]
      · rw [if_neg b, if_neg b]
  have ep := prI_congr hk 402
  have hp2 : prI (nb1 nb) (nb2 nb) 402 ≤ 20000 := by rw [ep]; exact hm
  have i := lnT_in hb h hp2
  obtain ⟨i1, i2, i3, i4, i5, i6, i7⟩ := i
  have pp := prI_pos g1 g2 402
  rw [i1] at i3
  have ve := v_eq (b0 := -1000000000) (b0' := -2147483648) (nb1_rg hb) (nb2_rg hb) g1 g2 hk i2.1 hl' (by omega) (by omega) hp2 i3 (by rw [ep]; exact hv')
  obtain ⟨ek, ea⟩ := lay_eq hk i2.1 hl'
  have et : hp - 1 = tp := by rw [i1, ep, ht]
  have ev : va (hp - 1) = va' tp := by rw [et]; exact ve tp (by omega) (by omega)
  refine ⟨by rw [i1, ep], ev, fun ii z z' hz hz' => ?_⟩
  subst ek
  refine isI_uniq (fun k => (gdK_nn _ _ _ _ _ k).1) (fun k k0 k1 => ?_) (fun k k0 k1 _ => ?_) hz hz'
  · obtain ⟨a1, a2, a3, a4⟩ := ea k k0 k1
    have a3 : riP (pl k) = ri' k := a3
    have b := (i7 k k0 k1).2.2.2.1
    have o := opv_same (va := va) (va' := va') (h := hp - 1) (k := k) (ri := fun k => riP (pl k)) (ri' := ri') a1 a3 a4 (ve _ b.1 (by rw [← i1]; have := (lay_rg (nb1_rg hb) (nb2_rg hb) i2.1 k0 k1).2.2.2.1; omega))
    unfold gdK
    rw [← et, o, ← et] at *
    rw [ev]
  · obtain ⟨a1, a2, a3, a4⟩ := ea k k0 k1
    have a3 : riP (pl k) = ri' k := a3
    show 10 * lg k + riP (pl k) = 10 * lg' k + ri' k
    rw [a1, a3]
