set_option maxHeartbeats 4000000 in
set_option maxRecDepth 100000 in
theorem ok_X1_openingAt (l : Launch) (D : va_G) (cI : ClassId) (h : Nat) (a_length : Nat) (a_cost : Nat) (a_step : Nat) (a_v : Nat) (v_numbers : Value) (v_place : Value) (v_digit : Value) (v_different : Value) (v_kinds : Value) (v_heaps : Value) (v_fresh : Value) (lg : Int → Int) (co : Int → Int) (sp : Int → Int) (va : Int → Int) (nV : Nat) (sz : Nat) (kk : Int) (hh : Int) (hnV : (nV : Int) < 2147483648) (hkk : 0 ≤ kk ∧ kk < 30) (hlg : 1 ≤ lg kk ∧ lg kk ≤ 200) (hco : 0 ≤ co kk ∧ co kk ≤ 8) (hix : 0 ≤ hh - sp kk ∧ hh - sp kk < (nV : Int)) (hva : -10000000 ≤ va (hh - sp kk) ∧ va (hh - sp kk) ≤ 10000000) : MetI l yX1_openingAt (wd yX1_openingAt cX1_openingAt 5 (some .int)) ({ frames := 1, cells := 0, slots := 0, locals := 21 } : Room) [.ref h, .int (iN kk), .int (iN hh)] D [(cI, .int)] [(h, .inr (1, [v_numbers, v_place, .ref a_length, .ref a_cost, .ref a_step, v_digit, v_different, v_kinds, v_heaps, v_fresh, .ref a_v])), (a_length, .inl (cI, 30, .inl (ar lg))), (a_cost, .inl (cI, 30, .inl (ar co))), (a_step, .inl (cI, 30, .inl (ar sp))), (a_v, .inl (cI, nV, .inl (ar va)))] sz (fun _ : Unit => [(h, .inr (1, [v_numbers, v_place, .ref a_length, .ref a_cost, .ref a_step, v_digit, v_different, v_kinds, v_heaps, v_fresh, .ref a_v])), (a_length, .inl (cI, 30, .inl (ar lg))), (a_cost, .inl (cI, 30, .inl (ar co))), (a_step, .inl (cI, 30, .inl (ar sp))), (a_v, .inl (cI, nV, .inl (ar va)))]) (fun z _ => z = opc lg co sp va hh kk) 0 0 := by
  refine iv_mkI (cc := cX1_openingAt) (maxL := 5) (by decide) rfl (Nat.le_of_ble_eq_true rfl) ?_
  intro p e s m below meth c A H ls hx hb hr hts hown hlocks hin hml hN hA hK hP hD hS hl
  have hT : ∀ w ∈ T0, w.before [.ref h, .int (iN kk), .int (iN hh)].toArray s = true := fun w h => hts w (List.mem_cons_of_mem _ h)
  have hown : s.vm.findClass RX1 = some m.cls := hown
  have hl : lv_has ls 5 [(0, .ref h), (1, .int (iN kk)), (2, .int (iN hh))] := hl
  refine lv_aload_n hx hb dX1_openingAt_0 rfl (lv_at hl 0 rfl) ?_
  refine va_get (D := D) (ci := 1) (v := .ref a_v) (C := RX1) (T := TX1) (N := 11) hx hb hT hiX1 hown hK hP 0 rfl rfl 10 (by decide) (hT _ k_270) (fun _ h9 => h9) rfl dX1_openingAt_1 ?_
  refine lv_iload_n hx hb dX1_openingAt_4 rfl (lv_at hl 2 rfl) ?_
  refine lv_aload_n hx hb dX1_openingAt_5 rfl (lv_at hl 0 rfl) ?_
  refine va_get (D := D) (ci := 1) (v := .ref a_step) (C := RX1) (T := TX1) (N := 11) hx hb hT hiX1 hown hK hP 0 rfl rfl 4 (by decide) (hT _ k_264) (fun _ h9 => h9) rfl dX1_openingAt_6 ?_
  refine lv_iload_n hx hb dX1_openingAt_9 rfl (lv_at hl 1 rfl) ?_
  refine iv_iald hx hb hK hP 3 0 rfl rfl (f := sp) (by omega) (by omega) dX1_openingAt_10 ?_
  refine iv_isub hx hb dX1_openingAt_11 ?_
  refine iv_iald hx hb hK hP 4 0 rfl rfl (f := va) (by omega) (by omega) dX1_openingAt_12 ?_
  refine lv_istore_n (lv' := [(3, .int (iN (va (hh - (sp kk))))), (0, .ref h), (1, .int (iN kk)), (2, .int (iN hh))]) hx hb dX1_openingAt_13 rfl hl (by decide) rfl (fun ls hl => ?_)
  refine lv_aload_n hx hb dX1_openingAt_14 rfl (lv_at hl 1 rfl) ?_
  refine va_get (D := D) (ci := 1) (v := .ref a_length) (C := RX1) (T := TX1) (N := 11) hx hb hT hiX1 hown hK hP 0 rfl rfl 2 (by decide) (hT _ k_262) (fun _ h9 => h9) rfl dX1_openingAt_15 ?_
  refine lv_iload_n hx hb dX1_openingAt_18 rfl (lv_at hl 2 rfl) ?_
  refine iv_iald hx hb hK hP 1 0 rfl rfl (f := lg) (by omega) (by omega) dX1_openingAt_19 ?_
  refine lv_iload_n hx hb dX1_openingAt_20 rfl (lv_at hl 0 rfl) ?_
  refine iv_iadd hx hb dX1_openingAt_21 ?_
  refine lv_istore (lv' := [(4, .int (iN (lg kk + (va (hh - (sp kk)))))), (3, .int (iN (va (hh - (sp kk))))), (0, .ref h), (1, .int (iN kk)), (2, .int (iN hh))]) hx hb dX1_openingAt_22 hl (by decide) rfl (fun ls hl => ?_)
  refine lv_aload_n hx hb dX1_openingAt_24 rfl (lv_at hl 2 rfl) ?_
  refine va_get (D := D) (ci := 1) (v := .ref a_cost) (C := RX1) (T := TX1) (N := 11) hx hb hT hiX1 hown hK hP 0 rfl rfl 3 (by decide) (hT _ k_263) (fun _ h9 => h9) rfl dX1_openingAt_25 ?_
  refine lv_iload_n hx hb dX1_openingAt_28 rfl (lv_at hl 3 rfl) ?_
  refine iv_iald hx hb hK hP 2 0 rfl rfl (f := co) (by omega) (by omega) dX1_openingAt_29 ?_
  refine iv_if_le (tgt := 55) hx hb dX1_openingAt_30 (by decide) (by omega) (fun c30 => ?_) (fun c30 => ?_)
  · refine lv_iload hx hb dX1_openingAt_55 (lv_at hl 0 rfl) ?_
    refine iv_ineg hx hb dX1_openingAt_57 ?_
    exact iv_iret hx hb hr hlocks dX1_openingAt_58 (by omega) (by omega) () (by unfold opc; first | (rw [if_pos (by omega)]; done) | (rw [if_neg (by omega)]; done)) (by exact hP.sub [0, 1, 2, 3, 4] rfl) (by exact hD.sub [0, 1, 2, 3, 4] (by decide) rfl) hS
  · refine lv_iload hx hb dX1_openingAt_33 (lv_at hl 0 rfl) ?_
    refine lv_aload_n hx hb dX1_openingAt_35 rfl (lv_at hl 2 rfl) ?_
    refine va_get (D := D) (ci := 1) (v := .ref a_length) (C := RX1) (T := TX1) (N := 11) hx hb hT hiX1 hown hK hP 0 rfl rfl 2 (by decide) (hT _ k_262) (fun _ h9 => h9) rfl dX1_openingAt_36 ?_
    refine lv_iload_n hx hb dX1_openingAt_39 rfl (lv_at hl 3 rfl) ?_
    refine iv_iald hx hb hK hP 1 0 rfl rfl (f := lg) (by omega) (by omega) dX1_openingAt_40 ?_
    refine lv_aload_n hx hb dX1_openingAt_41 rfl (lv_at hl 2 rfl) ?_
    refine va_get (D := D) (ci := 1) (v := .ref a_cost) (C := RX1) (T := TX1) (N := 11) hx hb hT hiX1 hown hK hP 0 rfl rfl 3 (by decide) (hT _ k_263) (fun _ h9 => h9) rfl dX1_openingAt_42 ?_
    refine lv_iload_n hx hb dX1_openingAt_45 rfl (lv_at hl 3 rfl) ?_
    refine iv_iald hx hb hK hP 2 0 rfl rfl (f := co) (by omega) (by omega) dX1_openingAt_46 ?_
    refine iv_isub hx hb dX1_openingAt_47 ?_
    refine lv_iload_n hx hb dX1_openingAt_48 rfl (lv_at hl 1 rfl) ?_
    refine iv_isub hx hb dX1_openingAt_49 ?_
    refine iv_mmax hx hb (hml.trans hl.1.symm) hown (hT _ k_666) (hT _ k_667) (hT _ k_68) (hT _ k_668) (Nat.le_of_ble_eq_true rfl) (Nat.le_of_ble_eq_true rfl) (by omega) (by omega) (by omega) (by omega) dX1_openingAt_50 ?_
    refine lv_istore (lv' := [(4, .int (iN (max (lg kk + (va (hh - (sp kk)))) (lg kk - (co kk) - (va (hh - (sp kk))))))), (3, .int (iN (va (hh - (sp kk))))), (0, .ref h), (1, .int (iN kk)), (2, .int (iN hh))]) hx hb dX1_openingAt_53 hl (by decide) rfl (fun ls hl => ?_)
    refine lv_iload hx hb dX1_openingAt_55 (lv_at hl 0 rfl) ?_
    refine iv_ineg hx hb dX1_openingAt_57 ?_
    exact iv_iret hx hb hr hlocks dX1_openingAt_58 (by omega) (by omega) () (by unfold opc; first | (rw [if_pos (by omega)]; done) | (rw [if_neg (by omega)]; done)) (by exact hP.sub [0, 1, 2, 3, 4] rfl) (by exact hD.sub [0, 1, 2, 3, 4] (by decide) rfl) hS
set_option maxHeartbeats 4000000 in
set_option maxRecDepth 100000 in
theorem ok_X1_whole (l : Launch) (D : va_G) (cI : ClassId) (h : Nat) (a_v : Nat) (v_numbers : Value) (v_place : Value) (v_length : Value) (v_cost : Value) (v_step : Value) (v_digit : Value) (v_different : Value) (v_kinds : Value) (v_fresh : Value) (va : Int → Int) (hp : Int) (nV : Nat) (sz : Nat) (hnV : (nV : Int) < 2147483648) (hhp : 1 ≤ hp ∧ hp ≤ (nV : Int)) : MetI l yX1_whole (wd yX1_whole cX1_whole 1 (some .int)) ({ frames := 0, cells := 0, slots := 0, locals := 0 } : Room) [.ref h] D [(cI, .int)] [(h, .inr (1, [v_numbers, v_place, v_length, v_cost, v_step, v_digit, v_different, v_kinds, .int (iN hp), v_fresh, .ref a_v])), (a_v, .inl (cI, nV, .inl (ar va)))] sz (fun _ : Unit => [(h, .inr (1, [v_numbers, v_place, v_length, v_cost, v_step, v_digit, v_different, v_kinds, .int (iN hp), v_fresh, .ref a_v])), (a_v, .inl (cI, nV, .inl (ar va)))]) (fun z _ => z = va (hp - 1)) 0 0 := by
  refine iv_mkI (cc := cX1_whole) (maxL := 1) (by decide) rfl (Nat.le_of_ble_eq_true rfl) ?_
  intro p e s m below meth c A H ls hx hb hr hts hown hlocks hin hml hN hA hK hP hD hS hl
  have hT : ∀ w ∈ T0, w.before [.ref h].toArray s = true := fun w h => hts w (List.mem_cons_of_mem _ h)
  have hown : s.vm.findClass RX1 = some m.cls := hown
  have hl : lv_has ls 1 [(0, .ref h)] := hl
  refine lv_aload_n hx hb dX1_whole_0 rfl (lv_at hl 0 rfl) ?_
  refine va_get (D := D) (ci := 1) (v := .ref a_v) (C := RX1) (T := TX1) (N := 11) hx hb hT hiX1 hown hK hP 0 rfl rfl 10 (by decide) (hT _ k_270) (fun _ h9 => h9) rfl dX1_whole_1 ?_
  refine lv_aload_n hx hb dX1_whole_4 rfl (lv_at hl 0 rfl) ?_
  refine va_get (D := D) (ci := 1) (v := .int (iN hp)) (C := RX1) (T := TX1) (N := 11) hx hb hT hiX1 hown hK hP 0 rfl rfl 8 (by decide) (hT _ k_268) (fun _ h9 => h9) rfl dX1_whole_5 ?_
  refine iv_iconst hx hb dX1_whole_8 ?_
  refine iv_isub hx hb dX1_whole_9 ?_
  refine iv_iald hx hb hK hP 1 0 rfl rfl (f := va) (by omega) (by omega) dX1_whole_10 ?_
  exact iv_iret hx hb hr hlocks dX1_whole_11 (by omega) (by omega) () (by rfl) (by exact hP.sub [0, 1] rfl) (by exact hD.sub [0, 1] (by decide) rfl) hS
set_option maxHeartbeats 4000000 in
set_option maxRecDepth 100000 in
theorem ok_X1_bestAt (l : Launch) (D : va_G) (cI : ClassId) (h : Nat) (a_length : Nat) (a_cost : Nat) (a_step : Nat) (a_digit : Nat) (a_v : Nat) (v_numbers : Value) (v_place : Value) (v_different : Value) (v_heaps : Value) (v_fresh : Value) (lg : Int → Int) (co : Int → Int) (sp : Int → Int) (dg : Int → Int) (va : Int → Int) (nk : Int) (nV : Nat) (sz : Nat) (hh : Int) (nu : Int → Int) (ri : Int → Int) (hnV : (nV : Int) < 2147483648) (hnk : 0 ≤ nk ∧ nk ≤ 30) (hh1 : 1 ≤ hh ∧ hh < 20000) (hkd : ∀ k : Int, 0 ≤ k → k < nk → (1 ≤ lg k ∧ lg k ≤ 200) ∧ (ri k = 0 ∨ ri k = 1) ∧ co k = cst (lg k) (ri k)) (hdg : ∀ k : Int, 0 ≤ k → k < nk → dg k = dgI sp nu hh k ∧ 0 ≤ dg k ∧ dg k ≤ 1000) (hvb : ∀ k : Int, 0 ≤ k → k < nk → 0 < dg k → 0 ≤ hh - sp k ∧ hh - sp k < (nV : Int) ∧ -(208 * (hh - 1)) ≤ va (hh - sp k) ∧ va (hh - sp k) ≤ 208 * (hh - 1)) : MetI l yX1_bestAt (wd yX1_bestAt cX1_bestAt 4 (some .int)) ({ frames := 2, cells := 0, slots := 0, locals := 45 } : Room) [.ref h, .int (iN hh)] D [(cI, .int)] [(h, .inr (1, [v_numbers, v_place, .ref a_length, .ref a_cost, .ref a_step, .ref a_digit, v_different, .int (iN nk), v_heaps, v_fresh, .ref a_v])), (a_length, .inl (cI, 30, .inl (ar lg))), (a_cost, .inl (cI, 30, .inl (ar co))), (a_step, .inl (cI, 30, .inl (ar sp))), (a_digit, .inl (cI, 30, .inl (ar dg))), (a_v, .inl (cI, nV, .inl (ar va)))] sz (fun _ : Unit => [(h, .inr (1, [v_numbers, v_place, .ref a_length, .ref a_cost, .ref a_step, .ref a_digit, v_different, .int (iN nk), v_heaps, v_fresh, .ref a_v])), (a_length, .inl (cI, 30, .inl (ar lg))), (a_cost, .inl (cI, 30, .inl (ar co))), (a_step, .inl (cI, 30, .inl (ar sp))), (a_digit, .inl (cI, 30, .inl (ar dg))), (a_v, .inl (cI, nV, .inl (ar va)))]) (fun z _ => z = bst lg nu ri sp va (-1000000000) hh nk) 0 0 := by
  refine iv_mkI (cc := cX1_bestAt) (maxL := 4) (by decide) rfl (Nat.le_of_ble_eq_true rfl) ?_
  intro p e s m below meth c A H ls hx hb hr hts hown hlocks hin hml hN hA hK hP hD hS hl
  have hT : ∀ w ∈ T0, w.before [.ref h, .int (iN hh)].toArray s = true := fun w h => hts w (List.mem_cons_of_mem _ h)
  have hown : s.vm.findClass RX1 = some m.cls := hown
  have hl : lv_has ls 4 [(0, .ref h), (1, .int (iN hh))] := hl
  refine iv_ldc hx hb (n := -1000000000) (v := -1000000000) (by decide) hown (hT _ k_678) dX1_bestAt_0 ?_
  refine lv_istore_n (lv' := [(2, .int (iN (-1000000000))), (0, .ref h), (1, .int (iN hh))]) hx hb dX1_bestAt_2 rfl hl (by decide) rfl (fun ls hl => ?_)
  refine iv_iconst hx hb dX1_bestAt_3 ?_
  refine lv_istore_n (lv' := [(3, .int (iN 0)), (2, .int (iN (-1000000000))), (0, .ref h), (1, .int (iN hh))]) hx hb dX1_bestAt_4 rfl hl (by decide) rfl (fun ls hl => ?_)
  have lab_5 : ∀ (fuel : Nat) (b : Int) (i : Int), (0 ≤ i ∧ i ≤ nk) → (b = bst lg nu ri sp va (-1000000000) hh i) → (-1000000000 ≤ b ∧ b ≤ 208 * hh) → (nk - i < (fuel : Int)) → ∀ (H : Heap) (locs : List Loc) (ls : Array Slot), va_P D vwCl [(h, .inr (1, [v_numbers, v_place, .ref a_length, .ref a_cost, .ref a_step, .ref a_digit, v_different, .int (iN nk), v_heaps, v_fresh, .ref a_v])), (a_length, .inl (cI, 30, .inl (ar lg))), (a_cost, .inl (cI, 30, .inl (ar co))), (a_step, .inl (cI, 30, .inl (ar sp))), (a_digit, .inl (cI, 30, .inl (ar dg))), (a_v, .inl (cI, nV, .inl (ar va)))] H → va_D A [(h, .inr (1, [v_numbers, v_place, .ref a_length, .ref a_cost, .ref a_step, .ref a_digit, v_different, .int (iN nk), v_heaps, v_fresh, .ref a_v])), (a_length, .inl (cI, 30, .inl (ar lg))), (a_cost, .inl (cI, 30, .inl (ar co))), (a_step, .inl (cI, 30, .inl (ar sp))), (a_digit, .inl (cI, 30, .inl (ar dg))), (a_v, .inl (cI, nV, .inl (ar va)))] → va_S A s.heap H locs → lv_has ls 4 [(0, .ref h), (1, .int (iN hh)), (2, .int (iN b)), (3, .int (iN i))] → W p l e ({ frames := 2, cells := 0, slots := 0, locals := 45 } : Room) s m [.ref h, .int (iN hh)].toArray below meth c H locs 0 0 (MQ below (iv_Qi D A (fun _ : Unit => [(h, .inr (1, [v_numbers, v_place, .ref a_length, .ref a_cost, .ref a_step, .ref a_digit, v_different, .int (iN nk), v_heaps, v_fresh, .ref a_v])), (a_length, .inl (cI, 30, .inl (ar lg))), (a_cost, .inl (cI, 30, .inl (ar co))), (a_step, .inl (cI, 30, .inl (ar sp))), (a_digit, .inl (cI, 30, .inl (ar dg))), (a_v, .inl (cI, nV, .inl (ar va)))]) (fun z _ => z = bst lg nu ri sp va (-1000000000) hh nk)) [.ref h, .int (iN hh)].toArray s 0 0 A) (F0 m 5 ls []) := by
    intro fuel
    induction fuel with
    | zero =>
      intro b i hi hbe hbb hm
      exact absurd hm (by omega)
    | succ fuel ih =>
      intro b i hi hbe hbb hm H locs ls hP hD hS hl
      have ih_5 := ih
      refine lv_iload_n hx hb dX1_bestAt_5 rfl (lv_at hl 3 rfl) ?_
      refine lv_aload_n hx hb dX1_bestAt_6 rfl (lv_at hl 0 rfl) ?_
      refine va_get (D := D) (ci := 1) (v := .int (iN nk)) (C := RX1) (T := TX1) (N := 11) hx hb hT hiX1 hown hK hP 0 rfl rfl 7 (by decide) (hT _ k_267) (fun _ h9 => h9) rfl dX1_bestAt_7 ?_
      refine iv_icmp_ge (tgt := 39) hx hb dX1_bestAt_10 (by decide) (by omega) (by omega) (fun c10 => ?_) (fun c10 => ?_)
      · refine lv_iload_n hx hb dX1_bestAt_39 rfl (lv_at hl 2 rfl) ?_
        exact iv_iret hx hb hr hlocks dX1_bestAt_40 (by omega) (by omega) () (by rw [hbe, show i = nk by omega]) (by exact hP.sub [0, 1, 2, 3, 4, 5] rfl) (by exact hD.sub [0, 1, 2, 3, 4, 5] (by decide) rfl) hS
      · have ⟨q1, q2, q3⟩ := hkd i (by omega) (by omega)
        have hcb : 0 ≤ co i ∧ co i ≤ 8 := by rw [q3]; unfold cst; (repeat' split) <;> omega
        have hdi := hdg i (by omega) (by omega)
        have hoe : opv lg ri sp va hh i = opc lg co sp va hh i := opv_cost q2 q3
        refine lv_aload_n hx hb dX1_bestAt_13 rfl (lv_at hl 0 rfl) ?_
        refine va_get (D := D) (ci := 1) (v := .ref a_digit) (C := RX1) (T := TX1) (N := 11) hx hb hT hiX1 hown hK hP 0 rfl rfl 5 (by decide) (hT _ k_265) (fun _ h9 => h9) rfl dX1_bestAt_14 ?_
        refine lv_iload_n hx hb dX1_bestAt_17 rfl (lv_at hl 3 rfl) ?_
        refine iv_iald hx hb hK hP 4 0 rfl rfl (f := dg) (by omega) (by omega) dX1_bestAt_18 ?_
        refine iv_if_le (tgt := 33) hx hb dX1_bestAt_19 (by decide) (by omega) (fun c19 => ?_) (fun c19 => ?_)
        · refine lv_iinc (v := iN (i + 1)) (lv' := [(3, .int (iN (i + 1))), (0, .ref h), (1, .int (iN hh)), (2, .int (iN b))]) hx hb dX1_bestAt_33 hl (k := 3) rfl (iN_add _ _) (by decide) rfl (fun ls hl => ?_)
          refine lv_goto (tgt := 5) hx hb dX1_bestAt_36 (by decide) ?_
          have hbs := bst_s (lg := lg) (nu := nu) (ri := ri) (sp := sp) (va := va) (b0 := -1000000000) (h := hh) (n := i) (by omega)
          exact ih_5 b (i + 1) (by first | omega | with_reducible assumption | assumption) (by rw [hbs]; first | (rw [if_pos (by omega), ← hbe, hoe]; done) | (rw [if_neg (by omega), ← hbe]; done)) (by first | omega | with_reducible assumption | assumption) (by omega) _ _ _ (hP.sub [0, 1, 2, 3, 4, 5] rfl) (hD.sub [0, 1, 2, 3, 4, 5] (by decide) rfl) hS (lv_sub hl [1, 2, 3, 0] rfl)
        · have hvi := hvb i (by omega) (by omega) (by omega)
          have hob := opv_bd (lg := lg) (ri := ri) (sp := sp) (va := va) (h := hh) (k := i) (B := 208 * (hh - 1)) q1 (by omega)
          refine lv_iload_n hx hb dX1_bestAt_22 rfl (lv_at hl 2 rfl) ?_
          refine lv_aload_n hx hb dX1_bestAt_23 rfl (lv_at hl 0 rfl) ?_
          refine lv_iload_n hx hb dX1_bestAt_24 rfl (lv_at hl 3 rfl) ?_
          refine lv_iload_n hx hb dX1_bestAt_25 rfl (lv_at hl 1 rfl) ?_
          refine iv_callV (mc := 0) (ms := 0) (wc := [(h, .inr (1, [v_numbers, v_place, .ref a_length, .ref a_cost, .ref a_step, .ref a_digit, v_different, .int (iN nk), v_heaps, v_fresh, .ref a_v])), (a_length, .inl (cI, 30, .inl (ar lg))), (a_cost, .inl (cI, 30, .inl (ar co))), (a_step, .inl (cI, 30, .inl (ar sp))), (a_v, .inl (cI, nV, .inl (ar va)))]) (wr := [(a_digit, .inl (cI, 30, .inl (ar dg)))]) (As := [.int (iN i), .int (iN hh)]) (rest := [.int (iN b)]) ⟨hx, hb, hml, hown, hT⟩ (ok_X1_openingAt l D cI h a_length a_cost a_step a_v v_numbers v_place (.ref a_digit) v_different (.int (iN nk)) v_heaps v_fresh lg co sp va nV H.size i hh (by first | with_reducible assumption | omega | assumption) (by first | with_reducible assumption | omega | assumption) (by first | with_reducible assumption | omega | assumption) (by first | with_reducible assumption | omega | assumption) (by first | with_reducible assumption | omega | assumption) (by first | with_reducible assumption | omega | assumption)) (iv_cw 2 hT k_682 k_65 k_679 k_681 k_35 (by decide +kernel) rfl rfl ⟨Nat.le_of_ble_eq_true rfl, Nat.le_of_ble_eq_true rfl⟩) hN hK hP hD hS hA [0, 1, 2, 3, 5] [4] [0] rfl rfl (by decide) (by decide) (by decide) rfl 0 (ci := 1) rfl rfl rfl hl.1 rfl (Nat.le_of_ble_eq_true rfl) dX1_bestAt_26 ⟨Nat.le_of_ble_eq_true rfl, Nat.le_of_ble_eq_true rfl⟩ (fun z26 u26 H locs hw26 hP hD hS => ?_)
          obtain rfl := hw26
          have hP := hP.sub (ws' := [(h, .inr (1, [v_numbers, v_place, .ref a_length, .ref a_cost, .ref a_step, .ref a_digit, v_different, .int (iN nk), v_heaps, v_fresh, .ref a_v])), (a_length, .inl (cI, 30, .inl (ar lg))), (a_cost, .inl (cI, 30, .inl (ar co))), (a_step, .inl (cI, 30, .inl (ar sp))), (a_digit, .inl (cI, 30, .inl (ar dg))), (a_v, .inl (cI, nV, .inl (ar va)))]) [1, 2, 3, 4, 0, 5] rfl
          have hD := hD.sub (ws' := [(h, .inr (1, [v_numbers, v_place, .ref a_length, .ref a_cost, .ref a_step, .ref a_digit, v_different, .int (iN nk), v_heaps, v_fresh, .ref a_v])), (a_length, .inl (cI, 30, .inl (ar lg))), (a_cost, .inl (cI, 30, .inl (ar co))), (a_step, .inl (cI, 30, .inl (ar sp))), (a_digit, .inl (cI, 30, .inl (ar dg))), (a_v, .inl (cI, nV, .inl (ar va)))]) [1, 2, 3, 4, 0, 5] (by decide) rfl
          refine iv_mmax hx hb (hml.trans hl.1.symm) hown (hT _ k_666) (hT _ k_667) (hT _ k_68) (hT _ k_668) (Nat.le_of_ble_eq_true rfl) (Nat.le_of_ble_eq_true rfl) (by omega) (by omega) (by omega) (by omega) dX1_bestAt_29 ?_
          refine lv_istore_n (lv' := [(2, .int (iN (max b (opc lg co sp va hh i)))), (0, .ref h), (1, .int (iN hh)), (3, .int (iN i))]) hx hb dX1_bestAt_32 rfl hl (by decide) rfl (fun ls hl => ?_)
          refine lv_iinc (v := iN (i + 1)) (lv' := [(3, .int (iN (i + 1))), (2, .int (iN (max b (opc lg co sp va hh i)))), (0, .ref h), (1, .int (iN hh))]) hx hb dX1_bestAt_33 hl (k := 3) rfl (iN_add _ _) (by decide) rfl (fun ls hl => ?_)
          refine lv_goto (tgt := 5) hx hb dX1_bestAt_36 (by decide) ?_
          have hbs := bst_s (lg := lg) (nu := nu) (ri := ri) (sp := sp) (va := va) (b0 := -1000000000) (h := hh) (n := i) (by omega)
          exact ih_5 (max b (opc lg co sp va hh i)) (i + 1) (by first | omega | with_reducible assumption | assumption) (by rw [hbs]; first | (rw [if_pos (by omega), ← hbe, hoe]; done) | (rw [if_neg (by omega), ← hbe]; done)) (by first | omega | with_reducible assumption | assumption) (by omega) _ _ _ (hP.sub [0, 1, 2, 3, 4, 5] rfl) (hD.sub [0, 1, 2, 3, 4, 5] (by decide) rfl) hS (lv_sub hl [2, 3, 1, 0] rfl)
  exact lab_5 ((nk - 0 : Int).toNat + 1) (-1000000000) 0 (by first | omega | with_reducible assumption | assumption) (by rfl) (by first | omega | with_reducible assumption | assumption) (by omega) _ _ _ (hP.sub [0, 1, 2, 3, 4, 5] rfl) (hD.sub [0, 1, 2, 3, 4, 5] (by decide) rfl) hS (lv_sub hl [2, 3, 1, 0] rfl)
set_option maxHeartbeats 4000000 in
set_option maxRecDepth 100000 in
theorem ok_X1_bestKind (l : Launch) (D : va_G) (cI : ClassId) (h : Nat) (a_place : Nat) (a_length : Nat) (a_cost : Nat) (a_step : Nat) (a_v : Nat) (v_numbers : Value) (v_digit : Value) (v_different : Value) (v_fresh : Value) (pl : Int → Int) (lg : Int → Int) (co : Int → Int) (sp : Int → Int) (va : Int → Int) (nk : Int) (hp : Int) (nV : Nat) (sz : Nat) (ii : Int) (hnV : (nV : Int) < 2147483648) (hii : -2147483648 ≤ ii ∧ ii < 2147483648) (hnk : 0 ≤ nk ∧ nk ≤ 30) (hhp : 1 ≤ hp ∧ hp ≤ (nV : Int)) (hkk : ∀ k : Int, 0 ≤ k → k < nk → (0 ≤ pl k ∧ pl k < 402) ∧ (1 ≤ lg k ∧ lg k ≤ 200) ∧ co k = cst (lg k) (riP (pl k)) ∧ (0 ≤ hp - 1 - sp k ∧ hp - 1 - sp k < (nV : Int)) ∧ (-10000000 ≤ va (hp - 1 - sp k) ∧ va (hp - 1 - sp k) ≤ 10000000)) (hvt : -10000000 ≤ va (hp - 1) ∧ va (hp - 1) ≤ 10000000) : MetI l yX1_bestKind (wd yX1_bestKind cX1_bestKind 4 (some .int)) ({ frames := 2, cells := 0, slots := 0, locals := 45 } : Room) [.ref h, .int (iN ii)] D [(cI, .int)] [(h, .inr (1, [v_numbers, .ref a_place, .ref a_length, .ref a_cost, .ref a_step, v_digit, v_different, .int (iN nk), .int (iN hp), v_fresh, .ref a_v])), (a_place, .inl (cI, 30, .inl (ar pl))), (a_length, .inl (cI, 30, .inl (ar lg))), (a_cost, .inl (cI, 30, .inl (ar co))), (a_step, .inl (cI, 30, .inl (ar sp))), (a_v, .inl (cI, nV, .inl (ar va)))] sz (fun _ : Unit => [(h, .inr (1, [v_numbers, .ref a_place, .ref a_length, .ref a_cost, .ref a_step, v_digit, v_different, .int (iN nk), .int (iN hp), v_fresh, .ref a_v])), (a_place, .inl (cI, 30, .inl (ar pl))), (a_length, .inl (cI, 30, .inl (ar lg))), (a_cost, .inl (cI, 30, .inl (ar co))), (a_step, .inl (cI, 30, .inl (ar sp))), (a_v, .inl (cI, nV, .inl (ar va)))]) (fun z _ => isI (gdK lg (fun k => riP (pl k)) sp va (hp - 1)) nk ii (fun k => 10 * lg k + riP (pl k)) z) 0 0 := by
  refine iv_mkI (cc := cX1_bestKind) (maxL := 4) (by decide) rfl (Nat.le_of_ble_eq_true rfl) ?_
  intro p e s m below meth c A H ls hx hb hr hts hown hlocks hin hml hN hA hK hP hD hS hl
  have hT : ∀ w ∈ T0, w.before [.ref h, .int (iN ii)].toArray s = true := fun w h => hts w (List.mem_cons_of_mem _ h)
  have hown : s.vm.findClass RX1 = some m.cls := hown
  have hl : lv_has ls 4 [(0, .ref h), (1, .int (iN ii))] := hl
  refine iv_iconst hx hb dX1_bestKind_0 ?_
  refine lv_istore_n (lv' := [(2, .int (iN 0)), (0, .ref h), (1, .int (iN ii))]) hx hb dX1_bestKind_1 rfl hl (by decide) rfl (fun ls hl => ?_)
  refine iv_iconst hx hb dX1_bestKind_2 ?_
  refine lv_istore_n (lv' := [(3, .int (iN 0)), (2, .int (iN 0)), (0, .ref h), (1, .int (iN ii))]) hx hb dX1_bestKind_3 rfl hl (by decide) rfl (fun ls hl => ?_)
  have lab_4 : ∀ (fuel : Nat) (n : Int) (i : Int), (0 ≤ i ∧ i ≤ nk) → (0 ≤ n ∧ n ≤ i) → (n = su (gdK lg (fun k => riP (pl k)) sp va (hp - 1)) i) → (∀ k : Int, 0 ≤ k → k < i → (gdK lg (fun k => riP (pl k)) sp va (hp - 1)) k = 1 → su (gdK lg (fun k => riP (pl k)) sp va (hp - 1)) k ≠ ii) → (nk - i < (fuel : Int)) → ∀ (H : Heap) (locs : List Loc) (ls : Array Slot), va_P D vwCl [(h, .inr (1, [v_numbers, .ref a_place, .ref a_length, .ref a_cost, .ref a_step, v_digit, v_different, .int (iN nk), .int (iN hp), v_fresh, .ref a_v])), (a_place, .inl (cI, 30, .inl (ar pl))), (a_length, .inl (cI, 30, .inl (ar lg))), (a_cost, .inl (cI, 30, .inl (ar co))), (a_step, .inl (cI, 30, .inl (ar sp))), (a_v, .inl (cI, nV, .inl (ar va)))] H → va_D A [(h, .inr (1, [v_numbers, .ref a_place, .ref a_length, .ref a_cost, .ref a_step, v_digit, v_different, .int (iN nk), .int (iN hp), v_fresh, .ref a_v])), (a_place, .inl (cI, 30, .inl (ar pl))), (a_length, .inl (cI, 30, .inl (ar lg))), (a_cost, .inl (cI, 30, .inl (ar co))), (a_step, .inl (cI, 30, .inl (ar sp))), (a_v, .inl (cI, nV, .inl (ar va)))] → va_S A s.heap H locs → lv_has ls 4 [(0, .ref h), (1, .int (iN ii)), (2, .int (iN n)), (3, .int (iN i))] → W p l e ({ frames := 2, cells := 0, slots := 0, locals := 45 } : Room) s m [.ref h, .int (iN ii)].toArray below meth c H locs 0 0 (MQ below (iv_Qi D A (fun _ : Unit => [(h, .inr (1, [v_numbers, .ref a_place, .ref a_length, .ref a_cost, .ref a_step, v_digit, v_different, .int (iN nk), .int (iN hp), v_fresh, .ref a_v])), (a_place, .inl (cI, 30, .inl (ar pl))), (a_length, .inl (cI, 30, .inl (ar lg))), (a_cost, .inl (cI, 30, .inl (ar co))), (a_step, .inl (cI, 30, .inl (ar sp))), (a_v, .inl (cI, nV, .inl (ar va)))]) (fun z _ => isI (gdK lg (fun k => riP (pl k)) sp va (hp - 1)) nk ii (fun k => 10 * lg k + riP (pl k)) z)) [.ref h, .int (iN ii)].toArray s 0 0 A) (F0 m 4 ls []) := by
    intro fuel
    induction fuel with
    | zero =>
      intro n i hi hnb hn hno hm
      exact absurd hm (by omega)
    | succ fuel ih =>
      intro n i hi hnb hn hno hm H locs ls hP hD hS hl
      have ih_4 := ih
      refine lv_iload_n hx hb dX1_bestKind_4 rfl (lv_at hl 3 rfl) ?_
      refine lv_aload_n hx hb dX1_bestKind_5 rfl (lv_at hl 0 rfl) ?_
      refine va_get (D := D) (ci := 1) (v := .int (iN nk)) (C := RX1) (T := TX1) (N := 11) hx hb hT hiX1 hown hK hP 0 rfl rfl 7 (by decide) (hT _ k_267) (fun _ h9 => h9) rfl dX1_bestKind_6 ?_
      refine iv_icmp_ge (tgt := 73) hx hb dX1_bestKind_9 (by decide) (by omega) (by omega) (fun c9 => ?_) (fun c9 => ?_)
      · refine iv_iconst hx hb dX1_bestKind_73 ?_
        exact iv_iret hx hb hr hlocks dX1_bestKind_74 (by omega) (by omega) () (by exact Or.inr ⟨fun k a b gk => hno k a (by omega) gk, rfl⟩) (by exact hP.sub [0, 1, 2, 3, 4, 5] rfl) (by exact hD.sub [0, 1, 2, 3, 4, 5] (by decide) rfl) hS
      · have ⟨p0, q1, q3, q4, q5⟩ := hkk i (by omega) (by omega)
        have q2 : riP (pl i) = 0 ∨ riP (pl i) = 1 := by unfold riP; split <;> omega
        have hcb : 0 ≤ co i ∧ co i ≤ 8 := by rw [q3]; unfold cst; (repeat' split) <;> omega
        have hoe : opv lg (fun k => riP (pl k)) sp va (hp - 1) i = opc lg co sp va (hp - 1) i := opv_cost (ri := fun k => riP (pl k)) q2 q3
        have hob := opv_bd (lg := lg) (ri := fun k => riP (pl k)) (sp := sp) (va := va) (h := hp - 1) (k := i) (B := 10000000) q1 (by omega)
        refine lv_aload_n hx hb dX1_bestKind_12 rfl (lv_at hl 0 rfl) ?_
        refine lv_iload_n hx hb dX1_bestKind_13 rfl (lv_at hl 3 rfl) ?_
        refine lv_aload_n hx hb dX1_bestKind_14 rfl (lv_at hl 0 rfl) ?_
        refine va_get (D := D) (ci := 1) (v := .int (iN hp)) (C := RX1) (T := TX1) (N := 11) hx hb hT hiX1 hown hK hP 0 rfl rfl 8 (by decide) (hT _ k_268) (fun _ h9 => h9) rfl dX1_bestKind_15 ?_
        refine iv_iconst hx hb dX1_bestKind_18 ?_
        refine iv_isub hx hb dX1_bestKind_19 ?_
        refine iv_callV (mc := 0) (ms := 0) (wc := [(h, .inr (1, [v_numbers, .ref a_place, .ref a_length, .ref a_cost, .ref a_step, v_digit, v_different, .int (iN nk), .int (iN hp), v_fresh, .ref a_v])), (a_length, .inl (cI, 30, .inl (ar lg))), (a_cost, .inl (cI, 30, .inl (ar co))), (a_step, .inl (cI, 30, .inl (ar sp))), (a_v, .inl (cI, nV, .inl (ar va)))]) (wr := [(a_place, .inl (cI, 30, .inl (ar pl)))]) (As := [.int (iN i), .int (iN (hp - 1))]) (rest := []) ⟨hx, hb, hml, hown, hT⟩ (ok_X1_openingAt l D cI h a_length a_cost a_step a_v v_numbers (.ref a_place) v_digit v_different (.int (iN nk)) (.int (iN hp)) v_fresh lg co sp va nV H.size i (hp - 1) (by first | with_reducible assumption | omega | assumption) (by first | with_reducible assumption | omega | assumption) (by first | with_reducible assumption | omega | assumption) (by first | with_reducible assumption | omega | assumption) (by first | with_reducible assumption | omega | assumption) (by first | with_reducible assumption | omega | assumption)) (iv_cw 2 hT k_682 k_65 k_679 k_681 k_35 (by decide +kernel) rfl rfl ⟨Nat.le_of_ble_eq_true rfl, Nat.le_of_ble_eq_true rfl⟩) hN hK hP hD hS hA [0, 2, 3, 4, 5] [1] [0] rfl rfl (by decide) (by decide) (by decide) rfl 0 (ci := 1) rfl rfl rfl hl.1 rfl (Nat.le_of_ble_eq_true rfl) dX1_bestKind_20 ⟨Nat.le_of_ble_eq_true rfl, Nat.le_of_ble_eq_true rfl⟩ (fun z20 u20 H locs hw20 hP hD hS => ?_)
        obtain rfl := hw20
        have hP := hP.sub (ws' := [(h, .inr (1, [v_numbers, .ref a_place, .ref a_length, .ref a_cost, .ref a_step, v_digit, v_different, .int (iN nk), .int (iN hp), v_fresh, .ref a_v])), (a_place, .inl (cI, 30, .inl (ar pl))), (a_length, .inl (cI, 30, .inl (ar lg))), (a_cost, .inl (cI, 30, .inl (ar co))), (a_step, .inl (cI, 30, .inl (ar sp))), (a_v, .inl (cI, nV, .inl (ar va)))]) [1, 0, 2, 3, 4, 5] rfl
        have hD := hD.sub (ws' := [(h, .inr (1, [v_numbers, .ref a_place, .ref a_length, .ref a_cost, .ref a_step, v_digit, v_different, .int (iN nk), .int (iN hp), v_fresh, .ref a_v])), (a_place, .inl (cI, 30, .inl (ar pl))), (a_length, .inl (cI, 30, .inl (ar lg))), (a_cost, .inl (cI, 30, .inl (ar co))), (a_step, .inl (cI, 30, .inl (ar sp))), (a_v, .inl (cI, nV, .inl (ar va)))]) [1, 0, 2, 3, 4, 5] (by decide) rfl
        refine lv_aload_n hx hb dX1_bestKind_23 rfl (lv_at hl 0 rfl) ?_
        refine iv_callV (mc := 0) (ms := 0) (wc := [(h, .inr (1, [v_numbers, .ref a_place, .ref a_length, .ref a_cost, .ref a_step, v_digit, v_different, .int (iN nk), .int (iN hp), v_fresh, .ref a_v])), (a_v, .inl (cI, nV, .inl (ar va)))]) (wr := [(a_place, .inl (cI, 30, .inl (ar pl))), (a_length, .inl (cI, 30, .inl (ar lg))), (a_cost, .inl (cI, 30, .inl (ar co))), (a_step, .inl (cI, 30, .inl (ar sp)))]) (As := []) (rest := [.int (iN (opc lg co sp va (hp - 1) i))]) ⟨hx, hb, hml, hown, hT⟩ (ok_X1_whole l D cI h a_v v_numbers (.ref a_place) (.ref a_length) (.ref a_cost) (.ref a_step) v_digit v_different (.int (iN nk)) v_fresh va hp nV H.size (by first | with_reducible assumption | omega | assumption) (by first | with_reducible assumption | omega | assumption)) (iv_cw 0 hT k_694 k_65 k_720 k_692 k_693 (by decide +kernel) rfl rfl ⟨Nat.le_of_ble_eq_true rfl, Nat.le_of_ble_eq_true rfl⟩) hN hK hP hD hS hA [0, 5] [1, 2, 3, 4] [0] rfl rfl (by decide) (by decide) (by decide) rfl 0 (ci := 1) rfl rfl rfl hl.1 rfl (Nat.le_of_ble_eq_true rfl) dX1_bestKind_24 ⟨Nat.le_of_ble_eq_true rfl, Nat.le_of_ble_eq_true rfl⟩ (fun z24 u24 H locs hw24 hP hD hS => ?_)
        obtain rfl := hw24
        have hP := hP.sub (ws' := [(h, .inr (1, [v_numbers, .ref a_place, .ref a_length, .ref a_cost, .ref a_step, v_digit, v_different, .int (iN nk), .int (iN hp), v_fresh, .ref a_v])), (a_place, .inl (cI, 30, .inl (ar pl))), (a_length, .inl (cI, 30, .inl (ar lg))), (a_cost, .inl (cI, 30, .inl (ar co))), (a_step, .inl (cI, 30, .inl (ar sp))), (a_v, .inl (cI, nV, .inl (ar va)))]) [4, 0, 1, 2, 3, 5] rfl
        have hD := hD.sub (ws' := [(h, .inr (1, [v_numbers, .ref a_place, .ref a_length, .ref a_cost, .ref a_step, v_digit, v_different, .int (iN nk), .int (iN hp), v_fresh, .ref a_v])), (a_place, .inl (cI, 30, .inl (ar pl))), (a_length, .inl (cI, 30, .inl (ar lg))), (a_cost, .inl (cI, 30, .inl (ar co))), (a_step, .inl (cI, 30, .inl (ar sp))), (a_v, .inl (cI, nV, .inl (ar va)))]) [4, 0, 1, 2, 3, 5] (by decide) rfl
        refine iv_icmp_ne (tgt := 67) hx hb dX1_bestKind_27 (by decide) (by omega) (by omega) (fun c27 => ?_) (fun c27 => ?_)
        · refine lv_iinc (v := iN (i + 1)) (lv' := [(3, .int (iN (i + 1))), (0, .ref h), (1, .int (iN ii)), (2, .int (iN n))]) hx hb dX1_bestKind_67 hl (k := 3) rfl (iN_add _ _) (by decide) rfl (fun ls hl => ?_)
          refine lv_goto (tgt := 4) hx hb dX1_bestKind_70 (by decide) ?_
          have hst : su (gdK lg (fun k => riP (pl k)) sp va (hp - 1)) (i + 1) = su (gdK lg (fun k => riP (pl k)) sp va (hp - 1)) i + (gdK lg (fun k => riP (pl k)) sp va (hp - 1)) i := su_s (by omega)
          exact ih_4 n (i + 1) (by first | omega | with_reducible assumption | assumption) (by first | omega | with_reducible assumption | assumption) (by rw [hst, ← hn]; first | rw [gdK_t (by omega)] | (rw [gdK_f (by omega)]; omega)) (by intro k a b gk; by_cases ek : k = i; (rw [ek] at gk ⊢; first | (rw [gdK_f (by omega)] at gk; omega) | (rw [← hn]; omega)); exact hno k a (by omega) gk) (by omega) _ _ _ (hP.sub [0, 1, 2, 3, 4, 5] rfl) (hD.sub [0, 1, 2, 3, 4, 5] (by decide) rfl) hS (lv_sub hl [1, 2, 3, 0] rfl)
        · refine lv_iload_n hx hb dX1_bestKind_30 rfl (lv_at hl 2 rfl) ?_
          refine lv_iload_n hx hb dX1_bestKind_31 rfl (lv_at hl 1 rfl) ?_
          refine iv_icmp_ne (tgt := 64) hx hb dX1_bestKind_32 (by decide) (by omega) (by omega) (fun c32 => ?_) (fun c32 => ?_)
          · refine lv_iinc (v := iN (n + 1)) (lv' := [(2, .int (iN (n + 1))), (0, .ref h), (1, .int (iN ii)), (3, .int (iN i))]) hx hb dX1_bestKind_64 hl (k := 2) rfl (iN_add _ _) (by decide) rfl (fun ls hl => ?_)
            refine lv_iinc (v := iN (i + 1)) (lv' := [(3, .int (iN (i + 1))), (2, .int (iN (n + 1))), (0, .ref h), (1, .int (iN ii))]) hx hb dX1_bestKind_67 hl (k := 3) rfl (iN_add _ _) (by decide) rfl (fun ls hl => ?_)
            refine lv_goto (tgt := 4) hx hb dX1_bestKind_70 (by decide) ?_
            have hst : su (gdK lg (fun k => riP (pl k)) sp va (hp - 1)) (i + 1) = su (gdK lg (fun k => riP (pl k)) sp va (hp - 1)) i + (gdK lg (fun k => riP (pl k)) sp va (hp - 1)) i := su_s (by omega)
            exact ih_4 (n + 1) (i + 1) (by first | omega | with_reducible assumption | assumption) (by first | omega | with_reducible assumption | assumption) (by rw [hst, ← hn]; first | rw [gdK_t (by omega)] | (rw [gdK_f (by omega)]; omega)) (by intro k a b gk; by_cases ek : k = i; (rw [ek] at gk ⊢; first | (rw [gdK_f (by omega)] at gk; omega) | (rw [← hn]; omega)); exact hno k a (by omega) gk) (by omega) _ _ _ (hP.sub [0, 1, 2, 3, 4, 5] rfl) (hD.sub [0, 1, 2, 3, 4, 5] (by decide) rfl) hS (lv_sub hl [2, 3, 1, 0] rfl)
          · refine iv_bipush hx hb dX1_bestKind_35 (by decide) ?_
            refine lv_aload_n hx hb dX1_bestKind_37 rfl (lv_at hl 0 rfl) ?_
            refine va_get (D := D) (ci := 1) (v := .ref a_length) (C := RX1) (T := TX1) (N := 11) hx hb hT hiX1 hown hK hP 0 rfl rfl 2 (by decide) (hT _ k_262) (fun _ h9 => h9) rfl dX1_bestKind_38 ?_
            refine lv_iload_n hx hb dX1_bestKind_41 rfl (lv_at hl 3 rfl) ?_
            refine iv_iald hx hb hK hP 2 0 rfl rfl (f := lg) (by omega) (by omega) dX1_bestKind_42 ?_
            refine iv_imul hx hb dX1_bestKind_43 ?_
            refine lv_aload_n hx hb dX1_bestKind_44 rfl (lv_at hl 0 rfl) ?_
            refine lv_aload_n hx hb dX1_bestKind_45 rfl (lv_at hl 0 rfl) ?_
            refine va_get (D := D) (ci := 1) (v := .ref a_place) (C := RX1) (T := TX1) (N := 11) hx hb hT hiX1 hown hK hP 0 rfl rfl 1 (by decide) (hT _ k_261) (fun _ h9 => h9) rfl dX1_bestKind_46 ?_
            refine lv_iload_n hx hb dX1_bestKind_49 rfl (lv_at hl 3 rfl) ?_
            refine iv_iald hx hb hK hP 1 0 rfl rfl (f := pl) (by omega) (by omega) dX1_bestKind_50 ?_
            refine iv_callV (mc := 0) (ms := 0) (wc := [(h, .inr (1, [v_numbers, .ref a_place, .ref a_length, .ref a_cost, .ref a_step, v_digit, v_different, .int (iN nk), .int (iN hp), v_fresh, .ref a_v]))]) (wr := [(a_place, .inl (cI, 30, .inl (ar pl))), (a_length, .inl (cI, 30, .inl (ar lg))), (a_cost, .inl (cI, 30, .inl (ar co))), (a_step, .inl (cI, 30, .inl (ar sp))), (a_v, .inl (cI, nV, .inl (ar va)))]) (As := [.int (iN (pl i))]) (rest := [.int (iN (10 * (lg i)))]) ⟨hx, hb, hml, hown, hT⟩ (ok_X1_isRing l D h v_numbers (.ref a_place) (.ref a_length) (.ref a_cost) (.ref a_step) v_digit v_different (.int (iN nk)) (.int (iN hp)) v_fresh (.ref a_v) H.size (pl i) (by first | with_reducible assumption | omega | assumption)) (iv_cw 1 hT k_661 k_65 k_658 k_660 k_31 (by decide +kernel) rfl rfl ⟨Nat.le_of_ble_eq_true rfl, Nat.le_of_ble_eq_true rfl⟩) hN hK hP hD hS hA [0] [1, 2, 3, 4, 5] [] rfl rfl (by decide) (by decide) (by decide) rfl 0 (ci := 1) rfl rfl rfl hl.1 rfl (Nat.le_of_ble_eq_true rfl) dX1_bestKind_51 ⟨Nat.le_of_ble_eq_true rfl, Nat.le_of_ble_eq_true rfl⟩ (fun z51 u51 H locs hw51 hP hD hS => ?_)
            have hP := hP.sub (ws' := [(h, .inr (1, [v_numbers, .ref a_place, .ref a_length, .ref a_cost, .ref a_step, v_digit, v_different, .int (iN nk), .int (iN hp), v_fresh, .ref a_v])), (a_place, .inl (cI, 30, .inl (ar pl))), (a_length, .inl (cI, 30, .inl (ar lg))), (a_cost, .inl (cI, 30, .inl (ar co))), (a_step, .inl (cI, 30, .inl (ar sp))), (a_v, .inl (cI, nV, .inl (ar va)))]) [5, 0, 1, 2, 3, 4] rfl
            have hD := hD.sub (ws' := [(h, .inr (1, [v_numbers, .ref a_place, .ref a_length, .ref a_cost, .ref a_step, v_digit, v_different, .int (iN nk), .int (iN hp), v_fresh, .ref a_v])), (a_place, .inl (cI, 30, .inl (ar pl))), (a_length, .inl (cI, 30, .inl (ar lg))), (a_cost, .inl (cI, 30, .inl (ar co))), (a_step, .inl (cI, 30, .inl (ar sp))), (a_v, .inl (cI, nV, .inl (ar va)))]) [5, 0, 1, 2, 3, 4] (by decide) rfl
            rcases hw51 with ⟨rfl, hw51⟩ | ⟨rfl, hw51⟩
            · refine iv_if_eq (tgt := 61) hx hb dX1_bestKind_54 (by decide) (by omega) (fun c54 => ?_) (fun c54 => ?_)
              · exact absurd c54 (by decide)
              · refine iv_iconst hx hb dX1_bestKind_57 ?_
                refine lv_goto (tgt := 62) hx hb dX1_bestKind_58 (by decide) ?_
                refine iv_iadd hx hb dX1_bestKind_62 ?_
                exact iv_iret hx hb hr hlocks dX1_bestKind_63 (by omega) (by omega) () (by first | (exfalso; omega) | exact Or.inl ⟨i, by omega, by omega, gdK_t (by omega), by rw [← hn]; omega, by show _ = 10 * lg i + riP (pl i); unfold riP; split <;> omega⟩) (by exact hP.sub [0, 1, 2, 3, 4, 5] rfl) (by exact hD.sub [0, 1, 2, 3, 4, 5] (by decide) rfl) hS
            · refine iv_if_eq (tgt := 61) hx hb dX1_bestKind_54 (by decide) (by omega) (fun c54 => ?_) (fun c54 => ?_)
              · refine iv_iconst hx hb dX1_bestKind_61 ?_
                refine iv_iadd hx hb dX1_bestKind_62 ?_
                exact iv_iret hx hb hr hlocks dX1_bestKind_63 (by omega) (by omega) () (by first | (exfalso; omega) | exact Or.inl ⟨i, by omega, by omega, gdK_t (by omega), by rw [← hn]; omega, by show _ = 10 * lg i + riP (pl i); unfold riP; split <;> omega⟩) (by exact hP.sub [0, 1, 2, 3, 4, 5] rfl) (by exact hD.sub [0, 1, 2, 3, 4, 5] (by decide) rfl) hS
              · exact absurd c54 (by decide)
  exact lab_4 ((nk - 0 : Int).toNat + 1) 0 0 (by first | omega | with_reducible assumption | assumption) (by first | omega | with_reducible assumption | assumption) (by rfl) (by intro k a b; omega) (by omega) _ _ _ (hP.sub [0, 1, 2, 3, 4, 5] rfl) (hD.sub [0, 1, 2, 3, 4, 5] (by decide) rfl) hS (lv_sub hl [2, 3, 1, 0] rfl)
set_option maxHeartbeats 4000000 in
set_option maxRecDepth 100000 in
theorem ok_X1_countUp (l : Launch) (D : va_G) (cI : ClassId) (h : Nat) (a_numbers : Nat) (a_place : Nat) (a_digit : Nat) (v_length : Value) (v_cost : Value) (v_step : Value) (v_different : Value) (v_heaps : Value) (v_fresh : Value) (v_v : Value) (nb : Int → Int) (pl : Int → Int) (dg : Int → Int) (nk : Int) (sz : Nat) (nu : Int → Int) (sp : Int → Int) (hh : Int) (hnk : 0 ≤ nk ∧ nk ≤ 30) (hch : chn sp nu nk) (hpl : ∀ k : Int, 0 ≤ k → k < nk → 0 ≤ pl k ∧ pl k < 402 ∧ nu k = nb (pl k) ∧ nu k ≤ 1000) (hdg : ∀ k : Int, 0 ≤ k → k < nk → dg k = dgI sp nu hh k) : MetV l yX1_countUp (wd yX1_countUp cX1_countUp 2 none) ({ frames := 0, cells := 0, slots := 0, locals := 0 } : Room) [.ref h] D [(cI, .int)] [(h, .inr (1, [.ref a_numbers, .ref a_place, v_length, v_cost, v_step, .ref a_digit, v_different, .int (iN nk), v_heaps, v_fresh, v_v])), (a_numbers, .inl (cI, 402, .inl (ar nb))), (a_place, .inl (cI, 30, .inl (ar pl))), (a_digit, .inl (cI, 30, .inl (ar dg)))] sz (fun dg1 : Int → Int => [(h, .inr (1, [.ref a_numbers, .ref a_place, v_length, v_cost, v_step, .ref a_digit, v_different, .int (iN nk), v_heaps, v_fresh, v_v])), (a_numbers, .inl (cI, 402, .inl (ar nb))), (a_place, .inl (cI, 30, .inl (ar pl))), (a_digit, .inl (cI, 30, .inl (ar dg1)))]) (fun dg1 => ∀ k : Int, 0 ≤ k → k < nk → dg1 k = dgI sp nu (hh + 1) k) 0 0 := by
  refine iv_mkV (cc := cX1_countUp) (maxL := 2) (by decide) rfl (Nat.le_of_ble_eq_true rfl) ?_
  intro p e s m below meth c A H ls hx hb hr hts hown hlocks hin hml hN hA hK hP hD hS hl
  have hT : ∀ w ∈ T0, w.before [.ref h].toArray s = true := fun w h => hts w (List.mem_cons_of_mem _ h)
  have hown : s.vm.findClass RX1 = some m.cls := hown
  have hl : lv_has ls 2 [(0, .ref h)] := hl
  refine iv_iconst hx hb dX1_countUp_0 ?_
  refine lv_istore_n (lv' := [(1, .int (iN 0)), (0, .ref h)]) hx hb dX1_countUp_1 rfl hl (by decide) rfl (fun ls hl => ?_)
  have lab_2 : ∀ (fuel : Nat) (i : Int) (d_ : Int → Int), (0 ≤ i ∧ i ≤ nk) → (∀ j : Int, 0 ≤ j → j < i → d_ j = 0 ∧ dgI sp nu hh j = nu j) → (∀ j : Int, i ≤ j → j < nk → d_ j = dgI sp nu hh j) → (nk - i < (fuel : Int)) → ∀ (H : Heap) (locs : List Loc) (ls : Array Slot), va_P D vwCl [(h, .inr (1, [.ref a_numbers, .ref a_place, v_length, v_cost, v_step, .ref a_digit, v_different, .int (iN nk), v_heaps, v_fresh, v_v])), (a_numbers, .inl (cI, 402, .inl (ar nb))), (a_place, .inl (cI, 30, .inl (ar pl))), (a_digit, .inl (cI, 30, .inl (ar d_)))] H → va_D A [(h, .inr (1, [.ref a_numbers, .ref a_place, v_length, v_cost, v_step, .ref a_digit, v_different, .int (iN nk), v_heaps, v_fresh, v_v])), (a_numbers, .inl (cI, 402, .inl (ar nb))), (a_place, .inl (cI, 30, .inl (ar pl))), (a_digit, .inl (cI, 30, .inl (ar d_)))] → va_S A s.heap H locs → lv_has ls 2 [(0, .ref h), (1, .int (iN i))] → W p l e ({ frames := 0, cells := 0, slots := 0, locals := 0 } : Room) s m [.ref h].toArray below meth c H locs 0 0 (MQ below (iv_Qv D A (fun dg1 : Int → Int => [(h, .inr (1, [.ref a_numbers, .ref a_place, v_length, v_cost, v_step, .ref a_digit, v_different, .int (iN nk), v_heaps, v_fresh, v_v])), (a_numbers, .inl (cI, 402, .inl (ar nb))), (a_place, .inl (cI, 30, .inl (ar pl))), (a_digit, .inl (cI, 30, .inl (ar dg1)))]) (fun dg1 => ∀ k : Int, 0 ≤ k → k < nk → dg1 k = dgI sp nu (hh + 1) k)) [.ref h].toArray s 0 0 A) (F0 m 2 ls []) := by
    intro fuel
    induction fuel with
    | zero =>
      intro i d_ hi hlo hhi hm
      exact absurd hm (by omega)
    | succ fuel ih =>
      intro i d_ hi hlo hhi hm H locs ls hP hD hS hl
      have ih_2 := ih
      refine lv_iload_n hx hb dX1_countUp_2 rfl (lv_at hl 1 rfl) ?_
      refine lv_aload_n hx hb dX1_countUp_3 rfl (lv_at hl 0 rfl) ?_
      refine va_get (D := D) (ci := 1) (v := .int (iN nk)) (C := RX1) (T := TX1) (N := 11) hx hb hT hiX1 hown hK hP 0 rfl rfl 7 (by decide) (hT _ k_267) (fun _ h9 => h9) rfl dX1_countUp_4 ?_
      refine iv_icmp_ge (tgt := 54) hx hb dX1_countUp_7 (by decide) (by omega) (by omega) (fun c7 => ?_) (fun c7 => ?_)
      · exact iv_vret hx hb hr hlocks dX1_countUp_54 (by omega) (by omega) (d_) (by intro k a b; rw [(hlo k a (by omega)).1, cy_zero hch a b (fun j x y => (hlo j x (by omega)).2)]) (by exact hP.sub [0, 1, 2, 3] rfl) (by exact hD.sub [0, 1, 2, 3] (by decide) rfl) hS
      · have hp1 := hpl i (by omega) (by omega)
        have hd1 := hhi i (by omega) (by omega)
        have hdb := dg_bd (h := hh) hch (k := i) (by omega) (by omega)
        refine lv_aload_n hx hb dX1_countUp_10 rfl (lv_at hl 0 rfl) ?_
        refine va_get (D := D) (ci := 1) (v := .ref a_digit) (C := RX1) (T := TX1) (N := 11) hx hb hT hiX1 hown hK hP 0 rfl rfl 5 (by decide) (hT _ k_265) (fun _ h9 => h9) rfl dX1_countUp_11 ?_
        refine lv_iload_n hx hb dX1_countUp_14 rfl (lv_at hl 1 rfl) ?_
        refine iv_iald hx hb hK hP 3 0 rfl rfl (f := d_) (by omega) (by omega) dX1_countUp_15 ?_
        refine lv_aload_n hx hb dX1_countUp_16 rfl (lv_at hl 0 rfl) ?_
        refine va_get (D := D) (ci := 1) (v := .ref a_numbers) (C := RX1) (T := TX1) (N := 11) hx hb hT hiX1 hown hK hP 0 rfl rfl 0 (by decide) (hT _ k_260) (fun _ h9 => h9) rfl dX1_countUp_17 ?_
        refine lv_aload_n hx hb dX1_countUp_20 rfl (lv_at hl 0 rfl) ?_
        refine va_get (D := D) (ci := 1) (v := .ref a_place) (C := RX1) (T := TX1) (N := 11) hx hb hT hiX1 hown hK hP 0 rfl rfl 1 (by decide) (hT _ k_261) (fun _ h9 => h9) rfl dX1_countUp_21 ?_
        refine lv_iload_n hx hb dX1_countUp_24 rfl (lv_at hl 1 rfl) ?_
        refine iv_iald hx hb hK hP 2 0 rfl rfl (f := pl) (by omega) (by omega) dX1_countUp_25 ?_
        refine iv_iald hx hb hK hP 1 0 rfl rfl (f := nb) (by omega) (by omega) dX1_countUp_26 ?_
        refine iv_icmp_ge (tgt := 41) hx hb dX1_countUp_27 (by decide) (by omega) (by omega) (fun c27 => ?_) (fun c27 => ?_)
        · refine lv_aload_n hx hb dX1_countUp_41 rfl (lv_at hl 0 rfl) ?_
          refine va_get (D := D) (ci := 1) (v := .ref a_digit) (C := RX1) (T := TX1) (N := 11) hx hb hT hiX1 hown hK hP 0 rfl rfl 5 (by decide) (hT _ k_265) (fun _ h9 => h9) rfl dX1_countUp_42 ?_
          refine lv_iload_n hx hb dX1_countUp_45 rfl (lv_at hl 1 rfl) ?_
          refine iv_iconst hx hb dX1_countUp_46 ?_
          refine iv_iast hx hb hK hP hD hS 3 0 rfl rfl (f := d_) (by omega) (by omega) dX1_countUp_47 (fun H locs hP hD hS => ?_)
          have hP : va_P D vwCl [(h, .inr (1, [.ref a_numbers, .ref a_place, v_length, v_cost, v_step, .ref a_digit, v_different, .int (iN nk), v_heaps, v_fresh, v_v])), (a_numbers, .inl (cI, 402, .inl (ar nb))), (a_place, .inl (cI, 30, .inl (ar pl))), (a_digit, .inl (cI, 30, .inl (ar (uI d_ i 0))))] H := hP
          have hD : va_D A [(h, .inr (1, [.ref a_numbers, .ref a_place, v_length, v_cost, v_step, .ref a_digit, v_different, .int (iN nk), v_heaps, v_fresh, v_v])), (a_numbers, .inl (cI, 402, .inl (ar nb))), (a_place, .inl (cI, 30, .inl (ar pl))), (a_digit, .inl (cI, 30, .inl (ar (uI d_ i 0))))] := hD
          refine lv_iinc (v := iN (i + 1)) (lv' := [(1, .int (iN (i + 1))), (0, .ref h)]) hx hb dX1_countUp_48 hl (k := 1) rfl (iN_add _ _) (by decide) rfl (fun ls hl => ?_)
          refine lv_goto (tgt := 2) hx hb dX1_countUp_51 (by decide) ?_
          exact ih_2 (i + 1) (uI d_ i 0) (by first | omega | with_reducible assumption | assumption) (by intro j a b; unfold uI; split; (rename_i e9; rw [e9]; exact ⟨rfl, by omega⟩); exact hlo j a (by omega)) (by intro j a b; rw [uI_ne (by omega)]; exact hhi j (by omega) b) (by omega) _ _ _ (hP.sub [0, 1, 2, 3] rfl) (hD.sub [0, 1, 2, 3] (by decide) rfl) hS (lv_sub hl [1, 0] rfl)
        · refine lv_aload_n hx hb dX1_countUp_30 rfl (lv_at hl 0 rfl) ?_
          refine va_get (D := D) (ci := 1) (v := .ref a_digit) (C := RX1) (T := TX1) (N := 11) hx hb hT hiX1 hown hK hP 0 rfl rfl 5 (by decide) (hT _ k_265) (fun _ h9 => h9) rfl dX1_countUp_31 ?_
          refine lv_iload_n hx hb dX1_countUp_34 rfl (lv_at hl 1 rfl) ?_
          refine lv_dup2_11 hx hb dX1_countUp_35 rfl rfl ?_
          refine iv_iald hx hb hK hP 3 0 rfl rfl (f := d_) (by omega) (by omega) dX1_countUp_36 ?_
          refine iv_iconst hx hb dX1_countUp_37 ?_
          refine iv_iadd hx hb dX1_countUp_38 ?_
          refine iv_iast hx hb hK hP hD hS 3 0 rfl rfl (f := d_) (by omega) (by omega) dX1_countUp_39 (fun H locs hP hD hS => ?_)
          have hP : va_P D vwCl [(h, .inr (1, [.ref a_numbers, .ref a_place, v_length, v_cost, v_step, .ref a_digit, v_different, .int (iN nk), v_heaps, v_fresh, v_v])), (a_numbers, .inl (cI, 402, .inl (ar nb))), (a_place, .inl (cI, 30, .inl (ar pl))), (a_digit, .inl (cI, 30, .inl (ar (uI d_ i (d_ i + 1)))))] H := hP
          have hD : va_D A [(h, .inr (1, [.ref a_numbers, .ref a_place, v_length, v_cost, v_step, .ref a_digit, v_different, .int (iN nk), v_heaps, v_fresh, v_v])), (a_numbers, .inl (cI, 402, .inl (ar nb))), (a_place, .inl (cI, 30, .inl (ar pl))), (a_digit, .inl (cI, 30, .inl (ar (uI d_ i (d_ i + 1)))))] := hD
          exact iv_vret hx hb hr hlocks dX1_countUp_40 (by omega) (by omega) (uI d_ i (d_ i + 1)) (by intro k a b; unfold uI; split; (rename_i e9; rw [e9, cy_one hch (by omega) (by omega) (fun j x y => (hlo j x y).2) (by omega)]; omega); (rename_i e9; by_cases g : k < i; (rw [(hlo k a g).1, cy_zero hch a b (fun j x y => (hlo j x (by omega)).2)]); (rw [hhi k (by omega) b, cy_more hch (k := i) (by omega) (by omega) b (fun j x y => (hlo j x y).2) (by omega)]))) (by exact hP.sub [0, 1, 2, 3] rfl) (by exact hD.sub [0, 1, 2, 3] (by decide) rfl) hS
  exact lab_2 ((nk - 0 : Int).toNat + 1) 0 dg (by first | omega | with_reducible assumption | assumption) (by intro j a b; omega) (by exact fun j a b => hdg j a b) (by omega) _ _ _ (hP.sub [0, 1, 2, 3] rfl) (hD.sub [0, 1, 2, 3] (by decide) rfl) hS (lv_sub hl [1, 0] rfl)
