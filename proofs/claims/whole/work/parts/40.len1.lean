set_option maxHeartbeats 4000000 in
set_option maxRecDepth 100000 in
theorem ok_J7_fill_53178 (l : Launch) (D : va_G) (cI : ClassId) (a_x : Nat) (xx : Int → Int) (sz : Nat) (vv : Int) (nX : Nat) (hnX : (nX : Int) < 2147483648) : MetV l yJ7_fill_53178 (wd yJ7_fill_53178 cJ7_fill_53178 4 none) ({ frames := 0, cells := 0, slots := 0, locals := 0 } : Room) [.ref a_x, .int (iN vv)] D [(cI, .int)] [(a_x, .inl (cI, nX, .inl (ar xx)))] sz (fun xx1 : Int → Int => [(a_x, .inl (cI, nX, .inl (ar xx1)))]) (fun xx1 => ∀ j : Int, 0 ≤ j → j < (nX : Int) → xx1 j = vv) 0 0 := by
  refine iv_mkV (cc := cJ7_fill_53178) (maxL := 4) (by decide) rfl (Nat.le_of_ble_eq_true rfl) ?_
  intro p e s m below meth c A H ls hx hb hr hts hown hlocks hin hml hN hA hK hP hD hS hl
  have hT : ∀ w ∈ T0, w.before [.ref a_x, .int (iN vv)].toArray s = true := fun w h => hts w (List.mem_cons_of_mem _ h)
  have hown : s.vm.findClass RJ7 = some m.cls := hown
  have hl : lv_has ls 4 [(0, .ref a_x), (1, .int (iN vv))] := hl
  refine iv_iconst hx hb dJ7_fill_53178_0 ?_
  refine lv_istore_n (lv' := [(2, .int (iN 0)), (0, .ref a_x), (1, .int (iN vv))]) hx hb dJ7_fill_53178_1 rfl hl (by decide) rfl (fun ls hl => ?_)
  refine lv_aload_n hx hb dJ7_fill_53178_2 rfl (lv_at hl 1 rfl) ?_
  refine va_alen (v := iN nX) hx hb hK hP 0 0 rfl rfl rfl dJ7_fill_53178_3 ?_
  refine lv_istore_n (lv' := [(3, .int (iN nX)), (2, .int (iN 0)), (0, .ref a_x), (1, .int (iN vv))]) hx hb dJ7_fill_53178_4 rfl hl (by decide) rfl (fun ls hl => ?_)
  have lab_5 : ∀ (fuel : Nat) (i : Int) (x_ : Int → Int), (0 ≤ i ∧ i ≤ (nX : Int)) → (∀ j : Int, 0 ≤ j → j < i → x_ j = vv) → ((nX : Int) - i < (fuel : Int)) → ∀ (H : Heap) (locs : List Loc) (ls : Array Slot), va_P D vwCl [(a_x, .inl (cI, nX, .inl (ar x_)))] H → va_D A [(a_x, .inl (cI, nX, .inl (ar x_)))] → va_S A s.heap H locs → lv_has ls 4 [(0, .ref a_x), (1, .int (iN vv)), (2, .int (iN i)), (3, .int (iN nX))] → W p l e ({ frames := 0, cells := 0, slots := 0, locals := 0 } : Room) s m [.ref a_x, .int (iN vv)].toArray below meth c H locs 0 0 (MQ below (iv_Qv D A (fun xx1 : Int → Int => [(a_x, .inl (cI, nX, .inl (ar xx1)))]) (fun xx1 => ∀ j : Int, 0 ≤ j → j < (nX : Int) → xx1 j = vv)) [.ref a_x, .int (iN vv)].toArray s 0 0 A) (F0 m 5 ls []) := by
    intro fuel
    induction fuel with
    | zero =>
      intro i x_ hi hxx hm
      exact absurd hm (by omega)
    | succ fuel ih =>
      intro i x_ hi hxx hm H locs ls hP hD hS hl
      have ih_5 := ih
      refine lv_iload_n hx hb dJ7_fill_53178_5 rfl (lv_at hl 2 rfl) ?_
      refine lv_iload_n hx hb dJ7_fill_53178_6 rfl (lv_at hl 3 rfl) ?_
      refine iv_icmp_ge (tgt := 20) hx hb dJ7_fill_53178_7 (by decide) (by omega) (by omega) (fun c7 => ?_) (fun c7 => ?_)
      · exact iv_vret hx hb hr hlocks dJ7_fill_53178_20 (by omega) (by omega) (x_) (by exact fun j a b => hxx j a (by omega)) (by exact hP.sub [0] rfl) (by exact hD.sub [0] (by decide) rfl) hS
      · refine lv_aload_n hx hb dJ7_fill_53178_10 rfl (lv_at hl 0 rfl) ?_
        refine lv_iload_n hx hb dJ7_fill_53178_11 rfl (lv_at hl 2 rfl) ?_
        refine lv_iload_n hx hb dJ7_fill_53178_12 rfl (lv_at hl 1 rfl) ?_
        refine iv_iast hx hb hK hP hD hS 0 0 rfl rfl (f := x_) (by omega) (by omega) dJ7_fill_53178_13 (fun H locs hP hD hS => ?_)
        have hP : va_P D vwCl [(a_x, .inl (cI, nX, .inl (ar (uI x_ i vv))))] H := hP
        have hD : va_D A [(a_x, .inl (cI, nX, .inl (ar (uI x_ i vv))))] := hD
        refine lv_iinc (v := iN (i + 1)) (lv' := [(2, .int (iN (i + 1))), (0, .ref a_x), (1, .int (iN vv)), (3, .int (iN nX))]) hx hb dJ7_fill_53178_14 hl (k := 2) rfl (iN_add _ _) (by decide) rfl (fun ls hl => ?_)
        refine lv_goto (tgt := 5) hx hb dJ7_fill_53178_17 (by decide) ?_
        exact ih_5 (i + 1) (uI x_ i vv) (by first | omega | assumption) (by intro j a b; unfold uI; split; rfl; exact hxx j a (by omega)) (by omega) _ _ _ (hP.sub [0] rfl) (hD.sub [0] (by decide) rfl) hS (lv_sub hl [1, 2, 0, 3] rfl)
  exact lab_5 (((nX : Int) - 0 : Int).toNat + 1) 0 xx (by first | omega | assumption) (by intro j a b; omega) (by omega) _ _ _ (hP.sub [0] rfl) (hD.sub [0] (by decide) rfl) hS (lv_sub hl [2, 3, 1, 0] rfl)
set_option maxHeartbeats 4000000 in
set_option maxRecDepth 100000 in
theorem ok_X1_placeOf (l : Launch) (D : va_G) (h : Nat) (v_numbers : Value) (v_place : Value) (v_length : Value) (v_cost : Value) (v_step : Value) (v_digit : Value) (v_different : Value) (v_kinds : Value) (v_heaps : Value) (v_fresh : Value) (v_v : Value) (sz : Nat) (rr : Int) (fd : Int) (hrr : rr = 0 ∨ rr = 1) : MetI l yX1_placeOf (wd yX1_placeOf cX1_placeOf 3 (some .int)) ({ frames := 0, cells := 0, slots := 0, locals := 0 } : Room) [.ref h, .int (iN rr), .int (iN fd)] D [] [(h, .inr (1, [v_numbers, v_place, v_length, v_cost, v_step, v_digit, v_different, v_kinds, v_heaps, v_fresh, v_v]))] sz (fun _ : Unit => [(h, .inr (1, [v_numbers, v_place, v_length, v_cost, v_step, v_digit, v_different, v_kinds, v_heaps, v_fresh, v_v]))]) (fun z _ => (z = 0 + fd ∧ (rr = 0)) ∨ (z = 201 + fd ∧ (¬ rr = 0))) 0 0 := by
  refine iv_mkI (cc := cX1_placeOf) (maxL := 3) (by decide) rfl (Nat.le_of_ble_eq_true rfl) ?_
  intro p e s m below meth c A H ls hx hb hr hts hown hlocks hin hml hN hA hK hP hD hS hl
  have hT : ∀ w ∈ T0, w.before [.ref h, .int (iN rr), .int (iN fd)].toArray s = true := fun w h => hts w (List.mem_cons_of_mem _ h)
  have hown : s.vm.findClass RX1 = some m.cls := hown
  have hl : lv_has ls 3 [(0, .ref h), (1, .int (iN rr)), (2, .int (iN fd))] := hl
  refine lv_iload_n hx hb dX1_placeOf_0 rfl (lv_at hl 1 rfl) ?_
  refine iv_if_eq (tgt := 10) hx hb dX1_placeOf_1 (by decide) (by omega) (fun c1 => ?_) (fun c1 => ?_)
  · refine iv_iconst hx hb dX1_placeOf_10 ?_
    refine lv_iload_n hx hb dX1_placeOf_11 rfl (lv_at hl 2 rfl) ?_
    refine iv_iadd hx hb dX1_placeOf_12 ?_
    exact iv_iret hx hb hr hlocks dX1_placeOf_13 (by omega) (by omega) () (by first | exact Or.inl ⟨rfl, by omega⟩ | exact Or.inr ⟨rfl, by omega⟩) (by exact hP.sub [0] rfl) (by exact hD.sub [0] (by decide) rfl) hS
  · refine iv_sipush hx hb dX1_placeOf_4 (by decide) ?_
    refine lv_goto (tgt := 11) hx hb dX1_placeOf_7 (by decide) ?_
    refine lv_iload_n hx hb dX1_placeOf_11 rfl (lv_at hl 2 rfl) ?_
    refine iv_iadd hx hb dX1_placeOf_12 ?_
    exact iv_iret hx hb hr hlocks dX1_placeOf_13 (by omega) (by omega) () (by first | exact Or.inl ⟨rfl, by omega⟩ | exact Or.inr ⟨rfl, by omega⟩) (by exact hP.sub [0] rfl) (by exact hD.sub [0] (by decide) rfl) hS
set_option maxHeartbeats 4000000 in
set_option maxRecDepth 100000 in
theorem ok_X1_isRing (l : Launch) (D : va_G) (h : Nat) (v_numbers : Value) (v_place : Value) (v_length : Value) (v_cost : Value) (v_step : Value) (v_digit : Value) (v_different : Value) (v_kinds : Value) (v_heaps : Value) (v_fresh : Value) (v_v : Value) (sz : Nat) (ap : Int) (hap : -2147483648 ≤ ap ∧ ap < 2147483648) : MetI l yX1_isRing (wd yX1_isRing cX1_isRing 2 (some .boolean)) ({ frames := 0, cells := 0, slots := 0, locals := 0 } : Room) [.ref h, .int (iN ap)] D [] [(h, .inr (1, [v_numbers, v_place, v_length, v_cost, v_step, v_digit, v_different, v_kinds, v_heaps, v_fresh, v_v]))] sz (fun _ : Unit => [(h, .inr (1, [v_numbers, v_place, v_length, v_cost, v_step, v_digit, v_different, v_kinds, v_heaps, v_fresh, v_v]))]) (fun z _ => (z = 1 ∧ (200 < ap)) ∨ (z = 0 ∧ (¬ 200 < ap))) 0 0 := by
  refine iv_mkI (cc := cX1_isRing) (maxL := 2) (by decide) rfl (Nat.le_of_ble_eq_true rfl) ?_
  intro p e s m below meth c A H ls hx hb hr hts hown hlocks hin hml hN hA hK hP hD hS hl
  have hT : ∀ w ∈ T0, w.before [.ref h, .int (iN ap)].toArray s = true := fun w h => hts w (List.mem_cons_of_mem _ h)
  have hown : s.vm.findClass RX1 = some m.cls := hown
  have hl : lv_has ls 2 [(0, .ref h), (1, .int (iN ap))] := hl
  refine lv_iload_n hx hb dX1_isRing_0 rfl (lv_at hl 1 rfl) ?_
  refine iv_sipush hx hb dX1_isRing_1 (by decide) ?_
  refine iv_icmp_le (tgt := 11) hx hb dX1_isRing_4 (by decide) (by omega) (by omega) (fun c4 => ?_) (fun c4 => ?_)
  · refine iv_iconst hx hb dX1_isRing_11 ?_
    exact iv_zret hx hb hr hlocks dX1_isRing_12 (by omega) (by omega) (by omega) () (by first | exact Or.inl ⟨rfl, by omega⟩ | exact Or.inr ⟨rfl, by omega⟩) (by exact hP.sub [0] rfl) (by exact hD.sub [0] (by decide) rfl) hS
  · refine iv_iconst hx hb dX1_isRing_7 ?_
    refine lv_goto (tgt := 12) hx hb dX1_isRing_8 (by decide) ?_
    exact iv_zret hx hb hr hlocks dX1_isRing_12 (by omega) (by omega) (by omega) () (by first | exact Or.inl ⟨rfl, by omega⟩ | exact Or.inr ⟨rfl, by omega⟩) (by exact hP.sub [0] rfl) (by exact hD.sub [0] (by decide) rfl) hS
set_option maxHeartbeats 4000000 in
set_option maxRecDepth 100000 in
theorem ok_X1_hasRoom (l : Launch) (D : va_G) (cI : ClassId) (h : Nat) (a_numbers : Nat) (v_place : Value) (v_length : Value) (v_cost : Value) (v_step : Value) (v_digit : Value) (v_kinds : Value) (v_heaps : Value) (v_fresh : Value) (v_v : Value) (nb : Int → Int) (df : Int) (sz : Nat) (rr : Int) (fd : Int) (n : Int) (hrr : rr = 0 ∨ rr = 1) (hfd : 0 ≤ fd ∧ fd ≤ 200) (hnb : rg nb 402 0 1000) (hn : 1 ≤ n ∧ n ≤ 100) (hdf : 0 ≤ df ∧ df ≤ 1000) : MetI l yX1_hasRoom (wd yX1_hasRoom cX1_hasRoom 5 (some .boolean)) ({ frames := 1, cells := 0, slots := 0, locals := 22 } : Room) [.ref h, .int (iN rr), .int (iN fd), .int (iN n)] D [(cI, .int)] [(h, .inr (1, [.ref a_numbers, v_place, v_length, v_cost, v_step, v_digit, .int (iN df), v_kinds, v_heaps, v_fresh, v_v])), (a_numbers, .inl (cI, 402, .inl (ar nb)))] sz (fun _ : Unit => [(h, .inr (1, [.ref a_numbers, v_place, v_length, v_cost, v_step, v_digit, .int (iN df), v_kinds, v_heaps, v_fresh, v_v])), (a_numbers, .inl (cI, 402, .inl (ar nb)))]) (fun z _ => (z = 1 ∧ (nb ((if rr = 0 then 0 else 201) + fd) + n ≤ 1000 ∧ (0 < nb ((if rr = 0 then 0 else 201) + fd) ∨ df < 30))) ∨ (z = 0 ∧ (¬ (nb ((if rr = 0 then 0 else 201) + fd) + n ≤ 1000 ∧ (0 < nb ((if rr = 0 then 0 else 201) + fd) ∨ df < 30))))) 0 0 := by
  refine iv_mkI (cc := cX1_hasRoom) (maxL := 5) (by decide) rfl (Nat.le_of_ble_eq_true rfl) ?_
  intro p e s m below meth c A H ls hx hb hr hts hown hlocks hin hml hN hA hK hP hD hS hl
  have hT : ∀ w ∈ T0, w.before [.ref h, .int (iN rr), .int (iN fd), .int (iN n)].toArray s = true := fun w h => hts w (List.mem_cons_of_mem _ h)
  have hown : s.vm.findClass RX1 = some m.cls := hown
  have hl : lv_has ls 5 [(0, .ref h), (1, .int (iN rr)), (2, .int (iN fd)), (3, .int (iN n))] := hl
  refine lv_aload_n hx hb dX1_hasRoom_0 rfl (lv_at hl 0 rfl) ?_
  refine va_get (D := D) (ci := 1) (v := .ref a_numbers) (C := RX1) (T := TX1) (N := 11) hx hb hT hiX1 hown hK hP 0 rfl rfl 0 (by decide) (hT _ k_260) (fun _ h9 => h9) rfl dX1_hasRoom_1 ?_
  refine lv_aload_n hx hb dX1_hasRoom_4 rfl (lv_at hl 0 rfl) ?_
  refine lv_iload_n hx hb dX1_hasRoom_5 rfl (lv_at hl 1 rfl) ?_
  refine lv_iload_n hx hb dX1_hasRoom_6 rfl (lv_at hl 2 rfl) ?_
  refine iv_callV (mc := 0) (ms := 0) (wc := [(h, .inr (1, [.ref a_numbers, v_place, v_length, v_cost, v_step, v_digit, .int (iN df), v_kinds, v_heaps, v_fresh, v_v]))]) (wr := [(a_numbers, .inl (cI, 402, .inl (ar nb)))]) (As := [.int (iN rr), .int (iN fd)]) (rest := [.ref a_numbers]) ⟨hx, hb, hml, hown, hT⟩ (ok_X1_placeOf l D h (.ref a_numbers) v_place v_length v_cost v_step v_digit (.int (iN df)) v_kinds v_heaps v_fresh v_v H.size rr fd (by first | assumption | omega)) (iv_cw 2 hT k_641 k_65 k_638 k_640 k_28 (by decide +kernel) rfl rfl ⟨Nat.le_of_ble_eq_true rfl, Nat.le_of_ble_eq_true rfl⟩) hN hK hP hD hS hA [0] [1] [] rfl rfl (by decide) (by decide) (by decide) rfl 0 (ci := 1) rfl rfl rfl hl.1 rfl (Nat.le_of_ble_eq_true rfl) dX1_hasRoom_7 ⟨Nat.le_of_ble_eq_true rfl, Nat.le_of_ble_eq_true rfl⟩ (fun z7 u7 H locs hw7 hP hD hS => ?_)
  have hP := hP.sub (ws' := [(h, .inr (1, [.ref a_numbers, v_place, v_length, v_cost, v_step, v_digit, .int (iN df), v_kinds, v_heaps, v_fresh, v_v])), (a_numbers, .inl (cI, 402, .inl (ar nb)))]) [1, 0] rfl
  have hD := hD.sub (ws' := [(h, .inr (1, [.ref a_numbers, v_place, v_length, v_cost, v_step, v_digit, .int (iN df), v_kinds, v_heaps, v_fresh, v_v])), (a_numbers, .inl (cI, 402, .inl (ar nb)))]) [1, 0] (by decide) rfl
  rcases hw7 with ⟨rfl, hw7⟩ | ⟨rfl, hw7⟩
  · have hpe : ((if rr = 0 then 0 else 201) + fd) = 0 + fd := by split <;> omega
    have hb1 := hnb (0 + fd) (by omega) (by omega)
    refine iv_iald hx hb hK hP 1 0 rfl rfl (f := nb) (by omega) (by omega) dX1_hasRoom_10 ?_
    refine lv_istore (lv' := [(4, .int (iN (nb (0 + fd)))), (0, .ref h), (1, .int (iN rr)), (2, .int (iN fd)), (3, .int (iN n))]) hx hb dX1_hasRoom_11 hl (by decide) rfl (fun ls hl => ?_)
    refine lv_iload hx hb dX1_hasRoom_13 (lv_at hl 0 rfl) ?_
    refine lv_iload_n hx hb dX1_hasRoom_15 rfl (lv_at hl 4 rfl) ?_
    refine iv_iadd hx hb dX1_hasRoom_16 ?_
    refine iv_sipush hx hb dX1_hasRoom_17 (by decide) ?_
    refine iv_icmp_gt (tgt := 41) hx hb dX1_hasRoom_20 (by decide) (by omega) (by omega) (fun c20 => ?_) (fun c20 => ?_)
    · refine iv_iconst hx hb dX1_hasRoom_41 ?_
      exact iv_zret hx hb hr hlocks dX1_hasRoom_42 (by omega) (by omega) (by omega) () (by rw [hpe]; first | exact Or.inl ⟨rfl, by omega⟩ | exact Or.inr ⟨rfl, by omega⟩) (by exact hP.sub [0, 1] rfl) (by exact hD.sub [0, 1] (by decide) rfl) hS
    · refine lv_iload hx hb dX1_hasRoom_23 (lv_at hl 0 rfl) ?_
      refine iv_if_gt (tgt := 37) hx hb dX1_hasRoom_25 (by decide) (by omega) (fun c25 => ?_) (fun c25 => ?_)
      · refine iv_iconst hx hb dX1_hasRoom_37 ?_
        refine lv_goto (tgt := 42) hx hb dX1_hasRoom_38 (by decide) ?_
        exact iv_zret hx hb hr hlocks dX1_hasRoom_42 (by omega) (by omega) (by omega) () (by rw [hpe]; first | exact Or.inl ⟨rfl, by omega⟩ | exact Or.inr ⟨rfl, by omega⟩) (by exact hP.sub [0, 1] rfl) (by exact hD.sub [0, 1] (by decide) rfl) hS
      · refine lv_aload_n hx hb dX1_hasRoom_28 rfl (lv_at hl 1 rfl) ?_
        refine va_get (D := D) (ci := 1) (v := .int (iN df)) (C := RX1) (T := TX1) (N := 11) hx hb hT hiX1 hown hK hP 0 rfl rfl 6 (by decide) (hT _ k_266) (fun _ h9 => h9) rfl dX1_hasRoom_29 ?_
        refine iv_bipush hx hb dX1_hasRoom_32 (by decide) ?_
        refine iv_icmp_ge (tgt := 41) hx hb dX1_hasRoom_34 (by decide) (by omega) (by omega) (fun c34 => ?_) (fun c34 => ?_)
        · refine iv_iconst hx hb dX1_hasRoom_41 ?_
          exact iv_zret hx hb hr hlocks dX1_hasRoom_42 (by omega) (by omega) (by omega) () (by rw [hpe]; first | exact Or.inl ⟨rfl, by omega⟩ | exact Or.inr ⟨rfl, by omega⟩) (by exact hP.sub [0, 1] rfl) (by exact hD.sub [0, 1] (by decide) rfl) hS
        · refine iv_iconst hx hb dX1_hasRoom_37 ?_
          refine lv_goto (tgt := 42) hx hb dX1_hasRoom_38 (by decide) ?_
          exact iv_zret hx hb hr hlocks dX1_hasRoom_42 (by omega) (by omega) (by omega) () (by rw [hpe]; first | exact Or.inl ⟨rfl, by omega⟩ | exact Or.inr ⟨rfl, by omega⟩) (by exact hP.sub [0, 1] rfl) (by exact hD.sub [0, 1] (by decide) rfl) hS
  · have hpe : ((if rr = 0 then 0 else 201) + fd) = 201 + fd := by split <;> omega
    have hb1 := hnb (201 + fd) (by omega) (by omega)
    refine iv_iald hx hb hK hP 1 0 rfl rfl (f := nb) (by omega) (by omega) dX1_hasRoom_10 ?_
    refine lv_istore (lv' := [(4, .int (iN (nb (201 + fd)))), (0, .ref h), (1, .int (iN rr)), (2, .int (iN fd)), (3, .int (iN n))]) hx hb dX1_hasRoom_11 hl (by decide) rfl (fun ls hl => ?_)
    refine lv_iload hx hb dX1_hasRoom_13 (lv_at hl 0 rfl) ?_
    refine lv_iload_n hx hb dX1_hasRoom_15 rfl (lv_at hl 4 rfl) ?_
    refine iv_iadd hx hb dX1_hasRoom_16 ?_
    refine iv_sipush hx hb dX1_hasRoom_17 (by decide) ?_
    refine iv_icmp_gt (tgt := 41) hx hb dX1_hasRoom_20 (by decide) (by omega) (by omega) (fun c20 => ?_) (fun c20 => ?_)
    · refine iv_iconst hx hb dX1_hasRoom_41 ?_
      exact iv_zret hx hb hr hlocks dX1_hasRoom_42 (by omega) (by omega) (by omega) () (by rw [hpe]; first | exact Or.inl ⟨rfl, by omega⟩ | exact Or.inr ⟨rfl, by omega⟩) (by exact hP.sub [0, 1] rfl) (by exact hD.sub [0, 1] (by decide) rfl) hS
    · refine lv_iload hx hb dX1_hasRoom_23 (lv_at hl 0 rfl) ?_
      refine iv_if_gt (tgt := 37) hx hb dX1_hasRoom_25 (by decide) (by omega) (fun c25 => ?_) (fun c25 => ?_)
      · refine iv_iconst hx hb dX1_hasRoom_37 ?_
        refine lv_goto (tgt := 42) hx hb dX1_hasRoom_38 (by decide) ?_
        exact iv_zret hx hb hr hlocks dX1_hasRoom_42 (by omega) (by omega) (by omega) () (by rw [hpe]; first | exact Or.inl ⟨rfl, by omega⟩ | exact Or.inr ⟨rfl, by omega⟩) (by exact hP.sub [0, 1] rfl) (by exact hD.sub [0, 1] (by decide) rfl) hS
      · refine lv_aload_n hx hb dX1_hasRoom_28 rfl (lv_at hl 1 rfl) ?_
        refine va_get (D := D) (ci := 1) (v := .int (iN df)) (C := RX1) (T := TX1) (N := 11) hx hb hT hiX1 hown hK hP 0 rfl rfl 6 (by decide) (hT _ k_266) (fun _ h9 => h9) rfl dX1_hasRoom_29 ?_
        refine iv_bipush hx hb dX1_hasRoom_32 (by decide) ?_
        refine iv_icmp_ge (tgt := 41) hx hb dX1_hasRoom_34 (by decide) (by omega) (by omega) (fun c34 => ?_) (fun c34 => ?_)
        · refine iv_iconst hx hb dX1_hasRoom_41 ?_
          exact iv_zret hx hb hr hlocks dX1_hasRoom_42 (by omega) (by omega) (by omega) () (by rw [hpe]; first | exact Or.inl ⟨rfl, by omega⟩ | exact Or.inr ⟨rfl, by omega⟩) (by exact hP.sub [0, 1] rfl) (by exact hD.sub [0, 1] (by decide) rfl) hS
        · refine iv_iconst hx hb dX1_hasRoom_37 ?_
          refine lv_goto (tgt := 42) hx hb dX1_hasRoom_38 (by decide) ?_
          exact iv_zret hx hb hr hlocks dX1_hasRoom_42 (by omega) (by omega) (by omega) () (by rw [hpe]; first | exact Or.inl ⟨rfl, by omega⟩ | exact Or.inr ⟨rfl, by omega⟩) (by exact hP.sub [0, 1] rfl) (by exact hD.sub [0, 1] (by decide) rfl) hS
set_option maxHeartbeats 4000000 in
set_option maxRecDepth 100000 in
theorem ok_X1_put (l : Launch) (D : va_G) (cI : ClassId) (h : Nat) (a_numbers : Nat) (v_place : Value) (v_length : Value) (v_cost : Value) (v_step : Value) (v_digit : Value) (v_kinds : Value) (v_heaps : Value) (v_v : Value) (nb : Int → Int) (df : Int) (fr : Int) (sz : Nat) (rr : Int) (fd : Int) (n : Int) (hrr : rr = 0 ∨ rr = 1) (hfd : 0 ≤ fd ∧ fd ≤ 200) (hnb : rg nb 402 0 1000) (hn : -2147483648 ≤ n ∧ n < 2147483648) : MetI l yX1_put (wd yX1_put cX1_put 5 (some .int)) ({ frames := 1, cells := 0, slots := 0, locals := 22 } : Room) [.ref h, .int (iN rr), .int (iN fd), .int (iN n)] D [(cI, .int)] [(h, .inr (1, [.ref a_numbers, v_place, v_length, v_cost, v_step, v_digit, .int (iN df), v_kinds, v_heaps, .int (iN fr), v_v])), (a_numbers, .inl (cI, 402, .inl (ar nb)))] sz (fun u : (Int) × (Int → Int) => match u with | (df1, nb1) => [(h, .inr (1, [.ref a_numbers, v_place, v_length, v_cost, v_step, v_digit, .int (iN df1), v_kinds, v_heaps, .int (iN 0), v_v])), (a_numbers, .inl (cI, 402, .inl (ar nb1)))]) (fun z u => match u with | (df1, nb1) => z = nb ((if rr = 0 then 0 else 201) + fd) + n ∧ nb1 = uI nb ((if rr = 0 then 0 else 201) + fd) (nb ((if rr = 0 then 0 else 201) + fd) + n) ∧ df1 = df + (if nb ((if rr = 0 then 0 else 201) + fd) = 0 then 1 else 0)) 0 0 := by
  refine iv_mkI (cc := cX1_put) (maxL := 5) (by decide) rfl (Nat.le_of_ble_eq_true rfl) ?_
  intro p e s m below meth c A H ls hx hb hr hts hown hlocks hin hml hN hA hK hP hD hS hl
  have hT : ∀ w ∈ T0, w.before [.ref h, .int (iN rr), .int (iN fd), .int (iN n)].toArray s = true := fun w h => hts w (List.mem_cons_of_mem _ h)
  have hown : s.vm.findClass RX1 = some m.cls := hown
  have hl : lv_has ls 5 [(0, .ref h), (1, .int (iN rr)), (2, .int (iN fd)), (3, .int (iN n))] := hl
  refine lv_aload_n hx hb dX1_put_0 rfl (lv_at hl 0 rfl) ?_
  refine lv_iload_n hx hb dX1_put_1 rfl (lv_at hl 1 rfl) ?_
  refine lv_iload_n hx hb dX1_put_2 rfl (lv_at hl 2 rfl) ?_
  refine iv_callV (mc := 0) (ms := 0) (wc := [(h, .inr (1, [.ref a_numbers, v_place, v_length, v_cost, v_step, v_digit, .int (iN df), v_kinds, v_heaps, .int (iN fr), v_v]))]) (wr := [(a_numbers, .inl (cI, 402, .inl (ar nb)))]) (As := [.int (iN rr), .int (iN fd)]) (rest := []) ⟨hx, hb, hml, hown, hT⟩ (ok_X1_placeOf l D h (.ref a_numbers) v_place v_length v_cost v_step v_digit (.int (iN df)) v_kinds v_heaps (.int (iN fr)) v_v H.size rr fd (by first | assumption | omega)) (iv_cw 2 hT k_641 k_65 k_638 k_640 k_28 (by decide +kernel) rfl rfl ⟨Nat.le_of_ble_eq_true rfl, Nat.le_of_ble_eq_true rfl⟩) hN hK hP hD hS hA [0] [1] [] rfl rfl (by decide) (by decide) (by decide) rfl 0 (ci := 1) rfl rfl rfl hl.1 rfl (Nat.le_of_ble_eq_true rfl) dX1_put_3 ⟨Nat.le_of_ble_eq_true rfl, Nat.le_of_ble_eq_true rfl⟩ (fun z3 u3 H locs hw3 hP hD hS => ?_)
  have hP := hP.sub (ws' := [(h, .inr (1, [.ref a_numbers, v_place, v_length, v_cost, v_step, v_digit, .int (iN df), v_kinds, v_heaps, .int (iN fr), v_v])), (a_numbers, .inl (cI, 402, .inl (ar nb)))]) [1, 0] rfl
  have hD := hD.sub (ws' := [(h, .inr (1, [.ref a_numbers, v_place, v_length, v_cost, v_step, v_digit, .int (iN df), v_kinds, v_heaps, .int (iN fr), v_v])), (a_numbers, .inl (cI, 402, .inl (ar nb)))]) [1, 0] (by decide) rfl
  rcases hw3 with ⟨rfl, hw3⟩ | ⟨rfl, hw3⟩
  · have hpe : ((if rr = 0 then 0 else 201) + fd) = 0 + fd := by split <;> omega
    have hb1 := hnb (0 + fd) (by omega) (by omega)
    refine lv_istore (lv' := [(4, .int (iN (0 + fd))), (0, .ref h), (1, .int (iN rr)), (2, .int (iN fd)), (3, .int (iN n))]) hx hb dX1_put_6 hl (by decide) rfl (fun ls hl => ?_)
    refine lv_aload_n hx hb dX1_put_8 rfl (lv_at hl 1 rfl) ?_
    refine va_get (D := D) (ci := 1) (v := .ref a_numbers) (C := RX1) (T := TX1) (N := 11) hx hb hT hiX1 hown hK hP 0 rfl rfl 0 (by decide) (hT _ k_260) (fun _ h9 => h9) rfl dX1_put_9 ?_
    refine lv_iload hx hb dX1_put_12 (lv_at hl 0 rfl) ?_
    refine iv_iald hx hb hK hP 1 0 rfl rfl (f := nb) (by omega) (by omega) dX1_put_14 ?_
    refine iv_if_ne (tgt := 28) hx hb dX1_put_15 (by decide) (by omega) (fun c15 => ?_) (fun c15 => ?_)
    · refine lv_aload_n hx hb dX1_put_28 rfl (lv_at hl 1 rfl) ?_
      refine va_get (D := D) (ci := 1) (v := .ref a_numbers) (C := RX1) (T := TX1) (N := 11) hx hb hT hiX1 hown hK hP 0 rfl rfl 0 (by decide) (hT _ k_260) (fun _ h9 => h9) rfl dX1_put_29 ?_
      refine lv_iload hx hb dX1_put_32 (lv_at hl 0 rfl) ?_
      refine lv_dup2_11 hx hb dX1_put_34 rfl rfl ?_
      refine iv_iald hx hb hK hP 1 0 rfl rfl (f := nb) (by omega) (by omega) dX1_put_35 ?_
      refine lv_iload_n hx hb dX1_put_36 rfl (lv_at hl 4 rfl) ?_
      refine iv_iadd hx hb dX1_put_37 ?_
      refine iv_iast hx hb hK hP hD hS 1 0 rfl rfl (f := nb) (by omega) (by omega) dX1_put_38 (fun H locs hP hD hS => ?_)
      have hP : va_P D vwCl [(h, .inr (1, [.ref a_numbers, v_place, v_length, v_cost, v_step, v_digit, .int (iN df), v_kinds, v_heaps, .int (iN fr), v_v])), (a_numbers, .inl (cI, 402, .inl (ar (uI nb (0 + fd) (nb (0 + fd) + n)))))] H := hP
      have hD : va_D A [(h, .inr (1, [.ref a_numbers, v_place, v_length, v_cost, v_step, v_digit, .int (iN df), v_kinds, v_heaps, .int (iN fr), v_v])), (a_numbers, .inl (cI, 402, .inl (ar (uI nb (0 + fd) (nb (0 + fd) + n)))))] := hD
      refine lv_aload_n hx hb dX1_put_39 rfl (lv_at hl 1 rfl) ?_
      refine iv_iconst hx hb dX1_put_40 ?_
      refine va_put (D := D) (ci := 1) (v := .int (iN 0)) (ty := .boolean) (C := RX1) (T := TX1) (N := 11) hx hb hT hiX1 tyX1 tyX1_ok nmX1 hown hK hP hD hS 0 rfl rfl 9 (by decide) (hT _ k_269) (fun _ h9 => h9) rfl (by decide +kernel) (iN_zn (by omega)) (iN_zf (by omega)) (Nat.le_of_ble_eq_true rfl) dX1_put_41 (fun H locs hP hD hS => ?_)
      have hP : va_P D vwCl [(h, .inr (1, [.ref a_numbers, v_place, v_length, v_cost, v_step, v_digit, .int (iN df), v_kinds, v_heaps, .int (iN 0), v_v])), (a_numbers, .inl (cI, 402, .inl (ar (uI nb (0 + fd) (nb (0 + fd) + n)))))] H := hP
      have hD : va_D A [(h, .inr (1, [.ref a_numbers, v_place, v_length, v_cost, v_step, v_digit, .int (iN df), v_kinds, v_heaps, .int (iN 0), v_v])), (a_numbers, .inl (cI, 402, .inl (ar (uI nb (0 + fd) (nb (0 + fd) + n)))))] := hD
      refine lv_aload_n hx hb dX1_put_44 rfl (lv_at hl 1 rfl) ?_
      refine va_get (D := D) (ci := 1) (v := .ref a_numbers) (C := RX1) (T := TX1) (N := 11) hx hb hT hiX1 hown hK hP 0 rfl rfl 0 (by decide) (hT _ k_260) (fun _ h9 => h9) rfl dX1_put_45 ?_
      refine lv_iload hx hb dX1_put_48 (lv_at hl 0 rfl) ?_
      refine iv_iald hx hb hK hP 1 0 rfl rfl (f := uI nb (0 + fd) (nb (0 + fd) + n)) (by omega) (by omega) dX1_put_50 ?_
      refine iv_push (n := (nb (0 + fd) + n)) (by rw [uI_eq]) ?_
      exact iv_iret hx hb hr hlocks dX1_put_51 (by omega) (by omega) (df, uI nb (0 + fd) (nb (0 + fd) + n)) (by rw [hpe]; first | exact ⟨rfl, rfl, by rw [if_pos (by omega)]⟩ | exact ⟨rfl, rfl, by rw [if_neg (by omega)]; omega⟩) (by exact hP.sub [0, 1] rfl) (by exact hD.sub [0, 1] (by decide) rfl) hS
    · refine lv_aload_n hx hb dX1_put_18 rfl (lv_at hl 1 rfl) ?_
      refine lv_dup hx hb dX1_put_19 rfl ?_
      refine va_get (D := D) (ci := 1) (v := .int (iN df)) (C := RX1) (T := TX1) (N := 11) hx hb hT hiX1 hown hK hP 0 rfl rfl 6 (by decide) (hT _ k_266) (fun _ h9 => h9) rfl dX1_put_20 ?_
      refine iv_iconst hx hb dX1_put_23 ?_
      refine iv_iadd hx hb dX1_put_24 ?_
      refine va_put (D := D) (ci := 1) (v := .int (iN (df + 1))) (ty := .int) (C := RX1) (T := TX1) (N := 11) hx hb hT hiX1 tyX1 tyX1_ok nmX1 hown hK hP hD hS 0 rfl rfl 6 (by decide) (hT _ k_266) (fun _ h9 => h9) rfl (by decide +kernel) rfl rfl (Nat.le_of_ble_eq_true rfl) dX1_put_25 (fun H locs hP hD hS => ?_)
      have hP : va_P D vwCl [(h, .inr (1, [.ref a_numbers, v_place, v_length, v_cost, v_step, v_digit, .int (iN (df + 1)), v_kinds, v_heaps, .int (iN fr), v_v])), (a_numbers, .inl (cI, 402, .inl (ar nb)))] H := hP
      have hD : va_D A [(h, .inr (1, [.ref a_numbers, v_place, v_length, v_cost, v_step, v_digit, .int (iN (df + 1)), v_kinds, v_heaps, .int (iN fr), v_v])), (a_numbers, .inl (cI, 402, .inl (ar nb)))] := hD
      refine lv_aload_n hx hb dX1_put_28 rfl (lv_at hl 1 rfl) ?_
      refine va_get (D := D) (ci := 1) (v := .ref a_numbers) (C := RX1) (T := TX1) (N := 11) hx hb hT hiX1 hown hK hP 0 rfl rfl 0 (by decide) (hT _ k_260) (fun _ h9 => h9) rfl dX1_put_29 ?_
      refine lv_iload hx hb dX1_put_32 (lv_at hl 0 rfl) ?_
      refine lv_dup2_11 hx hb dX1_put_34 rfl rfl ?_
      refine iv_iald hx hb hK hP 1 0 rfl rfl (f := nb) (by omega) (by omega) dX1_put_35 ?_
      refine lv_iload_n hx hb dX1_put_36 rfl (lv_at hl 4 rfl) ?_
      refine iv_iadd hx hb dX1_put_37 ?_
      refine iv_iast hx hb hK hP hD hS 1 0 rfl rfl (f := nb) (by omega) (by omega) dX1_put_38 (fun H locs hP hD hS => ?_)
      have hP : va_P D vwCl [(h, .inr (1, [.ref a_numbers, v_place, v_length, v_cost, v_step, v_digit, .int (iN (df + 1)), v_kinds, v_heaps, .int (iN fr), v_v])), (a_numbers, .inl (cI, 402, .inl (ar (uI nb (0 + fd) (nb (0 + fd) + n)))))] H := hP
      have hD : va_D A [(h, .inr (1, [.ref a_numbers, v_place, v_length, v_cost, v_step, v_digit, .int (iN (df + 1)), v_kinds, v_heaps, .int (iN fr), v_v])), (a_numbers, .inl (cI, 402, .inl (ar (uI nb (0 + fd) (nb (0 + fd) + n)))))] := hD
      refine lv_aload_n hx hb dX1_put_39 rfl (lv_at hl 1 rfl) ?_
      refine iv_iconst hx hb dX1_put_40 ?_
      refine va_put (D := D) (ci := 1) (v := .int (iN 0)) (ty := .boolean) (C := RX1) (T := TX1) (N := 11) hx hb hT hiX1 tyX1 tyX1_ok nmX1 hown hK hP hD hS 0 rfl rfl 9 (by decide) (hT _ k_269) (fun _ h9 => h9) rfl (by decide +kernel) (iN_zn (by omega)) (iN_zf (by omega)) (Nat.le_of_ble_eq_true rfl) dX1_put_41 (fun H locs hP hD hS => ?_)
      have hP : va_P D vwCl [(h, .inr (1, [.ref a_numbers, v_place, v_length, v_cost, v_step, v_digit, .int (iN (df + 1)), v_kinds, v_heaps, .int (iN 0), v_v])), (a_numbers, .inl (cI, 402, .inl (ar (uI nb (0 + fd) (nb (0 + fd) + n)))))] H := hP
      have hD : va_D A [(h, .inr (1, [.ref a_numbers, v_place, v_length, v_cost, v_step, v_digit, .int (iN (df + 1)), v_kinds, v_heaps, .int (iN 0), v_v])), (a_numbers, .inl (cI, 402, .inl (ar (uI nb (0 + fd) (nb (0 + fd) + n)))))] := hD
      refine lv_aload_n hx hb dX1_put_44 rfl (lv_at hl 1 rfl) ?_
      refine va_get (D := D) (ci := 1) (v := .ref a_numbers) (C := RX1) (T := TX1) (N := 11) hx hb hT hiX1 hown hK hP 0 rfl rfl 0 (by decide) (hT _ k_260) (fun _ h9 => h9) rfl dX1_put_45 ?_
      refine lv_iload hx hb dX1_put_48 (lv_at hl 0 rfl) ?_
      refine iv_iald hx hb hK hP 1 0 rfl rfl (f := uI nb (0 + fd) (nb (0 + fd) + n)) (by omega) (by omega) dX1_put_50 ?_
      refine iv_push (n := (nb (0 + fd) + n)) (by rw [uI_eq]) ?_
      exact iv_iret hx hb hr hlocks dX1_put_51 (by omega) (by omega) (df + 1, uI nb (0 + fd) (nb (0 + fd) + n)) (by rw [hpe]; first | exact ⟨rfl, rfl, by rw [if_pos (by omega)]⟩ | exact ⟨rfl, rfl, by rw [if_neg (by omega)]; omega⟩) (by exact hP.sub [0, 1] rfl) (by exact hD.sub [0, 1] (by decide) rfl) hS
  · have hpe : ((if rr = 0 then 0 else 201) + fd) = 201 + fd := by split <;> omega
    have hb1 := hnb (201 + fd) (by omega) (by omega)
    refine lv_istore (lv' := [(4, .int (iN (201 + fd))), (0, .ref h), (1, .int (iN rr)), (2, .int (iN fd)), (3, .int (iN n))]) hx hb dX1_put_6 hl (by decide) rfl (fun ls hl => ?_)
    refine lv_aload_n hx hb dX1_put_8 rfl (lv_at hl 1 rfl) ?_
    refine va_get (D := D) (ci := 1) (v := .ref a_numbers) (C := RX1) (T := TX1) (N := 11) hx hb hT hiX1 hown hK hP 0 rfl rfl 0 (by decide) (hT _ k_260) (fun _ h9 => h9) rfl dX1_put_9 ?_
    refine lv_iload hx hb dX1_put_12 (lv_at hl 0 rfl) ?_
    refine iv_iald hx hb hK hP 1 0 rfl rfl (f := nb) (by omega) (by omega) dX1_put_14 ?_
    refine iv_if_ne (tgt := 28) hx hb dX1_put_15 (by decide) (by omega) (fun c15 => ?_) (fun c15 => ?_)
    · refine lv_aload_n hx hb dX1_put_28 rfl (lv_at hl 1 rfl) ?_
      refine va_get (D := D) (ci := 1) (v := .ref a_numbers) (C := RX1) (T := TX1) (N := 11) hx hb hT hiX1 hown hK hP 0 rfl rfl 0 (by decide) (hT _ k_260) (fun _ h9 => h9) rfl dX1_put_29 ?_
      refine lv_iload hx hb dX1_put_32 (lv_at hl 0 rfl) ?_
      refine lv_dup2_11 hx hb dX1_put_34 rfl rfl ?_
      refine iv_iald hx hb hK hP 1 0 rfl rfl (f := nb) (by omega) (by omega) dX1_put_35 ?_
      refine lv_iload_n hx hb dX1_put_36 rfl (lv_at hl 4 rfl) ?_
      refine iv_iadd hx hb dX1_put_37 ?_
      refine iv_iast hx hb hK hP hD hS 1 0 rfl rfl (f := nb) (by omega) (by omega) dX1_put_38 (fun H locs hP hD hS => ?_)
      have hP : va_P D vwCl [(h, .inr (1, [.ref a_numbers, v_place, v_length, v_cost, v_step, v_digit, .int (iN df), v_kinds, v_heaps, .int (iN fr), v_v])), (a_numbers, .inl (cI, 402, .inl (ar (uI nb (201 + fd) (nb (201 + fd) + n)))))] H := hP
      have hD : va_D A [(h, .inr (1, [.ref a_numbers, v_place, v_length, v_cost, v_step, v_digit, .int (iN df), v_kinds, v_heaps, .int (iN fr), v_v])), (a_numbers, .inl (cI, 402, .inl (ar (uI nb (201 + fd) (nb (201 + fd) + n)))))] := hD
      refine lv_aload_n hx hb dX1_put_39 rfl (lv_at hl 1 rfl) ?_
      refine iv_iconst hx hb dX1_put_40 ?_
      refine va_put (D := D) (ci := 1) (v := .int (iN 0)) (ty := .boolean) (C := RX1) (T := TX1) (N := 11) hx hb hT hiX1 tyX1 tyX1_ok nmX1 hown hK hP hD hS 0 rfl rfl 9 (by decide) (hT _ k_269) (fun _ h9 => h9) rfl (by decide +kernel) (iN_zn (by omega)) (iN_zf (by omega)) (Nat.le_of_ble_eq_true rfl) dX1_put_41 (fun H locs hP hD hS => ?_)
      have hP : va_P D vwCl [(h, .inr (1, [.ref a_numbers, v_place, v_length, v_cost, v_step, v_digit, .int (iN df), v_kinds, v_heaps, .int (iN 0), v_v])), (a_numbers, .inl (cI, 402, .inl (ar (uI nb (201 + fd) (nb (201 + fd) + n)))))] H := hP
      have hD : va_D A [(h, .inr (1, [.ref a_numbers, v_place, v_length, v_cost, v_step, v_digit, .int (iN df), v_kinds, v_heaps, .int (iN 0), v_v])), (a_numbers, .inl (cI, 402, .inl (ar (uI nb (201 + fd) (nb (201 + fd) + n)))))] := hD
      refine lv_aload_n hx hb dX1_put_44 rfl (lv_at hl 1 rfl) ?_
      refine va_get (D := D) (ci := 1) (v := .ref a_numbers) (C := RX1) (T := TX1) (N := 11) hx hb hT hiX1 hown hK hP 0 rfl rfl 0 (by decide) (hT _ k_260) (fun _ h9 => h9) rfl dX1_put_45 ?_
      refine lv_iload hx hb dX1_put_48 (lv_at hl 0 rfl) ?_
      refine iv_iald hx hb hK hP 1 0 rfl rfl (f := uI nb (201 + fd) (nb (201 + fd) + n)) (by omega) (by omega) dX1_put_50 ?_
      refine iv_push (n := (nb (201 + fd) + n)) (by rw [uI_eq]) ?_
      exact iv_iret hx hb hr hlocks dX1_put_51 (by omega) (by omega) (df, uI nb (201 + fd) (nb (201 + fd) + n)) (by rw [hpe]; first | exact ⟨rfl, rfl, by rw [if_pos (by omega)]⟩ | exact ⟨rfl, rfl, by rw [if_neg (by omega)]; omega⟩) (by exact hP.sub [0, 1] rfl) (by exact hD.sub [0, 1] (by decide) rfl) hS
    · refine lv_aload_n hx hb dX1_put_18 rfl (lv_at hl 1 rfl) ?_
      refine lv_dup hx hb dX1_put_19 rfl ?_
      refine va_get (D := D) (ci := 1) (v := .int (iN df)) (C := RX1) (T := TX1) (N := 11) hx hb hT hiX1 hown hK hP 0 rfl rfl 6 (by decide) (hT _ k_266) (fun _ h9 => h9) rfl dX1_put_20 ?_
      refine iv_iconst hx hb dX1_put_23 ?_
      refine iv_iadd hx hb dX1_put_24 ?_
      refine va_put (D := D) (ci := 1) (v := .int (iN (df + 1))) (ty := .int) (C := RX1) (T := TX1) (N := 11) hx hb hT hiX1 tyX1 tyX1_ok nmX1 hown hK hP hD hS 0 rfl rfl 6 (by decide) (hT _ k_266) (fun _ h9 => h9) rfl (by decide +kernel) rfl rfl (Nat.le_of_ble_eq_true rfl) dX1_put_25 (fun H locs hP hD hS => ?_)
      have hP : va_P D vwCl [(h, .inr (1, [.ref a_numbers, v_place, v_length, v_cost, v_step, v_digit, .int (iN (df + 1)), v_kinds, v_heaps, .int (iN fr), v_v])), (a_numbers, .inl (cI, 402, .inl (ar nb)))] H := hP
      have hD : va_D A [(h, .inr (1, [.ref a_numbers, v_place, v_length, v_cost, v_step, v_digit, .int (iN (df + 1)), v_kinds, v_heaps, .int (iN fr), v_v])), (a_numbers, .inl (cI, 402, .inl (ar nb)))] := hD
      refine lv_aload_n hx hb dX1_put_28 rfl (lv_at hl 1 rfl) ?_
      refine va_get (D := D) (ci := 1) (v := .ref a_numbers) (C := RX1) (T := TX1) (N := 11) hx hb hT hiX1 hown hK hP 0 rfl rfl 0 (by decide) (hT _ k_260) (fun _ h9 => h9) rfl dX1_put_29 ?_
      refine lv_iload hx hb dX1_put_32 (lv_at hl 0 rfl) ?_
      refine lv_dup2_11 hx hb dX1_put_34 rfl rfl ?_
      refine iv_iald hx hb hK hP 1 0 rfl rfl (f := nb) (by omega) (by omega) dX1_put_35 ?_
      refine lv_iload_n hx hb dX1_put_36 rfl (lv_at hl 4 rfl) ?_
      refine iv_iadd hx hb dX1_put_37 ?_
      refine iv_iast hx hb hK hP hD hS 1 0 rfl rfl (f := nb) (by omega) (by omega) dX1_put_38 (fun H locs hP hD hS => ?_)
      have hP : va_P D vwCl [(h, .inr (1, [.ref a_numbers, v_place, v_length, v_cost, v_step, v_digit, .int (iN (df + 1)), v_kinds, v_heaps, .int (iN fr), v_v])), (a_numbers, .inl (cI, 402, .inl (ar (uI nb (201 + fd) (nb (201 + fd) + n)))))] H := hP
      have hD : va_D A [(h, .inr (1, [.ref a_numbers, v_place, v_length, v_cost, v_step, v_digit, .int (iN (df + 1)), v_kinds, v_heaps, .int (iN fr), v_v])), (a_numbers, .inl (cI, 402, .inl (ar (uI nb (201 + fd) (nb (201 + fd) + n)))))] := hD
      refine lv_aload_n hx hb dX1_put_39 rfl (lv_at hl 1 rfl) ?_
      refine iv_iconst hx hb dX1_put_40 ?_
      refine va_put (D := D) (ci := 1) (v := .int (iN 0)) (ty := .boolean) (C := RX1) (T := TX1) (N := 11) hx hb hT hiX1 tyX1 tyX1_ok nmX1 hown hK hP hD hS 0 rfl rfl 9 (by decide) (hT _ k_269) (fun _ h9 => h9) rfl (by decide +kernel) (iN_zn (by omega)) (iN_zf (by omega)) (Nat.le_of_ble_eq_true rfl) dX1_put_41 (fun H locs hP hD hS => ?_)
      have hP : va_P D vwCl [(h, .inr (1, [.ref a_numbers, v_place, v_length, v_cost, v_step, v_digit, .int (iN (df + 1)), v_kinds, v_heaps, .int (iN 0), v_v])), (a_numbers, .inl (cI, 402, .inl (ar (uI nb (201 + fd) (nb (201 + fd) + n)))))] H := hP
      have hD : va_D A [(h, .inr (1, [.ref a_numbers, v_place, v_length, v_cost, v_step, v_digit, .int (iN (df + 1)), v_kinds, v_heaps, .int (iN 0), v_v])), (a_numbers, .inl (cI, 402, .inl (ar (uI nb (201 + fd) (nb (201 + fd) + n)))))] := hD
      refine lv_aload_n hx hb dX1_put_44 rfl (lv_at hl 1 rfl) ?_
      refine va_get (D := D) (ci := 1) (v := .ref a_numbers) (C := RX1) (T := TX1) (N := 11) hx hb hT hiX1 hown hK hP 0 rfl rfl 0 (by decide) (hT _ k_260) (fun _ h9 => h9) rfl dX1_put_45 ?_
      refine lv_iload hx hb dX1_put_48 (lv_at hl 0 rfl) ?_
      refine iv_iald hx hb hK hP 1 0 rfl rfl (f := uI nb (201 + fd) (nb (201 + fd) + n)) (by omega) (by omega) dX1_put_50 ?_
      refine iv_push (n := (nb (201 + fd) + n)) (by rw [uI_eq]) ?_
      exact iv_iret hx hb hr hlocks dX1_put_51 (by omega) (by omega) (df + 1, uI nb (201 + fd) (nb (201 + fd) + n)) (by rw [hpe]; first | exact ⟨rfl, rfl, by rw [if_pos (by omega)]⟩ | exact ⟨rfl, rfl, by rw [if_neg (by omega)]; omega⟩) (by exact hP.sub [0, 1] rfl) (by exact hD.sub [0, 1] (by decide) rfl) hS
set_option maxHeartbeats 4000000 in
set_option maxRecDepth 100000 in
theorem ok_X1_wipe (l : Launch) (D : va_G) (cI : ClassId) (h : Nat) (a_numbers : Nat) (v_place : Value) (v_length : Value) (v_cost : Value) (v_step : Value) (v_digit : Value) (v_kinds : Value) (v_heaps : Value) (v_v : Value) (nb : Int → Int) (df : Int) (fr : Int) (sz : Nat) : MetV l yX1_wipe (wd yX1_wipe cX1_wipe 1 none) ({ frames := 1, cells := 0, slots := 0, locals := 23 } : Room) [.ref h] D [(cI, .int)] [(h, .inr (1, [.ref a_numbers, v_place, v_length, v_cost, v_step, v_digit, .int (iN df), v_kinds, v_heaps, .int (iN fr), v_v])), (a_numbers, .inl (cI, 402, .inl (ar nb)))] sz (fun nb1 : Int → Int => [(h, .inr (1, [.ref a_numbers, v_place, v_length, v_cost, v_step, v_digit, .int (iN 0), v_kinds, v_heaps, .int (iN 0), v_v])), (a_numbers, .inl (cI, 402, .inl (ar nb1)))]) (fun nb1 => ∀ j : Int, 0 ≤ j → j < 402 → nb1 j = 0) 0 0 := by
  refine iv_mkV (cc := cX1_wipe) (maxL := 1) (by decide) rfl (Nat.le_of_ble_eq_true rfl) ?_
  intro p e s m below meth c A H ls hx hb hr hts hown hlocks hin hml hN hA hK hP hD hS hl
  have hT : ∀ w ∈ T0, w.before [.ref h].toArray s = true := fun w h => hts w (List.mem_cons_of_mem _ h)
  have hown : s.vm.findClass RX1 = some m.cls := hown
  have hl : lv_has ls 1 [(0, .ref h)] := hl
  refine lv_aload_n hx hb dX1_wipe_0 rfl (lv_at hl 0 rfl) ?_
  refine va_get (D := D) (ci := 1) (v := .ref a_numbers) (C := RX1) (T := TX1) (N := 11) hx hb hT hiX1 hown hK hP 0 rfl rfl 0 (by decide) (hT _ k_260) (fun _ h9 => h9) rfl dX1_wipe_1 ?_
  refine iv_iconst hx hb dX1_wipe_4 ?_
  refine iv_callSv (mc := 0) (ms := 0) (wc := [(a_numbers, .inl (cI, 402, .inl (ar nb)))]) (wr := [(h, .inr (1, [.ref a_numbers, v_place, v_length, v_cost, v_step, v_digit, .int (iN df), v_kinds, v_heaps, .int (iN fr), v_v]))]) (As := [.ref a_numbers, .int (iN 0)]) (rest := []) ⟨hx, hb, hml, hown, hT⟩ (ok_J7_fill_53178 l D cI a_numbers nb H.size 0 402 (by first | assumption | omega)) (iv_cwS 2 hT k_459 k_67 k_629 k_458 (by decide +kernel) rfl rfl ⟨Nat.le_of_ble_eq_true rfl, Nat.le_of_ble_eq_true rfl⟩) hN hK hP hD hS hA [1] [0] [0] rfl rfl (by decide) (by decide) (by decide) rfl rfl hl.1 rfl (Nat.le_of_ble_eq_true rfl) dX1_wipe_5 ⟨Nat.le_of_ble_eq_true rfl, Nat.le_of_ble_eq_true rfl⟩ (fun u5 H locs hw5 hP hD hS => ?_)
  obtain ⟨xx1_5, rfl⟩ : ∃ z, z = u5 := ⟨_, rfl⟩
  have hP := hP.sub (ws' := [(h, .inr (1, [.ref a_numbers, v_place, v_length, v_cost, v_step, v_digit, .int (iN df), v_kinds, v_heaps, .int (iN fr), v_v])), (a_numbers, .inl (cI, 402, .inl (ar xx1_5)))]) [0, 1] rfl
  have hD := hD.sub (ws' := [(h, .inr (1, [.ref a_numbers, v_place, v_length, v_cost, v_step, v_digit, .int (iN df), v_kinds, v_heaps, .int (iN fr), v_v])), (a_numbers, .inl (cI, 402, .inl (ar xx1_5)))]) [0, 1] (by decide) rfl
  refine lv_aload_n hx hb dX1_wipe_8 rfl (lv_at hl 0 rfl) ?_
  refine iv_iconst hx hb dX1_wipe_9 ?_
  refine va_put (D := D) (ci := 1) (v := .int (iN 0)) (ty := .int) (C := RX1) (T := TX1) (N := 11) hx hb hT hiX1 tyX1 tyX1_ok nmX1 hown hK hP hD hS 0 rfl rfl 6 (by decide) (hT _ k_266) (fun _ h9 => h9) rfl (by decide +kernel) rfl rfl (Nat.le_of_ble_eq_true rfl) dX1_wipe_10 (fun H locs hP hD hS => ?_)
  have hP : va_P D vwCl [(h, .inr (1, [.ref a_numbers, v_place, v_length, v_cost, v_step, v_digit, .int (iN 0), v_kinds, v_heaps, .int (iN fr), v_v])), (a_numbers, .inl (cI, 402, .inl (ar xx1_5)))] H := hP
  have hD : va_D A [(h, .inr (1, [.ref a_numbers, v_place, v_length, v_cost, v_step, v_digit, .int (iN 0), v_kinds, v_heaps, .int (iN fr), v_v])), (a_numbers, .inl (cI, 402, .inl (ar xx1_5)))] := hD
  refine lv_aload_n hx hb dX1_wipe_13 rfl (lv_at hl 0 rfl) ?_
  refine iv_iconst hx hb dX1_wipe_14 ?_
  refine va_put (D := D) (ci := 1) (v := .int (iN 0)) (ty := .boolean) (C := RX1) (T := TX1) (N := 11) hx hb hT hiX1 tyX1 tyX1_ok nmX1 hown hK hP hD hS 0 rfl rfl 9 (by decide) (hT _ k_269) (fun _ h9 => h9) rfl (by decide +kernel) (iN_zn (by omega)) (iN_zf (by omega)) (Nat.le_of_ble_eq_true rfl) dX1_wipe_15 (fun H locs hP hD hS => ?_)
  have hP : va_P D vwCl [(h, .inr (1, [.ref a_numbers, v_place, v_length, v_cost, v_step, v_digit, .int (iN 0), v_kinds, v_heaps, .int (iN 0), v_v])), (a_numbers, .inl (cI, 402, .inl (ar xx1_5)))] H := hP
  have hD : va_D A [(h, .inr (1, [.ref a_numbers, v_place, v_length, v_cost, v_step, v_digit, .int (iN 0), v_kinds, v_heaps, .int (iN 0), v_v])), (a_numbers, .inl (cI, 402, .inl (ar xx1_5)))] := hD
  exact iv_vret hx hb hr hlocks dX1_wipe_18 (by omega) (by omega) (xx1_5) (by exact hw5) (by exact hP.sub [0, 1] rfl) (by exact hD.sub [0, 1] (by decide) rfl) hS
set_option maxHeartbeats 4000000 in
set_option maxRecDepth 100000 in
theorem ok_X1_layOutKind (l : Launch) (D : va_G) (cI : ClassId) (h : Nat) (a_numbers : Nat) (a_place : Nat) (a_length : Nat) (a_cost : Nat) (a_step : Nat) (v_digit : Value) (v_different : Value) (v_fresh : Value) (v_v : Value) (nb : Int → Int) (pl : Int → Int) (lg : Int → Int) (co : Int → Int) (sp : Int → Int) (nk : Int) (hp : Int) (sz : Nat) (ap : Int) (hap : 0 ≤ ap ∧ ap < 402) (hnk : 0 ≤ nk ∧ nk < 30) (hnb : rg nb 402 0 1000) : MetV l yX1_layOutKind (wd yX1_layOutKind cX1_layOutKind 4 none) ({ frames := 1, cells := 0, slots := 0, locals := 22 } : Room) [.ref h, .int (iN ap)] D [(cI, .int)] [(h, .inr (1, [.ref a_numbers, .ref a_place, .ref a_length, .ref a_cost, .ref a_step, v_digit, v_different, .int (iN nk), .int (iN hp), v_fresh, v_v])), (a_numbers, .inl (cI, 402, .inl (ar nb))), (a_place, .inl (cI, 30, .inl (ar pl))), (a_length, .inl (cI, 30, .inl (ar lg))), (a_cost, .inl (cI, 30, .inl (ar co))), (a_step, .inl (cI, 30, .inl (ar sp)))] sz (fun u : (Int → Int) × (Int → Int) => match u with | (lg1, co1) => [(h, .inr (1, [.ref a_numbers, .ref a_place, .ref a_length, .ref a_cost, .ref a_step, v_digit, v_different, .int (iN (nk + 1)), .int (iN (hp * (nb ap + 1))), v_fresh, v_v])), (a_numbers, .inl (cI, 402, .inl (ar nb))), (a_place, .inl (cI, 30, .inl (ar (uI pl nk ap)))), (a_length, .inl (cI, 30, .inl (ar lg1))), (a_cost, .inl (cI, 30, .inl (ar co1))), (a_step, .inl (cI, 30, .inl (ar (uI sp nk hp))))]) (fun u => match u with | (lg1, co1) => lg1 = uI lg nk (lgP ap) ∧ co1 = uI co nk (cst (lgP ap) (riP ap))) 0 0 := by
  refine iv_mkV (cc := cX1_layOutKind) (maxL := 4) (by decide) rfl (Nat.le_of_ble_eq_true rfl) ?_
  intro p e s m below meth c A H ls hx hb hr hts hown hlocks hin hml hN hA hK hP hD hS hl
  have hT : ∀ w ∈ T0, w.before [.ref h, .int (iN ap)].toArray s = true := fun w h => hts w (List.mem_cons_of_mem _ h)
  have hown : s.vm.findClass RX1 = some m.cls := hown
  have hl : lv_has ls 4 [(0, .ref h), (1, .int (iN ap))] := hl
  refine lv_aload_n hx hb dX1_layOutKind_0 rfl (lv_at hl 0 rfl) ?_
  refine lv_iload_n hx hb dX1_layOutKind_1 rfl (lv_at hl 1 rfl) ?_
  refine iv_callV (mc := 0) (ms := 0) (wc := [(h, .inr (1, [.ref a_numbers, .ref a_place, .ref a_length, .ref a_cost, .ref a_step, v_digit, v_different, .int (iN nk), .int (iN hp), v_fresh, v_v]))]) (wr := [(a_numbers, .inl (cI, 402, .inl (ar nb))), (a_place, .inl (cI, 30, .inl (ar pl))), (a_length, .inl (cI, 30, .inl (ar lg))), (a_cost, .inl (cI, 30, .inl (ar co))), (a_step, .inl (cI, 30, .inl (ar sp)))]) (As := [.int (iN ap)]) (rest := []) ⟨hx, hb, hml, hown, hT⟩ (ok_X1_isRing l D h (.ref a_numbers) (.ref a_place) (.ref a_length) (.ref a_cost) (.ref a_step) v_digit v_different (.int (iN nk)) (.int (iN hp)) v_fresh v_v H.size ap (by first | assumption | omega)) (iv_cw 1 hT k_661 k_65 k_658 k_660 k_31 (by decide +kernel) rfl rfl ⟨Nat.le_of_ble_eq_true rfl, Nat.le_of_ble_eq_true rfl⟩) hN hK hP hD hS hA [0] [1, 2, 3, 4, 5] [] rfl rfl (by decide) (by decide) (by decide) rfl 0 (ci := 1) rfl rfl rfl hl.1 rfl (Nat.le_of_ble_eq_true rfl) dX1_layOutKind_2 ⟨Nat.le_of_ble_eq_true rfl, Nat.le_of_ble_eq_true rfl⟩ (fun z2 u2 H locs hw2 hP hD hS => ?_)
  have hP := hP.sub (ws' := [(h, .inr (1, [.ref a_numbers, .ref a_place, .ref a_length, .ref a_cost, .ref a_step, v_digit, v_different, .int (iN nk), .int (iN hp), v_fresh, v_v])), (a_numbers, .inl (cI, 402, .inl (ar nb))), (a_place, .inl (cI, 30, .inl (ar pl))), (a_length, .inl (cI, 30, .inl (ar lg))), (a_cost, .inl (cI, 30, .inl (ar co))), (a_step, .inl (cI, 30, .inl (ar sp)))]) [5, 0, 1, 2, 3, 4] rfl
  have hD := hD.sub (ws' := [(h, .inr (1, [.ref a_numbers, .ref a_place, .ref a_length, .ref a_cost, .ref a_step, v_digit, v_different, .int (iN nk), .int (iN hp), v_fresh, v_v])), (a_numbers, .inl (cI, 402, .inl (ar nb))), (a_place, .inl (cI, 30, .inl (ar pl))), (a_length, .inl (cI, 30, .inl (ar lg))), (a_cost, .inl (cI, 30, .inl (ar co))), (a_step, .inl (cI, 30, .inl (ar sp)))]) [5, 0, 1, 2, 3, 4] (by decide) rfl
  rcases hw2 with ⟨rfl, hw2⟩ | ⟨rfl, hw2⟩
  · refine lv_istore_n (lv' := [(2, .int (iN 1)), (0, .ref h), (1, .int (iN ap))]) hx hb dX1_layOutKind_5 rfl hl (by decide) rfl (fun ls hl => ?_)
    refine lv_iload_n hx hb dX1_layOutKind_6 rfl (lv_at hl 0 rfl) ?_
    refine iv_if_eq (tgt := 21) hx hb dX1_layOutKind_7 (by decide) (by omega) (fun c7 => ?_) (fun c7 => ?_)
    · exact absurd c7 (by decide)
    · refine lv_iload_n hx hb dX1_layOutKind_10 rfl (lv_at hl 2 rfl) ?_
      refine lv_aload_n hx hb dX1_layOutKind_11 rfl (lv_at hl 1 rfl) ?_
      refine iv_iconst hx hb dX1_layOutKind_12 ?_
      refine iv_iconst hx hb dX1_layOutKind_13 ?_
      refine iv_callV (mc := 0) (ms := 0) (wc := [(h, .inr (1, [.ref a_numbers, .ref a_place, .ref a_length, .ref a_cost, .ref a_step, v_digit, v_different, .int (iN nk), .int (iN hp), v_fresh, v_v]))]) (wr := [(a_numbers, .inl (cI, 402, .inl (ar nb))), (a_place, .inl (cI, 30, .inl (ar pl))), (a_length, .inl (cI, 30, .inl (ar lg))), (a_cost, .inl (cI, 30, .inl (ar co))), (a_step, .inl (cI, 30, .inl (ar sp)))]) (As := [.int (iN 1), .int (iN 0)]) (rest := [.int (iN ap)]) ⟨hx, hb, hml, hown, hT⟩ (ok_X1_placeOf l D h (.ref a_numbers) (.ref a_place) (.ref a_length) (.ref a_cost) (.ref a_step) v_digit v_different (.int (iN nk)) (.int (iN hp)) v_fresh v_v H.size 1 0 (by first | assumption | omega)) (iv_cw 2 hT k_641 k_65 k_638 k_640 k_28 (by decide +kernel) rfl rfl ⟨Nat.le_of_ble_eq_true rfl, Nat.le_of_ble_eq_true rfl⟩) hN hK hP hD hS hA [0] [1, 2, 3, 4, 5] [] rfl rfl (by decide) (by decide) (by decide) rfl 0 (ci := 1) rfl rfl rfl hl.1 rfl (Nat.le_of_ble_eq_true rfl) dX1_layOutKind_14 ⟨Nat.le_of_ble_eq_true rfl, Nat.le_of_ble_eq_true rfl⟩ (fun z14 u14 H locs hw14 hP hD hS => ?_)
      have hP := hP.sub (ws' := [(h, .inr (1, [.ref a_numbers, .ref a_place, .ref a_length, .ref a_cost, .ref a_step, v_digit, v_different, .int (iN nk), .int (iN hp), v_fresh, v_v])), (a_numbers, .inl (cI, 402, .inl (ar nb))), (a_place, .inl (cI, 30, .inl (ar pl))), (a_length, .inl (cI, 30, .inl (ar lg))), (a_cost, .inl (cI, 30, .inl (ar co))), (a_step, .inl (cI, 30, .inl (ar sp)))]) [5, 0, 1, 2, 3, 4] rfl
      have hD := hD.sub (ws' := [(h, .inr (1, [.ref a_numbers, .ref a_place, .ref a_length, .ref a_cost, .ref a_step, v_digit, v_different, .int (iN nk), .int (iN hp), v_fresh, v_v])), (a_numbers, .inl (cI, 402, .inl (ar nb))), (a_place, .inl (cI, 30, .inl (ar pl))), (a_length, .inl (cI, 30, .inl (ar lg))), (a_cost, .inl (cI, 30, .inl (ar co))), (a_step, .inl (cI, 30, .inl (ar sp)))]) [5, 0, 1, 2, 3, 4] (by decide) rfl
      rcases hw14 with ⟨rfl, hw14⟩ | ⟨rfl, hw14⟩
      · refine iv_isub hx hb dX1_layOutKind_17 ?_
        refine lv_goto (tgt := 22) hx hb dX1_layOutKind_18 (by decide) ?_
        refine lv_istore_n (lv' := [(3, .int (iN (ap - (0 + 0)))), (2, .int (iN 1)), (0, .ref h), (1, .int (iN ap))]) hx hb dX1_layOutKind_22 rfl hl (by decide) rfl (fun ls hl => ?_)
        refine lv_aload_n hx hb dX1_layOutKind_23 rfl (lv_at hl 2 rfl) ?_
        refine va_get (D := D) (ci := 1) (v := .ref a_place) (C := RX1) (T := TX1) (N := 11) hx hb hT hiX1 hown hK hP 0 rfl rfl 1 (by decide) (hT _ k_261) (fun _ h9 => h9) rfl dX1_layOutKind_24 ?_
        refine lv_aload_n hx hb dX1_layOutKind_27 rfl (lv_at hl 2 rfl) ?_
        refine va_get (D := D) (ci := 1) (v := .int (iN nk)) (C := RX1) (T := TX1) (N := 11) hx hb hT hiX1 hown hK hP 0 rfl rfl 7 (by decide) (hT _ k_267) (fun _ h9 => h9) rfl dX1_layOutKind_28 ?_
        refine lv_iload_n hx hb dX1_layOutKind_31 rfl (lv_at hl 3 rfl) ?_
        refine iv_iast hx hb hK hP hD hS 2 0 rfl rfl (f := pl) (by omega) (by omega) dX1_layOutKind_32 (fun H locs hP hD hS => ?_)
        have hP : va_P D vwCl [(h, .inr (1, [.ref a_numbers, .ref a_place, .ref a_length, .ref a_cost, .ref a_step, v_digit, v_different, .int (iN nk), .int (iN hp), v_fresh, v_v])), (a_numbers, .inl (cI, 402, .inl (ar nb))), (a_place, .inl (cI, 30, .inl (ar (uI pl nk ap)))), (a_length, .inl (cI, 30, .inl (ar lg))), (a_cost, .inl (cI, 30, .inl (ar co))), (a_step, .inl (cI, 30, .inl (ar sp)))] H := hP
        have hD : va_D A [(h, .inr (1, [.ref a_numbers, .ref a_place, .ref a_length, .ref a_cost, .ref a_step, v_digit, v_different, .int (iN nk), .int (iN hp), v_fresh, v_v])), (a_numbers, .inl (cI, 402, .inl (ar nb))), (a_place, .inl (cI, 30, .inl (ar (uI pl nk ap)))), (a_length, .inl (cI, 30, .inl (ar lg))), (a_cost, .inl (cI, 30, .inl (ar co))), (a_step, .inl (cI, 30, .inl (ar sp)))] := hD
        refine lv_aload_n hx hb dX1_layOutKind_33 rfl (lv_at hl 2 rfl) ?_
        refine va_get (D := D) (ci := 1) (v := .ref a_length) (C := RX1) (T := TX1) (N := 11) hx hb hT hiX1 hown hK hP 0 rfl rfl 2 (by decide) (hT _ k_262) (fun _ h9 => h9) rfl dX1_layOutKind_34 ?_
        refine lv_aload_n hx hb dX1_layOutKind_37 rfl (lv_at hl 2 rfl) ?_
        refine va_get (D := D) (ci := 1) (v := .int (iN nk)) (C := RX1) (T := TX1) (N := 11) hx hb hT hiX1 hown hK hP 0 rfl rfl 7 (by decide) (hT _ k_267) (fun _ h9 => h9) rfl dX1_layOutKind_38 ?_
        refine lv_iload_n hx hb dX1_layOutKind_41 rfl (lv_at hl 0 rfl) ?_
        refine iv_iast hx hb hK hP hD hS 3 0 rfl rfl (f := lg) (by omega) (by omega) dX1_layOutKind_42 (fun H locs hP hD hS => ?_)
        have hP : va_P D vwCl [(h, .inr (1, [.ref a_numbers, .ref a_place, .ref a_length, .ref a_cost, .ref a_step, v_digit, v_different, .int (iN nk), .int (iN hp), v_fresh, v_v])), (a_numbers, .inl (cI, 402, .inl (ar nb))), (a_place, .inl (cI, 30, .inl (ar (uI pl nk ap)))), (a_length, .inl (cI, 30, .inl (ar (uI lg nk (ap - (0 + 0)))))), (a_cost, .inl (cI, 30, .inl (ar co))), (a_step, .inl (cI, 30, .inl (ar sp)))] H := hP
        have hD : va_D A [(h, .inr (1, [.ref a_numbers, .ref a_place, .ref a_length, .ref a_cost, .ref a_step, v_digit, v_different, .int (iN nk), .int (iN hp), v_fresh, v_v])), (a_numbers, .inl (cI, 402, .inl (ar nb))), (a_place, .inl (cI, 30, .inl (ar (uI pl nk ap)))), (a_length, .inl (cI, 30, .inl (ar (uI lg nk (ap - (0 + 0)))))), (a_cost, .inl (cI, 30, .inl (ar co))), (a_step, .inl (cI, 30, .inl (ar sp)))] := hD
        refine lv_aload_n hx hb dX1_layOutKind_43 rfl (lv_at hl 2 rfl) ?_
        refine va_get (D := D) (ci := 1) (v := .ref a_cost) (C := RX1) (T := TX1) (N := 11) hx hb hT hiX1 hown hK hP 0 rfl rfl 3 (by decide) (hT _ k_263) (fun _ h9 => h9) rfl dX1_layOutKind_44 ?_
        refine lv_aload_n hx hb dX1_layOutKind_47 rfl (lv_at hl 2 rfl) ?_
        refine va_get (D := D) (ci := 1) (v := .int (iN nk)) (C := RX1) (T := TX1) (N := 11) hx hb hT hiX1 hown hK hP 0 rfl rfl 7 (by decide) (hT _ k_267) (fun _ h9 => h9) rfl dX1_layOutKind_48 ?_
        refine lv_iload_n hx hb dX1_layOutKind_51 rfl (lv_at hl 0 rfl) ?_
        refine lv_iload_n hx hb dX1_layOutKind_52 rfl (lv_at hl 1 rfl) ?_
        refine iv_if_eq (tgt := 60) hx hb dX1_layOutKind_53 (by decide) (by omega) (fun c53 => ?_) (fun c53 => ?_)
        · exact absurd c53 (by decide)
        · refine iv_iconst hx hb dX1_layOutKind_56 ?_
          refine lv_goto (tgt := 61) hx hb dX1_layOutKind_57 (by decide) ?_
          refine iv_icmp_ge (tgt := 68) hx hb dX1_layOutKind_61 (by decide) (by omega) (by omega) (fun c61 => ?_) (fun c61 => ?_)
          · refine lv_iload_n hx hb dX1_layOutKind_68 rfl (lv_at hl 1 rfl) ?_
            refine iv_if_eq (tgt := 77) hx hb dX1_layOutKind_69 (by decide) (by omega) (fun c69 => ?_) (fun c69 => ?_)
            · exact absurd c69 (by decide)
            · refine iv_bipush hx hb dX1_layOutKind_72 (by decide) ?_
              refine lv_goto (tgt := 78) hx hb dX1_layOutKind_74 (by decide) ?_
              refine iv_iast hx hb hK hP hD hS 4 0 rfl rfl (f := co) (by omega) (by omega) dX1_layOutKind_78 (fun H locs hP hD hS => ?_)
              have hP : va_P D vwCl [(h, .inr (1, [.ref a_numbers, .ref a_place, .ref a_length, .ref a_cost, .ref a_step, v_digit, v_different, .int (iN nk), .int (iN hp), v_fresh, v_v])), (a_numbers, .inl (cI, 402, .inl (ar nb))), (a_place, .inl (cI, 30, .inl (ar (uI pl nk ap)))), (a_length, .inl (cI, 30, .inl (ar (uI lg nk (ap - (0 + 0)))))), (a_cost, .inl (cI, 30, .inl (ar (uI co nk 8)))), (a_step, .inl (cI, 30, .inl (ar sp)))] H := hP
              have hD : va_D A [(h, .inr (1, [.ref a_numbers, .ref a_place, .ref a_length, .ref a_cost, .ref a_step, v_digit, v_different, .int (iN nk), .int (iN hp), v_fresh, v_v])), (a_numbers, .inl (cI, 402, .inl (ar nb))), (a_place, .inl (cI, 30, .inl (ar (uI pl nk ap)))), (a_length, .inl (cI, 30, .inl (ar (uI lg nk (ap - (0 + 0)))))), (a_cost, .inl (cI, 30, .inl (ar (uI co nk 8)))), (a_step, .inl (cI, 30, .inl (ar sp)))] := hD
              refine lv_aload_n hx hb dX1_layOutKind_79 rfl (lv_at hl 2 rfl) ?_
              refine va_get (D := D) (ci := 1) (v := .ref a_step) (C := RX1) (T := TX1) (N := 11) hx hb hT hiX1 hown hK hP 0 rfl rfl 4 (by decide) (hT _ k_264) (fun _ h9 => h9) rfl dX1_layOutKind_80 ?_
              refine lv_aload_n hx hb dX1_layOutKind_83 rfl (lv_at hl 2 rfl) ?_
              refine va_get (D := D) (ci := 1) (v := .int (iN nk)) (C := RX1) (T := TX1) (N := 11) hx hb hT hiX1 hown hK hP 0 rfl rfl 7 (by decide) (hT _ k_267) (fun _ h9 => h9) rfl dX1_layOutKind_84 ?_
              refine lv_aload_n hx hb dX1_layOutKind_87 rfl (lv_at hl 2 rfl) ?_
              refine va_get (D := D) (ci := 1) (v := .int (iN hp)) (C := RX1) (T := TX1) (N := 11) hx hb hT hiX1 hown hK hP 0 rfl rfl 8 (by decide) (hT _ k_268) (fun _ h9 => h9) rfl dX1_layOutKind_88 ?_
              refine iv_iast hx hb hK hP hD hS 5 0 rfl rfl (f := sp) (by omega) (by omega) dX1_layOutKind_91 (fun H locs hP hD hS => ?_)
              have hP : va_P D vwCl [(h, .inr (1, [.ref a_numbers, .ref a_place, .ref a_length, .ref a_cost, .ref a_step, v_digit, v_different, .int (iN nk), .int (iN hp), v_fresh, v_v])), (a_numbers, .inl (cI, 402, .inl (ar nb))), (a_place, .inl (cI, 30, .inl (ar (uI pl nk ap)))), (a_length, .inl (cI, 30, .inl (ar (uI lg nk (ap - (0 + 0)))))), (a_cost, .inl (cI, 30, .inl (ar (uI co nk 8)))), (a_step, .inl (cI, 30, .inl (ar (uI sp nk hp))))] H := hP
              have hD : va_D A [(h, .inr (1, [.ref a_numbers, .ref a_place, .ref a_length, .ref a_cost, .ref a_step, v_digit, v_different, .int (iN nk), .int (iN hp), v_fresh, v_v])), (a_numbers, .inl (cI, 402, .inl (ar nb))), (a_place, .inl (cI, 30, .inl (ar (uI pl nk ap)))), (a_length, .inl (cI, 30, .inl (ar (uI lg nk (ap - (0 + 0)))))), (a_cost, .inl (cI, 30, .inl (ar (uI co nk 8)))), (a_step, .inl (cI, 30, .inl (ar (uI sp nk hp))))] := hD
              refine lv_aload_n hx hb dX1_layOutKind_92 rfl (lv_at hl 2 rfl) ?_
              refine lv_dup hx hb dX1_layOutKind_93 rfl ?_
              refine va_get (D := D) (ci := 1) (v := .int (iN hp)) (C := RX1) (T := TX1) (N := 11) hx hb hT hiX1 hown hK hP 0 rfl rfl 8 (by decide) (hT _ k_268) (fun _ h9 => h9) rfl dX1_layOutKind_94 ?_
              refine lv_aload_n hx hb dX1_layOutKind_97 rfl (lv_at hl 2 rfl) ?_
              refine va_get (D := D) (ci := 1) (v := .ref a_numbers) (C := RX1) (T := TX1) (N := 11) hx hb hT hiX1 hown hK hP 0 rfl rfl 0 (by decide) (hT _ k_260) (fun _ h9 => h9) rfl dX1_layOutKind_98 ?_
              refine lv_iload_n hx hb dX1_layOutKind_101 rfl (lv_at hl 3 rfl) ?_
              refine iv_iald hx hb hK hP 1 0 rfl rfl (f := nb) (by omega) (by omega) dX1_layOutKind_102 ?_
              refine iv_iconst hx hb dX1_layOutKind_103 ?_
              refine iv_iadd hx hb dX1_layOutKind_104 ?_
              refine iv_imul hx hb dX1_layOutKind_105 ?_
              refine va_put (D := D) (ci := 1) (v := .int (iN (hp * (nb ap + 1)))) (ty := .int) (C := RX1) (T := TX1) (N := 11) hx hb hT hiX1 tyX1 tyX1_ok nmX1 hown hK hP hD hS 0 rfl rfl 8 (by decide) (hT _ k_268) (fun _ h9 => h9) rfl (by decide +kernel) rfl rfl (Nat.le_of_ble_eq_true rfl) dX1_layOutKind_106 (fun H locs hP hD hS => ?_)
              have hP : va_P D vwCl [(h, .inr (1, [.ref a_numbers, .ref a_place, .ref a_length, .ref a_cost, .ref a_step, v_digit, v_different, .int (iN nk), .int (iN (hp * (nb ap + 1))), v_fresh, v_v])), (a_numbers, .inl (cI, 402, .inl (ar nb))), (a_place, .inl (cI, 30, .inl (ar (uI pl nk ap)))), (a_length, .inl (cI, 30, .inl (ar (uI lg nk (ap - (0 + 0)))))), (a_cost, .inl (cI, 30, .inl (ar (uI co nk 8)))), (a_step, .inl (cI, 30, .inl (ar (uI sp nk hp))))] H := hP
              have hD : va_D A [(h, .inr (1, [.ref a_numbers, .ref a_place, .ref a_length, .ref a_cost, .ref a_step, v_digit, v_different, .int (iN nk), .int (iN (hp * (nb ap + 1))), v_fresh, v_v])), (a_numbers, .inl (cI, 402, .inl (ar nb))), (a_place, .inl (cI, 30, .inl (ar (uI pl nk ap)))), (a_length, .inl (cI, 30, .inl (ar (uI lg nk (ap - (0 + 0)))))), (a_cost, .inl (cI, 30, .inl (ar (uI co nk 8)))), (a_step, .inl (cI, 30, .inl (ar (uI sp nk hp))))] := hD
              refine lv_aload_n hx hb dX1_layOutKind_109 rfl (lv_at hl 2 rfl) ?_
              refine lv_dup hx hb dX1_layOutKind_110 rfl ?_
              refine va_get (D := D) (ci := 1) (v := .int (iN nk)) (C := RX1) (T := TX1) (N := 11) hx hb hT hiX1 hown hK hP 0 rfl rfl 7 (by decide) (hT _ k_267) (fun _ h9 => h9) rfl dX1_layOutKind_111 ?_
              refine iv_iconst hx hb dX1_layOutKind_114 ?_
              refine iv_iadd hx hb dX1_layOutKind_115 ?_
              refine va_put (D := D) (ci := 1) (v := .int (iN (nk + 1))) (ty := .int) (C := RX1) (T := TX1) (N := 11) hx hb hT hiX1 tyX1 tyX1_ok nmX1 hown hK hP hD hS 0 rfl rfl 7 (by decide) (hT _ k_267) (fun _ h9 => h9) rfl (by decide +kernel) rfl rfl (Nat.le_of_ble_eq_true rfl) dX1_layOutKind_116 (fun H locs hP hD hS => ?_)
              have hP : va_P D vwCl [(h, .inr (1, [.ref a_numbers, .ref a_place, .ref a_length, .ref a_cost, .ref a_step, v_digit, v_different, .int (iN (nk + 1)), .int (iN (hp * (nb ap + 1))), v_fresh, v_v])), (a_numbers, .inl (cI, 402, .inl (ar nb))), (a_place, .inl (cI, 30, .inl (ar (uI pl nk ap)))), (a_length, .inl (cI, 30, .inl (ar (uI lg nk (ap - (0 + 0)))))), (a_cost, .inl (cI, 30, .inl (ar (uI co nk 8)))), (a_step, .inl (cI, 30, .inl (ar (uI sp nk hp))))] H := hP
              have hD : va_D A [(h, .inr (1, [.ref a_numbers, .ref a_place, .ref a_length, .ref a_cost, .ref a_step, v_digit, v_different, .int (iN (nk + 1)), .int (iN (hp * (nb ap + 1))), v_fresh, v_v])), (a_numbers, .inl (cI, 402, .inl (ar nb))), (a_place, .inl (cI, 30, .inl (ar (uI pl nk ap)))), (a_length, .inl (cI, 30, .inl (ar (uI lg nk (ap - (0 + 0)))))), (a_cost, .inl (cI, 30, .inl (ar (uI co nk 8)))), (a_step, .inl (cI, 30, .inl (ar (uI sp nk hp))))] := hD
              exact iv_vret hx hb hr hlocks dX1_layOutKind_119 (by omega) (by omega) (uI lg nk (ap - (0 + 0)), uI co nk 8) (by first | (exfalso; omega) | (have el : (ap - (0 + 0)) = lgP ap := (by unfold lgP; split <;> omega); have ec : 8 = cst (lgP ap) (riP ap) := (by unfold cst riP lgP; (repeat' split) <;> omega); exact ⟨by rw [← el], by rw [← ec]⟩)) (by exact hP.sub [0, 1, 2, 3, 4, 5] rfl) (by exact hD.sub [0, 1, 2, 3, 4, 5] (by decide) rfl) hS
          · refine iv_iconst hx hb dX1_layOutKind_64 ?_
            refine lv_goto (tgt := 78) hx hb dX1_layOutKind_65 (by decide) ?_
            refine iv_iast hx hb hK hP hD hS 4 0 rfl rfl (f := co) (by omega) (by omega) dX1_layOutKind_78 (fun H locs hP hD hS => ?_)
            have hP : va_P D vwCl [(h, .inr (1, [.ref a_numbers, .ref a_place, .ref a_length, .ref a_cost, .ref a_step, v_digit, v_different, .int (iN nk), .int (iN hp), v_fresh, v_v])), (a_numbers, .inl (cI, 402, .inl (ar nb))), (a_place, .inl (cI, 30, .inl (ar (uI pl nk ap)))), (a_length, .inl (cI, 30, .inl (ar (uI lg nk (ap - (0 + 0)))))), (a_cost, .inl (cI, 30, .inl (ar (uI co nk 0)))), (a_step, .inl (cI, 30, .inl (ar sp)))] H := hP
            have hD : va_D A [(h, .inr (1, [.ref a_numbers, .ref a_place, .ref a_length, .ref a_cost, .ref a_step, v_digit, v_different, .int (iN nk), .int (iN hp), v_fresh, v_v])), (a_numbers, .inl (cI, 402, .inl (ar nb))), (a_place, .inl (cI, 30, .inl (ar (uI pl nk ap)))), (a_length, .inl (cI, 30, .inl (ar (uI lg nk (ap - (0 + 0)))))), (a_cost, .inl (cI, 30, .inl (ar (uI co nk 0)))), (a_step, .inl (cI, 30, .inl (ar sp)))] := hD
            refine lv_aload_n hx hb dX1_layOutKind_79 rfl (lv_at hl 2 rfl) ?_
            refine va_get (D := D) (ci := 1) (v := .ref a_step) (C := RX1) (T := TX1) (N := 11) hx hb hT hiX1 hown hK hP 0 rfl rfl 4 (by decide) (hT _ k_264) (fun _ h9 => h9) rfl dX1_layOutKind_80 ?_
            refine lv_aload_n hx hb dX1_layOutKind_83 rfl (lv_at hl 2 rfl) ?_
            refine va_get (D := D) (ci := 1) (v := .int (iN nk)) (C := RX1) (T := TX1) (N := 11) hx hb hT hiX1 hown hK hP 0 rfl rfl 7 (by decide) (hT _ k_267) (fun _ h9 => h9) rfl dX1_layOutKind_84 ?_
            refine lv_aload_n hx hb dX1_layOutKind_87 rfl (lv_at hl 2 rfl) ?_
            refine va_get (D := D) (ci := 1) (v := .int (iN hp)) (C := RX1) (T := TX1) (N := 11) hx hb hT hiX1 hown hK hP 0 rfl rfl 8 (by decide) (hT _ k_268) (fun _ h9 => h9) rfl dX1_layOutKind_88 ?_
            refine iv_iast hx hb hK hP hD hS 5 0 rfl rfl (f := sp) (by omega) (by omega) dX1_layOutKind_91 (fun H locs hP hD hS => ?_)
            have hP : va_P D vwCl [(h, .inr (1, [.ref a_numbers, .ref a_place, .ref a_length, .ref a_cost, .ref a_step, v_digit, v_different, .int (iN nk), .int (iN hp), v_fresh, v_v])), (a_numbers, .inl (cI, 402, .inl (ar nb))), (a_place, .inl (cI, 30, .inl (ar (uI pl nk ap)))), (a_length, .inl (cI, 30, .inl (ar (uI lg nk (ap - (0 + 0)))))), (a_cost, .inl (cI, 30, .inl (ar (uI co nk 0)))), (a_step, .inl (cI, 30, .inl (ar (uI sp nk hp))))] H := hP
            have hD : va_D A [(h, .inr (1, [.ref a_numbers, .ref a_place, .ref a_length, .ref a_cost, .ref a_step, v_digit, v_different, .int (iN nk), .int (iN hp), v_fresh, v_v])), (a_numbers, .inl (cI, 402, .inl (ar nb))), (a_place, .inl (cI, 30, .inl (ar (uI pl nk ap)))), (a_length, .inl (cI, 30, .inl (ar (uI lg nk (ap - (0 + 0)))))), (a_cost, .inl (cI, 30, .inl (ar (uI co nk 0)))), (a_step, .inl (cI, 30, .inl (ar (uI sp nk hp))))] := hD
            refine lv_aload_n hx hb dX1_layOutKind_92 rfl (lv_at hl 2 rfl) ?_
            refine lv_dup hx hb dX1_layOutKind_93 rfl ?_
            refine va_get (D := D) (ci := 1) (v := .int (iN hp)) (C := RX1) (T := TX1) (N := 11) hx hb hT hiX1 hown hK hP 0 rfl rfl 8 (by decide) (hT _ k_268) (fun _ h9 => h9) rfl dX1_layOutKind_94 ?_
            refine lv_aload_n hx hb dX1_layOutKind_97 rfl (lv_at hl 2 rfl) ?_
            refine va_get (D := D) (ci := 1) (v := .ref a_numbers) (C := RX1) (T := TX1) (N := 11) hx hb hT hiX1 hown hK hP 0 rfl rfl 0 (by decide) (hT _ k_260) (fun _ h9 => h9) rfl dX1_layOutKind_98 ?_
            refine lv_iload_n hx hb dX1_layOutKind_101 rfl (lv_at hl 3 rfl) ?_
            refine iv_iald hx hb hK hP 1 0 rfl rfl (f := nb) (by omega) (by omega) dX1_layOutKind_102 ?_
            refine iv_iconst hx hb dX1_layOutKind_103 ?_
            refine iv_iadd hx hb dX1_layOutKind_104 ?_
            refine iv_imul hx hb dX1_layOutKind_105 ?_
            refine va_put (D := D) (ci := 1) (v := .int (iN (hp * (nb ap + 1)))) (ty := .int) (C := RX1) (T := TX1) (N := 11) hx hb hT hiX1 tyX1 tyX1_ok nmX1 hown hK hP hD hS 0 rfl rfl 8 (by decide) (hT _ k_268) (fun _ h9 => h9) rfl (by decide +kernel) rfl rfl (Nat.le_of_ble_eq_true rfl) dX1_layOutKind_106 (fun H locs hP hD hS => ?_)
            have hP : va_P D vwCl [(h, .inr (1, [.ref a_numbers, .ref a_place, .ref a_length, .ref a_cost, .ref a_step, v_digit, v_different, .int (iN nk), .int (iN (hp * (nb ap + 1))), v_fresh, v_v])), (a_numbers, .inl (cI, 402, .inl (ar nb))), (a_place, .inl (cI, 30, .inl (ar (uI pl nk ap)))), (a_length, .inl (cI, 30, .inl (ar (uI lg nk (ap - (0 + 0)))))), (a_cost, .inl (cI, 30, .inl (ar (uI co nk 0)))), (a_step, .inl (cI, 30, .inl (ar (uI sp nk hp))))] H := hP
            have hD : va_D A [(h, .inr (1, [.ref a_numbers, .ref a_place, .ref a_length, .ref a_cost, .ref a_step, v_digit, v_different, .int (iN nk), .int (iN (hp * (nb ap + 1))), v_fresh, v_v])), (a_numbers, .inl (cI, 402, .inl (ar nb))), (a_place, .inl (cI, 30, .inl (ar (uI pl nk ap)))), (a_length, .inl (cI, 30, .inl (ar (uI lg nk (ap - (0 + 0)))))), (a_cost, .inl (cI, 30, .inl (ar (uI co nk 0)))), (a_step, .inl (cI, 30, .inl (ar (uI sp nk hp))))] := hD
            refine lv_aload_n hx hb dX1_layOutKind_109 rfl (lv_at hl 2 rfl) ?_
            refine lv_dup hx hb dX1_layOutKind_110 rfl ?_
            refine va_get (D := D) (ci := 1) (v := .int (iN nk)) (C := RX1) (T := TX1) (N := 11) hx hb hT hiX1 hown hK hP 0 rfl rfl 7 (by decide) (hT _ k_267) (fun _ h9 => h9) rfl dX1_layOutKind_111 ?_
            refine iv_iconst hx hb dX1_layOutKind_114 ?_
            refine iv_iadd hx hb dX1_layOutKind_115 ?_
            refine va_put (D := D) (ci := 1) (v := .int (iN (nk + 1))) (ty := .int) (C := RX1) (T := TX1) (N := 11) hx hb hT hiX1 tyX1 tyX1_ok nmX1 hown hK hP hD hS 0 rfl rfl 7 (by decide) (hT _ k_267) (fun _ h9 => h9) rfl (by decide +kernel) rfl rfl (Nat.le_of_ble_eq_true rfl) dX1_layOutKind_116 (fun H locs hP hD hS => ?_)
            have hP : va_P D vwCl [(h, .inr (1, [.ref a_numbers, .ref a_place, .ref a_length, .ref a_cost, .ref a_step, v_digit, v_different, .int (iN (nk + 1)), .int (iN (hp * (nb ap + 1))), v_fresh, v_v])), (a_numbers, .inl (cI, 402, .inl (ar nb))), (a_place, .inl (cI, 30, .inl (ar (uI pl nk ap)))), (a_length, .inl (cI, 30, .inl (ar (uI lg nk (ap - (0 + 0)))))), (a_cost, .inl (cI, 30, .inl (ar (uI co nk 0)))), (a_step, .inl (cI, 30, .inl (ar (uI sp nk hp))))] H := hP
            have hD : va_D A [(h, .inr (1, [.ref a_numbers, .ref a_place, .ref a_length, .ref a_cost, .ref a_step, v_digit, v_different, .int (iN (nk + 1)), .int (iN (hp * (nb ap + 1))), v_fresh, v_v])), (a_numbers, .inl (cI, 402, .inl (ar nb))), (a_place, .inl (cI, 30, .inl (ar (uI pl nk ap)))), (a_length, .inl (cI, 30, .inl (ar (uI lg nk (ap - (0 + 0)))))), (a_cost, .inl (cI, 30, .inl (ar (uI co nk 0)))), (a_step, .inl (cI, 30, .inl (ar (uI sp nk hp))))] := hD
            exact iv_vret hx hb hr hlocks dX1_layOutKind_119 (by omega) (by omega) (uI lg nk (ap - (0 + 0)), uI co nk 0) (by first | (exfalso; omega) | (have el : (ap - (0 + 0)) = lgP ap := (by unfold lgP; split <;> omega); have ec : 0 = cst (lgP ap) (riP ap) := (by unfold cst riP lgP; (repeat' split) <;> omega); exact ⟨by rw [← el], by rw [← ec]⟩)) (by exact hP.sub [0, 1, 2, 3, 4, 5] rfl) (by exact hD.sub [0, 1, 2, 3, 4, 5] (by decide) rfl) hS
      · refine iv_isub hx hb dX1_layOutKind_17 ?_
        refine lv_goto (tgt := 22) hx hb dX1_layOutKind_18 (by decide) ?_
        refine lv_istore_n (lv' := [(3, .int (iN (ap - (201 + 0)))), (2, .int (iN 1)), (0, .ref h), (1, .int (iN ap))]) hx hb dX1_layOutKind_22 rfl hl (by decide) rfl (fun ls hl => ?_)
        refine lv_aload_n hx hb dX1_layOutKind_23 rfl (lv_at hl 2 rfl) ?_
        refine va_get (D := D) (ci := 1) (v := .ref a_place) (C := RX1) (T := TX1) (N := 11) hx hb hT hiX1 hown hK hP 0 rfl rfl 1 (by decide) (hT _ k_261) (fun _ h9 => h9) rfl dX1_layOutKind_24 ?_
        refine lv_aload_n hx hb dX1_layOutKind_27 rfl (lv_at hl 2 rfl) ?_
        refine va_get (D := D) (ci := 1) (v := .int (iN nk)) (C := RX1) (T := TX1) (N := 11) hx hb hT hiX1 hown hK hP 0 rfl rfl 7 (by decide) (hT _ k_267) (fun _ h9 => h9) rfl dX1_layOutKind_28 ?_
        refine lv_iload_n hx hb dX1_layOutKind_31 rfl (lv_at hl 3 rfl) ?_
        refine iv_iast hx hb hK hP hD hS 2 0 rfl rfl (f := pl) (by omega) (by omega) dX1_layOutKind_32 (fun H locs hP hD hS => ?_)
        have hP : va_P D vwCl [(h, .inr (1, [.ref a_numbers, .ref a_place, .ref a_length, .ref a_cost, .ref a_step, v_digit, v_different, .int (iN nk), .int (iN hp), v_fresh, v_v])), (a_numbers, .inl (cI, 402, .inl (ar nb))), (a_place, .inl (cI, 30, .inl (ar (uI pl nk ap)))), (a_length, .inl (cI, 30, .inl (ar lg))), (a_cost, .inl (cI, 30, .inl (ar co))), (a_step, .inl (cI, 30, .inl (ar sp)))] H := hP
        have hD : va_D A [(h, .inr (1, [.ref a_numbers, .ref a_place, .ref a_length, .ref a_cost, .ref a_step, v_digit, v_different, .int (iN nk), .int (iN hp), v_fresh, v_v])), (a_numbers, .inl (cI, 402, .inl (ar nb))), (a_place, .inl (cI, 30, .inl (ar (uI pl nk ap)))), (a_length, .inl (cI, 30, .inl (ar lg))), (a_cost, .inl (cI, 30, .inl (ar co))), (a_step, .inl (cI, 30, .inl (ar sp)))] := hD
        refine lv_aload_n hx hb dX1_layOutKind_33 rfl (lv_at hl 2 rfl) ?_
        refine va_get (D := D) (ci := 1) (v := .ref a_length) (C := RX1) (T := TX1) (N := 11) hx hb hT hiX1 hown hK hP 0 rfl rfl 2 (by decide) (hT _ k_262) (fun _ h9 => h9) rfl dX1_layOutKind_34 ?_
        refine lv_aload_n hx hb dX1_layOutKind_37 rfl (lv_at hl 2 rfl) ?_
        refine va_get (D := D) (ci := 1) (v := .int (iN nk)) (C := RX1) (T := TX1) (N := 11) hx hb hT hiX1 hown hK hP 0 rfl rfl 7 (by decide) (hT _ k_267) (fun _ h9 => h9) rfl dX1_layOutKind_38 ?_
        refine lv_iload_n hx hb dX1_layOutKind_41 rfl (lv_at hl 0 rfl) ?_
        refine iv_iast hx hb hK hP hD hS 3 0 rfl rfl (f := lg) (by omega) (by omega) dX1_layOutKind_42 (fun H locs hP hD hS => ?_)
        have hP : va_P D vwCl [(h, .inr (1, [.ref a_numbers, .ref a_place, .ref a_length, .ref a_cost, .ref a_step, v_digit, v_different, .int (iN nk), .int (iN hp), v_fresh, v_v])), (a_numbers, .inl (cI, 402, .inl (ar nb))), (a_place, .inl (cI, 30, .inl (ar (uI pl nk ap)))), (a_length, .inl (cI, 30, .inl (ar (uI lg nk (ap - (201 + 0)))))), (a_cost, .inl (cI, 30, .inl (ar co))), (a_step, .inl (cI, 30, .inl (ar sp)))] H := hP
        have hD : va_D A [(h, .inr (1, [.ref a_numbers, .ref a_place, .ref a_length, .ref a_cost, .ref a_step, v_digit, v_different, .int (iN nk), .int (iN hp), v_fresh, v_v])), (a_numbers, .inl (cI, 402, .inl (ar nb))), (a_place, .inl (cI, 30, .inl (ar (uI pl nk ap)))), (a_length, .inl (cI, 30, .inl (ar (uI lg nk (ap - (201 + 0)))))), (a_cost, .inl (cI, 30, .inl (ar co))), (a_step, .inl (cI, 30, .inl (ar sp)))] := hD
        refine lv_aload_n hx hb dX1_layOutKind_43 rfl (lv_at hl 2 rfl) ?_
        refine va_get (D := D) (ci := 1) (v := .ref a_cost) (C := RX1) (T := TX1) (N := 11) hx hb hT hiX1 hown hK hP 0 rfl rfl 3 (by decide) (hT _ k_263) (fun _ h9 => h9) rfl dX1_layOutKind_44 ?_
        refine lv_aload_n hx hb dX1_layOutKind_47 rfl (lv_at hl 2 rfl) ?_
        refine va_get (D := D) (ci := 1) (v := .int (iN nk)) (C := RX1) (T := TX1) (N := 11) hx hb hT hiX1 hown hK hP 0 rfl rfl 7 (by decide) (hT _ k_267) (fun _ h9 => h9) rfl dX1_layOutKind_48 ?_
        refine lv_iload_n hx hb dX1_layOutKind_51 rfl (lv_at hl 0 rfl) ?_
        refine lv_iload_n hx hb dX1_layOutKind_52 rfl (lv_at hl 1 rfl) ?_
        refine iv_if_eq (tgt := 60) hx hb dX1_layOutKind_53 (by decide) (by omega) (fun c53 => ?_) (fun c53 => ?_)
        · exact absurd c53 (by decide)
        · refine iv_iconst hx hb dX1_layOutKind_56 ?_
          refine lv_goto (tgt := 61) hx hb dX1_layOutKind_57 (by decide) ?_
          refine iv_icmp_ge (tgt := 68) hx hb dX1_layOutKind_61 (by decide) (by omega) (by omega) (fun c61 => ?_) (fun c61 => ?_)
          · refine lv_iload_n hx hb dX1_layOutKind_68 rfl (lv_at hl 1 rfl) ?_
            refine iv_if_eq (tgt := 77) hx hb dX1_layOutKind_69 (by decide) (by omega) (fun c69 => ?_) (fun c69 => ?_)
            · exact absurd c69 (by decide)
            · refine iv_bipush hx hb dX1_layOutKind_72 (by decide) ?_
              refine lv_goto (tgt := 78) hx hb dX1_layOutKind_74 (by decide) ?_
              refine iv_iast hx hb hK hP hD hS 4 0 rfl rfl (f := co) (by omega) (by omega) dX1_layOutKind_78 (fun H locs hP hD hS => ?_)
              have hP : va_P D vwCl [(h, .inr (1, [.ref a_numbers, .ref a_place, .ref a_length, .ref a_cost, .ref a_step, v_digit, v_different, .int (iN nk), .int (iN hp), v_fresh, v_v])), (a_numbers, .inl (cI, 402, .inl (ar nb))), (a_place, .inl (cI, 30, .inl (ar (uI pl nk ap)))), (a_length, .inl (cI, 30, .inl (ar (uI lg nk (ap - (201 + 0)))))), (a_cost, .inl (cI, 30, .inl (ar (uI co nk 8)))), (a_step, .inl (cI, 30, .inl (ar sp)))] H := hP
              have hD : va_D A [(h, .inr (1, [.ref a_numbers, .ref a_place, .ref a_length, .ref a_cost, .ref a_step, v_digit, v_different, .int (iN nk), .int (iN hp), v_fresh, v_v])), (a_numbers, .inl (cI, 402, .inl (ar nb))), (a_place, .inl (cI, 30, .inl (ar (uI pl nk ap)))), (a_length, .inl (cI, 30, .inl (ar (uI lg nk (ap - (201 + 0)))))), (a_cost, .inl (cI, 30, .inl (ar (uI co nk 8)))), (a_step, .inl (cI, 30, .inl (ar sp)))] := hD
              refine lv_aload_n hx hb dX1_layOutKind_79 rfl (lv_at hl 2 rfl) ?_
              refine va_get (D := D) (ci := 1) (v := .ref a_step) (C := RX1) (T := TX1) (N := 11) hx hb hT hiX1 hown hK hP 0 rfl rfl 4 (by decide) (hT _ k_264) (fun _ h9 => h9) rfl dX1_layOutKind_80 ?_
              refine lv_aload_n hx hb dX1_layOutKind_83 rfl (lv_at hl 2 rfl) ?_
              refine va_get (D := D) (ci := 1) (v := .int (iN nk)) (C := RX1) (T := TX1) (N := 11) hx hb hT hiX1 hown hK hP 0 rfl rfl 7 (by decide) (hT _ k_267) (fun _ h9 => h9) rfl dX1_layOutKind_84 ?_
              refine lv_aload_n hx hb dX1_layOutKind_87 rfl (lv_at hl 2 rfl) ?_
              refine va_get (D := D) (ci := 1) (v := .int (iN hp)) (C := RX1) (T := TX1) (N := 11) hx hb hT hiX1 hown hK hP 0 rfl rfl 8 (by decide) (hT _ k_268) (fun _ h9 => h9) rfl dX1_layOutKind_88 ?_
              refine iv_iast hx hb hK hP hD hS 5 0 rfl rfl (f := sp) (by omega) (by omega) dX1_layOutKind_91 (fun H locs hP hD hS => ?_)
              have hP : va_P D vwCl [(h, .inr (1, [.ref a_numbers, .ref a_place, .ref a_length, .ref a_cost, .ref a_step, v_digit, v_different, .int (iN nk), .int (iN hp), v_fresh, v_v])), (a_numbers, .inl (cI, 402, .inl (ar nb))), (a_place, .inl (cI, 30, .inl (ar (uI pl nk ap)))), (a_length, .inl (cI, 30, .inl (ar (uI lg nk (ap - (201 + 0)))))), (a_cost, .inl (cI, 30, .inl (ar (uI co nk 8)))), (a_step, .inl (cI, 30, .inl (ar (uI sp nk hp))))] H := hP
              have hD : va_D A [(h, .inr (1, [.ref a_numbers, .ref a_place, .ref a_length, .ref a_cost, .ref a_step, v_digit, v_different, .int (iN nk), .int (iN hp), v_fresh, v_v])), (a_numbers, .inl (cI, 402, .inl (ar nb))), (a_place, .inl (cI, 30, .inl (ar (uI pl nk ap)))), (a_length, .inl (cI, 30, .inl (ar (uI lg nk (ap - (201 + 0)))))), (a_cost, .inl (cI, 30, .inl (ar (uI co nk 8)))), (a_step, .inl (cI, 30, .inl (ar (uI sp nk hp))))] := hD
              refine lv_aload_n hx hb dX1_layOutKind_92 rfl (lv_at hl 2 rfl) ?_
              refine lv_dup hx hb dX1_layOutKind_93 rfl ?_
              refine va_get (D := D) (ci := 1) (v := .int (iN hp)) (C := RX1) (T := TX1) (N := 11) hx hb hT hiX1 hown hK hP 0 rfl rfl 8 (by decide) (hT _ k_268) (fun _ h9 => h9) rfl dX1_layOutKind_94 ?_
              refine lv_aload_n hx hb dX1_layOutKind_97 rfl (lv_at hl 2 rfl) ?_
              refine va_get (D := D) (ci := 1) (v := .ref a_numbers) (C := RX1) (T := TX1) (N := 11) hx hb hT hiX1 hown hK hP 0 rfl rfl 0 (by decide) (hT _ k_260) (fun _ h9 => h9) rfl dX1_layOutKind_98 ?_
              refine lv_iload_n hx hb dX1_layOutKind_101 rfl (lv_at hl 3 rfl) ?_
              refine iv_iald hx hb hK hP 1 0 rfl rfl (f := nb) (by omega) (by omega) dX1_layOutKind_102 ?_
              refine iv_iconst hx hb dX1_layOutKind_103 ?_
              refine iv_iadd hx hb dX1_layOutKind_104 ?_
              refine iv_imul hx hb dX1_layOutKind_105 ?_
              refine va_put (D := D) (ci := 1) (v := .int (iN (hp * (nb ap + 1)))) (ty := .int) (C := RX1) (T := TX1) (N := 11) hx hb hT hiX1 tyX1 tyX1_ok nmX1 hown hK hP hD hS 0 rfl rfl 8 (by decide) (hT _ k_268) (fun _ h9 => h9) rfl (by decide +kernel) rfl rfl (Nat.le_of_ble_eq_true rfl) dX1_layOutKind_106 (fun H locs hP hD hS => ?_)
              have hP : va_P D vwCl [(h, .inr (1, [.ref a_numbers, .ref a_place, .ref a_length, .ref a_cost, .ref a_step, v_digit, v_different, .int (iN nk), .int (iN (hp * (nb ap + 1))), v_fresh, v_v])), (a_numbers, .inl (cI, 402, .inl (ar nb))), (a_place, .inl (cI, 30, .inl (ar (uI pl nk ap)))), (a_length, .inl (cI, 30, .inl (ar (uI lg nk (ap - (201 + 0)))))), (a_cost, .inl (cI, 30, .inl (ar (uI co nk 8)))), (a_step, .inl (cI, 30, .inl (ar (uI sp nk hp))))] H := hP
              have hD : va_D A [(h, .inr (1, [.ref a_numbers, .ref a_place, .ref a_length, .ref a_cost, .ref a_step, v_digit, v_different, .int (iN nk), .int (iN (hp * (nb ap + 1))), v_fresh, v_v])), (a_numbers, .inl (cI, 402, .inl (ar nb))), (a_place, .inl (cI, 30, .inl (ar (uI pl nk ap)))), (a_length, .inl (cI, 30, .inl (ar (uI lg nk (ap - (201 + 0)))))), (a_cost, .inl (cI, 30, .inl (ar (uI co nk 8)))), (a_step, .inl (cI, 30, .inl (ar (uI sp nk hp))))] := hD
              refine lv_aload_n hx hb dX1_layOutKind_109 rfl (lv_at hl 2 rfl) ?_
              refine lv_dup hx hb dX1_layOutKind_110 rfl ?_
              refine va_get (D := D) (ci := 1) (v := .int (iN nk)) (C := RX1) (T := TX1) (N := 11) hx hb hT hiX1 hown hK hP 0 rfl rfl 7 (by decide) (hT _ k_267) (fun _ h9 => h9) rfl dX1_layOutKind_111 ?_
              refine iv_iconst hx hb dX1_layOutKind_114 ?_
              refine iv_iadd hx hb dX1_layOutKind_115 ?_
              refine va_put (D := D) (ci := 1) (v := .int (iN (nk + 1))) (ty := .int) (C := RX1) (T := TX1) (N := 11) hx hb hT hiX1 tyX1 tyX1_ok nmX1 hown hK hP hD hS 0 rfl rfl 7 (by decide) (hT _ k_267) (fun _ h9 => h9) rfl (by decide +kernel) rfl rfl (Nat.le_of_ble_eq_true rfl) dX1_layOutKind_116 (fun H locs hP hD hS => ?_)
              have hP : va_P D vwCl [(h, .inr (1, [.ref a_numbers, .ref a_place, .ref a_length, .ref a_cost, .ref a_step, v_digit, v_different, .int (iN (nk + 1)), .int (iN (hp * (nb ap + 1))), v_fresh, v_v])), (a_numbers, .inl (cI, 402, .inl (ar nb))), (a_place, .inl (cI, 30, .inl (ar (uI pl nk ap)))), (a_length, .inl (cI, 30, .inl (ar (uI lg nk (ap - (201 + 0)))))), (a_cost, .inl (cI, 30, .inl (ar (uI co nk 8)))), (a_step, .inl (cI, 30, .inl (ar (uI sp nk hp))))] H := hP
              have hD : va_D A [(h, .inr (1, [.ref a_numbers, .ref a_place, .ref a_length, .ref a_cost, .ref a_step, v_digit, v_different, .int (iN (nk + 1)), .int (iN (hp * (nb ap + 1))), v_fresh, v_v])), (a_numbers, .inl (cI, 402, .inl (ar nb))), (a_place, .inl (cI, 30, .inl (ar (uI pl nk ap)))), (a_length, .inl (cI, 30, .inl (ar (uI lg nk (ap - (201 + 0)))))), (a_cost, .inl (cI, 30, .inl (ar (uI co nk 8)))), (a_step, .inl (cI, 30, .inl (ar (uI sp nk hp))))] := hD
              exact iv_vret hx hb hr hlocks dX1_layOutKind_119 (by omega) (by omega) (uI lg nk (ap - (201 + 0)), uI co nk 8) (by first | (exfalso; omega) | (have el : (ap - (201 + 0)) = lgP ap := (by unfold lgP; split <;> omega); have ec : 8 = cst (lgP ap) (riP ap) := (by unfold cst riP lgP; (repeat' split) <;> omega); exact ⟨by rw [← el], by rw [← ec]⟩)) (by exact hP.sub [0, 1, 2, 3, 4, 5] rfl) (by exact hD.sub [0, 1, 2, 3, 4, 5] (by decide) rfl) hS
          · refine iv_iconst hx hb dX1_layOutKind_64 ?_
            refine lv_goto (tgt := 78) hx hb dX1_layOutKind_65 (by decide) ?_
            refine iv_iast hx hb hK hP hD hS 4 0 rfl rfl (f := co) (by omega) (by omega) dX1_layOutKind_78 (fun H locs hP hD hS => ?_)
            have hP : va_P D vwCl [(h, .inr (1, [.ref a_numbers, .ref a_place, .ref a_length, .ref a_cost, .ref a_step, v_digit, v_different, .int (iN nk), .int (iN hp), v_fresh, v_v])), (a_numbers, .inl (cI, 402, .inl (ar nb))), (a_place, .inl (cI, 30, .inl (ar (uI pl nk ap)))), (a_length, .inl (cI, 30, .inl (ar (uI lg nk (ap - (201 + 0)))))), (a_cost, .inl (cI, 30, .inl (ar (uI co nk 0)))), (a_step, .inl (cI, 30, .inl (ar sp)))] H := hP
            have hD : va_D A [(h, .inr (1, [.ref a_numbers, .ref a_place, .ref a_length, .ref a_cost, .ref a_step, v_digit, v_different, .int (iN nk), .int (iN hp), v_fresh, v_v])), (a_numbers, .inl (cI, 402, .inl (ar nb))), (a_place, .inl (cI, 30, .inl (ar (uI pl nk ap)))), (a_length, .inl (cI, 30, .inl (ar (uI lg nk (ap - (201 + 0)))))), (a_cost, .inl (cI, 30, .inl (ar (uI co nk 0)))), (a_step, .inl (cI, 30, .inl (ar sp)))] := hD
            refine lv_aload_n hx hb dX1_layOutKind_79 rfl (lv_at hl 2 rfl) ?_
            refine va_get (D := D) (ci := 1) (v := .ref a_step) (C := RX1) (T := TX1) (N := 11) hx hb hT hiX1 hown hK hP 0 rfl rfl 4 (by decide) (hT _ k_264) (fun _ h9 => h9) rfl dX1_layOutKind_80 ?_
            refine lv_aload_n hx hb dX1_layOutKind_83 rfl (lv_at hl 2 rfl) ?_
            refine va_get (D := D) (ci := 1) (v := .int (iN nk)) (C := RX1) (T := TX1) (N := 11) hx hb hT hiX1 hown hK hP 0 rfl rfl 7 (by decide) (hT _ k_267) (fun _ h9 => h9) rfl dX1_layOutKind_84 ?_
            refine lv_aload_n hx hb dX1_layOutKind_87 rfl (lv_at hl 2 rfl) ?_
            refine va_get (D := D) (ci := 1) (v := .int (iN hp)) (C := RX1) (T := TX1) (N := 11) hx hb hT hiX1 hown hK hP 0 rfl rfl 8 (by decide) (hT _ k_268) (fun _ h9 => h9) rfl dX1_layOutKind_88 ?_
            refine iv_iast hx hb hK hP hD hS 5 0 rfl rfl (f := sp) (by omega) (by omega) dX1_layOutKind_91 (fun H locs hP hD hS => ?_)
            have hP : va_P D vwCl [(h, .inr (1, [.ref a_numbers, .ref a_place, .ref a_length, .ref a_cost, .ref a_step, v_digit, v_different, .int (iN nk), .int (iN hp), v_fresh, v_v])), (a_numbers, .inl (cI, 402, .inl (ar nb))), (a_place, .inl (cI, 30, .inl (ar (uI pl nk ap)))), (a_length, .inl (cI, 30, .inl (ar (uI lg nk (ap - (201 + 0)))))), (a_cost, .inl (cI, 30, .inl (ar (uI co nk 0)))), (a_step, .inl (cI, 30, .inl (ar (uI sp nk hp))))] H := hP
            have hD : va_D A [(h, .inr (1, [.ref a_numbers, .ref a_place, .ref a_length, .ref a_cost, .ref a_step, v_digit, v_different, .int (iN nk), .int (iN hp), v_fresh, v_v])), (a_numbers, .inl (cI, 402, .inl (ar nb))), (a_place, .inl (cI, 30, .inl (ar (uI pl nk ap)))), (a_length, .inl (cI, 30, .inl (ar (uI lg nk (ap - (201 + 0)))))), (a_cost, .inl (cI, 30, .inl (ar (uI co nk 0)))), (a_step, .inl (cI, 30, .inl (ar (uI sp nk hp))))] := hD
            refine lv_aload_n hx hb dX1_layOutKind_92 rfl (lv_at hl 2 rfl) ?_
            refine lv_dup hx hb dX1_layOutKind_93 rfl ?_
            refine va_get (D := D) (ci := 1) (v := .int (iN hp)) (C := RX1) (T := TX1) (N := 11) hx hb hT hiX1 hown hK hP 0 rfl rfl 8 (by decide) (hT _ k_268) (fun _ h9 => h9) rfl dX1_layOutKind_94 ?_
            refine lv_aload_n hx hb dX1_layOutKind_97 rfl (lv_at hl 2 rfl) ?_
            refine va_get (D := D) (ci := 1) (v := .ref a_numbers) (C := RX1) (T := TX1) (N := 11) hx hb hT hiX1 hown hK hP 0 rfl rfl 0 (by decide) (hT _ k_260) (fun _ h9 => h9) rfl dX1_layOutKind_98 ?_
            refine lv_iload_n hx hb dX1_layOutKind_101 rfl (lv_at hl 3 rfl) ?_
            refine iv_iald hx hb hK hP 1 0 rfl rfl (f := nb) (by omega) (by omega) dX1_layOutKind_102 ?_
            refine iv_iconst hx hb dX1_layOutKind_103 ?_
            refine iv_iadd hx hb dX1_layOutKind_104 ?_
            refine iv_imul hx hb dX1_layOutKind_105 ?_
            refine va_put (D := D) (ci := 1) (v := .int (iN (hp * (nb ap + 1)))) (ty := .int) (C := RX1) (T := TX1) (N := 11) hx hb hT hiX1 tyX1 tyX1_ok nmX1 hown hK hP hD hS 0 rfl rfl 8 (by decide) (hT _ k_268) (fun _ h9 => h9) rfl (by decide +kernel) rfl rfl (Nat.le_of_ble_eq_true rfl) dX1_layOutKind_106 (fun H locs hP hD hS => ?_)
            have hP : va_P D vwCl [(h, .inr (1, [.ref a_numbers, .ref a_place, .ref a_length, .ref a_cost, .ref a_step, v_digit, v_different, .int (iN nk), .int (iN (hp * (nb ap + 1))), v_fresh, v_v])), (a_numbers, .inl (cI, 402, .inl (ar nb))), (a_place, .inl (cI, 30, .inl (ar (uI pl nk ap)))), (a_length, .inl (cI, 30, .inl (ar (uI lg nk (ap - (201 + 0)))))), (a_cost, .inl (cI, 30, .inl (ar (uI co nk 0)))), (a_step, .inl (cI, 30, .inl (ar (uI sp nk hp))))] H := hP
            have hD : va_D A [(h, .inr (1, [.ref a_numbers, .ref a_place, .ref a_length, .ref a_cost, .ref a_step, v_digit, v_different, .int (iN nk), .int (iN (hp * (nb ap + 1))), v_fresh, v_v])), (a_numbers, .inl (cI, 402, .inl (ar nb))), (a_place, .inl (cI, 30, .inl (ar (uI pl nk ap)))), (a_length, .inl (cI, 30, .inl (ar (uI lg nk (ap - (201 + 0)))))), (a_cost, .inl (cI, 30, .inl (ar (uI co nk 0)))), (a_step, .inl (cI, 30, .inl (ar (uI sp nk hp))))] := hD
            refine lv_aload_n hx hb dX1_layOutKind_109 rfl (lv_at hl 2 rfl) ?_
            refine lv_dup hx hb dX1_layOutKind_110 rfl ?_
            refine va_get (D := D) (ci := 1) (v := .int (iN nk)) (C := RX1) (T := TX1) (N := 11) hx hb hT hiX1 hown hK hP 0 rfl rfl 7 (by decide) (hT _ k_267) (fun _ h9 => h9) rfl dX1_layOutKind_111 ?_
            refine iv_iconst hx hb dX1_layOutKind_114 ?_
            refine iv_iadd hx hb dX1_layOutKind_115 ?_
            refine va_put (D := D) (ci := 1) (v := .int (iN (nk + 1))) (ty := .int) (C := RX1) (T := TX1) (N := 11) hx hb hT hiX1 tyX1 tyX1_ok nmX1 hown hK hP hD hS 0 rfl rfl 7 (by decide) (hT _ k_267) (fun _ h9 => h9) rfl (by decide +kernel) rfl rfl (Nat.le_of_ble_eq_true rfl) dX1_layOutKind_116 (fun H locs hP hD hS => ?_)
            have hP : va_P D vwCl [(h, .inr (1, [.ref a_numbers, .ref a_place, .ref a_length, .ref a_cost, .ref a_step, v_digit, v_different, .int (iN (nk + 1)), .int (iN (hp * (nb ap + 1))), v_fresh, v_v])), (a_numbers, .inl (cI, 402, .inl (ar nb))), (a_place, .inl (cI, 30, .inl (ar (uI pl nk ap)))), (a_length, .inl (cI, 30, .inl (ar (uI lg nk (ap - (201 + 0)))))), (a_cost, .inl (cI, 30, .inl (ar (uI co nk 0)))), (a_step, .inl (cI, 30, .inl (ar (uI sp nk hp))))] H := hP
            have hD : va_D A [(h, .inr (1, [.ref a_numbers, .ref a_place, .ref a_length, .ref a_cost, .ref a_step, v_digit, v_different, .int (iN (nk + 1)), .int (iN (hp * (nb ap + 1))), v_fresh, v_v])), (a_numbers, .inl (cI, 402, .inl (ar nb))), (a_place, .inl (cI, 30, .inl (ar (uI pl nk ap)))), (a_length, .inl (cI, 30, .inl (ar (uI lg nk (ap - (201 + 0)))))), (a_cost, .inl (cI, 30, .inl (ar (uI co nk 0)))), (a_step, .inl (cI, 30, .inl (ar (uI sp nk hp))))] := hD
            exact iv_vret hx hb hr hlocks dX1_layOutKind_119 (by omega) (by omega) (uI lg nk (ap - (201 + 0)), uI co nk 0) (by first | (exfalso; omega) | (have el : (ap - (201 + 0)) = lgP ap := (by unfold lgP; split <;> omega); have ec : 0 = cst (lgP ap) (riP ap) := (by unfold cst riP lgP; (repeat' split) <;> omega); exact ⟨by rw [← el], by rw [← ec]⟩)) (by exact hP.sub [0, 1, 2, 3, 4, 5] rfl) (by exact hD.sub [0, 1, 2, 3, 4, 5] (by decide) rfl) hS
  · refine lv_istore_n (lv' := [(2, .int (iN 0)), (0, .ref h), (1, .int (iN ap))]) hx hb dX1_layOutKind_5 rfl hl (by decide) rfl (fun ls hl => ?_)
    refine lv_iload_n hx hb dX1_layOutKind_6 rfl (lv_at hl 0 rfl) ?_
    refine iv_if_eq (tgt := 21) hx hb dX1_layOutKind_7 (by decide) (by omega) (fun c7 => ?_) (fun c7 => ?_)
    · refine lv_iload_n hx hb dX1_layOutKind_21 rfl (lv_at hl 2 rfl) ?_
      refine lv_istore_n (lv' := [(3, .int (iN ap)), (2, .int (iN 0)), (0, .ref h), (1, .int (iN ap))]) hx hb dX1_layOutKind_22 rfl hl (by decide) rfl (fun ls hl => ?_)
      refine lv_aload_n hx hb dX1_layOutKind_23 rfl (lv_at hl 2 rfl) ?_
      refine va_get (D := D) (ci := 1) (v := .ref a_place) (C := RX1) (T := TX1) (N := 11) hx hb hT hiX1 hown hK hP 0 rfl rfl 1 (by decide) (hT _ k_261) (fun _ h9 => h9) rfl dX1_layOutKind_24 ?_
      refine lv_aload_n hx hb dX1_layOutKind_27 rfl (lv_at hl 2 rfl) ?_
      refine va_get (D := D) (ci := 1) (v := .int (iN nk)) (C := RX1) (T := TX1) (N := 11) hx hb hT hiX1 hown hK hP 0 rfl rfl 7 (by decide) (hT _ k_267) (fun _ h9 => h9) rfl dX1_layOutKind_28 ?_
      refine lv_iload_n hx hb dX1_layOutKind_31 rfl (lv_at hl 3 rfl) ?_
      refine iv_iast hx hb hK hP hD hS 2 0 rfl rfl (f := pl) (by omega) (by omega) dX1_layOutKind_32 (fun H locs hP hD hS => ?_)
      have hP : va_P D vwCl [(h, .inr (1, [.ref a_numbers, .ref a_place, .ref a_length, .ref a_cost, .ref a_step, v_digit, v_different, .int (iN nk), .int (iN hp), v_fresh, v_v])), (a_numbers, .inl (cI, 402, .inl (ar nb))), (a_place, .inl (cI, 30, .inl (ar (uI pl nk ap)))), (a_length, .inl (cI, 30, .inl (ar lg))), (a_cost, .inl (cI, 30, .inl (ar co))), (a_step, .inl (cI, 30, .inl (ar sp)))] H := hP
      have hD : va_D A [(h, .inr (1, [.ref a_numbers, .ref a_place, .ref a_length, .ref a_cost, .ref a_step, v_digit, v_different, .int (iN nk), .int (iN hp), v_fresh, v_v])), (a_numbers, .inl (cI, 402, .inl (ar nb))), (a_place, .inl (cI, 30, .inl (ar (uI pl nk ap)))), (a_length, .inl (cI, 30, .inl (ar lg))), (a_cost, .inl (cI, 30, .inl (ar co))), (a_step, .inl (cI, 30, .inl (ar sp)))] := hD
      refine lv_aload_n hx hb dX1_layOutKind_33 rfl (lv_at hl 2 rfl) ?_
      refine va_get (D := D) (ci := 1) (v := .ref a_length) (C := RX1) (T := TX1) (N := 11) hx hb hT hiX1 hown hK hP 0 rfl rfl 2 (by decide) (hT _ k_262) (fun _ h9 => h9) rfl dX1_layOutKind_34 ?_
      refine lv_aload_n hx hb dX1_layOutKind_37 rfl (lv_at hl 2 rfl) ?_
      refine va_get (D := D) (ci := 1) (v := .int (iN nk)) (C := RX1) (T := TX1) (N := 11) hx hb hT hiX1 hown hK hP 0 rfl rfl 7 (by decide) (hT _ k_267) (fun _ h9 => h9) rfl dX1_layOutKind_38 ?_
      refine lv_iload_n hx hb dX1_layOutKind_41 rfl (lv_at hl 0 rfl) ?_
      refine iv_iast hx hb hK hP hD hS 3 0 rfl rfl (f := lg) (by omega) (by omega) dX1_layOutKind_42 (fun H locs hP hD hS => ?_)
      have hP : va_P D vwCl [(h, .inr (1, [.ref a_numbers, .ref a_place, .ref a_length, .ref a_cost, .ref a_step, v_digit, v_different, .int (iN nk), .int (iN hp), v_fresh, v_v])), (a_numbers, .inl (cI, 402, .inl (ar nb))), (a_place, .inl (cI, 30, .inl (ar (uI pl nk ap)))), (a_length, .inl (cI, 30, .inl (ar (uI lg nk ap)))), (a_cost, .inl (cI, 30, .inl (ar co))), (a_step, .inl (cI, 30, .inl (ar sp)))] H := hP
      have hD : va_D A [(h, .inr (1, [.ref a_numbers, .ref a_place, .ref a_length, .ref a_cost, .ref a_step, v_digit, v_different, .int (iN nk), .int (iN hp), v_fresh, v_v])), (a_numbers, .inl (cI, 402, .inl (ar nb))), (a_place, .inl (cI, 30, .inl (ar (uI pl nk ap)))), (a_length, .inl (cI, 30, .inl (ar (uI lg nk ap)))), (a_cost, .inl (cI, 30, .inl (ar co))), (a_step, .inl (cI, 30, .inl (ar sp)))] := hD
      refine lv_aload_n hx hb dX1_layOutKind_43 rfl (lv_at hl 2 rfl) ?_
      refine va_get (D := D) (ci := 1) (v := .ref a_cost) (C := RX1) (T := TX1) (N := 11) hx hb hT hiX1 hown hK hP 0 rfl rfl 3 (by decide) (hT _ k_263) (fun _ h9 => h9) rfl dX1_layOutKind_44 ?_
      refine lv_aload_n hx hb dX1_layOutKind_47 rfl (lv_at hl 2 rfl) ?_
      refine va_get (D := D) (ci := 1) (v := .int (iN nk)) (C := RX1) (T := TX1) (N := 11) hx hb hT hiX1 hown hK hP 0 rfl rfl 7 (by decide) (hT _ k_267) (fun _ h9 => h9) rfl dX1_layOutKind_48 ?_
      refine lv_iload_n hx hb dX1_layOutKind_51 rfl (lv_at hl 0 rfl) ?_
      refine lv_iload_n hx hb dX1_layOutKind_52 rfl (lv_at hl 1 rfl) ?_
      refine iv_if_eq (tgt := 60) hx hb dX1_layOutKind_53 (by decide) (by omega) (fun c53 => ?_) (fun c53 => ?_)
      · refine iv_iconst hx hb dX1_layOutKind_60 ?_
        refine iv_icmp_ge (tgt := 68) hx hb dX1_layOutKind_61 (by decide) (by omega) (by omega) (fun c61 => ?_) (fun c61 => ?_)
        · refine lv_iload_n hx hb dX1_layOutKind_68 rfl (lv_at hl 1 rfl) ?_
          refine iv_if_eq (tgt := 77) hx hb dX1_layOutKind_69 (by decide) (by omega) (fun c69 => ?_) (fun c69 => ?_)
          · refine iv_iconst hx hb dX1_layOutKind_77 ?_
            refine iv_iast hx hb hK hP hD hS 4 0 rfl rfl (f := co) (by omega) (by omega) dX1_layOutKind_78 (fun H locs hP hD hS => ?_)
            have hP : va_P D vwCl [(h, .inr (1, [.ref a_numbers, .ref a_place, .ref a_length, .ref a_cost, .ref a_step, v_digit, v_different, .int (iN nk), .int (iN hp), v_fresh, v_v])), (a_numbers, .inl (cI, 402, .inl (ar nb))), (a_place, .inl (cI, 30, .inl (ar (uI pl nk ap)))), (a_length, .inl (cI, 30, .inl (ar (uI lg nk ap)))), (a_cost, .inl (cI, 30, .inl (ar (uI co nk 4)))), (a_step, .inl (cI, 30, .inl (ar sp)))] H := hP
            have hD : va_D A [(h, .inr (1, [.ref a_numbers, .ref a_place, .ref a_length, .ref a_cost, .ref a_step, v_digit, v_different, .int (iN nk), .int (iN hp), v_fresh, v_v])), (a_numbers, .inl (cI, 402, .inl (ar nb))), (a_place, .inl (cI, 30, .inl (ar (uI pl nk ap)))), (a_length, .inl (cI, 30, .inl (ar (uI lg nk ap)))), (a_cost, .inl (cI, 30, .inl (ar (uI co nk 4)))), (a_step, .inl (cI, 30, .inl (ar sp)))] := hD
            refine lv_aload_n hx hb dX1_layOutKind_79 rfl (lv_at hl 2 rfl) ?_
            refine va_get (D := D) (ci := 1) (v := .ref a_step) (C := RX1) (T := TX1) (N := 11) hx hb hT hiX1 hown hK hP 0 rfl rfl 4 (by decide) (hT _ k_264) (fun _ h9 => h9) rfl dX1_layOutKind_80 ?_
            refine lv_aload_n hx hb dX1_layOutKind_83 rfl (lv_at hl 2 rfl) ?_
            refine va_get (D := D) (ci := 1) (v := .int (iN nk)) (C := RX1) (T := TX1) (N := 11) hx hb hT hiX1 hown hK hP 0 rfl rfl 7 (by decide) (hT _ k_267) (fun _ h9 => h9) rfl dX1_layOutKind_84 ?_
            refine lv_aload_n hx hb dX1_layOutKind_87 rfl (lv_at hl 2 rfl) ?_
            refine va_get (D := D) (ci := 1) (v := .int (iN hp)) (C := RX1) (T := TX1) (N := 11) hx hb hT hiX1 hown hK hP 0 rfl rfl 8 (by decide) (hT _ k_268) (fun _ h9 => h9) rfl dX1_layOutKind_88 ?_
            refine iv_iast hx hb hK hP hD hS 5 0 rfl rfl (f := sp) (by omega) (by omega) dX1_layOutKind_91 (fun H locs hP hD hS => ?_)
            have hP : va_P D vwCl [(h, .inr (1, [.ref a_numbers, .ref a_place, .ref a_length, .ref a_cost, .ref a_step, v_digit, v_different, .int (iN nk), .int (iN hp), v_fresh, v_v])), (a_numbers, .inl (cI, 402, .inl (ar nb))), (a_place, .inl (cI, 30, .inl (ar (uI pl nk ap)))), (a_length, .inl (cI, 30, .inl (ar (uI lg nk ap)))), (a_cost, .inl (cI, 30, .inl (ar (uI co nk 4)))), (a_step, .inl (cI, 30, .inl (ar (uI sp nk hp))))] H := hP
            have hD : va_D A [(h, .inr (1, [.ref a_numbers, .ref a_place, .ref a_length, .ref a_cost, .ref a_step, v_digit, v_different, .int (iN nk), .int (iN hp), v_fresh, v_v])), (a_numbers, .inl (cI, 402, .inl (ar nb))), (a_place, .inl (cI, 30, .inl (ar (uI pl nk ap)))), (a_length, .inl (cI, 30, .inl (ar (uI lg nk ap)))), (a_cost, .inl (cI, 30, .inl (ar (uI co nk 4)))), (a_step, .inl (cI, 30, .inl (ar (uI sp nk hp))))] := hD
            refine lv_aload_n hx hb dX1_layOutKind_92 rfl (lv_at hl 2 rfl) ?_
            refine lv_dup hx hb dX1_layOutKind_93 rfl ?_
            refine va_get (D := D) (ci := 1) (v := .int (iN hp)) (C := RX1) (T := TX1) (N := 11) hx hb hT hiX1 hown hK hP 0 rfl rfl 8 (by decide) (hT _ k_268) (fun _ h9 => h9) rfl dX1_layOutKind_94 ?_
            refine lv_aload_n hx hb dX1_layOutKind_97 rfl (lv_at hl 2 rfl) ?_
            refine va_get (D := D) (ci := 1) (v := .ref a_numbers) (C := RX1) (T := TX1) (N := 11) hx hb hT hiX1 hown hK hP 0 rfl rfl 0 (by decide) (hT _ k_260) (fun _ h9 => h9) rfl dX1_layOutKind_98 ?_
            refine lv_iload_n hx hb dX1_layOutKind_101 rfl (lv_at hl 3 rfl) ?_
            refine iv_iald hx hb hK hP 1 0 rfl rfl (f := nb) (by omega) (by omega) dX1_layOutKind_102 ?_
            refine iv_iconst hx hb dX1_layOutKind_103 ?_
            refine iv_iadd hx hb dX1_layOutKind_104 ?_
            refine iv_imul hx hb dX1_layOutKind_105 ?_
            refine va_put (D := D) (ci := 1) (v := .int (iN (hp * (nb ap + 1)))) (ty := .int) (C := RX1) (T := TX1) (N := 11) hx hb hT hiX1 tyX1 tyX1_ok nmX1 hown hK hP hD hS 0 rfl rfl 8 (by decide) (hT _ k_268) (fun _ h9 => h9) rfl (by decide +kernel) rfl rfl (Nat.le_of_ble_eq_true rfl) dX1_layOutKind_106 (fun H locs hP hD hS => ?_)
            have hP : va_P D vwCl [(h, .inr (1, [.ref a_numbers, .ref a_place, .ref a_length, .ref a_cost, .ref a_step, v_digit, v_different, .int (iN nk), .int (iN (hp * (nb ap + 1))), v_fresh, v_v])), (a_numbers, .inl (cI, 402, .inl (ar nb))), (a_place, .inl (cI, 30, .inl (ar (uI pl nk ap)))), (a_length, .inl (cI, 30, .inl (ar (uI lg nk ap)))), (a_cost, .inl (cI, 30, .inl (ar (uI co nk 4)))), (a_step, .inl (cI, 30, .inl (ar (uI sp nk hp))))] H := hP
            have hD : va_D A [(h, .inr (1, [.ref a_numbers, .ref a_place, .ref a_length, .ref a_cost, .ref a_step, v_digit, v_different, .int (iN nk), .int (iN (hp * (nb ap + 1))), v_fresh, v_v])), (a_numbers, .inl (cI, 402, .inl (ar nb))), (a_place, .inl (cI, 30, .inl (ar (uI pl nk ap)))), (a_length, .inl (cI, 30, .inl (ar (uI lg nk ap)))), (a_cost, .inl (cI, 30, .inl (ar (uI co nk 4)))), (a_step, .inl (cI, 30, .inl (ar (uI sp nk hp))))] := hD
            refine lv_aload_n hx hb dX1_layOutKind_109 rfl (lv_at hl 2 rfl) ?_
            refine lv_dup hx hb dX1_layOutKind_110 rfl ?_
            refine va_get (D := D) (ci := 1) (v := .int (iN nk)) (C := RX1) (T := TX1) (N := 11) hx hb hT hiX1 hown hK hP 0 rfl rfl 7 (by decide) (hT _ k_267) (fun _ h9 => h9) rfl dX1_layOutKind_111 ?_
            refine iv_iconst hx hb dX1_layOutKind_114 ?_
            refine iv_iadd hx hb dX1_layOutKind_115 ?_
            refine va_put (D := D) (ci := 1) (v := .int (iN (nk + 1))) (ty := .int) (C := RX1) (T := TX1) (N := 11) hx hb hT hiX1 tyX1 tyX1_ok nmX1 hown hK hP hD hS 0 rfl rfl 7 (by decide) (hT _ k_267) (fun _ h9 => h9) rfl (by decide +kernel) rfl rfl (Nat.le_of_ble_eq_true rfl) dX1_layOutKind_116 (fun H locs hP hD hS => ?_)
            have hP : va_P D vwCl [(h, .inr (1, [.ref a_numbers, .ref a_place, .ref a_length, .ref a_cost, .ref a_step, v_digit, v_different, .int (iN (nk + 1)), .int (iN (hp * (nb ap + 1))), v_fresh, v_v])), (a_numbers, .inl (cI, 402, .inl (ar nb))), (a_place, .inl (cI, 30, .inl (ar (uI pl nk ap)))), (a_length, .inl (cI, 30, .inl (ar (uI lg nk ap)))), (a_cost, .inl (cI, 30, .inl (ar (uI co nk 4)))), (a_step, .inl (cI, 30, .inl (ar (uI sp nk hp))))] H := hP
            have hD : va_D A [(h, .inr (1, [.ref a_numbers, .ref a_place, .ref a_length, .ref a_cost, .ref a_step, v_digit, v_different, .int (iN (nk + 1)), .int (iN (hp * (nb ap + 1))), v_fresh, v_v])), (a_numbers, .inl (cI, 402, .inl (ar nb))), (a_place, .inl (cI, 30, .inl (ar (uI pl nk ap)))), (a_length, .inl (cI, 30, .inl (ar (uI lg nk ap)))), (a_cost, .inl (cI, 30, .inl (ar (uI co nk 4)))), (a_step, .inl (cI, 30, .inl (ar (uI sp nk hp))))] := hD
            exact iv_vret hx hb hr hlocks dX1_layOutKind_119 (by omega) (by omega) (uI lg nk ap, uI co nk 4) (by first | (exfalso; omega) | (have el : ap = lgP ap := (by unfold lgP; split <;> omega); have ec : 4 = cst (lgP ap) (riP ap) := (by unfold cst riP lgP; (repeat' split) <;> omega); exact ⟨by rw [← el], by rw [← ec]⟩)) (by exact hP.sub [0, 1, 2, 3, 4, 5] rfl) (by exact hD.sub [0, 1, 2, 3, 4, 5] (by decide) rfl) hS
          · exact absurd c69 (by decide)
        · refine iv_iconst hx hb dX1_layOutKind_64 ?_
          refine lv_goto (tgt := 78) hx hb dX1_layOutKind_65 (by decide) ?_
          refine iv_iast hx hb hK hP hD hS 4 0 rfl rfl (f := co) (by omega) (by omega) dX1_layOutKind_78 (fun H locs hP hD hS => ?_)
          have hP : va_P D vwCl [(h, .inr (1, [.ref a_numbers, .ref a_place, .ref a_length, .ref a_cost, .ref a_step, v_digit, v_different, .int (iN nk), .int (iN hp), v_fresh, v_v])), (a_numbers, .inl (cI, 402, .inl (ar nb))), (a_place, .inl (cI, 30, .inl (ar (uI pl nk ap)))), (a_length, .inl (cI, 30, .inl (ar (uI lg nk ap)))), (a_cost, .inl (cI, 30, .inl (ar (uI co nk 0)))), (a_step, .inl (cI, 30, .inl (ar sp)))] H := hP
          have hD : va_D A [(h, .inr (1, [.ref a_numbers, .ref a_place, .ref a_length, .ref a_cost, .ref a_step, v_digit, v_different, .int (iN nk), .int (iN hp), v_fresh, v_v])), (a_numbers, .inl (cI, 402, .inl (ar nb))), (a_place, .inl (cI, 30, .inl (ar (uI pl nk ap)))), (a_length, .inl (cI, 30, .inl (ar (uI lg nk ap)))), (a_cost, .inl (cI, 30, .inl (ar (uI co nk 0)))), (a_step, .inl (cI, 30, .inl (ar sp)))] := hD
          refine lv_aload_n hx hb dX1_layOutKind_79 rfl (lv_at hl 2 rfl) ?_
          refine va_get (D := D) (ci := 1) (v := .ref a_step) (C := RX1) (T := TX1) (N := 11) hx hb hT hiX1 hown hK hP 0 rfl rfl 4 (by decide) (hT _ k_264) (fun _ h9 => h9) rfl dX1_layOutKind_80 ?_
          refine lv_aload_n hx hb dX1_layOutKind_83 rfl (lv_at hl 2 rfl) ?_
          refine va_get (D := D) (ci := 1) (v := .int (iN nk)) (C := RX1) (T := TX1) (N := 11) hx hb hT hiX1 hown hK hP 0 rfl rfl 7 (by decide) (hT _ k_267) (fun _ h9 => h9) rfl dX1_layOutKind_84 ?_
          refine lv_aload_n hx hb dX1_layOutKind_87 rfl (lv_at hl 2 rfl) ?_
          refine va_get (D := D) (ci := 1) (v := .int (iN hp)) (C := RX1) (T := TX1) (N := 11) hx hb hT hiX1 hown hK hP 0 rfl rfl 8 (by decide) (hT _ k_268) (fun _ h9 => h9) rfl dX1_layOutKind_88 ?_
          refine iv_iast hx hb hK hP hD hS 5 0 rfl rfl (f := sp) (by omega) (by omega) dX1_layOutKind_91 (fun H locs hP hD hS => ?_)
          have hP : va_P D vwCl [(h, .inr (1, [.ref a_numbers, .ref a_place, .ref a_length, .ref a_cost, .ref a_step, v_digit, v_different, .int (iN nk), .int (iN hp), v_fresh, v_v])), (a_numbers, .inl (cI, 402, .inl (ar nb))), (a_place, .inl (cI, 30, .inl (ar (uI pl nk ap)))), (a_length, .inl (cI, 30, .inl (ar (uI lg nk ap)))), (a_cost, .inl (cI, 30, .inl (ar (uI co nk 0)))), (a_step, .inl (cI, 30, .inl (ar (uI sp nk hp))))] H := hP
          have hD : va_D A [(h, .inr (1, [.ref a_numbers, .ref a_place, .ref a_length, .ref a_cost, .ref a_step, v_digit, v_different, .int (iN nk), .int (iN hp), v_fresh, v_v])), (a_numbers, .inl (cI, 402, .inl (ar nb))), (a_place, .inl (cI, 30, .inl (ar (uI pl nk ap)))), (a_length, .inl (cI, 30, .inl (ar (uI lg nk ap)))), (a_cost, .inl (cI, 30, .inl (ar (uI co nk 0)))), (a_step, .inl (cI, 30, .inl (ar (uI sp nk hp))))] := hD
          refine lv_aload_n hx hb dX1_layOutKind_92 rfl (lv_at hl 2 rfl) ?_
          refine lv_dup hx hb dX1_layOutKind_93 rfl ?_
          refine va_get (D := D) (ci := 1) (v := .int (iN hp)) (C := RX1) (T := TX1) (N := 11) hx hb hT hiX1 hown hK hP 0 rfl rfl 8 (by decide) (hT _ k_268) (fun _ h9 => h9) rfl dX1_layOutKind_94 ?_
          refine lv_aload_n hx hb dX1_layOutKind_97 rfl (lv_at hl 2 rfl) ?_
          refine va_get (D := D) (ci := 1) (v := .ref a_numbers) (C := RX1) (T := TX1) (N := 11) hx hb hT hiX1 hown hK hP 0 rfl rfl 0 (by decide) (hT _ k_260) (fun _ h9 => h9) rfl dX1_layOutKind_98 ?_
          refine lv_iload_n hx hb dX1_layOutKind_101 rfl (lv_at hl 3 rfl) ?_
          refine iv_iald hx hb hK hP 1 0 rfl rfl (f := nb) (by omega) (by omega) dX1_layOutKind_102 ?_
          refine iv_iconst hx hb dX1_layOutKind_103 ?_
          refine iv_iadd hx hb dX1_layOutKind_104 ?_
          refine iv_imul hx hb dX1_layOutKind_105 ?_
          refine va_put (D := D) (ci := 1) (v := .int (iN (hp * (nb ap + 1)))) (ty := .int) (C := RX1) (T := TX1) (N := 11) hx hb hT hiX1 tyX1 tyX1_ok nmX1 hown hK hP hD hS 0 rfl rfl 8 (by decide) (hT _ k_268) (fun _ h9 => h9) rfl (by decide +kernel) rfl rfl (Nat.le_of_ble_eq_true rfl) dX1_layOutKind_106 (fun H locs hP hD hS => ?_)
          have hP : va_P D vwCl [(h, .inr (1, [.ref a_numbers, .ref a_place, .ref a_length, .ref a_cost, .ref a_step, v_digit, v_different, .int (iN nk), .int (iN (hp * (nb ap + 1))), v_fresh, v_v])), (a_numbers, .inl (cI, 402, .inl (ar nb))), (a_place, .inl (cI, 30, .inl (ar (uI pl nk ap)))), (a_length, .inl (cI, 30, .inl (ar (uI lg nk ap)))), (a_cost, .inl (cI, 30, .inl (ar (uI co nk 0)))), (a_step, .inl (cI, 30, .inl (ar (uI sp nk hp))))] H := hP
          have hD : va_D A [(h, .inr (1, [.ref a_numbers, .ref a_place, .ref a_length, .ref a_cost, .ref a_step, v_digit, v_different, .int (iN nk), .int (iN (hp * (nb ap + 1))), v_fresh, v_v])), (a_numbers, .inl (cI, 402, .inl (ar nb))), (a_place, .inl (cI, 30, .inl (ar (uI pl nk ap)))), (a_length, .inl (cI, 30, .inl (ar (uI lg nk ap)))), (a_cost, .inl (cI, 30, .inl (ar (uI co nk 0)))), (a_step, .inl (cI, 30, .inl (ar (uI sp nk hp))))] := hD
          refine lv_aload_n hx hb dX1_layOutKind_109 rfl (lv_at hl 2 rfl) ?_
          refine lv_dup hx hb dX1_layOutKind_110 rfl ?_
          refine va_get (D := D) (ci := 1) (v := .int (iN nk)) (C := RX1) (T := TX1) (N := 11) hx hb hT hiX1 hown hK hP 0 rfl rfl 7 (by decide) (hT _ k_267) (fun _ h9 => h9) rfl dX1_layOutKind_111 ?_
          refine iv_iconst hx hb dX1_layOutKind_114 ?_
          refine iv_iadd hx hb dX1_layOutKind_115 ?_
          refine va_put (D := D) (ci := 1) (v := .int (iN (nk + 1))) (ty := .int) (C := RX1) (T := TX1) (N := 11) hx hb hT hiX1 tyX1 tyX1_ok nmX1 hown hK hP hD hS 0 rfl rfl 7 (by decide) (hT _ k_267) (fun _ h9 => h9) rfl (by decide +kernel) rfl rfl (Nat.le_of_ble_eq_true rfl) dX1_layOutKind_116 (fun H locs hP hD hS => ?_)
          have hP : va_P D vwCl [(h, .inr (1, [.ref a_numbers, .ref a_place, .ref a_length, .ref a_cost, .ref a_step, v_digit, v_different, .int (iN (nk + 1)), .int (iN (hp * (nb ap + 1))), v_fresh, v_v])), (a_numbers, .inl (cI, 402, .inl (ar nb))), (a_place, .inl (cI, 30, .inl (ar (uI pl nk ap)))), (a_length, .inl (cI, 30, .inl (ar (uI lg nk ap)))), (a_cost, .inl (cI, 30, .inl (ar (uI co nk 0)))), (a_step, .inl (cI, 30, .inl (ar (uI sp nk hp))))] H := hP
          have hD : va_D A [(h, .inr (1, [.ref a_numbers, .ref a_place, .ref a_length, .ref a_cost, .ref a_step, v_digit, v_different, .int (iN (nk + 1)), .int (iN (hp * (nb ap + 1))), v_fresh, v_v])), (a_numbers, .inl (cI, 402, .inl (ar nb))), (a_place, .inl (cI, 30, .inl (ar (uI pl nk ap)))), (a_length, .inl (cI, 30, .inl (ar (uI lg nk ap)))), (a_cost, .inl (cI, 30, .inl (ar (uI co nk 0)))), (a_step, .inl (cI, 30, .inl (ar (uI sp nk hp))))] := hD
          exact iv_vret hx hb hr hlocks dX1_layOutKind_119 (by omega) (by omega) (uI lg nk ap, uI co nk 0) (by first | (exfalso; omega) | (have el : ap = lgP ap := (by unfold lgP; split <;> omega); have ec : 0 = cst (lgP ap) (riP ap) := (by unfold cst riP lgP; (repeat' split) <;> omega); exact ⟨by rw [← el], by rw [← ec]⟩)) (by exact hP.sub [0, 1, 2, 3, 4, 5] rfl) (by exact hD.sub [0, 1, 2, 3, 4, 5] (by decide) rfl) hS
      · exact absurd c53 (by decide)
    · exact absurd c7 (by decide)
set_option maxHeartbeats 4000000 in
set_option maxRecDepth 100000 in
theorem ok_X1_layOut (l : Launch) (D : va_G) (cI : ClassId) (h : Nat) (a_numbers : Nat) (a_place : Nat) (a_length : Nat) (a_cost : Nat) (a_step : Nat) (v_digit : Value) (v_different : Value) (v_fresh : Value) (v_v : Value) (nb : Int → Int) (pl : Int → Int) (lg : Int → Int) (co : Int → Int) (sp : Int → Int) (nk : Int) (hp : Int) (sz : Nat) (hnb : nbOK nb) : MetV l yX1_layOut (wd yX1_layOut cX1_layOut 2 none) ({ frames := 2, cells := 0, slots := 0, locals := 45 } : Room) [.ref h] D [(cI, .int)] [(h, .inr (1, [.ref a_numbers, .ref a_place, .ref a_length, .ref a_cost, .ref a_step, v_digit, v_different, .int (iN nk), .int (iN hp), v_fresh, v_v])), (a_numbers, .inl (cI, 402, .inl (ar nb))), (a_place, .inl (cI, 30, .inl (ar pl))), (a_length, .inl (cI, 30, .inl (ar lg))), (a_cost, .inl (cI, 30, .inl (ar co))), (a_step, .inl (cI, 30, .inl (ar sp)))] sz (fun u : (Int) × (Int) × (Int → Int) × (Int → Int) × (Int → Int) × (Int → Int) => match u with | (nk1, hp1, pl1, lg1, co1, sp1) => [(h, .inr (1, [.ref a_numbers, .ref a_place, .ref a_length, .ref a_cost, .ref a_step, v_digit, v_different, .int (iN nk1), .int (iN hp1), v_fresh, v_v])), (a_numbers, .inl (cI, 402, .inl (ar nb))), (a_place, .inl (cI, 30, .inl (ar pl1))), (a_length, .inl (cI, 30, .inl (ar lg1))), (a_cost, .inl (cI, 30, .inl (ar co1))), (a_step, .inl (cI, 30, .inl (ar sp1)))]) (fun u => match u with | (nk1, hp1, pl1, lg1, co1, sp1) => (prI (nb1 nb) (nb2 nb) 402 ≤ 20000 ∧ hp1 = prI (nb1 nb) (nb2 nb) 402 ∧ layC nb 402 nk1 pl1 lg1 co1 sp1) ∨ (¬ prI (nb1 nb) (nb2 nb) 402 ≤ 20000 ∧ 20000 < hp1 ∧ hp1 < 2147483648)) 0 0 := by
  refine iv_mkV (cc := cX1_layOut) (maxL := 2) (by decide) rfl (Nat.le_of_ble_eq_true rfl) ?_
  intro p e s m below meth c A H ls hx hb hr hts hown hlocks hin hml hN hA hK hP hD hS hl
  have hT : ∀ w ∈ T0, w.before [.ref h].toArray s = true := fun w h => hts w (List.mem_cons_of_mem _ h)
  have hown : s.vm.findClass RX1 = some m.cls := hown
  have hl : lv_has ls 2 [(0, .ref h)] := hl
  refine lv_aload_n hx hb dX1_layOut_0 rfl (lv_at hl 0 rfl) ?_
  refine iv_iconst hx hb dX1_layOut_1 ?_
  refine va_put (D := D) (ci := 1) (v := .int (iN 0)) (ty := .int) (C := RX1) (T := TX1) (N := 11) hx hb hT hiX1 tyX1 tyX1_ok nmX1 hown hK hP hD hS 0 rfl rfl 7 (by decide) (hT _ k_267) (fun _ h9 => h9) rfl (by decide +kernel) rfl rfl (Nat.le_of_ble_eq_true rfl) dX1_layOut_2 (fun H locs hP hD hS => ?_)
  have hP : va_P D vwCl [(h, .inr (1, [.ref a_numbers, .ref a_place, .ref a_length, .ref a_cost, .ref a_step, v_digit, v_different, .int (iN 0), .int (iN hp), v_fresh, v_v])), (a_numbers, .inl (cI, 402, .inl (ar nb))), (a_place, .inl (cI, 30, .inl (ar pl))), (a_length, .inl (cI, 30, .inl (ar lg))), (a_cost, .inl (cI, 30, .inl (ar co))), (a_step, .inl (cI, 30, .inl (ar sp)))] H := hP
  have hD : va_D A [(h, .inr (1, [.ref a_numbers, .ref a_place, .ref a_length, .ref a_cost, .ref a_step, v_digit, v_different, .int (iN 0), .int (iN hp), v_fresh, v_v])), (a_numbers, .inl (cI, 402, .inl (ar nb))), (a_place, .inl (cI, 30, .inl (ar pl))), (a_length, .inl (cI, 30, .inl (ar lg))), (a_cost, .inl (cI, 30, .inl (ar co))), (a_step, .inl (cI, 30, .inl (ar sp)))] := hD
  refine lv_aload_n hx hb dX1_layOut_5 rfl (lv_at hl 0 rfl) ?_
  refine iv_iconst hx hb dX1_layOut_6 ?_
  refine va_put (D := D) (ci := 1) (v := .int (iN 1)) (ty := .int) (C := RX1) (T := TX1) (N := 11) hx hb hT hiX1 tyX1 tyX1_ok nmX1 hown hK hP hD hS 0 rfl rfl 8 (by decide) (hT _ k_268) (fun _ h9 => h9) rfl (by decide +kernel) rfl rfl (Nat.le_of_ble_eq_true rfl) dX1_layOut_7 (fun H locs hP hD hS => ?_)
  have hP : va_P D vwCl [(h, .inr (1, [.ref a_numbers, .ref a_place, .ref a_length, .ref a_cost, .ref a_step, v_digit, v_different, .int (iN 0), .int (iN 1), v_fresh, v_v])), (a_numbers, .inl (cI, 402, .inl (ar nb))), (a_place, .inl (cI, 30, .inl (ar pl))), (a_length, .inl (cI, 30, .inl (ar lg))), (a_cost, .inl (cI, 30, .inl (ar co))), (a_step, .inl (cI, 30, .inl (ar sp)))] H := hP
  have hD : va_D A [(h, .inr (1, [.ref a_numbers, .ref a_place, .ref a_length, .ref a_cost, .ref a_step, v_digit, v_different, .int (iN 0), .int (iN 1), v_fresh, v_v])), (a_numbers, .inl (cI, 402, .inl (ar nb))), (a_place, .inl (cI, 30, .inl (ar pl))), (a_length, .inl (cI, 30, .inl (ar lg))), (a_cost, .inl (cI, 30, .inl (ar co))), (a_step, .inl (cI, 30, .inl (ar sp)))] := hD
  refine iv_iconst hx hb dX1_layOut_10 ?_
  refine lv_istore_n (lv' := [(1, .int (iN 0)), (0, .ref h)]) hx hb dX1_layOut_11 rfl hl (by decide) rfl (fun ls hl => ?_)
  have lab_12 : ∀ (fuel : Nat) (i : Int) (nk_ : Int) (hp_ : Int) (pl_ : Int → Int) (lg_ : Int → Int) (co_ : Int → Int) (sp_ : Int → Int), (0 ≤ i ∧ i ≤ 402) → (hp_ = prI (nb1 nb) (nb2 nb) i) → (1 ≤ hp_ ∧ hp_ ≤ 20020000) → (layC nb i nk_ pl_ lg_ co_ sp_) → (402 - i < (fuel : Int)) → ∀ (H : Heap) (locs : List Loc) (ls : Array Slot), va_P D vwCl [(h, .inr (1, [.ref a_numbers, .ref a_place, .ref a_length, .ref a_cost, .ref a_step, v_digit, v_different, .int (iN nk_), .int (iN hp_), v_fresh, v_v])), (a_numbers, .inl (cI, 402, .inl (ar nb))), (a_place, .inl (cI, 30, .inl (ar pl_))), (a_length, .inl (cI, 30, .inl (ar lg_))), (a_cost, .inl (cI, 30, .inl (ar co_))), (a_step, .inl (cI, 30, .inl (ar sp_)))] H → va_D A [(h, .inr (1, [.ref a_numbers, .ref a_place, .ref a_length, .ref a_cost, .ref a_step, v_digit, v_different, .int (iN nk_), .int (iN hp_), v_fresh, v_v])), (a_numbers, .inl (cI, 402, .inl (ar nb))), (a_place, .inl (cI, 30, .inl (ar pl_))), (a_length, .inl (cI, 30, .inl (ar lg_))), (a_cost, .inl (cI, 30, .inl (ar co_))), (a_step, .inl (cI, 30, .inl (ar sp_)))] → va_S A s.heap H locs → lv_has ls 2 [(0, .ref h), (1, .int (iN i))] → W p l e ({ frames := 2, cells := 0, slots := 0, locals := 45 } : Room) s m [.ref h].toArray below meth c H locs 0 0 (MQ below (iv_Qv D A (fun u : (Int) × (Int) × (Int → Int) × (Int → Int) × (Int → Int) × (Int → Int) => match u with | (nk1, hp1, pl1, lg1, co1, sp1) => [(h, .inr (1, [.ref a_numbers, .ref a_place, .ref a_length, .ref a_cost, .ref a_step, v_digit, v_different, .int (iN nk1), .int (iN hp1), v_fresh, v_v])), (a_numbers, .inl (cI, 402, .inl (ar nb))), (a_place, .inl (cI, 30, .inl (ar pl1))), (a_length, .inl (cI, 30, .inl (ar lg1))), (a_cost, .inl (cI, 30, .inl (ar co1))), (a_step, .inl (cI, 30, .inl (ar sp1)))]) (fun u => match u with | (nk1, hp1, pl1, lg1, co1, sp1) => (prI (nb1 nb) (nb2 nb) 402 ≤ 20000 ∧ hp1 = prI (nb1 nb) (nb2 nb) 402 ∧ layC nb 402 nk1 pl1 lg1 co1 sp1) ∨ (¬ prI (nb1 nb) (nb2 nb) 402 ≤ 20000 ∧ 20000 < hp1 ∧ hp1 < 2147483648))) [.ref h].toArray s 0 0 A) (F0 m 12 ls []) := by
    intro fuel
    induction fuel with
    | zero =>
      intro i nk_ hp_ pl_ lg_ co_ sp_ hi hh hhb hly hm
      exact absurd hm (by omega)
    | succ fuel ih =>
      intro i nk_ hp_ pl_ lg_ co_ sp_ hi hh hhb hly hm H locs ls hP hD hS hl
      have ih_12 := ih
      refine lv_iload_n hx hb dX1_layOut_12 rfl (lv_at hl 1 rfl) ?_
      refine lv_aload_n hx hb dX1_layOut_13 rfl (lv_at hl 0 rfl) ?_
      refine va_get (D := D) (ci := 1) (v := .ref a_numbers) (C := RX1) (T := TX1) (N := 11) hx hb hT hiX1 hown hK hP 0 rfl rfl 0 (by decide) (hT _ k_260) (fun _ h9 => h9) rfl dX1_layOut_14 ?_
      refine va_alen (v := iN 402) hx hb hK hP 1 0 rfl rfl rfl dX1_layOut_17 ?_
      refine iv_icmp_ge (tgt := 60) hx hb dX1_layOut_18 (by decide) (by omega) (by omega) (fun c18 => ?_) (fun c18 => ?_)
      · exact iv_vret hx hb hr hlocks dX1_layOut_60 (by omega) (by omega) (nk_, hp_, pl_, lg_, co_, sp_) (by by_cases hq : hp_ ≤ 20000; (first | (exfalso; omega) | exact Or.inl ⟨by rw [show (402 : Int) = i by omega]; omega, by rw [hh, show i = 402 by omega], by rw [show (402 : Int) = i by omega]; exact hly⟩); exact Or.inr ⟨by have := prI_mono (nb1_rg hnb) (nb2_rg hnb) (p := i) (q := 402) (by omega) (by omega); omega, by omega, by omega⟩) (by exact hP.sub [0, 1, 2, 3, 4, 5] rfl) (by exact hD.sub [0, 1, 2, 3, 4, 5] (by decide) rfl) hS
      · refine lv_aload_n hx hb dX1_layOut_21 rfl (lv_at hl 0 rfl) ?_
        refine va_get (D := D) (ci := 1) (v := .int (iN hp_)) (C := RX1) (T := TX1) (N := 11) hx hb hT hiX1 hown hK hP 0 rfl rfl 8 (by decide) (hT _ k_268) (fun _ h9 => h9) rfl dX1_layOut_22 ?_
        refine iv_sipush hx hb dX1_layOut_25 (by decide) ?_
        refine iv_icmp_gt (tgt := 60) hx hb dX1_layOut_28 (by decide) (by omega) (by omega) (fun c28 => ?_) (fun c28 => ?_)
        · exact iv_vret hx hb hr hlocks dX1_layOut_60 (by omega) (by omega) (nk_, hp_, pl_, lg_, co_, sp_) (by by_cases hq : hp_ ≤ 20000; (first | (exfalso; omega) | exact Or.inl ⟨by rw [show (402 : Int) = i by omega]; omega, by rw [hh, show i = 402 by omega], by rw [show (402 : Int) = i by omega]; exact hly⟩); exact Or.inr ⟨by have := prI_mono (nb1_rg hnb) (nb2_rg hnb) (p := i) (q := 402) (by omega) (by omega); omega, by omega, by omega⟩) (by exact hP.sub [0, 1, 2, 3, 4, 5] rfl) (by exact hD.sub [0, 1, 2, 3, 4, 5] (by decide) rfl) hS
        · have hbi := hnb.1 i (by omega) (by omega)
          have hki := pr_kinds (nb1_rg hnb) (nb2_rg hnb) (p := i) (by omega) (by omega)
          have hki0 := ixI_bd (nb1 nb) (nb2 nb) (p := i) (by omega)
          have hl1 := hly.1.1
          have hrg := hnb.1
          refine lv_aload_n hx hb dX1_layOut_31 rfl (lv_at hl 0 rfl) ?_
          refine va_get (D := D) (ci := 1) (v := .ref a_numbers) (C := RX1) (T := TX1) (N := 11) hx hb hT hiX1 hown hK hP 0 rfl rfl 0 (by decide) (hT _ k_260) (fun _ h9 => h9) rfl dX1_layOut_32 ?_
          refine lv_iload_n hx hb dX1_layOut_35 rfl (lv_at hl 1 rfl) ?_
          refine iv_iald hx hb hK hP 1 0 rfl rfl (f := nb) (by omega) (by omega) dX1_layOut_36 ?_
          refine iv_if_le (tgt := 54) hx hb dX1_layOut_37 (by decide) (by omega) (fun c37 => ?_) (fun c37 => ?_)
          · refine lv_iinc (v := iN (i + 1)) (lv' := [(1, .int (iN (i + 1))), (0, .ref h)]) hx hb dX1_layOut_54 hl (k := 1) rfl (iN_add _ _) (by decide) rfl (fun ls hl => ?_)
            refine lv_goto (tgt := 12) hx hb dX1_layOut_57 (by decide) ?_
            have hkn := kN_nb hnb (p := i) (by omega) (by omega)
            have hps := prI_s (x1 := nb1 nb) (x2 := nb2 nb) (p := i) (by omega)
            rw [hkn, ← hh] at hps
            exact ih_12 (i + 1) nk_ hp_ pl_ lg_ co_ sp_ (by first | omega | assumption) (by first | exact hps.symm | (rw [hps, show nb i + 1 = 1 by omega]; omega)) (by first | omega | (have := Int.mul_le_mul_of_nonneg_left (show nb i + 1 ≤ 1001 by omega) (show 0 ≤ hp_ by omega); have := Int.mul_le_mul_of_nonneg_left (show 1 ≤ nb i + 1 by omega) (show 0 ≤ hp_ by omega); omega)) (by first | exact layC_skip hnb (by omega) (by omega) hly (by omega) | (obtain ⟨e1, e2⟩ := hw51; rw [e1, e2]; exact layC_add hnb (by omega) (by omega) hly (by omega) hh rfl)) (by omega) _ _ _ (hP.sub [0, 1, 2, 3, 4, 5] rfl) (hD.sub [0, 1, 2, 3, 4, 5] (by decide) rfl) hS (lv_sub hl [1, 0] rfl)
          · refine lv_aload_n hx hb dX1_layOut_40 rfl (lv_at hl 0 rfl) ?_
            refine va_get (D := D) (ci := 1) (v := .int (iN nk_)) (C := RX1) (T := TX1) (N := 11) hx hb hT hiX1 hown hK hP 0 rfl rfl 7 (by decide) (hT _ k_267) (fun _ h9 => h9) rfl dX1_layOut_41 ?_
            refine iv_bipush hx hb dX1_layOut_44 (by decide) ?_
            refine iv_icmp_ge (tgt := 54) hx hb dX1_layOut_46 (by decide) (by omega) (by omega) (fun c46 => ?_) (fun c46 => ?_)
            · exact absurd c46 (by omega)
            · refine lv_aload_n hx hb dX1_layOut_49 rfl (lv_at hl 0 rfl) ?_
              refine lv_iload_n hx hb dX1_layOut_50 rfl (lv_at hl 1 rfl) ?_
              refine iv_callVv (mc := 0) (ms := 0) (wc := [(h, .inr (1, [.ref a_numbers, .ref a_place, .ref a_length, .ref a_cost, .ref a_step, v_digit, v_different, .int (iN nk_), .int (iN hp_), v_fresh, v_v])), (a_numbers, .inl (cI, 402, .inl (ar nb))), (a_place, .inl (cI, 30, .inl (ar pl_))), (a_length, .inl (cI, 30, .inl (ar lg_))), (a_cost, .inl (cI, 30, .inl (ar co_))), (a_step, .inl (cI, 30, .inl (ar sp_)))]) (wr := []) (As := [.int (iN i)]) (rest := []) ⟨hx, hb, hml, hown, hT⟩ (ok_X1_layOutKind l D cI h a_numbers a_place a_length a_cost a_step v_digit v_different v_fresh v_v nb pl_ lg_ co_ sp_ nk_ hp_ H.size i (by first | assumption | omega) (by first | assumption | omega) (by first | assumption | omega)) (iv_cw 1 hT k_657 k_65 k_654 k_656 k_30 (by decide +kernel) rfl rfl ⟨Nat.le_of_ble_eq_true rfl, Nat.le_of_ble_eq_true rfl⟩) hN hK hP hD hS hA [0, 1, 2, 3, 4, 5] [] [0] rfl rfl (by decide) (by decide) (by decide) rfl 0 (ci := 1) rfl rfl rfl hl.1 rfl (Nat.le_of_ble_eq_true rfl) dX1_layOut_51 ⟨Nat.le_of_ble_eq_true rfl, Nat.le_of_ble_eq_true rfl⟩ (fun u51 H locs hw51 hP hD hS => ?_)
              obtain ⟨lg1_51, co1_51⟩ := u51
              have hP := hP.sub (ws' := [(h, .inr (1, [.ref a_numbers, .ref a_place, .ref a_length, .ref a_cost, .ref a_step, v_digit, v_different, .int (iN (nk_ + 1)), .int (iN (hp_ * (nb i + 1))), v_fresh, v_v])), (a_numbers, .inl (cI, 402, .inl (ar nb))), (a_place, .inl (cI, 30, .inl (ar (uI pl_ nk_ i)))), (a_length, .inl (cI, 30, .inl (ar lg1_51))), (a_cost, .inl (cI, 30, .inl (ar co1_51))), (a_step, .inl (cI, 30, .inl (ar (uI sp_ nk_ hp_))))]) [0, 1, 2, 3, 4, 5] rfl
              have hD := hD.sub (ws' := [(h, .inr (1, [.ref a_numbers, .ref a_place, .ref a_length, .ref a_cost, .ref a_step, v_digit, v_different, .int (iN (nk_ + 1)), .int (iN (hp_ * (nb i + 1))), v_fresh, v_v])), (a_numbers, .inl (cI, 402, .inl (ar nb))), (a_place, .inl (cI, 30, .inl (ar (uI pl_ nk_ i)))), (a_length, .inl (cI, 30, .inl (ar lg1_51))), (a_cost, .inl (cI, 30, .inl (ar co1_51))), (a_step, .inl (cI, 30, .inl (ar (uI sp_ nk_ hp_))))]) [0, 1, 2, 3, 4, 5] (by decide) rfl
              refine lv_iinc (v := iN (i + 1)) (lv' := [(1, .int (iN (i + 1))), (0, .ref h)]) hx hb dX1_layOut_54 hl (k := 1) rfl (iN_add _ _) (by decide) rfl (fun ls hl => ?_)
              refine lv_goto (tgt := 12) hx hb dX1_layOut_57 (by decide) ?_
              have hkn := kN_nb hnb (p := i) (by omega) (by omega)
              have hps := prI_s (x1 := nb1 nb) (x2 := nb2 nb) (p := i) (by omega)
              rw [hkn, ← hh] at hps
              exact ih_12 (i + 1) (nk_ + 1) (hp_ * (nb i + 1)) (uI pl_ nk_ i) lg1_51 co1_51 (uI sp_ nk_ hp_) (by first | omega | assumption) (by first | exact hps.symm | (rw [hps, show nb i + 1 = 1 by omega]; omega)) (by first | omega | (have := Int.mul_le_mul_of_nonneg_left (show nb i + 1 ≤ 1001 by omega) (show 0 ≤ hp_ by omega); have := Int.mul_le_mul_of_nonneg_left (show 1 ≤ nb i + 1 by omega) (show 0 ≤ hp_ by omega); omega)) (by first | exact layC_skip hnb (by omega) (by omega) hly (by omega) | (obtain ⟨e1, e2⟩ := hw51; rw [e1, e2]; exact layC_add hnb (by omega) (by omega) hly (by omega) hh rfl)) (by omega) _ _ _ (hP.sub [0, 1, 2, 3, 4, 5] rfl) (hD.sub [0, 1, 2, 3, 4, 5] (by decide) rfl) hS (lv_sub hl [1, 0] rfl)
  exact lab_12 ((402 - 0 : Int).toNat + 1) 0 0 1 pl lg co sp (by first | omega | assumption) (by rfl) (by first | omega | assumption) (by exact ⟨⟨rfl, fun q a b => absurd b (by omega)⟩, fun k a b => absurd b (by omega)⟩) (by omega) _ _ _ (hP.sub [0, 1, 2, 3, 4, 5] rfl) (hD.sub [0, 1, 2, 3, 4, 5] (by decide) rfl) hS (lv_sub hl [1, 0] rfl)
