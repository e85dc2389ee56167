set_option maxHeartbeats 4000000 in
set_option maxRecDepth 100000 in
theorem ok_X3_join (l : Launch) (D : va_G) (cI : ClassId) (h : Nat) (a_partOf : Nat) (a_queue : Nat) (v_kind : Value) (v_fields : Value) (v_sides : Value) (v_loose : Value) (v_least : Value) (v_left : Value) (v_knots : Value) (v_seen : Value) (pO : Int → Int) (qu : Int → Int) (nq : Int) (ct : Int) (sz : Nat) (fd : Int) (hfd : 0 ≤ fd ∧ fd < 200) (hnq : 0 ≤ nq ∧ nq < 200) : MetV l yX3_join (wd yX3_join cX3_join 2 none) ({ frames := 0, cells := 0, slots := 0, locals := 0 } : Room) [.ref h, .int (iN fd)] D [(cI, .int)] [(h, .inr (3, [.ref a_partOf, v_kind, v_fields, v_sides, v_loose, v_least, .ref a_queue, v_left, .int (iN nq), .int (iN ct), v_knots, v_seen])), (a_partOf, .inl (cI, 200, .inl (ar pO))), (a_queue, .inl (cI, 200, .inl (ar qu)))] sz (fun _ : Unit => [(h, .inr (3, [.ref a_partOf, v_kind, v_fields, v_sides, v_loose, v_least, .ref a_queue, v_left, .int (iN (nq + 1)), .int (iN ct), v_knots, v_seen])), (a_partOf, .inl (cI, 200, .inl (ar (uI pO fd ct)))), (a_queue, .inl (cI, 200, .inl (ar (uI qu nq fd))))]) (fun _ => True) 0 0 := by
  refine iv_mkV (cc := cX3_join) (maxL := 2) (by decide) rfl (Nat.le_of_ble_eq_true rfl) ?_
  intro p e s m below meth c A H ls hx hb hr hts hown hlocks hin hml hN hA hK hP hD hS hl
  have hT : ∀ w ∈ T0, w.before [.ref h, .int (iN fd)].toArray s = true := fun w h => hts w (List.mem_cons_of_mem _ h)
  have hown : s.vm.findClass RX3 = some m.cls := hown
  have hl : lv_has ls 2 [(0, .ref h), (1, .int (iN fd))] := hl
  refine lv_aload_n hx hb dX3_join_0 rfl (lv_at hl 0 rfl) ?_
  refine va_get (D := D) (ci := 3) (v := .ref a_partOf) (C := RX3) (T := TX3) (N := 12) hx hb hT hiX3 hown hK hP 0 rfl rfl 0 (by decide) (hT _ k_174) (fun _ h9 => h9) rfl dX3_join_1 ?_
  refine lv_iload_n hx hb dX3_join_4 rfl (lv_at hl 1 rfl) ?_
  refine lv_aload_n hx hb dX3_join_5 rfl (lv_at hl 0 rfl) ?_
  refine va_get (D := D) (ci := 3) (v := .int (iN ct)) (C := RX3) (T := TX3) (N := 12) hx hb hT hiX3 hown hK hP 0 rfl rfl 9 (by decide) (hT _ k_192) (fun _ h9 => h9) rfl dX3_join_6 ?_
  refine iv_iast hx hb hK hP hD hS 1 0 rfl rfl (f := pO) (by omega) (by omega) dX3_join_9 (fun H locs hP hD hS => ?_)
  have hP : va_P D vwCl [(h, .inr (3, [.ref a_partOf, v_kind, v_fields, v_sides, v_loose, v_least, .ref a_queue, v_left, .int (iN nq), .int (iN ct), v_knots, v_seen])), (a_partOf, .inl (cI, 200, .inl (ar (uI pO fd ct)))), (a_queue, .inl (cI, 200, .inl (ar qu)))] H := hP
  have hD : va_D A [(h, .inr (3, [.ref a_partOf, v_kind, v_fields, v_sides, v_loose, v_least, .ref a_queue, v_left, .int (iN nq), .int (iN ct), v_knots, v_seen])), (a_partOf, .inl (cI, 200, .inl (ar (uI pO fd ct)))), (a_queue, .inl (cI, 200, .inl (ar qu)))] := hD
  refine lv_aload_n hx hb dX3_join_10 rfl (lv_at hl 0 rfl) ?_
  refine va_get (D := D) (ci := 3) (v := .ref a_queue) (C := RX3) (T := TX3) (N := 12) hx hb hT hiX3 hown hK hP 0 rfl rfl 6 (by decide) (hT _ k_189) (fun _ h9 => h9) rfl dX3_join_11 ?_
  refine lv_aload_n hx hb dX3_join_14 rfl (lv_at hl 0 rfl) ?_
  refine va_get (D := D) (ci := 3) (v := .int (iN nq)) (C := RX3) (T := TX3) (N := 12) hx hb hT hiX3 hown hK hP 0 rfl rfl 8 (by decide) (hT _ k_191) (fun _ h9 => h9) rfl dX3_join_15 ?_
  refine lv_iload_n hx hb dX3_join_18 rfl (lv_at hl 1 rfl) ?_
  refine iv_iast hx hb hK hP hD hS 2 0 rfl rfl (f := qu) (by omega) (by omega) dX3_join_19 (fun H locs hP hD hS => ?_)
  have hP : va_P D vwCl [(h, .inr (3, [.ref a_partOf, v_kind, v_fields, v_sides, v_loose, v_least, .ref a_queue, v_left, .int (iN nq), .int (iN ct), v_knots, v_seen])), (a_partOf, .inl (cI, 200, .inl (ar (uI pO fd ct)))), (a_queue, .inl (cI, 200, .inl (ar (uI qu nq fd))))] H := hP
  have hD : va_D A [(h, .inr (3, [.ref a_partOf, v_kind, v_fields, v_sides, v_loose, v_least, .ref a_queue, v_left, .int (iN nq), .int (iN ct), v_knots, v_seen])), (a_partOf, .inl (cI, 200, .inl (ar (uI pO fd ct)))), (a_queue, .inl (cI, 200, .inl (ar (uI qu nq fd))))] := hD
  refine lv_aload_n hx hb dX3_join_20 rfl (lv_at hl 0 rfl) ?_
  refine lv_dup hx hb dX3_join_21 rfl ?_
  refine va_get (D := D) (ci := 3) (v := .int (iN nq)) (C := RX3) (T := TX3) (N := 12) hx hb hT hiX3 hown hK hP 0 rfl rfl 8 (by decide) (hT _ k_191) (fun _ h9 => h9) rfl dX3_join_22 ?_
  refine iv_iconst hx hb dX3_join_25 ?_
  refine iv_iadd hx hb dX3_join_26 ?_
  refine va_put (D := D) (ci := 3) (v := .int (iN (nq + 1))) (ty := .int) (C := RX3) (T := TX3) (N := 12) hx hb hT hiX3 tyX3 tyX3_ok nmX3 hown hK hP hD hS 0 rfl rfl 8 (by decide) (hT _ k_191) (fun _ h9 => h9) rfl (by decide +kernel) rfl rfl (Nat.le_of_ble_eq_true rfl) dX3_join_27 (fun H locs hP hD hS => ?_)
  have hP : va_P D vwCl [(h, .inr (3, [.ref a_partOf, v_kind, v_fields, v_sides, v_loose, v_least, .ref a_queue, v_left, .int (iN (nq + 1)), .int (iN ct), v_knots, v_seen])), (a_partOf, .inl (cI, 200, .inl (ar (uI pO fd ct)))), (a_queue, .inl (cI, 200, .inl (ar (uI qu nq fd))))] H := hP
  have hD : va_D A [(h, .inr (3, [.ref a_partOf, v_kind, v_fields, v_sides, v_loose, v_least, .ref a_queue, v_left, .int (iN (nq + 1)), .int (iN ct), v_knots, v_seen])), (a_partOf, .inl (cI, 200, .inl (ar (uI pO fd ct)))), (a_queue, .inl (cI, 200, .inl (ar (uI qu nq fd))))] := hD
  exact iv_vret hx hb hr hlocks dX3_join_30 (by omega) (by omega) () (by trivial) (by exact hP.sub [0, 1, 2] rfl) (by exact hD.sub [0, 1, 2] (by decide) rfl) hS
set_option maxHeartbeats 4000000 in
set_option maxRecDepth 100000 in
theorem ok_X3_openOutside (l : Launch) (D : va_G) (cI : ClassId) (cZ : ClassId) (h : Nat) (g : Nat) (a_second_g : Nat) (a_unfenced_g : Nat) (a_sidesAt_g : Nat) (a_sideCount_g : Nat) (v_partOf : Value) (v_kind : Value) (v_fields : Value) (v_sides : Value) (v_loose : Value) (v_least : Value) (v_queue : Value) (v_left : Value) (v_queued : Value) (v_count : Value) (v_knots : Value) (v_seen : Value) (v_first_g : Value) (v_line_g : Value) (v_drawer_g : Value) (v_openCount_g : Value) (v_owner_g : Value) (v_owned_g : Value) (v_fields_g : Value) (v_sides_g : Value) (v_openSides_g : Value) (v_done_g : Value) (v_known_g : Value) (v_turn_g : Value) (v_changes_g : Value) (sb : Int → Int) (un : Int → Int) (sx : Int → Int) (sc : Int → Int) (sz : Nat) (fd : Int) (hfd : 0 ≤ fd ∧ fd < 200) (hsc : 0 ≤ sc fd ∧ sc fd ≤ 4) (hsx : ∀ j : Int, 0 ≤ j → j < sc fd → 0 ≤ sx (fd * 4 + j) ∧ sx (fd * 4 + j) < 500 ∧ (un (sx (fd * 4 + j)) = 0 ∨ un (sx (fd * 4 + j)) = 1) ∧ (-1 ≤ sb (sx (fd * 4 + j)) ∧ sb (sx (fd * 4 + j)) < 200)) : MetI l yX3_openOutside (wd yX3_openOutside cX3_openOutside 6 (some .int)) ({ frames := 1, cells := 0, slots := 0, locals := 22 } : Room) [.ref h, .ref g, .int (iN fd)] D [(cI, .int), (cZ, .boolean)] [(h, .inr (3, [v_partOf, v_kind, v_fields, v_sides, v_loose, v_least, v_queue, v_left, v_queued, v_count, v_knots, v_seen])), (g, .inr (2, [v_first_g, .ref a_second_g, .ref a_unfenced_g, v_line_g, v_drawer_g, .ref a_sidesAt_g, .ref a_sideCount_g, v_openCount_g, v_owner_g, v_owned_g, v_fields_g, v_sides_g, v_openSides_g, v_done_g, v_known_g, v_turn_g, v_changes_g])), (a_second_g, .inl (cI, 500, .inl (ar sb))), (a_unfenced_g, .inl (cZ, 500, .inl (ar un))), (a_sidesAt_g, .inl (cI, 800, .inl (ar sx))), (a_sideCount_g, .inl (cI, 200, .inl (ar sc)))] sz (fun _ : Unit => [(h, .inr (3, [v_partOf, v_kind, v_fields, v_sides, v_loose, v_least, v_queue, v_left, v_queued, v_count, v_knots, v_seen])), (g, .inr (2, [v_first_g, .ref a_second_g, .ref a_unfenced_g, v_line_g, v_drawer_g, .ref a_sidesAt_g, .ref a_sideCount_g, v_openCount_g, v_owner_g, v_owned_g, v_fields_g, v_sides_g, v_openSides_g, v_done_g, v_known_g, v_turn_g, v_changes_g])), (a_second_g, .inl (cI, 500, .inl (ar sb))), (a_unfenced_g, .inl (cZ, 500, .inl (ar un))), (a_sidesAt_g, .inl (cI, 800, .inl (ar sx))), (a_sideCount_g, .inl (cI, 200, .inl (ar sc)))]) (fun z _ => z = ooS un sb sx fd (sc fd)) 0 0 := by
  refine iv_mkI (cc := cX3_openOutside) (maxL := 6) (by decide) rfl (Nat.le_of_ble_eq_true rfl) ?_
  intro p e s m below meth c A H ls hx hb hr hts hown hlocks hin hml hN hA hK hP hD hS hl
  have hT : ∀ w ∈ T0, w.before [.ref h, .ref g, .int (iN fd)].toArray s = true := fun w h => hts w (List.mem_cons_of_mem _ h)
  have hown : s.vm.findClass RX3 = some m.cls := hown
  have hl : lv_has ls 6 [(0, .ref h), (1, .ref g), (2, .int (iN fd))] := hl
  refine iv_iconst hx hb dX3_openOutside_0 ?_
  refine lv_istore_n (lv' := [(3, .int (iN 0)), (0, .ref h), (1, .ref g), (2, .int (iN fd))]) hx hb dX3_openOutside_1 rfl hl (by decide) rfl (fun ls hl => ?_)
  refine iv_iconst hx hb dX3_openOutside_2 ?_
  refine lv_istore (lv' := [(4, .int (iN 0)), (3, .int (iN 0)), (0, .ref h), (1, .ref g), (2, .int (iN fd))]) hx hb dX3_openOutside_3 hl (by decide) rfl (fun ls hl => ?_)
  have lab_5 : ∀ (fuel : Nat) (n : Int) (i : Int), (0 ≤ i ∧ i ≤ sc fd) → (n = ooS un sb sx fd i) → (sc fd - i < (fuel : Int)) → ∀ (H : Heap) (locs : List Loc) (ls : Array Slot), va_P D vwCl [(h, .inr (3, [v_partOf, v_kind, v_fields, v_sides, v_loose, v_least, v_queue, v_left, v_queued, v_count, v_knots, v_seen])), (g, .inr (2, [v_first_g, .ref a_second_g, .ref a_unfenced_g, v_line_g, v_drawer_g, .ref a_sidesAt_g, .ref a_sideCount_g, v_openCount_g, v_owner_g, v_owned_g, v_fields_g, v_sides_g, v_openSides_g, v_done_g, v_known_g, v_turn_g, v_changes_g])), (a_second_g, .inl (cI, 500, .inl (ar sb))), (a_unfenced_g, .inl (cZ, 500, .inl (ar un))), (a_sidesAt_g, .inl (cI, 800, .inl (ar sx))), (a_sideCount_g, .inl (cI, 200, .inl (ar sc)))] H → va_D A [(h, .inr (3, [v_partOf, v_kind, v_fields, v_sides, v_loose, v_least, v_queue, v_left, v_queued, v_count, v_knots, v_seen])), (g, .inr (2, [v_first_g, .ref a_second_g, .ref a_unfenced_g, v_line_g, v_drawer_g, .ref a_sidesAt_g, .ref a_sideCount_g, v_openCount_g, v_owner_g, v_owned_g, v_fields_g, v_sides_g, v_openSides_g, v_done_g, v_known_g, v_turn_g, v_changes_g])), (a_second_g, .inl (cI, 500, .inl (ar sb))), (a_unfenced_g, .inl (cZ, 500, .inl (ar un))), (a_sidesAt_g, .inl (cI, 800, .inl (ar sx))), (a_sideCount_g, .inl (cI, 200, .inl (ar sc)))] → va_S A s.heap H locs → lv_has ls 6 [(0, .ref h), (1, .ref g), (2, .int (iN fd)), (3, .int (iN n)), (4, .int (iN i))] → W p l e ({ frames := 1, cells := 0, slots := 0, locals := 22 } : Room) s m [.ref h, .ref g, .int (iN fd)].toArray below meth c H locs 0 0 (MQ below (iv_Qi D A (fun _ : Unit => [(h, .inr (3, [v_partOf, v_kind, v_fields, v_sides, v_loose, v_least, v_queue, v_left, v_queued, v_count, v_knots, v_seen])), (g, .inr (2, [v_first_g, .ref a_second_g, .ref a_unfenced_g, v_line_g, v_drawer_g, .ref a_sidesAt_g, .ref a_sideCount_g, v_openCount_g, v_owner_g, v_owned_g, v_fields_g, v_sides_g, v_openSides_g, v_done_g, v_known_g, v_turn_g, v_changes_g])), (a_second_g, .inl (cI, 500, .inl (ar sb))), (a_unfenced_g, .inl (cZ, 500, .inl (ar un))), (a_sidesAt_g, .inl (cI, 800, .inl (ar sx))), (a_sideCount_g, .inl (cI, 200, .inl (ar sc)))]) (fun z _ => z = ooS un sb sx fd (sc fd))) [.ref h, .ref g, .int (iN fd)].toArray s 0 0 A) (F0 m 5 ls []) := by
    intro fuel
    induction fuel with
    | zero =>
      intro n i hi hn hm
      exact absurd hm (by omega)
    | succ fuel ih =>
      intro n i hi hn hm H locs ls hP hD hS hl
      have ih_5 := ih
      refine lv_iload hx hb dX3_openOutside_5 (lv_at hl 4 rfl) ?_
      refine lv_aload_n hx hb dX3_openOutside_7 rfl (lv_at hl 1 rfl) ?_
      refine va_getN (D := D) (ci := 2) (v := .ref a_sideCount_g) (C := RX2) (T := TX2) (N := 17) hx hb hT hiX2 hown hK hP 1 rfl rfl 6 (by decide) (hN.use _ k_105 rfl) (fun _ h9 => h9) rfl dX3_openOutside_8 ?_
      refine lv_iload_n hx hb dX3_openOutside_11 rfl (lv_at hl 2 rfl) ?_
      refine iv_iald hx hb hK hP 5 0 rfl rfl (f := sc) (by omega) (by omega) dX3_openOutside_12 ?_
      refine iv_icmp_ge (tgt := 55) hx hb dX3_openOutside_13 (by decide) (by omega) (by omega) (fun c13 => ?_) (fun c13 => ?_)
      · refine lv_iload_n hx hb dX3_openOutside_55 rfl (lv_at hl 3 rfl) ?_
        exact iv_iret hx hb hr hlocks dX3_openOutside_56 (by omega) (by omega) () (by rw [hn, show i = sc fd by omega]) (by exact hP.sub [0, 1, 2, 3, 4, 5] rfl) (by exact hD.sub [0, 1, 2, 3, 4, 5] (by decide) rfl) hS
      · have ⟨s1, s2, s3, s4⟩ := hsx i (by omega) (by omega)
        refine lv_aload_n hx hb dX3_openOutside_16 rfl (lv_at hl 1 rfl) ?_
        refine lv_iload_n hx hb dX3_openOutside_17 rfl (lv_at hl 2 rfl) ?_
        refine lv_iload hx hb dX3_openOutside_18 (lv_at hl 4 rfl) ?_
        refine iv_callV (mc := 0) (ms := 0) (wc := [(g, .inr (2, [v_first_g, .ref a_second_g, .ref a_unfenced_g, v_line_g, v_drawer_g, .ref a_sidesAt_g, .ref a_sideCount_g, v_openCount_g, v_owner_g, v_owned_g, v_fields_g, v_sides_g, v_openSides_g, v_done_g, v_known_g, v_turn_g, v_changes_g])), (a_sidesAt_g, .inl (cI, 800, .inl (ar sx)))]) (wr := [(h, .inr (3, [v_partOf, v_kind, v_fields, v_sides, v_loose, v_least, v_queue, v_left, v_queued, v_count, v_knots, v_seen])), (a_second_g, .inl (cI, 500, .inl (ar sb))), (a_unfenced_g, .inl (cZ, 500, .inl (ar un))), (a_sideCount_g, .inl (cI, 200, .inl (ar sc)))]) (As := [.int (iN fd), .int (iN i)]) (rest := []) ⟨hx, hb, hml, hown, hT⟩ (ok_X2_sideAt l D cI g a_sidesAt_g v_first_g (.ref a_second_g) (.ref a_unfenced_g) v_line_g v_drawer_g (.ref a_sideCount_g) v_openCount_g v_owner_g v_owned_g v_fields_g v_sides_g v_openSides_g v_done_g v_known_g v_turn_g v_changes_g sx H.size fd i (by first | with_reducible assumption | omega | assumption) (by first | with_reducible assumption | omega | assumption)) (iv_cw 2 hT k_471 k_61 k_468 k_469 k_470 (by decide +kernel) rfl rfl ⟨Nat.le_of_ble_eq_true rfl, Nat.le_of_ble_eq_true rfl⟩) hN hK hP hD hS hA [1, 4] [0, 2, 3, 5] [0] rfl rfl (by decide) (by decide) (by decide) rfl 0 (ci := 2) rfl rfl rfl hl.1 rfl (Nat.le_of_ble_eq_true rfl) dX3_openOutside_20 ⟨Nat.le_of_ble_eq_true rfl, Nat.le_of_ble_eq_true rfl⟩ (fun z20 u20 H locs hw20 hP hD hS => ?_)
        obtain rfl := hw20
        have hP := hP.sub (ws' := [(h, .inr (3, [v_partOf, v_kind, v_fields, v_sides, v_loose, v_least, v_queue, v_left, v_queued, v_count, v_knots, v_seen])), (g, .inr (2, [v_first_g, .ref a_second_g, .ref a_unfenced_g, v_line_g, v_drawer_g, .ref a_sidesAt_g, .ref a_sideCount_g, v_openCount_g, v_owner_g, v_owned_g, v_fields_g, v_sides_g, v_openSides_g, v_done_g, v_known_g, v_turn_g, v_changes_g])), (a_second_g, .inl (cI, 500, .inl (ar sb))), (a_unfenced_g, .inl (cZ, 500, .inl (ar un))), (a_sidesAt_g, .inl (cI, 800, .inl (ar sx))), (a_sideCount_g, .inl (cI, 200, .inl (ar sc)))]) [0, 4, 1, 2, 5, 3] rfl
        have hD := hD.sub (ws' := [(h, .inr (3, [v_partOf, v_kind, v_fields, v_sides, v_loose, v_least, v_queue, v_left, v_queued, v_count, v_knots, v_seen])), (g, .inr (2, [v_first_g, .ref a_second_g, .ref a_unfenced_g, v_line_g, v_drawer_g, .ref a_sidesAt_g, .ref a_sideCount_g, v_openCount_g, v_owner_g, v_owned_g, v_fields_g, v_sides_g, v_openSides_g, v_done_g, v_known_g, v_turn_g, v_changes_g])), (a_second_g, .inl (cI, 500, .inl (ar sb))), (a_unfenced_g, .inl (cZ, 500, .inl (ar un))), (a_sidesAt_g, .inl (cI, 800, .inl (ar sx))), (a_sideCount_g, .inl (cI, 200, .inl (ar sc)))]) [0, 4, 1, 2, 5, 3] (by decide) rfl
        refine lv_istore (lv' := [(5, .int (iN (sx (fd * 4 + i)))), (0, .ref h), (1, .ref g), (2, .int (iN fd)), (3, .int (iN n)), (4, .int (iN i))]) hx hb dX3_openOutside_23 hl (by decide) rfl (fun ls hl => ?_)
        refine lv_aload_n hx hb dX3_openOutside_25 rfl (lv_at hl 2 rfl) ?_
        refine va_getN (D := D) (ci := 2) (v := .ref a_unfenced_g) (C := RX2) (T := TX2) (N := 17) hx hb hT hiX2 hown hK hP 1 rfl rfl 2 (by decide) (hN.use _ k_98 rfl) (fun _ h9 => h9) rfl dX3_openOutside_26 ?_
        refine lv_iload hx hb dX3_openOutside_29 (lv_at hl 0 rfl) ?_
        refine iv_zald hx hb hK hP 3 1 rfl rfl (f := un) (by omega) (by omega) dX3_openOutside_31 ?_
        refine iv_if_eq (tgt := 49) hx hb dX3_openOutside_32 (by decide) (by omega) (fun c32 => ?_) (fun c32 => ?_)
        · refine lv_iinc (v := iN (i + 1)) (lv' := [(4, .int (iN (i + 1))), (5, .int (iN (sx (fd * 4 + i)))), (0, .ref h), (1, .ref g), (2, .int (iN fd)), (3, .int (iN n))]) hx hb dX3_openOutside_49 hl (k := 5) rfl (iN_add _ _) (by decide) rfl (fun ls hl => ?_)
          refine lv_goto (tgt := 5) hx hb dX3_openOutside_52 (by decide) ?_
          exact ih_5 n (i + 1) (by first | omega | with_reducible assumption | assumption) (by rw [ooS_s (by omega), ← hn]; split <;> omega) (by omega) _ _ _ (hP.sub [0, 1, 2, 3, 4, 5] rfl) (hD.sub [0, 1, 2, 3, 4, 5] (by decide) rfl) hS (lv_sub hl [2, 3, 4, 5, 0] rfl)
        · refine lv_aload_n hx hb dX3_openOutside_35 rfl (lv_at hl 2 rfl) ?_
          refine va_getN (D := D) (ci := 2) (v := .ref a_second_g) (C := RX2) (T := TX2) (N := 17) hx hb hT hiX2 hown hK hP 1 rfl rfl 1 (by decide) (hN.use _ k_94 rfl) (fun _ h9 => h9) rfl dX3_openOutside_36 ?_
          refine lv_iload hx hb dX3_openOutside_39 (lv_at hl 0 rfl) ?_
          refine iv_iald hx hb hK hP 2 0 rfl rfl (f := sb) (by omega) (by omega) dX3_openOutside_41 ?_
          refine iv_iconst hx hb dX3_openOutside_42 ?_
          refine iv_icmp_ne (tgt := 49) hx hb dX3_openOutside_43 (by decide) (by omega) (by omega) (fun c43 => ?_) (fun c43 => ?_)
          · refine lv_iinc (v := iN (i + 1)) (lv' := [(4, .int (iN (i + 1))), (5, .int (iN (sx (fd * 4 + i)))), (0, .ref h), (1, .ref g), (2, .int (iN fd)), (3, .int (iN n))]) hx hb dX3_openOutside_49 hl (k := 5) rfl (iN_add _ _) (by decide) rfl (fun ls hl => ?_)
            refine lv_goto (tgt := 5) hx hb dX3_openOutside_52 (by decide) ?_
            exact ih_5 n (i + 1) (by first | omega | with_reducible assumption | assumption) (by rw [ooS_s (by omega), ← hn]; split <;> omega) (by omega) _ _ _ (hP.sub [0, 1, 2, 3, 4, 5] rfl) (hD.sub [0, 1, 2, 3, 4, 5] (by decide) rfl) hS (lv_sub hl [2, 3, 4, 5, 0] rfl)
          · refine lv_iinc (v := iN (n + 1)) (lv' := [(3, .int (iN (n + 1))), (5, .int (iN (sx (fd * 4 + i)))), (0, .ref h), (1, .ref g), (2, .int (iN fd)), (4, .int (iN i))]) hx hb dX3_openOutside_46 hl (k := 4) rfl (iN_add _ _) (by decide) rfl (fun ls hl => ?_)
            refine lv_iinc (v := iN (i + 1)) (lv' := [(4, .int (iN (i + 1))), (3, .int (iN (n + 1))), (5, .int (iN (sx (fd * 4 + i)))), (0, .ref h), (1, .ref g), (2, .int (iN fd))]) hx hb dX3_openOutside_49 hl (k := 5) rfl (iN_add _ _) (by decide) rfl (fun ls hl => ?_)
            refine lv_goto (tgt := 5) hx hb dX3_openOutside_52 (by decide) ?_
            exact ih_5 (n + 1) (i + 1) (by first | omega | with_reducible assumption | assumption) (by rw [ooS_s (by omega), ← hn]; split <;> omega) (by omega) _ _ _ (hP.sub [0, 1, 2, 3, 4, 5] rfl) (hD.sub [0, 1, 2, 3, 4, 5] (by decide) rfl) hS (lv_sub hl [3, 4, 5, 1, 0] rfl)
  exact lab_5 ((sc fd - 0 : Int).toNat + 1) 0 0 (by first | omega | with_reducible assumption | assumption) (by rfl) (by omega) _ _ _ (hP.sub [0, 1, 2, 3, 4, 5] rfl) (hD.sub [0, 1, 2, 3, 4, 5] (by decide) rfl) hS (lv_sub hl [2, 3, 4, 1, 0] rfl)
set_option maxHeartbeats 4000000 in
set_option maxRecDepth 100000 in
theorem ok_X3_queueIfLast (l : Launch) (D : va_G) (cI : ClassId) (h : Nat) (a_queue : Nat) (a_left : Nat) (v_partOf : Value) (v_kind : Value) (v_fields : Value) (v_sides : Value) (v_loose : Value) (v_least : Value) (v_count : Value) (v_knots : Value) (v_seen : Value) (qu : Int → Int) (lt : Int → Int) (nq : Int) (sz : Nat) (fd : Int) (hfd : 0 ≤ fd ∧ fd < 200) (hlt : -1000 ≤ lt fd ∧ lt fd ≤ 1000) (hnq : 0 ≤ nq ∧ nq ≤ 200) : MetV l yX3_queueIfLast (wd yX3_queueIfLast cX3_queueIfLast 2 none) ({ frames := 0, cells := 0, slots := 0, locals := 0 } : Room) [.ref h, .int (iN fd)] D [(cI, .int)] [(h, .inr (3, [v_partOf, v_kind, v_fields, v_sides, v_loose, v_least, .ref a_queue, .ref a_left, .int (iN nq), v_count, v_knots, v_seen])), (a_queue, .inl (cI, 200, .inl (ar qu))), (a_left, .inl (cI, 200, .inl (ar lt)))] sz (fun u : (Int) × (Int → Int) => match u with | (nq1, qu1) => [(h, .inr (3, [v_partOf, v_kind, v_fields, v_sides, v_loose, v_least, .ref a_queue, .ref a_left, .int (iN nq1), v_count, v_knots, v_seen])), (a_queue, .inl (cI, 200, .inl (ar qu1))), (a_left, .inl (cI, 200, .inl (ar lt)))]) (fun u => match u with | (nq1, qu1) => (lt fd = 1 ∧ nq < 200 ∧ nq1 = nq + 1 ∧ qu1 = uI qu nq fd) ∨ (¬ (lt fd = 1 ∧ nq < 200) ∧ nq1 = nq ∧ qu1 = qu)) 0 0 := by
  refine iv_mkV (cc := cX3_queueIfLast) (maxL := 2) (by decide) rfl (Nat.le_of_ble_eq_true rfl) ?_
  intro p e s m below meth c A H ls hx hb hr hts hown hlocks hin hml hN hA hK hP hD hS hl
  have hT : ∀ w ∈ T0, w.before [.ref h, .int (iN fd)].toArray s = true := fun w h => hts w (List.mem_cons_of_mem _ h)
  have hown : s.vm.findClass RX3 = some m.cls := hown
  have hl : lv_has ls 2 [(0, .ref h), (1, .int (iN fd))] := hl
  refine lv_aload_n hx hb dX3_queueIfLast_0 rfl (lv_at hl 0 rfl) ?_
  refine va_get (D := D) (ci := 3) (v := .ref a_left) (C := RX3) (T := TX3) (N := 12) hx hb hT hiX3 hown hK hP 0 rfl rfl 7 (by decide) (hT _ k_190) (fun _ h9 => h9) rfl dX3_queueIfLast_1 ?_
  refine lv_iload_n hx hb dX3_queueIfLast_4 rfl (lv_at hl 1 rfl) ?_
  refine iv_iald hx hb hK hP 2 0 rfl rfl (f := lt) (by omega) (by omega) dX3_queueIfLast_5 ?_
  refine iv_iconst hx hb dX3_queueIfLast_6 ?_
  refine iv_icmp_ne (tgt := 40) hx hb dX3_queueIfLast_7 (by decide) (by omega) (by omega) (fun c7 => ?_) (fun c7 => ?_)
  · exact iv_vret hx hb hr hlocks dX3_queueIfLast_40 (by omega) (by omega) (nq, qu) (by first | exact Or.inl ⟨by omega, by omega, rfl, rfl⟩ | exact Or.inr ⟨by omega, rfl, rfl⟩) (by exact hP.sub [0, 1, 2] rfl) (by exact hD.sub [0, 1, 2] (by decide) rfl) hS
  · refine lv_aload_n hx hb dX3_queueIfLast_10 rfl (lv_at hl 0 rfl) ?_
    refine va_get (D := D) (ci := 3) (v := .int (iN nq)) (C := RX3) (T := TX3) (N := 12) hx hb hT hiX3 hown hK hP 0 rfl rfl 8 (by decide) (hT _ k_191) (fun _ h9 => h9) rfl dX3_queueIfLast_11 ?_
    refine iv_sipush hx hb dX3_queueIfLast_14 (by decide) ?_
    refine iv_icmp_ge (tgt := 40) hx hb dX3_queueIfLast_17 (by decide) (by omega) (by omega) (fun c17 => ?_) (fun c17 => ?_)
    · exact iv_vret hx hb hr hlocks dX3_queueIfLast_40 (by omega) (by omega) (nq, qu) (by first | exact Or.inl ⟨by omega, by omega, rfl, rfl⟩ | exact Or.inr ⟨by omega, rfl, rfl⟩) (by exact hP.sub [0, 1, 2] rfl) (by exact hD.sub [0, 1, 2] (by decide) rfl) hS
    · refine lv_aload_n hx hb dX3_queueIfLast_20 rfl (lv_at hl 0 rfl) ?_
      refine va_get (D := D) (ci := 3) (v := .ref a_queue) (C := RX3) (T := TX3) (N := 12) hx hb hT hiX3 hown hK hP 0 rfl rfl 6 (by decide) (hT _ k_189) (fun _ h9 => h9) rfl dX3_queueIfLast_21 ?_
      refine lv_aload_n hx hb dX3_queueIfLast_24 rfl (lv_at hl 0 rfl) ?_
      refine va_get (D := D) (ci := 3) (v := .int (iN nq)) (C := RX3) (T := TX3) (N := 12) hx hb hT hiX3 hown hK hP 0 rfl rfl 8 (by decide) (hT _ k_191) (fun _ h9 => h9) rfl dX3_queueIfLast_25 ?_
      refine lv_iload_n hx hb dX3_queueIfLast_28 rfl (lv_at hl 1 rfl) ?_
      refine iv_iast hx hb hK hP hD hS 1 0 rfl rfl (f := qu) (by omega) (by omega) dX3_queueIfLast_29 (fun H locs hP hD hS => ?_)
      have hP : va_P D vwCl [(h, .inr (3, [v_partOf, v_kind, v_fields, v_sides, v_loose, v_least, .ref a_queue, .ref a_left, .int (iN nq), v_count, v_knots, v_seen])), (a_queue, .inl (cI, 200, .inl (ar (uI qu nq fd)))), (a_left, .inl (cI, 200, .inl (ar lt)))] H := hP
      have hD : va_D A [(h, .inr (3, [v_partOf, v_kind, v_fields, v_sides, v_loose, v_least, .ref a_queue, .ref a_left, .int (iN nq), v_count, v_knots, v_seen])), (a_queue, .inl (cI, 200, .inl (ar (uI qu nq fd)))), (a_left, .inl (cI, 200, .inl (ar lt)))] := hD
      refine lv_aload_n hx hb dX3_queueIfLast_30 rfl (lv_at hl 0 rfl) ?_
      refine lv_dup hx hb dX3_queueIfLast_31 rfl ?_
      refine va_get (D := D) (ci := 3) (v := .int (iN nq)) (C := RX3) (T := TX3) (N := 12) hx hb hT hiX3 hown hK hP 0 rfl rfl 8 (by decide) (hT _ k_191) (fun _ h9 => h9) rfl dX3_queueIfLast_32 ?_
      refine iv_iconst hx hb dX3_queueIfLast_35 ?_
      refine iv_iadd hx hb dX3_queueIfLast_36 ?_
      refine va_put (D := D) (ci := 3) (v := .int (iN (nq + 1))) (ty := .int) (C := RX3) (T := TX3) (N := 12) hx hb hT hiX3 tyX3 tyX3_ok nmX3 hown hK hP hD hS 0 rfl rfl 8 (by decide) (hT _ k_191) (fun _ h9 => h9) rfl (by decide +kernel) rfl rfl (Nat.le_of_ble_eq_true rfl) dX3_queueIfLast_37 (fun H locs hP hD hS => ?_)
      have hP : va_P D vwCl [(h, .inr (3, [v_partOf, v_kind, v_fields, v_sides, v_loose, v_least, .ref a_queue, .ref a_left, .int (iN (nq + 1)), v_count, v_knots, v_seen])), (a_queue, .inl (cI, 200, .inl (ar (uI qu nq fd)))), (a_left, .inl (cI, 200, .inl (ar lt)))] H := hP
      have hD : va_D A [(h, .inr (3, [v_partOf, v_kind, v_fields, v_sides, v_loose, v_least, .ref a_queue, .ref a_left, .int (iN (nq + 1)), v_count, v_knots, v_seen])), (a_queue, .inl (cI, 200, .inl (ar (uI qu nq fd)))), (a_left, .inl (cI, 200, .inl (ar lt)))] := hD
      exact iv_vret hx hb hr hlocks dX3_queueIfLast_40 (by omega) (by omega) (nq + 1, uI qu nq fd) (by first | exact Or.inl ⟨by omega, by omega, rfl, rfl⟩ | exact Or.inr ⟨by omega, rfl, rfl⟩) (by exact hP.sub [0, 1, 2] rfl) (by exact hD.sub [0, 1, 2] (by decide) rfl) hS
set_option maxHeartbeats 4000000 in
set_option maxRecDepth 100000 in
theorem ok_X3_neighbourLeft (l : Launch) (D : va_G) (cI : ClassId) (cZ : ClassId) (h : Nat) (a_left : Nat) (g : Nat) (a_first_g : Nat) (a_second_g : Nat) (a_unfenced_g : Nat) (a_sidesAt_g : Nat) (a_sideCount_g : Nat) (v_partOf : Value) (v_kind : Value) (v_fields : Value) (v_sides : Value) (v_loose : Value) (v_least : Value) (v_queue : Value) (v_queued : Value) (v_count : Value) (v_knots : Value) (v_seen : Value) (v_line_g : Value) (v_drawer_g : Value) (v_openCount_g : Value) (v_owner_g : Value) (v_owned_g : Value) (v_fields_g : Value) (v_sides_g : Value) (v_openSides_g : Value) (v_done_g : Value) (v_known_g : Value) (v_turn_g : Value) (v_changes_g : Value) (lt : Int → Int) (fa : Int → Int) (sb : Int → Int) (un : Int → Int) (sx : Int → Int) (sc : Int → Int) (sz : Nat) (fd : Int) (hfd : 0 ≤ fd ∧ fd < 200) (hsc : 0 ≤ sc fd ∧ sc fd ≤ 4) (hsx : ∀ j : Int, 0 ≤ j → j < sc fd → 0 ≤ sx (fd * 4 + j) ∧ sx (fd * 4 + j) < 500 ∧ (un (sx (fd * 4 + j)) = 0 ∨ un (sx (fd * 4 + j)) = 1) ∧ (-1 ≤ sb (sx (fd * 4 + j)) ∧ sb (sx (fd * 4 + j)) < 200) ∧ (0 ≤ fa (sx (fd * 4 + j)) ∧ fa (sx (fd * 4 + j)) < 200)) (hlt : ∀ f : Int, 0 ≤ f → f < 200 → -1000 ≤ lt f ∧ lt f ≤ 1000) : MetI l yX3_neighbourLeft (wd yX3_neighbourLeft cX3_neighbourLeft 6 (some .int)) ({ frames := 1, cells := 0, slots := 0, locals := 22 } : Room) [.ref h, .ref g, .int (iN fd)] D [(cI, .int), (cZ, .boolean)] [(h, .inr (3, [v_partOf, v_kind, v_fields, v_sides, v_loose, v_least, v_queue, .ref a_left, v_queued, v_count, v_knots, v_seen])), (g, .inr (2, [.ref a_first_g, .ref a_second_g, .ref a_unfenced_g, v_line_g, v_drawer_g, .ref a_sidesAt_g, .ref a_sideCount_g, v_openCount_g, v_owner_g, v_owned_g, v_fields_g, v_sides_g, v_openSides_g, v_done_g, v_known_g, v_turn_g, v_changes_g])), (a_left, .inl (cI, 200, .inl (ar lt))), (a_first_g, .inl (cI, 500, .inl (ar fa))), (a_second_g, .inl (cI, 500, .inl (ar sb))), (a_unfenced_g, .inl (cZ, 500, .inl (ar un))), (a_sidesAt_g, .inl (cI, 800, .inl (ar sx))), (a_sideCount_g, .inl (cI, 200, .inl (ar sc)))] sz (fun _ : Unit => [(h, .inr (3, [v_partOf, v_kind, v_fields, v_sides, v_loose, v_least, v_queue, .ref a_left, v_queued, v_count, v_knots, v_seen])), (g, .inr (2, [.ref a_first_g, .ref a_second_g, .ref a_unfenced_g, v_line_g, v_drawer_g, .ref a_sidesAt_g, .ref a_sideCount_g, v_openCount_g, v_owner_g, v_owned_g, v_fields_g, v_sides_g, v_openSides_g, v_done_g, v_known_g, v_turn_g, v_changes_g])), (a_left, .inl (cI, 200, .inl (ar lt))), (a_first_g, .inl (cI, 500, .inl (ar fa))), (a_second_g, .inl (cI, 500, .inl (ar sb))), (a_unfenced_g, .inl (cZ, 500, .inl (ar un))), (a_sidesAt_g, .inl (cI, 800, .inl (ar sx))), (a_sideCount_g, .inl (cI, 200, .inl (ar sc)))]) (fun z _ => (∃ j : Int, 0 ≤ j ∧ j < sc fd ∧ nbL fa sb un sx lt fd j ∧ z = acr fa sb (sx (fd * 4 + j)) fd) ∨ ((∀ j : Int, 0 ≤ j → j < sc fd → ¬ nbL fa sb un sx lt fd j) ∧ z = -1)) 0 0 := by
  refine iv_mkI (cc := cX3_neighbourLeft) (maxL := 6) (by decide) rfl (Nat.le_of_ble_eq_true rfl) ?_
  intro p e s m below meth c A H ls hx hb hr hts hown hlocks hin hml hN hA hK hP hD hS hl
  have hT : ∀ w ∈ T0, w.before [.ref h, .ref g, .int (iN fd)].toArray s = true := fun w h => hts w (List.mem_cons_of_mem _ h)
  have hown : s.vm.findClass RX3 = some m.cls := hown
  have hl : lv_has ls 6 [(0, .ref h), (1, .ref g), (2, .int (iN fd))] := hl
  refine iv_iconst hx hb dX3_neighbourLeft_0 ?_
  refine lv_istore_n (lv' := [(3, .int (iN 0)), (0, .ref h), (1, .ref g), (2, .int (iN fd))]) hx hb dX3_neighbourLeft_1 rfl hl (by decide) rfl (fun ls hl => ?_)
  have lab_2 : ∀ (fuel : Nat) (i : Int), (0 ≤ i ∧ i ≤ sc fd) → (∀ j : Int, 0 ≤ j → j < i → ¬ nbL fa sb un sx lt fd j) → (sc fd - i < (fuel : Int)) → ∀ (H : Heap) (locs : List Loc) (ls : Array Slot), va_P D vwCl [(h, .inr (3, [v_partOf, v_kind, v_fields, v_sides, v_loose, v_least, v_queue, .ref a_left, v_queued, v_count, v_knots, v_seen])), (g, .inr (2, [.ref a_first_g, .ref a_second_g, .ref a_unfenced_g, v_line_g, v_drawer_g, .ref a_sidesAt_g, .ref a_sideCount_g, v_openCount_g, v_owner_g, v_owned_g, v_fields_g, v_sides_g, v_openSides_g, v_done_g, v_known_g, v_turn_g, v_changes_g])), (a_left, .inl (cI, 200, .inl (ar lt))), (a_first_g, .inl (cI, 500, .inl (ar fa))), (a_second_g, .inl (cI, 500, .inl (ar sb))), (a_unfenced_g, .inl (cZ, 500, .inl (ar un))), (a_sidesAt_g, .inl (cI, 800, .inl (ar sx))), (a_sideCount_g, .inl (cI, 200, .inl (ar sc)))] H → va_D A [(h, .inr (3, [v_partOf, v_kind, v_fields, v_sides, v_loose, v_least, v_queue, .ref a_left, v_queued, v_count, v_knots, v_seen])), (g, .inr (2, [.ref a_first_g, .ref a_second_g, .ref a_unfenced_g, v_line_g, v_drawer_g, .ref a_sidesAt_g, .ref a_sideCount_g, v_openCount_g, v_owner_g, v_owned_g, v_fields_g, v_sides_g, v_openSides_g, v_done_g, v_known_g, v_turn_g, v_changes_g])), (a_left, .inl (cI, 200, .inl (ar lt))), (a_first_g, .inl (cI, 500, .inl (ar fa))), (a_second_g, .inl (cI, 500, .inl (ar sb))), (a_unfenced_g, .inl (cZ, 500, .inl (ar un))), (a_sidesAt_g, .inl (cI, 800, .inl (ar sx))), (a_sideCount_g, .inl (cI, 200, .inl (ar sc)))] → va_S A s.heap H locs → lv_has ls 6 [(0, .ref h), (1, .ref g), (2, .int (iN fd)), (3, .int (iN i))] → W p l e ({ frames := 1, cells := 0, slots := 0, locals := 22 } : Room) s m [.ref h, .ref g, .int (iN fd)].toArray below meth c H locs 0 0 (MQ below (iv_Qi D A (fun _ : Unit => [(h, .inr (3, [v_partOf, v_kind, v_fields, v_sides, v_loose, v_least, v_queue, .ref a_left, v_queued, v_count, v_knots, v_seen])), (g, .inr (2, [.ref a_first_g, .ref a_second_g, .ref a_unfenced_g, v_line_g, v_drawer_g, .ref a_sidesAt_g, .ref a_sideCount_g, v_openCount_g, v_owner_g, v_owned_g, v_fields_g, v_sides_g, v_openSides_g, v_done_g, v_known_g, v_turn_g, v_changes_g])), (a_left, .inl (cI, 200, .inl (ar lt))), (a_first_g, .inl (cI, 500, .inl (ar fa))), (a_second_g, .inl (cI, 500, .inl (ar sb))), (a_unfenced_g, .inl (cZ, 500, .inl (ar un))), (a_sidesAt_g, .inl (cI, 800, .inl (ar sx))), (a_sideCount_g, .inl (cI, 200, .inl (ar sc)))]) (fun z _ => (∃ j : Int, 0 ≤ j ∧ j < sc fd ∧ nbL fa sb un sx lt fd j ∧ z = acr fa sb (sx (fd * 4 + j)) fd) ∨ ((∀ j : Int, 0 ≤ j → j < sc fd → ¬ nbL fa sb un sx lt fd j) ∧ z = -1))) [.ref h, .ref g, .int (iN fd)].toArray s 0 0 A) (F0 m 2 ls []) := by
    intro fuel
    induction fuel with
    | zero =>
      intro i hi hno hm
      exact absurd hm (by omega)
    | succ fuel ih =>
      intro i hi hno hm H locs ls hP hD hS hl
      have ih_2 := ih
      refine lv_iload_n hx hb dX3_neighbourLeft_2 rfl (lv_at hl 3 rfl) ?_
      refine lv_aload_n hx hb dX3_neighbourLeft_3 rfl (lv_at hl 1 rfl) ?_
      refine va_getN (D := D) (ci := 2) (v := .ref a_sideCount_g) (C := RX2) (T := TX2) (N := 17) hx hb hT hiX2 hown hK hP 1 rfl rfl 6 (by decide) (hN.use _ k_105 rfl) (fun _ h9 => h9) rfl dX3_neighbourLeft_4 ?_
      refine lv_iload_n hx hb dX3_neighbourLeft_7 rfl (lv_at hl 2 rfl) ?_
      refine iv_iald hx hb hK hP 7 0 rfl rfl (f := sc) (by omega) (by omega) dX3_neighbourLeft_8 ?_
      refine iv_icmp_ge (tgt := 64) hx hb dX3_neighbourLeft_9 (by decide) (by omega) (by omega) (fun c9 => ?_) (fun c9 => ?_)
      · refine iv_iconst hx hb dX3_neighbourLeft_64 ?_
        exact iv_iret hx hb hr hlocks dX3_neighbourLeft_65 (by omega) (by omega) () (by exact Or.inr ⟨fun j a b => hno j a (by omega), rfl⟩) (by exact hP.sub [0, 1, 2, 3, 4, 5, 6, 7] rfl) (by exact hD.sub [0, 1, 2, 3, 4, 5, 6, 7] (by decide) rfl) hS
      · have ⟨s1, s2, s3, s4, s5⟩ := hsx i (by omega) (by omega)
        refine lv_aload_n hx hb dX3_neighbourLeft_12 rfl (lv_at hl 1 rfl) ?_
        refine lv_iload_n hx hb dX3_neighbourLeft_13 rfl (lv_at hl 2 rfl) ?_
        refine lv_iload_n hx hb dX3_neighbourLeft_14 rfl (lv_at hl 3 rfl) ?_
        refine iv_callV (mc := 0) (ms := 0) (wc := [(g, .inr (2, [.ref a_first_g, .ref a_second_g, .ref a_unfenced_g, v_line_g, v_drawer_g, .ref a_sidesAt_g, .ref a_sideCount_g, v_openCount_g, v_owner_g, v_owned_g, v_fields_g, v_sides_g, v_openSides_g, v_done_g, v_known_g, v_turn_g, v_changes_g])), (a_sidesAt_g, .inl (cI, 800, .inl (ar sx)))]) (wr := [(h, .inr (3, [v_partOf, v_kind, v_fields, v_sides, v_loose, v_least, v_queue, .ref a_left, v_queued, v_count, v_knots, v_seen])), (a_left, .inl (cI, 200, .inl (ar lt))), (a_first_g, .inl (cI, 500, .inl (ar fa))), (a_second_g, .inl (cI, 500, .inl (ar sb))), (a_unfenced_g, .inl (cZ, 500, .inl (ar un))), (a_sideCount_g, .inl (cI, 200, .inl (ar sc)))]) (As := [.int (iN fd), .int (iN i)]) (rest := []) ⟨hx, hb, hml, hown, hT⟩ (ok_X2_sideAt l D cI g a_sidesAt_g (.ref a_first_g) (.ref a_second_g) (.ref a_unfenced_g) v_line_g v_drawer_g (.ref a_sideCount_g) v_openCount_g v_owner_g v_owned_g v_fields_g v_sides_g v_openSides_g v_done_g v_known_g v_turn_g v_changes_g sx H.size fd i (by first | with_reducible assumption | omega | assumption) (by first | with_reducible assumption | omega | assumption)) (iv_cw 2 hT k_471 k_61 k_468 k_469 k_470 (by decide +kernel) rfl rfl ⟨Nat.le_of_ble_eq_true rfl, Nat.le_of_ble_eq_true rfl⟩) hN hK hP hD hS hA [1, 6] [0, 2, 3, 4, 5, 7] [0] rfl rfl (by decide) (by decide) (by decide) rfl 0 (ci := 2) rfl rfl rfl hl.1 rfl (Nat.le_of_ble_eq_true rfl) dX3_neighbourLeft_15 ⟨Nat.le_of_ble_eq_true rfl, Nat.le_of_ble_eq_true rfl⟩ (fun z15 u15 H locs hw15 hP hD hS => ?_)
        obtain rfl := hw15
        have hP := hP.sub (ws' := [(h, .inr (3, [v_partOf, v_kind, v_fields, v_sides, v_loose, v_least, v_queue, .ref a_left, v_queued, v_count, v_knots, v_seen])), (g, .inr (2, [.ref a_first_g, .ref a_second_g, .ref a_unfenced_g, v_line_g, v_drawer_g, .ref a_sidesAt_g, .ref a_sideCount_g, v_openCount_g, v_owner_g, v_owned_g, v_fields_g, v_sides_g, v_openSides_g, v_done_g, v_known_g, v_turn_g, v_changes_g])), (a_left, .inl (cI, 200, .inl (ar lt))), (a_first_g, .inl (cI, 500, .inl (ar fa))), (a_second_g, .inl (cI, 500, .inl (ar sb))), (a_unfenced_g, .inl (cZ, 500, .inl (ar un))), (a_sidesAt_g, .inl (cI, 800, .inl (ar sx))), (a_sideCount_g, .inl (cI, 200, .inl (ar sc)))]) [0, 6, 1, 2, 3, 4, 7, 5] rfl
        have hD := hD.sub (ws' := [(h, .inr (3, [v_partOf, v_kind, v_fields, v_sides, v_loose, v_least, v_queue, .ref a_left, v_queued, v_count, v_knots, v_seen])), (g, .inr (2, [.ref a_first_g, .ref a_second_g, .ref a_unfenced_g, v_line_g, v_drawer_g, .ref a_sidesAt_g, .ref a_sideCount_g, v_openCount_g, v_owner_g, v_owned_g, v_fields_g, v_sides_g, v_openSides_g, v_done_g, v_known_g, v_turn_g, v_changes_g])), (a_left, .inl (cI, 200, .inl (ar lt))), (a_first_g, .inl (cI, 500, .inl (ar fa))), (a_second_g, .inl (cI, 500, .inl (ar sb))), (a_unfenced_g, .inl (cZ, 500, .inl (ar un))), (a_sidesAt_g, .inl (cI, 800, .inl (ar sx))), (a_sideCount_g, .inl (cI, 200, .inl (ar sc)))]) [0, 6, 1, 2, 3, 4, 7, 5] (by decide) rfl
        refine lv_istore (lv' := [(4, .int (iN (sx (fd * 4 + i)))), (0, .ref h), (1, .ref g), (2, .int (iN fd)), (3, .int (iN i))]) hx hb dX3_neighbourLeft_18 hl (by decide) rfl (fun ls hl => ?_)
        refine lv_aload_n hx hb dX3_neighbourLeft_20 rfl (lv_at hl 2 rfl) ?_
        refine lv_iload hx hb dX3_neighbourLeft_21 (lv_at hl 0 rfl) ?_
        refine lv_iload_n hx hb dX3_neighbourLeft_23 rfl (lv_at hl 3 rfl) ?_
        refine iv_callV (mc := 0) (ms := 0) (wc := [(g, .inr (2, [.ref a_first_g, .ref a_second_g, .ref a_unfenced_g, v_line_g, v_drawer_g, .ref a_sidesAt_g, .ref a_sideCount_g, v_openCount_g, v_owner_g, v_owned_g, v_fields_g, v_sides_g, v_openSides_g, v_done_g, v_known_g, v_turn_g, v_changes_g])), (a_first_g, .inl (cI, 500, .inl (ar fa))), (a_second_g, .inl (cI, 500, .inl (ar sb)))]) (wr := [(h, .inr (3, [v_partOf, v_kind, v_fields, v_sides, v_loose, v_least, v_queue, .ref a_left, v_queued, v_count, v_knots, v_seen])), (a_left, .inl (cI, 200, .inl (ar lt))), (a_unfenced_g, .inl (cZ, 500, .inl (ar un))), (a_sidesAt_g, .inl (cI, 800, .inl (ar sx))), (a_sideCount_g, .inl (cI, 200, .inl (ar sc)))]) (As := [.int (iN (sx (fd * 4 + i))), .int (iN fd)]) (rest := []) ⟨hx, hb, hml, hown, hT⟩ (ok_X2_across l D cI g a_first_g a_second_g (.ref a_unfenced_g) v_line_g v_drawer_g (.ref a_sidesAt_g) (.ref a_sideCount_g) v_openCount_g v_owner_g v_owned_g v_fields_g v_sides_g v_openSides_g v_done_g v_known_g v_turn_g v_changes_g fa sb H.size (sx (fd * 4 + i)) fd (by first | with_reducible assumption | omega | assumption) (by first | with_reducible assumption | omega | assumption) (by first | with_reducible assumption | omega | assumption)) (iv_cw 2 hT k_475 k_61 k_472 k_473 k_474 (by decide +kernel) rfl rfl ⟨Nat.le_of_ble_eq_true rfl, Nat.le_of_ble_eq_true rfl⟩) hN hK hP hD hS hA [1, 3, 4] [0, 2, 5, 6, 7] [0] rfl rfl (by decide) (by decide) (by decide) rfl 0 (ci := 2) rfl rfl rfl hl.1 rfl (Nat.le_of_ble_eq_true rfl) dX3_neighbourLeft_24 ⟨Nat.le_of_ble_eq_true rfl, Nat.le_of_ble_eq_true rfl⟩ (fun z24 u24 H locs hw24 hP hD hS => ?_)
        have hP := hP.sub (ws' := [(h, .inr (3, [v_partOf, v_kind, v_fields, v_sides, v_loose, v_least, v_queue, .ref a_left, v_queued, v_count, v_knots, v_seen])), (g, .inr (2, [.ref a_first_g, .ref a_second_g, .ref a_unfenced_g, v_line_g, v_drawer_g, .ref a_sidesAt_g, .ref a_sideCount_g, v_openCount_g, v_owner_g, v_owned_g, v_fields_g, v_sides_g, v_openSides_g, v_done_g, v_known_g, v_turn_g, v_changes_g])), (a_left, .inl (cI, 200, .inl (ar lt))), (a_first_g, .inl (cI, 500, .inl (ar fa))), (a_second_g, .inl (cI, 500, .inl (ar sb))), (a_unfenced_g, .inl (cZ, 500, .inl (ar un))), (a_sidesAt_g, .inl (cI, 800, .inl (ar sx))), (a_sideCount_g, .inl (cI, 200, .inl (ar sc)))]) [0, 5, 1, 6, 7, 2, 3, 4] rfl
        have hD := hD.sub (ws' := [(h, .inr (3, [v_partOf, v_kind, v_fields, v_sides, v_loose, v_least, v_queue, .ref a_left, v_queued, v_count, v_knots, v_seen])), (g, .inr (2, [.ref a_first_g, .ref a_second_g, .ref a_unfenced_g, v_line_g, v_drawer_g, .ref a_sidesAt_g, .ref a_sideCount_g, v_openCount_g, v_owner_g, v_owned_g, v_fields_g, v_sides_g, v_openSides_g, v_done_g, v_known_g, v_turn_g, v_changes_g])), (a_left, .inl (cI, 200, .inl (ar lt))), (a_first_g, .inl (cI, 500, .inl (ar fa))), (a_second_g, .inl (cI, 500, .inl (ar sb))), (a_unfenced_g, .inl (cZ, 500, .inl (ar un))), (a_sidesAt_g, .inl (cI, 800, .inl (ar sx))), (a_sideCount_g, .inl (cI, 200, .inl (ar sc)))]) [0, 5, 1, 6, 7, 2, 3, 4] (by decide) rfl
        have eac : z24 = acr fa sb (sx (fd * 4 + i)) fd := hw24
        have hzb : -1 ≤ z24 ∧ z24 < 200 := by rw [hw24]; split <;> omega
        refine lv_istore (lv' := [(5, .int (iN z24)), (4, .int (iN (sx (fd * 4 + i)))), (0, .ref h), (1, .ref g), (2, .int (iN fd)), (3, .int (iN i))]) hx hb dX3_neighbourLeft_27 hl (by decide) rfl (fun ls hl => ?_)
        refine lv_aload_n hx hb dX3_neighbourLeft_29 rfl (lv_at hl 3 rfl) ?_
        refine va_getN (D := D) (ci := 2) (v := .ref a_unfenced_g) (C := RX2) (T := TX2) (N := 17) hx hb hT hiX2 hown hK hP 1 rfl rfl 2 (by decide) (hN.use _ k_98 rfl) (fun _ h9 => h9) rfl dX3_neighbourLeft_30 ?_
        refine lv_iload hx hb dX3_neighbourLeft_33 (lv_at hl 1 rfl) ?_
        refine iv_zald hx hb hK hP 5 1 rfl rfl (f := un) (by omega) (by omega) dX3_neighbourLeft_35 ?_
        refine iv_if_eq (tgt := 58) hx hb dX3_neighbourLeft_36 (by decide) (by omega) (fun c36 => ?_) (fun c36 => ?_)
        · refine lv_iinc (v := iN (i + 1)) (lv' := [(3, .int (iN (i + 1))), (5, .int (iN z24)), (4, .int (iN (sx (fd * 4 + i)))), (0, .ref h), (1, .ref g), (2, .int (iN fd))]) hx hb dX3_neighbourLeft_58 hl (k := 5) rfl (iN_add _ _) (by decide) rfl (fun ls hl => ?_)
          refine lv_goto (tgt := 2) hx hb dX3_neighbourLeft_61 (by decide) ?_
          exact ih_2 (i + 1) (by first | omega | with_reducible assumption | assumption) (by intro j a b; by_cases ej : j = i; (rw [ej]; unfold nbL; rw [← eac]; omega); exact hno j a (by omega)) (by omega) _ _ _ (hP.sub [0, 1, 2, 3, 4, 5, 6, 7] rfl) (hD.sub [0, 1, 2, 3, 4, 5, 6, 7] (by decide) rfl) hS (lv_sub hl [3, 4, 5, 0] rfl)
        · refine lv_iload hx hb dX3_neighbourLeft_39 (lv_at hl 0 rfl) ?_
          refine iv_iconst hx hb dX3_neighbourLeft_41 ?_
          refine iv_icmp_eq (tgt := 58) hx hb dX3_neighbourLeft_42 (by decide) (by omega) (by omega) (fun c42 => ?_) (fun c42 => ?_)
          · refine lv_iinc (v := iN (i + 1)) (lv' := [(3, .int (iN (i + 1))), (5, .int (iN z24)), (4, .int (iN (sx (fd * 4 + i)))), (0, .ref h), (1, .ref g), (2, .int (iN fd))]) hx hb dX3_neighbourLeft_58 hl (k := 5) rfl (iN_add _ _) (by decide) rfl (fun ls hl => ?_)
            refine lv_goto (tgt := 2) hx hb dX3_neighbourLeft_61 (by decide) ?_
            exact ih_2 (i + 1) (by first | omega | with_reducible assumption | assumption) (by intro j a b; by_cases ej : j = i; (rw [ej]; unfold nbL; rw [← eac]; omega); exact hno j a (by omega)) (by omega) _ _ _ (hP.sub [0, 1, 2, 3, 4, 5, 6, 7] rfl) (hD.sub [0, 1, 2, 3, 4, 5, 6, 7] (by decide) rfl) hS (lv_sub hl [3, 4, 5, 0] rfl)
          · refine lv_aload_n hx hb dX3_neighbourLeft_45 rfl (lv_at hl 2 rfl) ?_
            refine va_get (D := D) (ci := 3) (v := .ref a_left) (C := RX3) (T := TX3) (N := 12) hx hb hT hiX3 hown hK hP 0 rfl rfl 7 (by decide) (hT _ k_190) (fun _ h9 => h9) rfl dX3_neighbourLeft_46 ?_
            refine lv_iload hx hb dX3_neighbourLeft_49 (lv_at hl 0 rfl) ?_
            refine iv_iald hx hb hK hP 2 0 rfl rfl (f := lt) (by omega) (by omega) dX3_neighbourLeft_51 ?_
            refine iv_if_le (tgt := 58) hx hb dX3_neighbourLeft_52 (by decide) (by have := hlt z24 (by omega) (by omega); omega) (fun c52 => ?_) (fun c52 => ?_)
            · refine lv_iinc (v := iN (i + 1)) (lv' := [(3, .int (iN (i + 1))), (5, .int (iN z24)), (4, .int (iN (sx (fd * 4 + i)))), (0, .ref h), (1, .ref g), (2, .int (iN fd))]) hx hb dX3_neighbourLeft_58 hl (k := 5) rfl (iN_add _ _) (by decide) rfl (fun ls hl => ?_)
              refine lv_goto (tgt := 2) hx hb dX3_neighbourLeft_61 (by decide) ?_
              exact ih_2 (i + 1) (by first | omega | with_reducible assumption | assumption) (by intro j a b; by_cases ej : j = i; (rw [ej]; unfold nbL; rw [← eac]; omega); exact hno j a (by omega)) (by omega) _ _ _ (hP.sub [0, 1, 2, 3, 4, 5, 6, 7] rfl) (hD.sub [0, 1, 2, 3, 4, 5, 6, 7] (by decide) rfl) hS (lv_sub hl [3, 4, 5, 0] rfl)
            · refine lv_iload hx hb dX3_neighbourLeft_55 (lv_at hl 0 rfl) ?_
              exact iv_iret hx hb hr hlocks dX3_neighbourLeft_57 (by omega) (by omega) () (by exact Or.inl ⟨i, by omega, by omega, by unfold nbL; rw [← eac]; omega, eac⟩) (by exact hP.sub [0, 1, 2, 3, 4, 5, 6, 7] rfl) (by exact hD.sub [0, 1, 2, 3, 4, 5, 6, 7] (by decide) rfl) hS
  exact lab_2 ((sc fd - 0 : Int).toNat + 1) 0 (by first | omega | with_reducible assumption | assumption) (by intro j a b; omega) (by omega) _ _ _ (hP.sub [0, 1, 2, 3, 4, 5, 6, 7] rfl) (hD.sub [0, 1, 2, 3, 4, 5, 6, 7] (by decide) rfl) hS (lv_sub hl [1, 2, 3, 0] rfl)
set_option maxHeartbeats 4000000 in
set_option maxRecDepth 100000 in
theorem ok_X3_countLongs (l : Launch) (D : va_G) (cI : ClassId) (h : Nat) (a_kind : Nat) (a_fields : Nat) (a_loose : Nat) (v_partOf : Value) (v_sides : Value) (v_least : Value) (v_queue : Value) (v_left : Value) (v_queued : Value) (v_knots : Value) (v_seen : Value) (kd : Int → Int) (fl : Int → Int) (lo : Int → Int) (ct : Int) (sz : Nat) (hct : 0 ≤ ct ∧ ct ≤ 200) (hkd : ∀ p : Int, 0 ≤ p → p < ct → (0 ≤ kd p ∧ kd p ≤ 2) ∧ (0 ≤ fl p ∧ fl p ≤ 200) ∧ (0 ≤ lo p ∧ lo p ≤ 200)) : MetI l yX3_countLongs (wd yX3_countLongs cX3_countLongs 4 (some .int)) ({ frames := 0, cells := 0, slots := 0, locals := 0 } : Room) [.ref h] D [(cI, .int)] [(h, .inr (3, [v_partOf, .ref a_kind, .ref a_fields, v_sides, .ref a_loose, v_least, v_queue, v_left, v_queued, .int (iN ct), v_knots, v_seen])), (a_kind, .inl (cI, 200, .inl (ar kd))), (a_fields, .inl (cI, 200, .inl (ar fl))), (a_loose, .inl (cI, 200, .inl (ar lo)))] sz (fun _ : Unit => [(h, .inr (3, [v_partOf, .ref a_kind, .ref a_fields, v_sides, .ref a_loose, v_least, v_queue, v_left, v_queued, .int (iN ct), v_knots, v_seen])), (a_kind, .inl (cI, 200, .inl (ar kd))), (a_fields, .inl (cI, 200, .inl (ar fl))), (a_loose, .inl (cI, 200, .inl (ar lo)))]) (fun z _ => z = lng kd fl lo ct) 0 0 := by
  refine iv_mkI (cc := cX3_countLongs) (maxL := 4) (by decide) rfl (Nat.le_of_ble_eq_true rfl) ?_
  intro p e s m below meth c A H ls hx hb hr hts hown hlocks hin hml hN hA hK hP hD hS hl
  have hT : ∀ w ∈ T0, w.before [.ref h].toArray s = true := fun w h => hts w (List.mem_cons_of_mem _ h)
  have hown : s.vm.findClass RX3 = some m.cls := hown
  have hl : lv_has ls 4 [(0, .ref h)] := hl
  refine iv_iconst hx hb dX3_countLongs_0 ?_
  refine lv_istore_n (lv' := [(1, .int (iN 0)), (0, .ref h)]) hx hb dX3_countLongs_1 rfl hl (by decide) rfl (fun ls hl => ?_)
  refine iv_iconst hx hb dX3_countLongs_2 ?_
  refine lv_istore_n (lv' := [(2, .int (iN 0)), (1, .int (iN 0)), (0, .ref h)]) hx hb dX3_countLongs_3 rfl hl (by decide) rfl (fun ls hl => ?_)
  have lab_4 : ∀ (fuel : Nat) (n : Int) (i : Int), (0 ≤ i ∧ i ≤ ct) → (n = lng kd fl lo i) → (ct - i < (fuel : Int)) → ∀ (H : Heap) (locs : List Loc) (ls : Array Slot), va_P D vwCl [(h, .inr (3, [v_partOf, .ref a_kind, .ref a_fields, v_sides, .ref a_loose, v_least, v_queue, v_left, v_queued, .int (iN ct), v_knots, v_seen])), (a_kind, .inl (cI, 200, .inl (ar kd))), (a_fields, .inl (cI, 200, .inl (ar fl))), (a_loose, .inl (cI, 200, .inl (ar lo)))] H → va_D A [(h, .inr (3, [v_partOf, .ref a_kind, .ref a_fields, v_sides, .ref a_loose, v_least, v_queue, v_left, v_queued, .int (iN ct), v_knots, v_seen])), (a_kind, .inl (cI, 200, .inl (ar kd))), (a_fields, .inl (cI, 200, .inl (ar fl))), (a_loose, .inl (cI, 200, .inl (ar lo)))] → va_S A s.heap H locs → lv_has ls 4 [(0, .ref h), (1, .int (iN n)), (2, .int (iN i))] → W p l e ({ frames := 0, cells := 0, slots := 0, locals := 0 } : Room) s m [.ref h].toArray below meth c H locs 0 0 (MQ below (iv_Qi D A (fun _ : Unit => [(h, .inr (3, [v_partOf, .ref a_kind, .ref a_fields, v_sides, .ref a_loose, v_least, v_queue, v_left, v_queued, .int (iN ct), v_knots, v_seen])), (a_kind, .inl (cI, 200, .inl (ar kd))), (a_fields, .inl (cI, 200, .inl (ar fl))), (a_loose, .inl (cI, 200, .inl (ar lo)))]) (fun z _ => z = lng kd fl lo ct)) [.ref h].toArray s 0 0 A) (F0 m 4 ls []) := by
    intro fuel
    induction fuel with
    | zero =>
      intro n i hi hn hm
      exact absurd hm (by omega)
    | succ fuel ih =>
      intro n i hi hn hm H locs ls hP hD hS hl
      have ih_4 := ih
      refine lv_iload_n hx hb dX3_countLongs_4 rfl (lv_at hl 2 rfl) ?_
      refine lv_aload_n hx hb dX3_countLongs_5 rfl (lv_at hl 0 rfl) ?_
      refine va_get (D := D) (ci := 3) (v := .int (iN ct)) (C := RX3) (T := TX3) (N := 12) hx hb hT hiX3 hown hK hP 0 rfl rfl 9 (by decide) (hT _ k_192) (fun _ h9 => h9) rfl dX3_countLongs_6 ?_
      refine iv_icmp_ge (tgt := 69) hx hb dX3_countLongs_9 (by decide) (by omega) (by omega) (fun c9 => ?_) (fun c9 => ?_)
      · refine lv_iload_n hx hb dX3_countLongs_69 rfl (lv_at hl 1 rfl) ?_
        exact iv_iret hx hb hr hlocks dX3_countLongs_70 (by omega) (by omega) () (by rw [hn, show i = ct by omega]) (by exact hP.sub [0, 1, 2, 3] rfl) (by exact hD.sub [0, 1, 2, 3] (by decide) rfl) hS
      · have ⟨s1, s2, s3⟩ := hkd i (by omega) (by omega)
        refine lv_aload_n hx hb dX3_countLongs_12 rfl (lv_at hl 0 rfl) ?_
        refine va_get (D := D) (ci := 3) (v := .ref a_kind) (C := RX3) (T := TX3) (N := 12) hx hb hT hiX3 hown hK hP 0 rfl rfl 1 (by decide) (hT _ k_176) (fun _ h9 => h9) rfl dX3_countLongs_13 ?_
        refine lv_iload_n hx hb dX3_countLongs_16 rfl (lv_at hl 2 rfl) ?_
        refine iv_iald hx hb hK hP 1 0 rfl rfl (f := kd) (by omega) (by omega) dX3_countLongs_17 ?_
        refine iv_if_ne (tgt := 44) hx hb dX3_countLongs_18 (by decide) (by omega) (fun c18 => ?_) (fun c18 => ?_)
        · refine iv_iconst hx hb dX3_countLongs_44 ?_
          refine lv_istore_n (lv' := [(3, .int (iN 0)), (0, .ref h), (1, .int (iN n)), (2, .int (iN i))]) hx hb dX3_countLongs_45 rfl hl (by decide) rfl (fun ls hl => ?_)
          refine lv_iload_n hx hb dX3_countLongs_46 rfl (lv_at hl 0 rfl) ?_
          refine iv_if_ne (tgt := 60) hx hb dX3_countLongs_47 (by decide) (by omega) (fun c47 => ?_) (fun c47 => ?_)
          · exact absurd c47 (by decide)
          · refine lv_aload_n hx hb dX3_countLongs_50 rfl (lv_at hl 1 rfl) ?_
            refine va_get (D := D) (ci := 3) (v := .ref a_kind) (C := RX3) (T := TX3) (N := 12) hx hb hT hiX3 hown hK hP 0 rfl rfl 1 (by decide) (hT _ k_176) (fun _ h9 => h9) rfl dX3_countLongs_51 ?_
            refine lv_iload_n hx hb dX3_countLongs_54 rfl (lv_at hl 3 rfl) ?_
            refine iv_iald hx hb hK hP 1 0 rfl rfl (f := kd) (by omega) (by omega) dX3_countLongs_55 ?_
            refine iv_iconst hx hb dX3_countLongs_56 ?_
            refine iv_icmp_ne (tgt := 63) hx hb dX3_countLongs_57 (by decide) (by omega) (by omega) (fun c57 => ?_) (fun c57 => ?_)
            · refine lv_iinc (v := iN (i + 1)) (lv' := [(2, .int (iN (i + 1))), (3, .int (iN 0)), (0, .ref h), (1, .int (iN n))]) hx hb dX3_countLongs_63 hl (k := 3) rfl (iN_add _ _) (by decide) rfl (fun ls hl => ?_)
              refine lv_goto (tgt := 4) hx hb dX3_countLongs_66 (by decide) ?_
              exact ih_4 n (i + 1) (by first | omega | with_reducible assumption | assumption) (by rw [lng_s (by omega), ← hn]; split <;> omega) (by omega) _ _ _ (hP.sub [0, 1, 2, 3] rfl) (hD.sub [0, 1, 2, 3] (by decide) rfl) hS (lv_sub hl [2, 3, 0] rfl)
            · refine lv_iinc (v := iN (n + 1)) (lv' := [(1, .int (iN (n + 1))), (3, .int (iN 0)), (0, .ref h), (2, .int (iN i))]) hx hb dX3_countLongs_60 hl (k := 2) rfl (iN_add _ _) (by decide) rfl (fun ls hl => ?_)
              refine lv_iinc (v := iN (i + 1)) (lv' := [(2, .int (iN (i + 1))), (1, .int (iN (n + 1))), (3, .int (iN 0)), (0, .ref h)]) hx hb dX3_countLongs_63 hl (k := 3) rfl (iN_add _ _) (by decide) rfl (fun ls hl => ?_)
              refine lv_goto (tgt := 4) hx hb dX3_countLongs_66 (by decide) ?_
              exact ih_4 (n + 1) (i + 1) (by first | omega | with_reducible assumption | assumption) (by rw [lng_s (by omega), ← hn]; split <;> omega) (by omega) _ _ _ (hP.sub [0, 1, 2, 3] rfl) (hD.sub [0, 1, 2, 3] (by decide) rfl) hS (lv_sub hl [3, 1, 0] rfl)
        · refine lv_aload_n hx hb dX3_countLongs_21 rfl (lv_at hl 0 rfl) ?_
          refine va_get (D := D) (ci := 3) (v := .ref a_fields) (C := RX3) (T := TX3) (N := 12) hx hb hT hiX3 hown hK hP 0 rfl rfl 2 (by decide) (hT _ k_179) (fun _ h9 => h9) rfl dX3_countLongs_22 ?_
          refine lv_iload_n hx hb dX3_countLongs_25 rfl (lv_at hl 2 rfl) ?_
          refine iv_iald hx hb hK hP 2 0 rfl rfl (f := fl) (by omega) (by omega) dX3_countLongs_26 ?_
          refine iv_iconst hx hb dX3_countLongs_27 ?_
          refine iv_icmp_lt (tgt := 44) hx hb dX3_countLongs_28 (by decide) (by omega) (by omega) (fun c28 => ?_) (fun c28 => ?_)
          · refine iv_iconst hx hb dX3_countLongs_44 ?_
            refine lv_istore_n (lv' := [(3, .int (iN 0)), (0, .ref h), (1, .int (iN n)), (2, .int (iN i))]) hx hb dX3_countLongs_45 rfl hl (by decide) rfl (fun ls hl => ?_)
            refine lv_iload_n hx hb dX3_countLongs_46 rfl (lv_at hl 0 rfl) ?_
            refine iv_if_ne (tgt := 60) hx hb dX3_countLongs_47 (by decide) (by omega) (fun c47 => ?_) (fun c47 => ?_)
            · exact absurd c47 (by decide)
            · refine lv_aload_n hx hb dX3_countLongs_50 rfl (lv_at hl 1 rfl) ?_
              refine va_get (D := D) (ci := 3) (v := .ref a_kind) (C := RX3) (T := TX3) (N := 12) hx hb hT hiX3 hown hK hP 0 rfl rfl 1 (by decide) (hT _ k_176) (fun _ h9 => h9) rfl dX3_countLongs_51 ?_
              refine lv_iload_n hx hb dX3_countLongs_54 rfl (lv_at hl 3 rfl) ?_
              refine iv_iald hx hb hK hP 1 0 rfl rfl (f := kd) (by omega) (by omega) dX3_countLongs_55 ?_
              refine iv_iconst hx hb dX3_countLongs_56 ?_
              refine iv_icmp_ne (tgt := 63) hx hb dX3_countLongs_57 (by decide) (by omega) (by omega) (fun c57 => ?_) (fun c57 => ?_)
              · refine lv_iinc (v := iN (i + 1)) (lv' := [(2, .int (iN (i + 1))), (3, .int (iN 0)), (0, .ref h), (1, .int (iN n))]) hx hb dX3_countLongs_63 hl (k := 3) rfl (iN_add _ _) (by decide) rfl (fun ls hl => ?_)
                refine lv_goto (tgt := 4) hx hb dX3_countLongs_66 (by decide) ?_
                exact ih_4 n (i + 1) (by first | omega | with_reducible assumption | assumption) (by rw [lng_s (by omega), ← hn]; split <;> omega) (by omega) _ _ _ (hP.sub [0, 1, 2, 3] rfl) (hD.sub [0, 1, 2, 3] (by decide) rfl) hS (lv_sub hl [2, 3, 0] rfl)
              · refine lv_iinc (v := iN (n + 1)) (lv' := [(1, .int (iN (n + 1))), (3, .int (iN 0)), (0, .ref h), (2, .int (iN i))]) hx hb dX3_countLongs_60 hl (k := 2) rfl (iN_add _ _) (by decide) rfl (fun ls hl => ?_)
                refine lv_iinc (v := iN (i + 1)) (lv' := [(2, .int (iN (i + 1))), (1, .int (iN (n + 1))), (3, .int (iN 0)), (0, .ref h)]) hx hb dX3_countLongs_63 hl (k := 3) rfl (iN_add _ _) (by decide) rfl (fun ls hl => ?_)
                refine lv_goto (tgt := 4) hx hb dX3_countLongs_66 (by decide) ?_
                exact ih_4 (n + 1) (i + 1) (by first | omega | with_reducible assumption | assumption) (by rw [lng_s (by omega), ← hn]; split <;> omega) (by omega) _ _ _ (hP.sub [0, 1, 2, 3] rfl) (hD.sub [0, 1, 2, 3] (by decide) rfl) hS (lv_sub hl [3, 1, 0] rfl)
          · refine lv_aload_n hx hb dX3_countLongs_31 rfl (lv_at hl 0 rfl) ?_
            refine va_get (D := D) (ci := 3) (v := .ref a_loose) (C := RX3) (T := TX3) (N := 12) hx hb hT hiX3 hown hK hP 0 rfl rfl 4 (by decide) (hT _ k_184) (fun _ h9 => h9) rfl dX3_countLongs_32 ?_
            refine lv_iload_n hx hb dX3_countLongs_35 rfl (lv_at hl 2 rfl) ?_
            refine iv_iald hx hb hK hP 3 0 rfl rfl (f := lo) (by omega) (by omega) dX3_countLongs_36 ?_
            refine iv_if_ne (tgt := 44) hx hb dX3_countLongs_37 (by decide) (by omega) (fun c37 => ?_) (fun c37 => ?_)
            · refine iv_iconst hx hb dX3_countLongs_44 ?_
              refine lv_istore_n (lv' := [(3, .int (iN 0)), (0, .ref h), (1, .int (iN n)), (2, .int (iN i))]) hx hb dX3_countLongs_45 rfl hl (by decide) rfl (fun ls hl => ?_)
              refine lv_iload_n hx hb dX3_countLongs_46 rfl (lv_at hl 0 rfl) ?_
              refine iv_if_ne (tgt := 60) hx hb dX3_countLongs_47 (by decide) (by omega) (fun c47 => ?_) (fun c47 => ?_)
              · exact absurd c47 (by decide)
              · refine lv_aload_n hx hb dX3_countLongs_50 rfl (lv_at hl 1 rfl) ?_
                refine va_get (D := D) (ci := 3) (v := .ref a_kind) (C := RX3) (T := TX3) (N := 12) hx hb hT hiX3 hown hK hP 0 rfl rfl 1 (by decide) (hT _ k_176) (fun _ h9 => h9) rfl dX3_countLongs_51 ?_
                refine lv_iload_n hx hb dX3_countLongs_54 rfl (lv_at hl 3 rfl) ?_
                refine iv_iald hx hb hK hP 1 0 rfl rfl (f := kd) (by omega) (by omega) dX3_countLongs_55 ?_
                refine iv_iconst hx hb dX3_countLongs_56 ?_
                refine iv_icmp_ne (tgt := 63) hx hb dX3_countLongs_57 (by decide) (by omega) (by omega) (fun c57 => ?_) (fun c57 => ?_)
                · refine lv_iinc (v := iN (i + 1)) (lv' := [(2, .int (iN (i + 1))), (3, .int (iN 0)), (0, .ref h), (1, .int (iN n))]) hx hb dX3_countLongs_63 hl (k := 3) rfl (iN_add _ _) (by decide) rfl (fun ls hl => ?_)
                  refine lv_goto (tgt := 4) hx hb dX3_countLongs_66 (by decide) ?_
                  exact ih_4 n (i + 1) (by first | omega | with_reducible assumption | assumption) (by rw [lng_s (by omega), ← hn]; split <;> omega) (by omega) _ _ _ (hP.sub [0, 1, 2, 3] rfl) (hD.sub [0, 1, 2, 3] (by decide) rfl) hS (lv_sub hl [2, 3, 0] rfl)
                · refine lv_iinc (v := iN (n + 1)) (lv' := [(1, .int (iN (n + 1))), (3, .int (iN 0)), (0, .ref h), (2, .int (iN i))]) hx hb dX3_countLongs_60 hl (k := 2) rfl (iN_add _ _) (by decide) rfl (fun ls hl => ?_)
                  refine lv_iinc (v := iN (i + 1)) (lv' := [(2, .int (iN (i + 1))), (1, .int (iN (n + 1))), (3, .int (iN 0)), (0, .ref h)]) hx hb dX3_countLongs_63 hl (k := 3) rfl (iN_add _ _) (by decide) rfl (fun ls hl => ?_)
                  refine lv_goto (tgt := 4) hx hb dX3_countLongs_66 (by decide) ?_
                  exact ih_4 (n + 1) (i + 1) (by first | omega | with_reducible assumption | assumption) (by rw [lng_s (by omega), ← hn]; split <;> omega) (by omega) _ _ _ (hP.sub [0, 1, 2, 3] rfl) (hD.sub [0, 1, 2, 3] (by decide) rfl) hS (lv_sub hl [3, 1, 0] rfl)
            · refine iv_iconst hx hb dX3_countLongs_40 ?_
              refine lv_goto (tgt := 45) hx hb dX3_countLongs_41 (by decide) ?_
              refine lv_istore_n (lv' := [(3, .int (iN 1)), (0, .ref h), (1, .int (iN n)), (2, .int (iN i))]) hx hb dX3_countLongs_45 rfl hl (by decide) rfl (fun ls hl => ?_)
              refine lv_iload_n hx hb dX3_countLongs_46 rfl (lv_at hl 0 rfl) ?_
              refine iv_if_ne (tgt := 60) hx hb dX3_countLongs_47 (by decide) (by omega) (fun c47 => ?_) (fun c47 => ?_)
              · refine lv_iinc (v := iN (n + 1)) (lv' := [(1, .int (iN (n + 1))), (3, .int (iN 1)), (0, .ref h), (2, .int (iN i))]) hx hb dX3_countLongs_60 hl (k := 2) rfl (iN_add _ _) (by decide) rfl (fun ls hl => ?_)
                refine lv_iinc (v := iN (i + 1)) (lv' := [(2, .int (iN (i + 1))), (1, .int (iN (n + 1))), (3, .int (iN 1)), (0, .ref h)]) hx hb dX3_countLongs_63 hl (k := 3) rfl (iN_add _ _) (by decide) rfl (fun ls hl => ?_)
                refine lv_goto (tgt := 4) hx hb dX3_countLongs_66 (by decide) ?_
                exact ih_4 (n + 1) (i + 1) (by first | omega | with_reducible assumption | assumption) (by rw [lng_s (by omega), ← hn]; split <;> omega) (by omega) _ _ _ (hP.sub [0, 1, 2, 3] rfl) (hD.sub [0, 1, 2, 3] (by decide) rfl) hS (lv_sub hl [3, 1, 0] rfl)
              · exact absurd c47 (by decide)
  exact lab_4 ((ct - 0 : Int).toNat + 1) 0 0 (by first | omega | with_reducible assumption | assumption) (by rfl) (by omega) _ _ _ (hP.sub [0, 1, 2, 3] rfl) (hD.sub [0, 1, 2, 3] (by decide) rfl) hS (lv_sub hl [2, 1, 0] rfl)
