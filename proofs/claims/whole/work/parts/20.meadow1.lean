set_option maxHeartbeats 4000000 in
set_option maxRecDepth 100000 in
theorem ok_X2_hasField (l : Launch) (D : va_G) (h : Nat) (v_first : Value) (v_second : Value) (v_unfenced : Value) (v_line : Value) (v_drawer : Value) (v_sidesAt : Value) (v_sideCount : Value) (v_openCount : Value) (v_owner : Value) (v_owned : Value) (v_sides : Value) (v_openSides : Value) (v_done : Value) (v_known : Value) (v_turn : Value) (v_changes : Value) (nf : Int) (sz : Nat) (fd : Int) (hnf : 0 ≤ nf ∧ nf ≤ 200) (hfd : -2147483648 ≤ fd ∧ fd < 2147483648) : MetI l yX2_hasField (wd yX2_hasField cX2_hasField 2 (some .boolean)) ({ frames := 0, cells := 0, slots := 0, locals := 0 } : Room) [.ref h, .int (iN fd)] D [] [(h, .inr (2, [v_first, v_second, v_unfenced, v_line, v_drawer, v_sidesAt, v_sideCount, v_openCount, v_owner, v_owned, .int (iN nf), v_sides, v_openSides, v_done, v_known, v_turn, v_changes]))] sz (fun _ : Unit => [(h, .inr (2, [v_first, v_second, v_unfenced, v_line, v_drawer, v_sidesAt, v_sideCount, v_openCount, v_owner, v_owned, .int (iN nf), v_sides, v_openSides, v_done, v_known, v_turn, v_changes]))]) (fun z _ => (z = 1 ∧ (0 ≤ fd ∧ fd < nf)) ∨ (z = 0 ∧ (¬ (0 ≤ fd ∧ fd < nf)))) 0 0 := by
  refine iv_mkI (cc := cX2_hasField) (maxL := 2) (by decide) rfl (Nat.le_of_ble_eq_true rfl) ?_
  intro p e s m below meth c A H ls hx hb hr hts hown hlocks hin hml hN hA hK hP hD hS hl
  have hT : ∀ w ∈ T0, w.before [.ref h, .int (iN fd)].toArray s = true := fun w h => hts w (List.mem_cons_of_mem _ h)
  have hown : s.vm.findClass RX2 = some m.cls := hown
  have hl : lv_has ls 2 [(0, .ref h), (1, .int (iN fd))] := hl
  refine lv_iload_n hx hb dX2_hasField_0 rfl (lv_at hl 1 rfl) ?_
  refine iv_if_lt (tgt := 16) hx hb dX2_hasField_1 (by decide) (by omega) (fun c1 => ?_) (fun c1 => ?_)
  · refine iv_iconst hx hb dX2_hasField_16 ?_
    exact iv_zret hx hb hr hlocks dX2_hasField_17 (by omega) (by omega) (by omega) () (by first | exact Or.inl ⟨rfl, by omega⟩ | exact Or.inr ⟨rfl, by omega⟩) (by exact hP.sub [0] rfl) (by exact hD.sub [0] (by decide) rfl) hS
  · refine lv_iload_n hx hb dX2_hasField_4 rfl (lv_at hl 1 rfl) ?_
    refine lv_aload_n hx hb dX2_hasField_5 rfl (lv_at hl 0 rfl) ?_
    refine va_get (D := D) (ci := 2) (v := .int (iN nf)) (C := RX2) (T := TX2) (N := 17) hx hb hT hiX2 hown hK hP 0 rfl rfl 10 (by decide) (hT _ k_114) (fun _ h9 => h9) rfl dX2_hasField_6 ?_
    refine iv_icmp_ge (tgt := 16) hx hb dX2_hasField_9 (by decide) (by omega) (by omega) (fun c9 => ?_) (fun c9 => ?_)
    · refine iv_iconst hx hb dX2_hasField_16 ?_
      exact iv_zret hx hb hr hlocks dX2_hasField_17 (by omega) (by omega) (by omega) () (by first | exact Or.inl ⟨rfl, by omega⟩ | exact Or.inr ⟨rfl, by omega⟩) (by exact hP.sub [0] rfl) (by exact hD.sub [0] (by decide) rfl) hS
    · refine iv_iconst hx hb dX2_hasField_12 ?_
      refine lv_goto (tgt := 17) hx hb dX2_hasField_13 (by decide) ?_
      exact iv_zret hx hb hr hlocks dX2_hasField_17 (by omega) (by omega) (by omega) () (by first | exact Or.inl ⟨rfl, by omega⟩ | exact Or.inr ⟨rfl, by omega⟩) (by exact hP.sub [0] rfl) (by exact hD.sub [0] (by decide) rfl) hS
set_option maxHeartbeats 4000000 in
set_option maxRecDepth 100000 in
theorem ok_X2_hasSide (l : Launch) (D : va_G) (h : Nat) (v_first : Value) (v_second : Value) (v_unfenced : Value) (v_line : Value) (v_drawer : Value) (v_sidesAt : Value) (v_sideCount : Value) (v_openCount : Value) (v_owner : Value) (v_owned : Value) (v_fields : Value) (v_openSides : Value) (v_done : Value) (v_known : Value) (v_turn : Value) (v_changes : Value) (ns : Int) (sz : Nat) (sd : Int) (hns : 0 ≤ ns ∧ ns ≤ 500) (hsd : -2147483648 ≤ sd ∧ sd < 2147483648) : MetI l yX2_hasSide (wd yX2_hasSide cX2_hasSide 2 (some .boolean)) ({ frames := 0, cells := 0, slots := 0, locals := 0 } : Room) [.ref h, .int (iN sd)] D [] [(h, .inr (2, [v_first, v_second, v_unfenced, v_line, v_drawer, v_sidesAt, v_sideCount, v_openCount, v_owner, v_owned, v_fields, .int (iN ns), v_openSides, v_done, v_known, v_turn, v_changes]))] sz (fun _ : Unit => [(h, .inr (2, [v_first, v_second, v_unfenced, v_line, v_drawer, v_sidesAt, v_sideCount, v_openCount, v_owner, v_owned, v_fields, .int (iN ns), v_openSides, v_done, v_known, v_turn, v_changes]))]) (fun z _ => (z = 1 ∧ (0 ≤ sd ∧ sd < ns)) ∨ (z = 0 ∧ (¬ (0 ≤ sd ∧ sd < ns)))) 0 0 := by
  refine iv_mkI (cc := cX2_hasSide) (maxL := 2) (by decide) rfl (Nat.le_of_ble_eq_true rfl) ?_
  intro p e s m below meth c A H ls hx hb hr hts hown hlocks hin hml hN hA hK hP hD hS hl
  have hT : ∀ w ∈ T0, w.before [.ref h, .int (iN sd)].toArray s = true := fun w h => hts w (List.mem_cons_of_mem _ h)
  have hown : s.vm.findClass RX2 = some m.cls := hown
  have hl : lv_has ls 2 [(0, .ref h), (1, .int (iN sd))] := hl
  refine lv_iload_n hx hb dX2_hasSide_0 rfl (lv_at hl 1 rfl) ?_
  refine iv_if_lt (tgt := 16) hx hb dX2_hasSide_1 (by decide) (by omega) (fun c1 => ?_) (fun c1 => ?_)
  · refine iv_iconst hx hb dX2_hasSide_16 ?_
    exact iv_zret hx hb hr hlocks dX2_hasSide_17 (by omega) (by omega) (by omega) () (by first | exact Or.inl ⟨rfl, by omega⟩ | exact Or.inr ⟨rfl, by omega⟩) (by exact hP.sub [0] rfl) (by exact hD.sub [0] (by decide) rfl) hS
  · refine lv_iload_n hx hb dX2_hasSide_4 rfl (lv_at hl 1 rfl) ?_
    refine lv_aload_n hx hb dX2_hasSide_5 rfl (lv_at hl 0 rfl) ?_
    refine va_get (D := D) (ci := 2) (v := .int (iN ns)) (C := RX2) (T := TX2) (N := 17) hx hb hT hiX2 hown hK hP 0 rfl rfl 11 (by decide) (hT _ k_117) (fun _ h9 => h9) rfl dX2_hasSide_6 ?_
    refine iv_icmp_ge (tgt := 16) hx hb dX2_hasSide_9 (by decide) (by omega) (by omega) (fun c9 => ?_) (fun c9 => ?_)
    · refine iv_iconst hx hb dX2_hasSide_16 ?_
      exact iv_zret hx hb hr hlocks dX2_hasSide_17 (by omega) (by omega) (by omega) () (by first | exact Or.inl ⟨rfl, by omega⟩ | exact Or.inr ⟨rfl, by omega⟩) (by exact hP.sub [0] rfl) (by exact hD.sub [0] (by decide) rfl) hS
    · refine iv_iconst hx hb dX2_hasSide_12 ?_
      refine lv_goto (tgt := 17) hx hb dX2_hasSide_13 (by decide) ?_
      exact iv_zret hx hb hr hlocks dX2_hasSide_17 (by omega) (by omega) (by omega) () (by first | exact Or.inl ⟨rfl, by omega⟩ | exact Or.inr ⟨rfl, by omega⟩) (by exact hP.sub [0] rfl) (by exact hD.sub [0] (by decide) rfl) hS
set_option maxHeartbeats 4000000 in
set_option maxRecDepth 100000 in
theorem ok_X2_isOpen (l : Launch) (D : va_G) (cZ : ClassId) (h : Nat) (a_unfenced : Nat) (v_first : Value) (v_second : Value) (v_line : Value) (v_drawer : Value) (v_sidesAt : Value) (v_sideCount : Value) (v_openCount : Value) (v_owner : Value) (v_owned : Value) (v_fields : Value) (v_openSides : Value) (v_done : Value) (v_known : Value) (v_turn : Value) (v_changes : Value) (un : Int → Int) (ns : Int) (sz : Nat) (sd : Int) (hns : 0 ≤ ns ∧ ns ≤ 500) (hsd : -2147483648 ≤ sd ∧ sd < 2147483648) (hun : bo un ns) : MetI l yX2_isOpen (wd yX2_isOpen cX2_isOpen 2 (some .boolean)) ({ frames := 1, cells := 0, slots := 0, locals := 21 } : Room) [.ref h, .int (iN sd)] D [(cZ, .boolean)] [(h, .inr (2, [v_first, v_second, .ref a_unfenced, v_line, v_drawer, v_sidesAt, v_sideCount, v_openCount, v_owner, v_owned, v_fields, .int (iN ns), v_openSides, v_done, v_known, v_turn, v_changes])), (a_unfenced, .inl (cZ, 500, .inl (ar un)))] sz (fun _ : Unit => [(h, .inr (2, [v_first, v_second, .ref a_unfenced, v_line, v_drawer, v_sidesAt, v_sideCount, v_openCount, v_owner, v_owned, v_fields, .int (iN ns), v_openSides, v_done, v_known, v_turn, v_changes])), (a_unfenced, .inl (cZ, 500, .inl (ar un)))]) (fun z _ => (z = 1 ∧ (0 ≤ sd ∧ sd < ns ∧ un sd = 1)) ∨ (z = 0 ∧ (¬ (0 ≤ sd ∧ sd < ns ∧ un sd = 1)))) 0 0 := by
  refine iv_mkI (cc := cX2_isOpen) (maxL := 2) (by decide) rfl (Nat.le_of_ble_eq_true rfl) ?_
  intro p e s m below meth c A H ls hx hb hr hts hown hlocks hin hml hN hA hK hP hD hS hl
  have hT : ∀ w ∈ T0, w.before [.ref h, .int (iN sd)].toArray s = true := fun w h => hts w (List.mem_cons_of_mem _ h)
  have hown : s.vm.findClass RX2 = some m.cls := hown
  have hl : lv_has ls 2 [(0, .ref h), (1, .int (iN sd))] := hl
  refine lv_aload_n hx hb dX2_isOpen_0 rfl (lv_at hl 0 rfl) ?_
  refine lv_iload_n hx hb dX2_isOpen_1 rfl (lv_at hl 1 rfl) ?_
  refine iv_callV (mc := 0) (ms := 0) (wc := [(h, .inr (2, [v_first, v_second, .ref a_unfenced, v_line, v_drawer, v_sidesAt, v_sideCount, v_openCount, v_owner, v_owned, v_fields, .int (iN ns), v_openSides, v_done, v_known, v_turn, v_changes]))]) (wr := [(a_unfenced, .inl (cZ, 500, .inl (ar un)))]) (As := [.int (iN sd)]) (rest := []) ⟨hx, hb, hml, hown, hT⟩ (ok_X2_hasSide l D h v_first v_second (.ref a_unfenced) v_line v_drawer v_sidesAt v_sideCount v_openCount v_owner v_owned v_fields v_openSides v_done v_known v_turn v_changes ns H.size sd (by first | assumption | omega) (by first | assumption | omega)) (iv_cw 1 hT k_402 k_61 k_399 k_400 k_401 (by decide +kernel) rfl rfl ⟨Nat.le_of_ble_eq_true rfl, Nat.le_of_ble_eq_true rfl⟩) hN hK hP hD hS hA [0] [1] [] rfl rfl (by decide) (by decide) (by decide) rfl 0 (ci := 2) rfl rfl rfl hl.1 rfl (Nat.le_of_ble_eq_true rfl) dX2_isOpen_2 ⟨Nat.le_of_ble_eq_true rfl, Nat.le_of_ble_eq_true rfl⟩ (fun z2 u2 H locs hw2 hP hD hS => ?_)
  have hP := hP.sub (ws' := [(h, .inr (2, [v_first, v_second, .ref a_unfenced, v_line, v_drawer, v_sidesAt, v_sideCount, v_openCount, v_owner, v_owned, v_fields, .int (iN ns), v_openSides, v_done, v_known, v_turn, v_changes])), (a_unfenced, .inl (cZ, 500, .inl (ar un)))]) [1, 0] rfl
  have hD := hD.sub (ws' := [(h, .inr (2, [v_first, v_second, .ref a_unfenced, v_line, v_drawer, v_sidesAt, v_sideCount, v_openCount, v_owner, v_owned, v_fields, .int (iN ns), v_openSides, v_done, v_known, v_turn, v_changes])), (a_unfenced, .inl (cZ, 500, .inl (ar un)))]) [1, 0] (by decide) rfl
  rcases hw2 with ⟨rfl, hw2⟩ | ⟨rfl, hw2⟩
  · refine iv_if_eq (tgt := 21) hx hb dX2_isOpen_5 (by decide) (by omega) (fun c5 => ?_) (fun c5 => ?_)
    · exact absurd c5 (by decide)
    · refine lv_aload_n hx hb dX2_isOpen_8 rfl (lv_at hl 0 rfl) ?_
      refine va_get (D := D) (ci := 2) (v := .ref a_unfenced) (C := RX2) (T := TX2) (N := 17) hx hb hT hiX2 hown hK hP 0 rfl rfl 2 (by decide) (hT _ k_97) (fun _ h9 => h9) rfl dX2_isOpen_9 ?_
      refine lv_iload_n hx hb dX2_isOpen_12 rfl (lv_at hl 1 rfl) ?_
      refine iv_zald hx hb hK hP 1 0 rfl rfl (f := un) (by omega) (by omega) dX2_isOpen_13 ?_
      have hu := hun sd (by omega) (by omega)
      refine iv_if_eq (tgt := 21) hx hb dX2_isOpen_14 (by decide) (by omega) (fun c14 => ?_) (fun c14 => ?_)
      · refine iv_iconst hx hb dX2_isOpen_21 ?_
        exact iv_zret hx hb hr hlocks dX2_isOpen_22 (by omega) (by omega) (by omega) () (by first | exact Or.inl ⟨rfl, by omega⟩ | exact Or.inr ⟨rfl, by omega⟩) (by exact hP.sub [0, 1] rfl) (by exact hD.sub [0, 1] (by decide) rfl) hS
      · refine iv_iconst hx hb dX2_isOpen_17 ?_
        refine lv_goto (tgt := 22) hx hb dX2_isOpen_18 (by decide) ?_
        exact iv_zret hx hb hr hlocks dX2_isOpen_22 (by omega) (by omega) (by omega) () (by first | exact Or.inl ⟨rfl, by omega⟩ | exact Or.inr ⟨rfl, by omega⟩) (by exact hP.sub [0, 1] rfl) (by exact hD.sub [0, 1] (by decide) rfl) hS
  · refine iv_if_eq (tgt := 21) hx hb dX2_isOpen_5 (by decide) (by omega) (fun c5 => ?_) (fun c5 => ?_)
    · refine iv_iconst hx hb dX2_isOpen_21 ?_
      exact iv_zret hx hb hr hlocks dX2_isOpen_22 (by omega) (by omega) (by omega) () (by first | exact Or.inl ⟨rfl, by omega⟩ | exact Or.inr ⟨rfl, by omega⟩) (by exact hP.sub [0, 1] rfl) (by exact hD.sub [0, 1] (by decide) rfl) hS
    · exact absurd c5 (by decide)
set_option maxHeartbeats 4000000 in
set_option maxRecDepth 100000 in
theorem ok_X2_canTakeSide (l : Launch) (D : va_G) (cI : ClassId) (h : Nat) (a_sideCount : Nat) (v_first : Value) (v_second : Value) (v_unfenced : Value) (v_line : Value) (v_drawer : Value) (v_sidesAt : Value) (v_openCount : Value) (v_owner : Value) (v_owned : Value) (v_sides : Value) (v_openSides : Value) (v_done : Value) (v_known : Value) (v_turn : Value) (v_changes : Value) (sc : Int → Int) (nf : Int) (sz : Nat) (fd : Int) (hnf : 0 ≤ nf ∧ nf ≤ 200) (hfd : -2147483648 ≤ fd ∧ fd < 2147483648) (hsc : rg sc nf 0 4) : MetI l yX2_canTakeSide (wd yX2_canTakeSide cX2_canTakeSide 2 (some .boolean)) ({ frames := 1, cells := 0, slots := 0, locals := 21 } : Room) [.ref h, .int (iN fd)] D [(cI, .int)] [(h, .inr (2, [v_first, v_second, v_unfenced, v_line, v_drawer, v_sidesAt, .ref a_sideCount, v_openCount, v_owner, v_owned, .int (iN nf), v_sides, v_openSides, v_done, v_known, v_turn, v_changes])), (a_sideCount, .inl (cI, 200, .inl (ar sc)))] sz (fun _ : Unit => [(h, .inr (2, [v_first, v_second, v_unfenced, v_line, v_drawer, v_sidesAt, .ref a_sideCount, v_openCount, v_owner, v_owned, .int (iN nf), v_sides, v_openSides, v_done, v_known, v_turn, v_changes])), (a_sideCount, .inl (cI, 200, .inl (ar sc)))]) (fun z _ => (z = 1 ∧ (0 ≤ fd ∧ fd < nf ∧ sc fd < 4)) ∨ (z = 0 ∧ (¬ (0 ≤ fd ∧ fd < nf ∧ sc fd < 4)))) 0 0 := by
  refine iv_mkI (cc := cX2_canTakeSide) (maxL := 2) (by decide) rfl (Nat.le_of_ble_eq_true rfl) ?_
  intro p e s m below meth c A H ls hx hb hr hts hown hlocks hin hml hN hA hK hP hD hS hl
  have hT : ∀ w ∈ T0, w.before [.ref h, .int (iN fd)].toArray s = true := fun w h => hts w (List.mem_cons_of_mem _ h)
  have hown : s.vm.findClass RX2 = some m.cls := hown
  have hl : lv_has ls 2 [(0, .ref h), (1, .int (iN fd))] := hl
  refine lv_aload_n hx hb dX2_canTakeSide_0 rfl (lv_at hl 0 rfl) ?_
  refine lv_iload_n hx hb dX2_canTakeSide_1 rfl (lv_at hl 1 rfl) ?_
  refine iv_callV (mc := 0) (ms := 0) (wc := [(h, .inr (2, [v_first, v_second, v_unfenced, v_line, v_drawer, v_sidesAt, .ref a_sideCount, v_openCount, v_owner, v_owned, .int (iN nf), v_sides, v_openSides, v_done, v_known, v_turn, v_changes]))]) (wr := [(a_sideCount, .inl (cI, 200, .inl (ar sc)))]) (As := [.int (iN fd)]) (rest := []) ⟨hx, hb, hml, hown, hT⟩ (ok_X2_hasField l D h v_first v_second v_unfenced v_line v_drawer v_sidesAt (.ref a_sideCount) v_openCount v_owner v_owned v_sides v_openSides v_done v_known v_turn v_changes nf H.size fd (by first | assumption | omega) (by first | assumption | omega)) (iv_cw 1 hT k_371 k_61 k_368 k_369 k_370 (by decide +kernel) rfl rfl ⟨Nat.le_of_ble_eq_true rfl, Nat.le_of_ble_eq_true rfl⟩) hN hK hP hD hS hA [0] [1] [] rfl rfl (by decide) (by decide) (by decide) rfl 0 (ci := 2) rfl rfl rfl hl.1 rfl (Nat.le_of_ble_eq_true rfl) dX2_canTakeSide_2 ⟨Nat.le_of_ble_eq_true rfl, Nat.le_of_ble_eq_true rfl⟩ (fun z2 u2 H locs hw2 hP hD hS => ?_)
  have hP := hP.sub (ws' := [(h, .inr (2, [v_first, v_second, v_unfenced, v_line, v_drawer, v_sidesAt, .ref a_sideCount, v_openCount, v_owner, v_owned, .int (iN nf), v_sides, v_openSides, v_done, v_known, v_turn, v_changes])), (a_sideCount, .inl (cI, 200, .inl (ar sc)))]) [1, 0] rfl
  have hD := hD.sub (ws' := [(h, .inr (2, [v_first, v_second, v_unfenced, v_line, v_drawer, v_sidesAt, .ref a_sideCount, v_openCount, v_owner, v_owned, .int (iN nf), v_sides, v_openSides, v_done, v_known, v_turn, v_changes])), (a_sideCount, .inl (cI, 200, .inl (ar sc)))]) [1, 0] (by decide) rfl
  rcases hw2 with ⟨rfl, hw2⟩ | ⟨rfl, hw2⟩
  · refine iv_if_eq (tgt := 22) hx hb dX2_canTakeSide_5 (by decide) (by omega) (fun c5 => ?_) (fun c5 => ?_)
    · exact absurd c5 (by decide)
    · refine lv_aload_n hx hb dX2_canTakeSide_8 rfl (lv_at hl 0 rfl) ?_
      refine va_get (D := D) (ci := 2) (v := .ref a_sideCount) (C := RX2) (T := TX2) (N := 17) hx hb hT hiX2 hown hK hP 0 rfl rfl 6 (by decide) (hT _ k_104) (fun _ h9 => h9) rfl dX2_canTakeSide_9 ?_
      refine lv_iload_n hx hb dX2_canTakeSide_12 rfl (lv_at hl 1 rfl) ?_
      refine iv_iald hx hb hK hP 1 0 rfl rfl (f := sc) (by omega) (by omega) dX2_canTakeSide_13 ?_
      have hu := hsc fd (by omega) (by omega)
      refine iv_iconst hx hb dX2_canTakeSide_14 ?_
      refine iv_icmp_ge (tgt := 22) hx hb dX2_canTakeSide_15 (by decide) (by omega) (by omega) (fun c15 => ?_) (fun c15 => ?_)
      · refine iv_iconst hx hb dX2_canTakeSide_22 ?_
        exact iv_zret hx hb hr hlocks dX2_canTakeSide_23 (by omega) (by omega) (by omega) () (by first | exact Or.inl ⟨rfl, by omega⟩ | exact Or.inr ⟨rfl, by omega⟩) (by exact hP.sub [0, 1] rfl) (by exact hD.sub [0, 1] (by decide) rfl) hS
      · refine iv_iconst hx hb dX2_canTakeSide_18 ?_
        refine lv_goto (tgt := 23) hx hb dX2_canTakeSide_19 (by decide) ?_
        exact iv_zret hx hb hr hlocks dX2_canTakeSide_23 (by omega) (by omega) (by omega) () (by first | exact Or.inl ⟨rfl, by omega⟩ | exact Or.inr ⟨rfl, by omega⟩) (by exact hP.sub [0, 1] rfl) (by exact hD.sub [0, 1] (by decide) rfl) hS
  · refine iv_if_eq (tgt := 22) hx hb dX2_canTakeSide_5 (by decide) (by omega) (fun c5 => ?_) (fun c5 => ?_)
    · refine iv_iconst hx hb dX2_canTakeSide_22 ?_
      exact iv_zret hx hb hr hlocks dX2_canTakeSide_23 (by omega) (by omega) (by omega) () (by first | exact Or.inl ⟨rfl, by omega⟩ | exact Or.inr ⟨rfl, by omega⟩) (by exact hP.sub [0, 1] rfl) (by exact hD.sub [0, 1] (by decide) rfl) hS
    · exact absurd c5 (by decide)
set_option maxHeartbeats 4000000 in
set_option maxRecDepth 100000 in
theorem ok_X2_attach (l : Launch) (D : va_G) (cI : ClassId) (h : Nat) (a_sidesAt : Nat) (a_sideCount : Nat) (a_openCount : Nat) (v_first : Value) (v_second : Value) (v_unfenced : Value) (v_line : Value) (v_drawer : Value) (v_owner : Value) (v_owned : Value) (v_fields : Value) (v_openSides : Value) (v_done : Value) (v_known : Value) (v_turn : Value) (v_changes : Value) (sx : Int → Int) (sc : Int → Int) (oc : Int → Int) (ns : Int) (sz : Nat) (fd : Int) (hfd : 0 ≤ fd ∧ fd < 200) (hsc : 0 ≤ sc fd ∧ sc fd < 4) : MetV l yX2_attach (wd yX2_attach cX2_attach 2 none) ({ frames := 0, cells := 0, slots := 0, locals := 0 } : Room) [.ref h, .int (iN fd)] D [(cI, .int)] [(h, .inr (2, [v_first, v_second, v_unfenced, v_line, v_drawer, .ref a_sidesAt, .ref a_sideCount, .ref a_openCount, v_owner, v_owned, v_fields, .int (iN ns), v_openSides, v_done, v_known, v_turn, v_changes])), (a_sidesAt, .inl (cI, 800, .inl (ar sx))), (a_sideCount, .inl (cI, 200, .inl (ar sc))), (a_openCount, .inl (cI, 200, .inl (ar oc)))] sz (fun _ : Unit => [(h, .inr (2, [v_first, v_second, v_unfenced, v_line, v_drawer, .ref a_sidesAt, .ref a_sideCount, .ref a_openCount, v_owner, v_owned, v_fields, .int (iN ns), v_openSides, v_done, v_known, v_turn, v_changes])), (a_sidesAt, .inl (cI, 800, .inl (ar (uI sx (fd * 4 + sc fd) ns)))), (a_sideCount, .inl (cI, 200, .inl (ar (uI sc fd (sc fd + 1))))), (a_openCount, .inl (cI, 200, .inl (ar (uI oc fd (oc fd + 1)))))]) (fun _ => True) 0 0 := by
  refine iv_mkV (cc := cX2_attach) (maxL := 2) (by decide) rfl (Nat.le_of_ble_eq_true rfl) ?_
  intro p e s m below meth c A H ls hx hb hr hts hown hlocks hin hml hN hA hK hP hD hS hl
  have hT : ∀ w ∈ T0, w.before [.ref h, .int (iN fd)].toArray s = true := fun w h => hts w (List.mem_cons_of_mem _ h)
  have hown : s.vm.findClass RX2 = some m.cls := hown
  have hl : lv_has ls 2 [(0, .ref h), (1, .int (iN fd))] := hl
  refine lv_aload_n hx hb dX2_attach_0 rfl (lv_at hl 0 rfl) ?_
  refine va_get (D := D) (ci := 2) (v := .ref a_sidesAt) (C := RX2) (T := TX2) (N := 17) hx hb hT hiX2 hown hK hP 0 rfl rfl 5 (by decide) (hT _ k_103) (fun _ h9 => h9) rfl dX2_attach_1 ?_
  refine lv_iload_n hx hb dX2_attach_4 rfl (lv_at hl 1 rfl) ?_
  refine iv_iconst hx hb dX2_attach_5 ?_
  refine iv_imul hx hb dX2_attach_6 ?_
  refine lv_aload_n hx hb dX2_attach_7 rfl (lv_at hl 0 rfl) ?_
  refine va_get (D := D) (ci := 2) (v := .ref a_sideCount) (C := RX2) (T := TX2) (N := 17) hx hb hT hiX2 hown hK hP 0 rfl rfl 6 (by decide) (hT _ k_104) (fun _ h9 => h9) rfl dX2_attach_8 ?_
  refine lv_iload_n hx hb dX2_attach_11 rfl (lv_at hl 1 rfl) ?_
  refine iv_iald hx hb hK hP 2 0 rfl rfl (f := sc) (by omega) (by omega) dX2_attach_12 ?_
  refine iv_iadd hx hb dX2_attach_13 ?_
  refine lv_aload_n hx hb dX2_attach_14 rfl (lv_at hl 0 rfl) ?_
  refine va_get (D := D) (ci := 2) (v := .int (iN ns)) (C := RX2) (T := TX2) (N := 17) hx hb hT hiX2 hown hK hP 0 rfl rfl 11 (by decide) (hT _ k_117) (fun _ h9 => h9) rfl dX2_attach_15 ?_
  refine iv_iast hx hb hK hP hD hS 1 0 rfl rfl (f := sx) (by omega) (by omega) dX2_attach_18 (fun H locs hP hD hS => ?_)
  have hP : va_P D vwCl [(h, .inr (2, [v_first, v_second, v_unfenced, v_line, v_drawer, .ref a_sidesAt, .ref a_sideCount, .ref a_openCount, v_owner, v_owned, v_fields, .int (iN ns), v_openSides, v_done, v_known, v_turn, v_changes])), (a_sidesAt, .inl (cI, 800, .inl (ar (uI sx (fd * 4 + (sc fd)) ns)))), (a_sideCount, .inl (cI, 200, .inl (ar sc))), (a_openCount, .inl (cI, 200, .inl (ar oc)))] H := hP
  have hD : va_D A [(h, .inr (2, [v_first, v_second, v_unfenced, v_line, v_drawer, .ref a_sidesAt, .ref a_sideCount, .ref a_openCount, v_owner, v_owned, v_fields, .int (iN ns), v_openSides, v_done, v_known, v_turn, v_changes])), (a_sidesAt, .inl (cI, 800, .inl (ar (uI sx (fd * 4 + (sc fd)) ns)))), (a_sideCount, .inl (cI, 200, .inl (ar sc))), (a_openCount, .inl (cI, 200, .inl (ar oc)))] := hD
  refine lv_aload_n hx hb dX2_attach_19 rfl (lv_at hl 0 rfl) ?_
  refine va_get (D := D) (ci := 2) (v := .ref a_sideCount) (C := RX2) (T := TX2) (N := 17) hx hb hT hiX2 hown hK hP 0 rfl rfl 6 (by decide) (hT _ k_104) (fun _ h9 => h9) rfl dX2_attach_20 ?_
  refine lv_iload_n hx hb dX2_attach_23 rfl (lv_at hl 1 rfl) ?_
  refine lv_dup2_11 hx hb dX2_attach_24 rfl rfl ?_
  refine iv_iald hx hb hK hP 2 0 rfl rfl (f := sc) (by omega) (by omega) dX2_attach_25 ?_
  refine iv_iconst hx hb dX2_attach_26 ?_
  refine iv_iadd hx hb dX2_attach_27 ?_
  refine iv_iast hx hb hK hP hD hS 2 0 rfl rfl (f := sc) (by omega) (by omega) dX2_attach_28 (fun H locs hP hD hS => ?_)
  have hP : va_P D vwCl [(h, .inr (2, [v_first, v_second, v_unfenced, v_line, v_drawer, .ref a_sidesAt, .ref a_sideCount, .ref a_openCount, v_owner, v_owned, v_fields, .int (iN ns), v_openSides, v_done, v_known, v_turn, v_changes])), (a_sidesAt, .inl (cI, 800, .inl (ar (uI sx (fd * 4 + (sc fd)) ns)))), (a_sideCount, .inl (cI, 200, .inl (ar (uI sc fd (sc fd + 1))))), (a_openCount, .inl (cI, 200, .inl (ar oc)))] H := hP
  have hD : va_D A [(h, .inr (2, [v_first, v_second, v_unfenced, v_line, v_drawer, .ref a_sidesAt, .ref a_sideCount, .ref a_openCount, v_owner, v_owned, v_fields, .int (iN ns), v_openSides, v_done, v_known, v_turn, v_changes])), (a_sidesAt, .inl (cI, 800, .inl (ar (uI sx (fd * 4 + (sc fd)) ns)))), (a_sideCount, .inl (cI, 200, .inl (ar (uI sc fd (sc fd + 1))))), (a_openCount, .inl (cI, 200, .inl (ar oc)))] := hD
  refine lv_aload_n hx hb dX2_attach_29 rfl (lv_at hl 0 rfl) ?_
  refine va_get (D := D) (ci := 2) (v := .ref a_openCount) (C := RX2) (T := TX2) (N := 17) hx hb hT hiX2 hown hK hP 0 rfl rfl 7 (by decide) (hT _ k_107) (fun _ h9 => h9) rfl dX2_attach_30 ?_
  refine lv_iload_n hx hb dX2_attach_33 rfl (lv_at hl 1 rfl) ?_
  refine lv_dup2_11 hx hb dX2_attach_34 rfl rfl ?_
  refine iv_iald hx hb hK hP 3 0 rfl rfl (f := oc) (by omega) (by omega) dX2_attach_35 ?_
  refine iv_iconst hx hb dX2_attach_36 ?_
  refine iv_iadd hx hb dX2_attach_37 ?_
  refine iv_iast hx hb hK hP hD hS 3 0 rfl rfl (f := oc) (by omega) (by omega) dX2_attach_38 (fun H locs hP hD hS => ?_)
  have hP : va_P D vwCl [(h, .inr (2, [v_first, v_second, v_unfenced, v_line, v_drawer, .ref a_sidesAt, .ref a_sideCount, .ref a_openCount, v_owner, v_owned, v_fields, .int (iN ns), v_openSides, v_done, v_known, v_turn, v_changes])), (a_sidesAt, .inl (cI, 800, .inl (ar (uI sx (fd * 4 + (sc fd)) ns)))), (a_sideCount, .inl (cI, 200, .inl (ar (uI sc fd (sc fd + 1))))), (a_openCount, .inl (cI, 200, .inl (ar (uI oc fd (oc fd + 1)))))] H := hP
  have hD : va_D A [(h, .inr (2, [v_first, v_second, v_unfenced, v_line, v_drawer, .ref a_sidesAt, .ref a_sideCount, .ref a_openCount, v_owner, v_owned, v_fields, .int (iN ns), v_openSides, v_done, v_known, v_turn, v_changes])), (a_sidesAt, .inl (cI, 800, .inl (ar (uI sx (fd * 4 + (sc fd)) ns)))), (a_sideCount, .inl (cI, 200, .inl (ar (uI sc fd (sc fd + 1))))), (a_openCount, .inl (cI, 200, .inl (ar (uI oc fd (oc fd + 1)))))] := hD
  exact iv_vret hx hb hr hlocks dX2_attach_39 (by omega) (by omega) () (by trivial) (by exact hP.sub [0, 1, 2, 3] rfl) (by exact hD.sub [0, 1, 2, 3] (by decide) rfl) hS
set_option maxHeartbeats 4000000 in
set_option maxRecDepth 100000 in
theorem ok_X2_sideAt (l : Launch) (D : va_G) (cI : ClassId) (h : Nat) (a_sidesAt : Nat) (v_first : Value) (v_second : Value) (v_unfenced : Value) (v_line : Value) (v_drawer : Value) (v_sideCount : Value) (v_openCount : Value) (v_owner : Value) (v_owned : Value) (v_fields : Value) (v_sides : Value) (v_openSides : Value) (v_done : Value) (v_known : Value) (v_turn : Value) (v_changes : Value) (sx : Int → Int) (sz : Nat) (fd : Int) (jj : Int) (hfd : 0 ≤ fd ∧ fd < 200) (hjj : 0 ≤ jj ∧ jj < 4) : MetI l yX2_sideAt (wd yX2_sideAt cX2_sideAt 3 (some .int)) ({ frames := 0, cells := 0, slots := 0, locals := 0 } : Room) [.ref h, .int (iN fd), .int (iN jj)] D [(cI, .int)] [(h, .inr (2, [v_first, v_second, v_unfenced, v_line, v_drawer, .ref a_sidesAt, v_sideCount, v_openCount, v_owner, v_owned, v_fields, v_sides, v_openSides, v_done, v_known, v_turn, v_changes])), (a_sidesAt, .inl (cI, 800, .inl (ar sx)))] sz (fun _ : Unit => [(h, .inr (2, [v_first, v_second, v_unfenced, v_line, v_drawer, .ref a_sidesAt, v_sideCount, v_openCount, v_owner, v_owned, v_fields, v_sides, v_openSides, v_done, v_known, v_turn, v_changes])), (a_sidesAt, .inl (cI, 800, .inl (ar sx)))]) (fun z _ => z = sx (fd * 4 + jj)) 0 0 := by
  refine iv_mkI (cc := cX2_sideAt) (maxL := 3) (by decide) rfl (Nat.le_of_ble_eq_true rfl) ?_
  intro p e s m below meth c A H ls hx hb hr hts hown hlocks hin hml hN hA hK hP hD hS hl
  have hT : ∀ w ∈ T0, w.before [.ref h, .int (iN fd), .int (iN jj)].toArray s = true := fun w h => hts w (List.mem_cons_of_mem _ h)
  have hown : s.vm.findClass RX2 = some m.cls := hown
  have hl : lv_has ls 3 [(0, .ref h), (1, .int (iN fd)), (2, .int (iN jj))] := hl
  refine lv_aload_n hx hb dX2_sideAt_0 rfl (lv_at hl 0 rfl) ?_
  refine va_get (D := D) (ci := 2) (v := .ref a_sidesAt) (C := RX2) (T := TX2) (N := 17) hx hb hT hiX2 hown hK hP 0 rfl rfl 5 (by decide) (hT _ k_103) (fun _ h9 => h9) rfl dX2_sideAt_1 ?_
  refine lv_iload_n hx hb dX2_sideAt_4 rfl (lv_at hl 1 rfl) ?_
  refine iv_iconst hx hb dX2_sideAt_5 ?_
  refine iv_imul hx hb dX2_sideAt_6 ?_
  refine lv_iload_n hx hb dX2_sideAt_7 rfl (lv_at hl 2 rfl) ?_
  refine iv_iadd hx hb dX2_sideAt_8 ?_
  refine iv_iald hx hb hK hP 1 0 rfl rfl (f := sx) (by omega) (by omega) dX2_sideAt_9 ?_
  exact iv_iret hx hb hr hlocks dX2_sideAt_10 (by omega) (by omega) () (by rfl) (by exact hP.sub [0, 1] rfl) (by exact hD.sub [0, 1] (by decide) rfl) hS
set_option maxHeartbeats 4000000 in
set_option maxRecDepth 100000 in
theorem ok_X2_across (l : Launch) (D : va_G) (cI : ClassId) (h : Nat) (a_first : Nat) (a_second : Nat) (v_unfenced : Value) (v_line : Value) (v_drawer : Value) (v_sidesAt : Value) (v_sideCount : Value) (v_openCount : Value) (v_owner : Value) (v_owned : Value) (v_fields : Value) (v_sides : Value) (v_openSides : Value) (v_done : Value) (v_known : Value) (v_turn : Value) (v_changes : Value) (fa : Int → Int) (sb : Int → Int) (sz : Nat) (sd : Int) (fd : Int) (hsd : 0 ≤ sd ∧ sd < 500) (hfa : -2147483648 ≤ fa sd ∧ fa sd < 2147483648) (hfd : -2147483648 ≤ fd ∧ fd < 2147483648) : MetI l yX2_across (wd yX2_across cX2_across 3 (some .int)) ({ frames := 0, cells := 0, slots := 0, locals := 0 } : Room) [.ref h, .int (iN sd), .int (iN fd)] D [(cI, .int)] [(h, .inr (2, [.ref a_first, .ref a_second, v_unfenced, v_line, v_drawer, v_sidesAt, v_sideCount, v_openCount, v_owner, v_owned, v_fields, v_sides, v_openSides, v_done, v_known, v_turn, v_changes])), (a_first, .inl (cI, 500, .inl (ar fa))), (a_second, .inl (cI, 500, .inl (ar sb)))] sz (fun _ : Unit => [(h, .inr (2, [.ref a_first, .ref a_second, v_unfenced, v_line, v_drawer, v_sidesAt, v_sideCount, v_openCount, v_owner, v_owned, v_fields, v_sides, v_openSides, v_done, v_known, v_turn, v_changes])), (a_first, .inl (cI, 500, .inl (ar fa))), (a_second, .inl (cI, 500, .inl (ar sb)))]) (fun z _ => z = if fa sd = fd then sb sd else fa sd) 0 0 := by
  refine iv_mkI (cc := cX2_across) (maxL := 3) (by decide) rfl (Nat.le_of_ble_eq_true rfl) ?_
  intro p e s m below meth c A H ls hx hb hr hts hown hlocks hin hml hN hA hK hP hD hS hl
  have hT : ∀ w ∈ T0, w.before [.ref h, .int (iN sd), .int (iN fd)].toArray s = true := fun w h => hts w (List.mem_cons_of_mem _ h)
  have hown : s.vm.findClass RX2 = some m.cls := hown
  have hl : lv_has ls 3 [(0, .ref h), (1, .int (iN sd)), (2, .int (iN fd))] := hl
  refine lv_aload_n hx hb dX2_across_0 rfl (lv_at hl 0 rfl) ?_
  refine va_get (D := D) (ci := 2) (v := .ref a_first) (C := RX2) (T := TX2) (N := 17) hx hb hT hiX2 hown hK hP 0 rfl rfl 0 (by decide) (hT _ k_90) (fun _ h9 => h9) rfl dX2_across_1 ?_
  refine lv_iload_n hx hb dX2_across_4 rfl (lv_at hl 1 rfl) ?_
  refine iv_iald hx hb hK hP 1 0 rfl rfl (f := fa) (by omega) (by omega) dX2_across_5 ?_
  refine lv_iload_n hx hb dX2_across_6 rfl (lv_at hl 2 rfl) ?_
  refine iv_icmp_ne (tgt := 19) hx hb dX2_across_7 (by decide) (by omega) (by omega) (fun c7 => ?_) (fun c7 => ?_)
  · refine lv_aload_n hx hb dX2_across_19 rfl (lv_at hl 0 rfl) ?_
    refine va_get (D := D) (ci := 2) (v := .ref a_first) (C := RX2) (T := TX2) (N := 17) hx hb hT hiX2 hown hK hP 0 rfl rfl 0 (by decide) (hT _ k_90) (fun _ h9 => h9) rfl dX2_across_20 ?_
    refine lv_iload_n hx hb dX2_across_23 rfl (lv_at hl 1 rfl) ?_
    refine iv_iald hx hb hK hP 1 0 rfl rfl (f := fa) (by omega) (by omega) dX2_across_24 ?_
    exact iv_iret hx hb hr hlocks dX2_across_25 (by omega) (by omega) () (by first | exact (if_pos (by omega)).symm | exact (if_neg (by omega)).symm) (by exact hP.sub [0, 1, 2] rfl) (by exact hD.sub [0, 1, 2] (by decide) rfl) hS
  · refine lv_aload_n hx hb dX2_across_10 rfl (lv_at hl 0 rfl) ?_
    refine va_get (D := D) (ci := 2) (v := .ref a_second) (C := RX2) (T := TX2) (N := 17) hx hb hT hiX2 hown hK hP 0 rfl rfl 1 (by decide) (hT _ k_93) (fun _ h9 => h9) rfl dX2_across_11 ?_
    refine lv_iload_n hx hb dX2_across_14 rfl (lv_at hl 1 rfl) ?_
    refine iv_iald hx hb hK hP 2 0 rfl rfl (f := sb) (by omega) (by omega) dX2_across_15 ?_
    refine lv_goto (tgt := 25) hx hb dX2_across_16 (by decide) ?_
    exact iv_iret hx hb hr hlocks dX2_across_25 (by omega) (by omega) () (by first | exact (if_pos (by omega)).symm | exact (if_neg (by omega)).symm) (by exact hP.sub [0, 1, 2] rfl) (by exact hD.sub [0, 1, 2] (by decide) rfl) hS
set_option maxHeartbeats 4000000 in
set_option maxRecDepth 100000 in
theorem ok_X2_closedBy (l : Launch) (D : va_G) (cI : ClassId) (cZ : ClassId) (h : Nat) (a_first : Nat) (a_second : Nat) (a_unfenced : Nat) (a_openCount : Nat) (v_line : Value) (v_drawer : Value) (v_sidesAt : Value) (v_sideCount : Value) (v_owner : Value) (v_owned : Value) (v_fields : Value) (v_openSides : Value) (v_done : Value) (v_known : Value) (v_turn : Value) (v_changes : Value) (fa : Int → Int) (sb : Int → Int) (un : Int → Int) (oc : Int → Int) (ns : Int) (sz : Nat) (sd : Int) (hns : 0 ≤ ns ∧ ns ≤ 500) (hsd : -2147483648 ≤ sd ∧ sd < 2147483648) (hun : bo un ns) (hfa : rg fa ns 0 199) (hsb : rg sb ns (-1) 199) (hoc : rg oc 200 0 4) : MetI l yX2_closedBy (wd yX2_closedBy cX2_closedBy 3 (some .int)) ({ frames := 2, cells := 0, slots := 0, locals := 42 } : Room) [.ref h, .int (iN sd)] D [(cI, .int), (cZ, .boolean)] [(h, .inr (2, [.ref a_first, .ref a_second, .ref a_unfenced, v_line, v_drawer, v_sidesAt, v_sideCount, .ref a_openCount, v_owner, v_owned, v_fields, .int (iN ns), v_openSides, v_done, v_known, v_turn, v_changes])), (a_first, .inl (cI, 500, .inl (ar fa))), (a_second, .inl (cI, 500, .inl (ar sb))), (a_unfenced, .inl (cZ, 500, .inl (ar un))), (a_openCount, .inl (cI, 200, .inl (ar oc)))] sz (fun _ : Unit => [(h, .inr (2, [.ref a_first, .ref a_second, .ref a_unfenced, v_line, v_drawer, v_sidesAt, v_sideCount, .ref a_openCount, v_owner, v_owned, v_fields, .int (iN ns), v_openSides, v_done, v_known, v_turn, v_changes])), (a_first, .inl (cI, 500, .inl (ar fa))), (a_second, .inl (cI, 500, .inl (ar sb))), (a_unfenced, .inl (cZ, 500, .inl (ar un))), (a_openCount, .inl (cI, 200, .inl (ar oc)))]) (fun z _ => (z = clB fa sb oc sd ∧ (0 ≤ sd ∧ sd < ns ∧ un sd = 1)) ∨ (z = 0 ∧ (¬ (0 ≤ sd ∧ sd < ns ∧ un sd = 1)))) 0 0 := by
  refine iv_mkI (cc := cX2_closedBy) (maxL := 3) (by decide) rfl (Nat.le_of_ble_eq_true rfl) ?_
  intro p e s m below meth c A H ls hx hb hr hts hown hlocks hin hml hN hA hK hP hD hS hl
  have hT : ∀ w ∈ T0, w.before [.ref h, .int (iN sd)].toArray s = true := fun w h => hts w (List.mem_cons_of_mem _ h)
  have hown : s.vm.findClass RX2 = some m.cls := hown
  have hl : lv_has ls 3 [(0, .ref h), (1, .int (iN sd))] := hl
  refine lv_aload_n hx hb dX2_closedBy_0 rfl (lv_at hl 0 rfl) ?_
  refine lv_iload_n hx hb dX2_closedBy_1 rfl (lv_at hl 1 rfl) ?_
  refine iv_callV (mc := 0) (ms := 0) (wc := [(h, .inr (2, [.ref a_first, .ref a_second, .ref a_unfenced, v_line, v_drawer, v_sidesAt, v_sideCount, .ref a_openCount, v_owner, v_owned, v_fields, .int (iN ns), v_openSides, v_done, v_known, v_turn, v_changes])), (a_unfenced, .inl (cZ, 500, .inl (ar un)))]) (wr := [(a_first, .inl (cI, 500, .inl (ar fa))), (a_second, .inl (cI, 500, .inl (ar sb))), (a_openCount, .inl (cI, 200, .inl (ar oc)))]) (As := [.int (iN sd)]) (rest := []) ⟨hx, hb, hml, hown, hT⟩ (ok_X2_isOpen l D cZ h a_unfenced (.ref a_first) (.ref a_second) v_line v_drawer v_sidesAt v_sideCount (.ref a_openCount) v_owner v_owned v_fields v_openSides v_done v_known v_turn v_changes un ns H.size sd (by first | assumption | omega) (by first | assumption | omega) (by first | assumption | omega)) (iv_cw 1 hT k_398 k_61 k_415 k_396 k_397 (by decide +kernel) rfl rfl ⟨Nat.le_of_ble_eq_true rfl, Nat.le_of_ble_eq_true rfl⟩) hN hK hP hD hS hA [0, 3] [1, 2, 4] [1] rfl rfl (by decide) (by decide) (by decide) rfl 0 (ci := 2) rfl rfl rfl hl.1 rfl (Nat.le_of_ble_eq_true rfl) dX2_closedBy_2 ⟨Nat.le_of_ble_eq_true rfl, Nat.le_of_ble_eq_true rfl⟩ (fun z2 u2 H locs hw2 hP hD hS => ?_)
  have hP := hP.sub (ws' := [(h, .inr (2, [.ref a_first, .ref a_second, .ref a_unfenced, v_line, v_drawer, v_sidesAt, v_sideCount, .ref a_openCount, v_owner, v_owned, v_fields, .int (iN ns), v_openSides, v_done, v_known, v_turn, v_changes])), (a_first, .inl (cI, 500, .inl (ar fa))), (a_second, .inl (cI, 500, .inl (ar sb))), (a_unfenced, .inl (cZ, 500, .inl (ar un))), (a_openCount, .inl (cI, 200, .inl (ar oc)))]) [3, 0, 1, 4, 2] rfl
  have hD := hD.sub (ws' := [(h, .inr (2, [.ref a_first, .ref a_second, .ref a_unfenced, v_line, v_drawer, v_sidesAt, v_sideCount, .ref a_openCount, v_owner, v_owned, v_fields, .int (iN ns), v_openSides, v_done, v_known, v_turn, v_changes])), (a_first, .inl (cI, 500, .inl (ar fa))), (a_second, .inl (cI, 500, .inl (ar sb))), (a_unfenced, .inl (cZ, 500, .inl (ar un))), (a_openCount, .inl (cI, 200, .inl (ar oc)))]) [3, 0, 1, 4, 2] (by decide) rfl
  rcases hw2 with ⟨rfl, hw2⟩ | ⟨rfl, hw2⟩
  · refine iv_if_ne (tgt := 10) hx hb dX2_closedBy_5 (by decide) (by omega) (fun c5 => ?_) (fun c5 => ?_)
    · have h1 := hfa sd (by omega) (by omega)
      have h2 := hsb sd (by omega) (by omega)
      have h3 := hoc (fa sd) (by omega) (by omega)
      refine lv_aload_n hx hb dX2_closedBy_10 rfl (lv_at hl 0 rfl) ?_
      refine va_get (D := D) (ci := 2) (v := .ref a_openCount) (C := RX2) (T := TX2) (N := 17) hx hb hT hiX2 hown hK hP 0 rfl rfl 7 (by decide) (hT _ k_107) (fun _ h9 => h9) rfl dX2_closedBy_11 ?_
      refine lv_aload_n hx hb dX2_closedBy_14 rfl (lv_at hl 0 rfl) ?_
      refine va_get (D := D) (ci := 2) (v := .ref a_first) (C := RX2) (T := TX2) (N := 17) hx hb hT hiX2 hown hK hP 0 rfl rfl 0 (by decide) (hT _ k_90) (fun _ h9 => h9) rfl dX2_closedBy_15 ?_
      refine lv_iload_n hx hb dX2_closedBy_18 rfl (lv_at hl 1 rfl) ?_
      refine iv_iald hx hb hK hP 1 0 rfl rfl (f := fa) (by omega) (by omega) dX2_closedBy_19 ?_
      refine iv_iald hx hb hK hP 4 0 rfl rfl (f := oc) (by omega) (by omega) dX2_closedBy_20 ?_
      refine iv_iconst hx hb dX2_closedBy_21 ?_
      refine iv_icmp_ne (tgt := 29) hx hb dX2_closedBy_22 (by decide) (by omega) (by omega) (fun c22 => ?_) (fun c22 => ?_)
      · refine iv_iconst hx hb dX2_closedBy_29 ?_
        refine lv_istore_n (lv' := [(2, .int (iN 0)), (0, .ref h), (1, .int (iN sd))]) hx hb dX2_closedBy_30 rfl hl (by decide) rfl (fun ls hl => ?_)
        refine lv_aload_n hx hb dX2_closedBy_31 rfl (lv_at hl 1 rfl) ?_
        refine va_get (D := D) (ci := 2) (v := .ref a_second) (C := RX2) (T := TX2) (N := 17) hx hb hT hiX2 hown hK hP 0 rfl rfl 1 (by decide) (hT _ k_93) (fun _ h9 => h9) rfl dX2_closedBy_32 ?_
        refine lv_iload_n hx hb dX2_closedBy_35 rfl (lv_at hl 2 rfl) ?_
        refine iv_iald hx hb hK hP 2 0 rfl rfl (f := sb) (by omega) (by omega) dX2_closedBy_36 ?_
        refine iv_iconst hx hb dX2_closedBy_37 ?_
        refine iv_icmp_eq (tgt := 59) hx hb dX2_closedBy_38 (by decide) (by omega) (by omega) (fun c38 => ?_) (fun c38 => ?_)
        · refine lv_iload_n hx hb dX2_closedBy_59 rfl (lv_at hl 0 rfl) ?_
          exact iv_iret hx hb hr hlocks dX2_closedBy_60 (by omega) (by omega) () (by first | exact Or.inr ⟨rfl, by omega⟩ | exact Or.inl ⟨by unfold clB; split <;> split <;> omega, by omega⟩) (by exact hP.sub [0, 1, 2, 3, 4] rfl) (by exact hD.sub [0, 1, 2, 3, 4] (by decide) rfl) hS
        · have h4 := hoc (sb sd) (by omega) (by omega)
          refine lv_aload_n hx hb dX2_closedBy_41 rfl (lv_at hl 1 rfl) ?_
          refine va_get (D := D) (ci := 2) (v := .ref a_openCount) (C := RX2) (T := TX2) (N := 17) hx hb hT hiX2 hown hK hP 0 rfl rfl 7 (by decide) (hT _ k_107) (fun _ h9 => h9) rfl dX2_closedBy_42 ?_
          refine lv_aload_n hx hb dX2_closedBy_45 rfl (lv_at hl 1 rfl) ?_
          refine va_get (D := D) (ci := 2) (v := .ref a_second) (C := RX2) (T := TX2) (N := 17) hx hb hT hiX2 hown hK hP 0 rfl rfl 1 (by decide) (hT _ k_93) (fun _ h9 => h9) rfl dX2_closedBy_46 ?_
          refine lv_iload_n hx hb dX2_closedBy_49 rfl (lv_at hl 2 rfl) ?_
          refine iv_iald hx hb hK hP 2 0 rfl rfl (f := sb) (by omega) (by omega) dX2_closedBy_50 ?_
          refine iv_iald hx hb hK hP 4 0 rfl rfl (f := oc) (by omega) (by omega) dX2_closedBy_51 ?_
          refine iv_iconst hx hb dX2_closedBy_52 ?_
          refine iv_icmp_ne (tgt := 59) hx hb dX2_closedBy_53 (by decide) (by omega) (by omega) (fun c53 => ?_) (fun c53 => ?_)
          · refine lv_iload_n hx hb dX2_closedBy_59 rfl (lv_at hl 0 rfl) ?_
            exact iv_iret hx hb hr hlocks dX2_closedBy_60 (by omega) (by omega) () (by first | exact Or.inr ⟨rfl, by omega⟩ | exact Or.inl ⟨by unfold clB; split <;> split <;> omega, by omega⟩) (by exact hP.sub [0, 1, 2, 3, 4] rfl) (by exact hD.sub [0, 1, 2, 3, 4] (by decide) rfl) hS
          · refine lv_iinc (v := iN (0 + 1)) (lv' := [(2, .int (iN (0 + 1))), (0, .ref h), (1, .int (iN sd))]) hx hb dX2_closedBy_56 hl (k := 0) rfl (iN_add _ _) (by decide) rfl (fun ls hl => ?_)
            refine lv_iload_n hx hb dX2_closedBy_59 rfl (lv_at hl 0 rfl) ?_
            exact iv_iret hx hb hr hlocks dX2_closedBy_60 (by omega) (by omega) () (by first | exact Or.inr ⟨rfl, by omega⟩ | exact Or.inl ⟨by unfold clB; split <;> split <;> omega, by omega⟩) (by exact hP.sub [0, 1, 2, 3, 4] rfl) (by exact hD.sub [0, 1, 2, 3, 4] (by decide) rfl) hS
      · refine iv_iconst hx hb dX2_closedBy_25 ?_
        refine lv_goto (tgt := 30) hx hb dX2_closedBy_26 (by decide) ?_
        refine lv_istore_n (lv' := [(2, .int (iN 1)), (0, .ref h), (1, .int (iN sd))]) hx hb dX2_closedBy_30 rfl hl (by decide) rfl (fun ls hl => ?_)
        refine lv_aload_n hx hb dX2_closedBy_31 rfl (lv_at hl 1 rfl) ?_
        refine va_get (D := D) (ci := 2) (v := .ref a_second) (C := RX2) (T := TX2) (N := 17) hx hb hT hiX2 hown hK hP 0 rfl rfl 1 (by decide) (hT _ k_93) (fun _ h9 => h9) rfl dX2_closedBy_32 ?_
        refine lv_iload_n hx hb dX2_closedBy_35 rfl (lv_at hl 2 rfl) ?_
        refine iv_iald hx hb hK hP 2 0 rfl rfl (f := sb) (by omega) (by omega) dX2_closedBy_36 ?_
        refine iv_iconst hx hb dX2_closedBy_37 ?_
        refine iv_icmp_eq (tgt := 59) hx hb dX2_closedBy_38 (by decide) (by omega) (by omega) (fun c38 => ?_) (fun c38 => ?_)
        · refine lv_iload_n hx hb dX2_closedBy_59 rfl (lv_at hl 0 rfl) ?_
          exact iv_iret hx hb hr hlocks dX2_closedBy_60 (by omega) (by omega) () (by first | exact Or.inr ⟨rfl, by omega⟩ | exact Or.inl ⟨by unfold clB; split <;> split <;> omega, by omega⟩) (by exact hP.sub [0, 1, 2, 3, 4] rfl) (by exact hD.sub [0, 1, 2, 3, 4] (by decide) rfl) hS
        · have h4 := hoc (sb sd) (by omega) (by omega)
          refine lv_aload_n hx hb dX2_closedBy_41 rfl (lv_at hl 1 rfl) ?_
          refine va_get (D := D) (ci := 2) (v := .ref a_openCount) (C := RX2) (T := TX2) (N := 17) hx hb hT hiX2 hown hK hP 0 rfl rfl 7 (by decide) (hT _ k_107) (fun _ h9 => h9) rfl dX2_closedBy_42 ?_
          refine lv_aload_n hx hb dX2_closedBy_45 rfl (lv_at hl 1 rfl) ?_
          refine va_get (D := D) (ci := 2) (v := .ref a_second) (C := RX2) (T := TX2) (N := 17) hx hb hT hiX2 hown hK hP 0 rfl rfl 1 (by decide) (hT _ k_93) (fun _ h9 => h9) rfl dX2_closedBy_46 ?_
          refine lv_iload_n hx hb dX2_closedBy_49 rfl (lv_at hl 2 rfl) ?_
          refine iv_iald hx hb hK hP 2 0 rfl rfl (f := sb) (by omega) (by omega) dX2_closedBy_50 ?_
          refine iv_iald hx hb hK hP 4 0 rfl rfl (f := oc) (by omega) (by omega) dX2_closedBy_51 ?_
          refine iv_iconst hx hb dX2_closedBy_52 ?_
          refine iv_icmp_ne (tgt := 59) hx hb dX2_closedBy_53 (by decide) (by omega) (by omega) (fun c53 => ?_) (fun c53 => ?_)
          · refine lv_iload_n hx hb dX2_closedBy_59 rfl (lv_at hl 0 rfl) ?_
            exact iv_iret hx hb hr hlocks dX2_closedBy_60 (by omega) (by omega) () (by first | exact Or.inr ⟨rfl, by omega⟩ | exact Or.inl ⟨by unfold clB; split <;> split <;> omega, by omega⟩) (by exact hP.sub [0, 1, 2, 3, 4] rfl) (by exact hD.sub [0, 1, 2, 3, 4] (by decide) rfl) hS
          · refine lv_iinc (v := iN (1 + 1)) (lv' := [(2, .int (iN (1 + 1))), (0, .ref h), (1, .int (iN sd))]) hx hb dX2_closedBy_56 hl (k := 0) rfl (iN_add _ _) (by decide) rfl (fun ls hl => ?_)
            refine lv_iload_n hx hb dX2_closedBy_59 rfl (lv_at hl 0 rfl) ?_
            exact iv_iret hx hb hr hlocks dX2_closedBy_60 (by omega) (by omega) () (by first | exact Or.inr ⟨rfl, by omega⟩ | exact Or.inl ⟨by unfold clB; split <;> split <;> omega, by omega⟩) (by exact hP.sub [0, 1, 2, 3, 4] rfl) (by exact hD.sub [0, 1, 2, 3, 4] (by decide) rfl) hS
    · exact absurd c5 (by decide)
  · refine iv_if_ne (tgt := 10) hx hb dX2_closedBy_5 (by decide) (by omega) (fun c5 => ?_) (fun c5 => ?_)
    · exact absurd c5 (by decide)
    · refine iv_iconst hx hb dX2_closedBy_8 ?_
      exact iv_iret hx hb hr hlocks dX2_closedBy_9 (by omega) (by omega) () (by first | exact Or.inr ⟨rfl, by omega⟩ | exact Or.inl ⟨by unfold clB; split <;> split <;> omega, by omega⟩) (by exact hP.sub [0, 1, 2, 3, 4] rfl) (by exact hD.sub [0, 1, 2, 3, 4] (by decide) rfl) hS
set_option maxHeartbeats 4000000 in
set_option maxRecDepth 100000 in
theorem ok_X2_fence (l : Launch) (D : va_G) (cI : ClassId) (h : Nat) (a_openCount : Nat) (a_owner : Nat) (a_owned : Nat) (v_first : Value) (v_second : Value) (v_unfenced : Value) (v_line : Value) (v_drawer : Value) (v_sidesAt : Value) (v_sideCount : Value) (v_fields : Value) (v_sides : Value) (v_openSides : Value) (v_done : Value) (v_known : Value) (v_changes : Value) (oc : Int → Int) (ow : Int → Int) (od : Int → Int) (tn : Int) (sz : Nat) (fd : Int) (hfd : 0 ≤ fd ∧ fd < 200) (hoc : -1000 ≤ oc fd ∧ oc fd ≤ 1000) (htn : tn = 0 ∨ tn = 1) : MetV l yX2_fence (wd yX2_fence cX2_fence 2 none) ({ frames := 0, cells := 0, slots := 0, locals := 0 } : Room) [.ref h, .int (iN fd)] D [(cI, .int)] [(h, .inr (2, [v_first, v_second, v_unfenced, v_line, v_drawer, v_sidesAt, v_sideCount, .ref a_openCount, .ref a_owner, .ref a_owned, v_fields, v_sides, v_openSides, v_done, v_known, .int (iN tn), v_changes])), (a_openCount, .inl (cI, 200, .inl (ar oc))), (a_owner, .inl (cI, 200, .inl (ar ow))), (a_owned, .inl (cI, 2, .inl (ar od)))] sz (fun u : (Int → Int) × (Int → Int) × (Int → Int) => match u with | (oc1, ow1, od1) => [(h, .inr (2, [v_first, v_second, v_unfenced, v_line, v_drawer, v_sidesAt, v_sideCount, .ref a_openCount, .ref a_owner, .ref a_owned, v_fields, v_sides, v_openSides, v_done, v_known, .int (iN tn), v_changes])), (a_openCount, .inl (cI, 200, .inl (ar oc1))), (a_owner, .inl (cI, 200, .inl (ar ow1))), (a_owned, .inl (cI, 2, .inl (ar od1)))]) (fun u => match u with | (oc1, ow1, od1) => oc1 = fcO oc fd ∧ ow1 = fcW oc ow fd tn ∧ od1 = fcD oc od fd tn) 0 0 := by
  refine iv_mkV (cc := cX2_fence) (maxL := 2) (by decide) rfl (Nat.le_of_ble_eq_true rfl) ?_
  intro p e s m below meth c A H ls hx hb hr hts hown hlocks hin hml hN hA hK hP hD hS hl
  have hT : ∀ w ∈ T0, w.before [.ref h, .int (iN fd)].toArray s = true := fun w h => hts w (List.mem_cons_of_mem _ h)
  have hown : s.vm.findClass RX2 = some m.cls := hown
  have hl : lv_has ls 2 [(0, .ref h), (1, .int (iN fd))] := hl
  refine lv_aload_n hx hb dX2_fence_0 rfl (lv_at hl 0 rfl) ?_
  refine va_get (D := D) (ci := 2) (v := .ref a_openCount) (C := RX2) (T := TX2) (N := 17) hx hb hT hiX2 hown hK hP 0 rfl rfl 7 (by decide) (hT _ k_107) (fun _ h9 => h9) rfl dX2_fence_1 ?_
  refine lv_iload_n hx hb dX2_fence_4 rfl (lv_at hl 1 rfl) ?_
  refine lv_dup2_11 hx hb dX2_fence_5 rfl rfl ?_
  refine iv_iald hx hb hK hP 1 0 rfl rfl (f := oc) (by omega) (by omega) dX2_fence_6 ?_
  refine iv_iconst hx hb dX2_fence_7 ?_
  refine iv_isub hx hb dX2_fence_8 ?_
  refine iv_iast hx hb hK hP hD hS 1 0 rfl rfl (f := oc) (by omega) (by omega) dX2_fence_9 (fun H locs hP hD hS => ?_)
  have hP : va_P D vwCl [(h, .inr (2, [v_first, v_second, v_unfenced, v_line, v_drawer, v_sidesAt, v_sideCount, .ref a_openCount, .ref a_owner, .ref a_owned, v_fields, v_sides, v_openSides, v_done, v_known, .int (iN tn), v_changes])), (a_openCount, .inl (cI, 200, .inl (ar (uI oc fd (oc fd - 1))))), (a_owner, .inl (cI, 200, .inl (ar ow))), (a_owned, .inl (cI, 2, .inl (ar od)))] H := hP
  have hD : va_D A [(h, .inr (2, [v_first, v_second, v_unfenced, v_line, v_drawer, v_sidesAt, v_sideCount, .ref a_openCount, .ref a_owner, .ref a_owned, v_fields, v_sides, v_openSides, v_done, v_known, .int (iN tn), v_changes])), (a_openCount, .inl (cI, 200, .inl (ar (uI oc fd (oc fd - 1))))), (a_owner, .inl (cI, 200, .inl (ar ow))), (a_owned, .inl (cI, 2, .inl (ar od)))] := hD
  refine lv_aload_n hx hb dX2_fence_10 rfl (lv_at hl 0 rfl) ?_
  refine va_get (D := D) (ci := 2) (v := .ref a_openCount) (C := RX2) (T := TX2) (N := 17) hx hb hT hiX2 hown hK hP 0 rfl rfl 7 (by decide) (hT _ k_107) (fun _ h9 => h9) rfl dX2_fence_11 ?_
  refine lv_iload_n hx hb dX2_fence_14 rfl (lv_at hl 1 rfl) ?_
  refine iv_iald hx hb hK hP 1 0 rfl rfl (f := uI oc fd (oc fd - 1)) (by omega) (by omega) dX2_fence_15 ?_
  refine iv_push (n := (oc fd - 1)) (by rw [uI_eq]) ?_
  refine iv_if_ne (tgt := 42) hx hb dX2_fence_16 (by decide) (by omega) (fun c16 => ?_) (fun c16 => ?_)
  · exact iv_vret hx hb hr hlocks dX2_fence_42 (by omega) (by omega) (uI oc fd (oc fd - 1), ow, od) (by first | exact ⟨rfl, (if_pos (by omega)).symm, (if_pos (by omega)).symm⟩ | exact ⟨rfl, (if_neg (by omega)).symm, (if_neg (by omega)).symm⟩) (by exact hP.sub [0, 1, 2, 3] rfl) (by exact hD.sub [0, 1, 2, 3] (by decide) rfl) hS
  · refine lv_aload_n hx hb dX2_fence_19 rfl (lv_at hl 0 rfl) ?_
    refine va_get (D := D) (ci := 2) (v := .ref a_owner) (C := RX2) (T := TX2) (N := 17) hx hb hT hiX2 hown hK hP 0 rfl rfl 8 (by decide) (hT _ k_110) (fun _ h9 => h9) rfl dX2_fence_20 ?_
    refine lv_iload_n hx hb dX2_fence_23 rfl (lv_at hl 1 rfl) ?_
    refine lv_aload_n hx hb dX2_fence_24 rfl (lv_at hl 0 rfl) ?_
    refine va_get (D := D) (ci := 2) (v := .int (iN tn)) (C := RX2) (T := TX2) (N := 17) hx hb hT hiX2 hown hK hP 0 rfl rfl 15 (by decide) (hT _ k_127) (fun _ h9 => h9) rfl dX2_fence_25 ?_
    refine iv_iast hx hb hK hP hD hS 2 0 rfl rfl (f := ow) (by omega) (by omega) dX2_fence_28 (fun H locs hP hD hS => ?_)
    have hP : va_P D vwCl [(h, .inr (2, [v_first, v_second, v_unfenced, v_line, v_drawer, v_sidesAt, v_sideCount, .ref a_openCount, .ref a_owner, .ref a_owned, v_fields, v_sides, v_openSides, v_done, v_known, .int (iN tn), v_changes])), (a_openCount, .inl (cI, 200, .inl (ar (uI oc fd (oc fd - 1))))), (a_owner, .inl (cI, 200, .inl (ar (uI ow fd tn)))), (a_owned, .inl (cI, 2, .inl (ar od)))] H := hP
    have hD : va_D A [(h, .inr (2, [v_first, v_second, v_unfenced, v_line, v_drawer, v_sidesAt, v_sideCount, .ref a_openCount, .ref a_owner, .ref a_owned, v_fields, v_sides, v_openSides, v_done, v_known, .int (iN tn), v_changes])), (a_openCount, .inl (cI, 200, .inl (ar (uI oc fd (oc fd - 1))))), (a_owner, .inl (cI, 200, .inl (ar (uI ow fd tn)))), (a_owned, .inl (cI, 2, .inl (ar od)))] := hD
    refine lv_aload_n hx hb dX2_fence_29 rfl (lv_at hl 0 rfl) ?_
    refine va_get (D := D) (ci := 2) (v := .ref a_owned) (C := RX2) (T := TX2) (N := 17) hx hb hT hiX2 hown hK hP 0 rfl rfl 9 (by decide) (hT _ k_112) (fun _ h9 => h9) rfl dX2_fence_30 ?_
    refine lv_aload_n hx hb dX2_fence_33 rfl (lv_at hl 0 rfl) ?_
    refine va_get (D := D) (ci := 2) (v := .int (iN tn)) (C := RX2) (T := TX2) (N := 17) hx hb hT hiX2 hown hK hP 0 rfl rfl 15 (by decide) (hT _ k_127) (fun _ h9 => h9) rfl dX2_fence_34 ?_
    refine lv_dup2_11 hx hb dX2_fence_37 rfl rfl ?_
    refine iv_iald hx hb hK hP 3 0 rfl rfl (f := od) (by omega) (by omega) dX2_fence_38 ?_
    refine iv_iconst hx hb dX2_fence_39 ?_
    refine iv_iadd hx hb dX2_fence_40 ?_
    refine iv_iast hx hb hK hP hD hS 3 0 rfl rfl (f := od) (by omega) (by omega) dX2_fence_41 (fun H locs hP hD hS => ?_)
    have hP : va_P D vwCl [(h, .inr (2, [v_first, v_second, v_unfenced, v_line, v_drawer, v_sidesAt, v_sideCount, .ref a_openCount, .ref a_owner, .ref a_owned, v_fields, v_sides, v_openSides, v_done, v_known, .int (iN tn), v_changes])), (a_openCount, .inl (cI, 200, .inl (ar (uI oc fd (oc fd - 1))))), (a_owner, .inl (cI, 200, .inl (ar (uI ow fd tn)))), (a_owned, .inl (cI, 2, .inl (ar (uI od tn (od tn + 1)))))] H := hP
    have hD : va_D A [(h, .inr (2, [v_first, v_second, v_unfenced, v_line, v_drawer, v_sidesAt, v_sideCount, .ref a_openCount, .ref a_owner, .ref a_owned, v_fields, v_sides, v_openSides, v_done, v_known, .int (iN tn), v_changes])), (a_openCount, .inl (cI, 200, .inl (ar (uI oc fd (oc fd - 1))))), (a_owner, .inl (cI, 200, .inl (ar (uI ow fd tn)))), (a_owned, .inl (cI, 2, .inl (ar (uI od tn (od tn + 1)))))] := hD
    exact iv_vret hx hb hr hlocks dX2_fence_42 (by omega) (by omega) (uI oc fd (oc fd - 1), uI ow fd tn, uI od tn (od tn + 1)) (by first | exact ⟨rfl, (if_pos (by omega)).symm, (if_pos (by omega)).symm⟩ | exact ⟨rfl, (if_neg (by omega)).symm, (if_neg (by omega)).symm⟩) (by exact hP.sub [0, 1, 2, 3] rfl) (by exact hD.sub [0, 1, 2, 3] (by decide) rfl) hS
set_option maxHeartbeats 4000000 in
set_option maxRecDepth 100000 in
theorem ok_X2_reopen (l : Launch) (D : va_G) (cI : ClassId) (h : Nat) (a_openCount : Nat) (a_owner : Nat) (a_owned : Nat) (v_first : Value) (v_second : Value) (v_unfenced : Value) (v_line : Value) (v_drawer : Value) (v_sidesAt : Value) (v_sideCount : Value) (v_fields : Value) (v_sides : Value) (v_openSides : Value) (v_done : Value) (v_known : Value) (v_changes : Value) (oc : Int → Int) (ow : Int → Int) (od : Int → Int) (tn : Int) (sz : Nat) (fd : Int) (hfd : 0 ≤ fd ∧ fd < 200) (hoc : -1000 ≤ oc fd ∧ oc fd ≤ 1000) (htn : tn = 0 ∨ tn = 1) : MetV l yX2_reopen (wd yX2_reopen cX2_reopen 2 none) ({ frames := 0, cells := 0, slots := 0, locals := 0 } : Room) [.ref h, .int (iN fd)] D [(cI, .int)] [(h, .inr (2, [v_first, v_second, v_unfenced, v_line, v_drawer, v_sidesAt, v_sideCount, .ref a_openCount, .ref a_owner, .ref a_owned, v_fields, v_sides, v_openSides, v_done, v_known, .int (iN tn), v_changes])), (a_openCount, .inl (cI, 200, .inl (ar oc))), (a_owner, .inl (cI, 200, .inl (ar ow))), (a_owned, .inl (cI, 2, .inl (ar od)))] sz (fun u : (Int → Int) × (Int → Int) × (Int → Int) => match u with | (oc1, ow1, od1) => [(h, .inr (2, [v_first, v_second, v_unfenced, v_line, v_drawer, v_sidesAt, v_sideCount, .ref a_openCount, .ref a_owner, .ref a_owned, v_fields, v_sides, v_openSides, v_done, v_known, .int (iN tn), v_changes])), (a_openCount, .inl (cI, 200, .inl (ar oc1))), (a_owner, .inl (cI, 200, .inl (ar ow1))), (a_owned, .inl (cI, 2, .inl (ar od1)))]) (fun u => match u with | (oc1, ow1, od1) => oc1 = roO oc fd ∧ ow1 = roW oc ow fd ∧ od1 = roD oc od fd tn) 0 0 := by
  refine iv_mkV (cc := cX2_reopen) (maxL := 2) (by decide) rfl (Nat.le_of_ble_eq_true rfl) ?_
  intro p e s m below meth c A H ls hx hb hr hts hown hlocks hin hml hN hA hK hP hD hS hl
  have hT : ∀ w ∈ T0, w.before [.ref h, .int (iN fd)].toArray s = true := fun w h => hts w (List.mem_cons_of_mem _ h)
  have hown : s.vm.findClass RX2 = some m.cls := hown
  have hl : lv_has ls 2 [(0, .ref h), (1, .int (iN fd))] := hl
  refine lv_aload_n hx hb dX2_reopen_0 rfl (lv_at hl 0 rfl) ?_
  refine va_get (D := D) (ci := 2) (v := .ref a_openCount) (C := RX2) (T := TX2) (N := 17) hx hb hT hiX2 hown hK hP 0 rfl rfl 7 (by decide) (hT _ k_107) (fun _ h9 => h9) rfl dX2_reopen_1 ?_
  refine lv_iload_n hx hb dX2_reopen_4 rfl (lv_at hl 1 rfl) ?_
  refine iv_iald hx hb hK hP 1 0 rfl rfl (f := oc) (by omega) (by omega) dX2_reopen_5 ?_
  refine iv_if_ne (tgt := 29) hx hb dX2_reopen_6 (by decide) (by omega) (fun c6 => ?_) (fun c6 => ?_)
  · refine lv_aload_n hx hb dX2_reopen_29 rfl (lv_at hl 0 rfl) ?_
    refine va_get (D := D) (ci := 2) (v := .ref a_openCount) (C := RX2) (T := TX2) (N := 17) hx hb hT hiX2 hown hK hP 0 rfl rfl 7 (by decide) (hT _ k_107) (fun _ h9 => h9) rfl dX2_reopen_30 ?_
    refine lv_iload_n hx hb dX2_reopen_33 rfl (lv_at hl 1 rfl) ?_
    refine lv_dup2_11 hx hb dX2_reopen_34 rfl rfl ?_
    refine iv_iald hx hb hK hP 1 0 rfl rfl (f := oc) (by omega) (by omega) dX2_reopen_35 ?_
    refine iv_iconst hx hb dX2_reopen_36 ?_
    refine iv_iadd hx hb dX2_reopen_37 ?_
    refine iv_iast hx hb hK hP hD hS 1 0 rfl rfl (f := oc) (by omega) (by omega) dX2_reopen_38 (fun H locs hP hD hS => ?_)
    have hP : va_P D vwCl [(h, .inr (2, [v_first, v_second, v_unfenced, v_line, v_drawer, v_sidesAt, v_sideCount, .ref a_openCount, .ref a_owner, .ref a_owned, v_fields, v_sides, v_openSides, v_done, v_known, .int (iN tn), v_changes])), (a_openCount, .inl (cI, 200, .inl (ar (uI oc fd (oc fd + 1))))), (a_owner, .inl (cI, 200, .inl (ar ow))), (a_owned, .inl (cI, 2, .inl (ar od)))] H := hP
    have hD : va_D A [(h, .inr (2, [v_first, v_second, v_unfenced, v_line, v_drawer, v_sidesAt, v_sideCount, .ref a_openCount, .ref a_owner, .ref a_owned, v_fields, v_sides, v_openSides, v_done, v_known, .int (iN tn), v_changes])), (a_openCount, .inl (cI, 200, .inl (ar (uI oc fd (oc fd + 1))))), (a_owner, .inl (cI, 200, .inl (ar ow))), (a_owned, .inl (cI, 2, .inl (ar od)))] := hD
    exact iv_vret hx hb hr hlocks dX2_reopen_39 (by omega) (by omega) (uI oc fd (oc fd + 1), ow, od) (by first | exact ⟨rfl, (if_pos (by omega)).symm, (if_pos (by omega)).symm⟩ | exact ⟨rfl, (if_neg (by omega)).symm, (if_neg (by omega)).symm⟩) (by exact hP.sub [0, 1, 2, 3] rfl) (by exact hD.sub [0, 1, 2, 3] (by decide) rfl) hS
  · refine lv_aload_n hx hb dX2_reopen_9 rfl (lv_at hl 0 rfl) ?_
    refine va_get (D := D) (ci := 2) (v := .ref a_owner) (C := RX2) (T := TX2) (N := 17) hx hb hT hiX2 hown hK hP 0 rfl rfl 8 (by decide) (hT _ k_110) (fun _ h9 => h9) rfl dX2_reopen_10 ?_
    refine lv_iload_n hx hb dX2_reopen_13 rfl (lv_at hl 1 rfl) ?_
    refine iv_iconst hx hb dX2_reopen_14 ?_
    refine iv_iast hx hb hK hP hD hS 2 0 rfl rfl (f := ow) (by omega) (by omega) dX2_reopen_15 (fun H locs hP hD hS => ?_)
    have hP : va_P D vwCl [(h, .inr (2, [v_first, v_second, v_unfenced, v_line, v_drawer, v_sidesAt, v_sideCount, .ref a_openCount, .ref a_owner, .ref a_owned, v_fields, v_sides, v_openSides, v_done, v_known, .int (iN tn), v_changes])), (a_openCount, .inl (cI, 200, .inl (ar oc))), (a_owner, .inl (cI, 200, .inl (ar (uI ow fd (-1))))), (a_owned, .inl (cI, 2, .inl (ar od)))] H := hP
    have hD : va_D A [(h, .inr (2, [v_first, v_second, v_unfenced, v_line, v_drawer, v_sidesAt, v_sideCount, .ref a_openCount, .ref a_owner, .ref a_owned, v_fields, v_sides, v_openSides, v_done, v_known, .int (iN tn), v_changes])), (a_openCount, .inl (cI, 200, .inl (ar oc))), (a_owner, .inl (cI, 200, .inl (ar (uI ow fd (-1))))), (a_owned, .inl (cI, 2, .inl (ar od)))] := hD
    refine lv_aload_n hx hb dX2_reopen_16 rfl (lv_at hl 0 rfl) ?_
    refine va_get (D := D) (ci := 2) (v := .ref a_owned) (C := RX2) (T := TX2) (N := 17) hx hb hT hiX2 hown hK hP 0 rfl rfl 9 (by decide) (hT _ k_112) (fun _ h9 => h9) rfl dX2_reopen_17 ?_
    refine lv_aload_n hx hb dX2_reopen_20 rfl (lv_at hl 0 rfl) ?_
    refine va_get (D := D) (ci := 2) (v := .int (iN tn)) (C := RX2) (T := TX2) (N := 17) hx hb hT hiX2 hown hK hP 0 rfl rfl 15 (by decide) (hT _ k_127) (fun _ h9 => h9) rfl dX2_reopen_21 ?_
    refine lv_dup2_11 hx hb dX2_reopen_24 rfl rfl ?_
    refine iv_iald hx hb hK hP 3 0 rfl rfl (f := od) (by omega) (by omega) dX2_reopen_25 ?_
    refine iv_iconst hx hb dX2_reopen_26 ?_
    refine iv_isub hx hb dX2_reopen_27 ?_
    refine iv_iast hx hb hK hP hD hS 3 0 rfl rfl (f := od) (by omega) (by omega) dX2_reopen_28 (fun H locs hP hD hS => ?_)
    have hP : va_P D vwCl [(h, .inr (2, [v_first, v_second, v_unfenced, v_line, v_drawer, v_sidesAt, v_sideCount, .ref a_openCount, .ref a_owner, .ref a_owned, v_fields, v_sides, v_openSides, v_done, v_known, .int (iN tn), v_changes])), (a_openCount, .inl (cI, 200, .inl (ar oc))), (a_owner, .inl (cI, 200, .inl (ar (uI ow fd (-1))))), (a_owned, .inl (cI, 2, .inl (ar (uI od tn (od tn - 1)))))] H := hP
    have hD : va_D A [(h, .inr (2, [v_first, v_second, v_unfenced, v_line, v_drawer, v_sidesAt, v_sideCount, .ref a_openCount, .ref a_owner, .ref a_owned, v_fields, v_sides, v_openSides, v_done, v_known, .int (iN tn), v_changes])), (a_openCount, .inl (cI, 200, .inl (ar oc))), (a_owner, .inl (cI, 200, .inl (ar (uI ow fd (-1))))), (a_owned, .inl (cI, 2, .inl (ar (uI od tn (od tn - 1)))))] := hD
    refine lv_aload_n hx hb dX2_reopen_29 rfl (lv_at hl 0 rfl) ?_
    refine va_get (D := D) (ci := 2) (v := .ref a_openCount) (C := RX2) (T := TX2) (N := 17) hx hb hT hiX2 hown hK hP 0 rfl rfl 7 (by decide) (hT _ k_107) (fun _ h9 => h9) rfl dX2_reopen_30 ?_
    refine lv_iload_n hx hb dX2_reopen_33 rfl (lv_at hl 1 rfl) ?_
    refine lv_dup2_11 hx hb dX2_reopen_34 rfl rfl ?_
    refine iv_iald hx hb hK hP 1 0 rfl rfl (f := oc) (by omega) (by omega) dX2_reopen_35 ?_
    refine iv_iconst hx hb dX2_reopen_36 ?_
    refine iv_iadd hx hb dX2_reopen_37 ?_
    refine iv_iast hx hb hK hP hD hS 1 0 rfl rfl (f := oc) (by omega) (by omega) dX2_reopen_38 (fun H locs hP hD hS => ?_)
    have hP : va_P D vwCl [(h, .inr (2, [v_first, v_second, v_unfenced, v_line, v_drawer, v_sidesAt, v_sideCount, .ref a_openCount, .ref a_owner, .ref a_owned, v_fields, v_sides, v_openSides, v_done, v_known, .int (iN tn), v_changes])), (a_openCount, .inl (cI, 200, .inl (ar (uI oc fd (oc fd + 1))))), (a_owner, .inl (cI, 200, .inl (ar (uI ow fd (-1))))), (a_owned, .inl (cI, 2, .inl (ar (uI od tn (od tn - 1)))))] H := hP
    have hD : va_D A [(h, .inr (2, [v_first, v_second, v_unfenced, v_line, v_drawer, v_sidesAt, v_sideCount, .ref a_openCount, .ref a_owner, .ref a_owned, v_fields, v_sides, v_openSides, v_done, v_known, .int (iN tn), v_changes])), (a_openCount, .inl (cI, 200, .inl (ar (uI oc fd (oc fd + 1))))), (a_owner, .inl (cI, 200, .inl (ar (uI ow fd (-1))))), (a_owned, .inl (cI, 2, .inl (ar (uI od tn (od tn - 1)))))] := hD
    exact iv_vret hx hb hr hlocks dX2_reopen_39 (by omega) (by omega) (uI oc fd (oc fd + 1), uI ow fd (-1), uI od tn (od tn - 1)) (by first | exact ⟨rfl, (if_pos (by omega)).symm, (if_pos (by omega)).symm⟩ | exact ⟨rfl, (if_neg (by omega)).symm, (if_neg (by omega)).symm⟩) (by exact hP.sub [0, 1, 2, 3] rfl) (by exact hD.sub [0, 1, 2, 3] (by decide) rfl) hS
