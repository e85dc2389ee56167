set_option maxHeartbeats 4000000 in
set_option maxRecDepth 100000 in
theorem ok_X4_forget (l : Launch) (D : va_G) (h : Nat) (v_base : Value) (v_firstField : Value) (v_secondField : Value) (v_table : Value) (wz : Int) (sz : Nat) : MetV l yX4_forget (wd yX4_forget cX4_forget 1 none) ({ frames := 0, cells := 0, slots := 0, locals := 0 } : Room) [.ref h] D [] [(h, .inr (4, [v_base, v_firstField, v_secondField, .int (iN wz), v_table]))] sz (fun _ : Unit => [(h, .inr (4, [v_base, v_firstField, v_secondField, .int (iN 0), v_table]))]) (fun _ => True) 0 0 := by
  refine iv_mkV (cc := cX4_forget) (maxL := 1) (by decide) rfl (Nat.le_of_ble_eq_true rfl) ?_
  intro p e s m below meth c A H ls hx hb hr hts hown hlocks hin hml hN hA hK hP hD hS hl
  have hT : ∀ w ∈ T0, w.before [.ref h].toArray s = true := fun w h => hts w (List.mem_cons_of_mem _ h)
  have hown : s.vm.findClass RX4 = some m.cls := hown
  have hl : lv_has ls 1 [(0, .ref h)] := hl
  refine lv_aload_n hx hb dX4_forget_0 rfl (lv_at hl 0 rfl) ?_
  refine iv_iconst hx hb dX4_forget_1 ?_
  refine va_put (D := D) (ci := 4) (v := .int (iN 0)) (ty := .int) (C := RX4) (T := TX4) (N := 5) hx hb hT hiX4 tyX4 tyX4_ok nmX4 hown hK hP hD hS 0 rfl rfl 3 (by decide) (hT _ k_234) (fun _ h9 => h9) rfl (by decide +kernel) rfl rfl (Nat.le_of_ble_eq_true rfl) dX4_forget_2 (fun H locs hP hD hS => ?_)
  have hP : va_P D vwCl [(h, .inr (4, [v_base, v_firstField, v_secondField, .int (iN 0), v_table]))] H := hP
  have hD : va_D A [(h, .inr (4, [v_base, v_firstField, v_secondField, .int (iN 0), v_table]))] := hD
  exact iv_vret hx hb hr hlocks dX4_forget_5 (by omega) (by omega) () (by trivial) (by exact hP.sub [0] rfl) (by exact hD.sub [0] (by decide) rfl) hS
set_option maxHeartbeats 4000000 in
set_option maxRecDepth 100000 in
theorem ok_X4_worthOfSet (l : Launch) (D : va_G) (cJ : ClassId) (h : Nat) (a_table : Nat) (v_base : Value) (v_firstField : Value) (v_secondField : Value) (v_size : Value) (tT : Int → Int64) (nT : Nat) (sz : Nat) (aa : Int) (haa : 0 ≤ aa ∧ aa < 8 * (nT : Int) ∧ aa < 2147483648) (hnT : (nT : Int) < 2147483648) : MetI l yX4_worthOfSet (wd yX4_worthOfSet cX4_worthOfSet 2 (some .int)) ({ frames := 0, cells := 0, slots := 0, locals := 0 } : Room) [.ref h, .int (iN aa)] D [(cJ, .long)] [(h, .inr (4, [v_base, v_firstField, v_secondField, v_size, .ref a_table])), (a_table, .inl (cJ, nT, .inr (.inl (arJ tT))))] sz (fun _ : Unit => [(h, .inr (4, [v_base, v_firstField, v_secondField, v_size, .ref a_table])), (a_table, .inl (cJ, nT, .inr (.inl (arJ tT))))]) (fun z _ => z = tbv tT aa) 0 0 := by
  refine iv_mkI (cc := cX4_worthOfSet) (maxL := 2) (by decide) rfl (Nat.le_of_ble_eq_true rfl) ?_
  intro p e s m below meth c A H ls hx hb hr hts hown hlocks hin hml hN hA hK hP hD hS hl
  have hT : ∀ w ∈ T0, w.before [.ref h, .int (iN aa)].toArray s = true := fun w h => hts w (List.mem_cons_of_mem _ h)
  have hown : s.vm.findClass RX4 = some m.cls := hown
  have hl : lv_has ls 2 [(0, .ref h), (1, .int (iN aa))] := hl
  refine lv_aload_n hx hb dX4_worthOfSet_0 rfl (lv_at hl 0 rfl) ?_
  refine va_get (D := D) (ci := 4) (v := .ref a_table) (C := RX4) (T := TX4) (N := 5) hx hb hT hiX4 hown hK hP 0 rfl rfl 4 (by decide) (hT _ k_235) (fun _ h9 => h9) rfl dX4_worthOfSet_1 ?_
  refine lv_iload_n hx hb dX4_worthOfSet_4 rfl (lv_at hl 1 rfl) ?_
  refine iv_iconst hx hb dX4_worthOfSet_5 ?_
  refine iv_shr3 hx hb dX4_worthOfSet_6 (by omega) ?_
  refine iv_lald hx hb hK hP 1 0 rfl rfl (f := tT) (by omega) (by omega) dX4_worthOfSet_7 ?_
  refine lv_iload_n hx hb dX4_worthOfSet_8 rfl (lv_at hl 1 rfl) ?_
  refine iv_bipush hx hb dX4_worthOfSet_9 (by decide) ?_
  refine iv_and7 hx hb dX4_worthOfSet_11 (by omega) ?_
  refine iv_iconst hx hb dX4_worthOfSet_12 ?_
  refine iv_shl3 hx hb dX4_worthOfSet_13 (by omega) ?_
  refine lv_lshr hx hb dX4_worthOfSet_14 rfl ?_
  refine lv_l2i hx hb dX4_worthOfSet_15 rfl ?_
  refine lv_i2b hx hb dX4_worthOfSet_16 rfl ?_
  refine iv_push (n := tbv tT aa) (iN_of _).symm ?_
  exact iv_iret hx hb hr hlocks dX4_worthOfSet_17 (by omega) (by omega) () (by rfl) (by exact hP.sub [0, 1] rfl) (by exact hD.sub [0, 1] (by decide) rfl) hS
set_option maxHeartbeats 4000000 in
set_option maxRecDepth 100000 in
theorem ok_X4_worthOfDraw (l : Launch) (D : va_G) (cI : ClassId) (cJ : ClassId) (h : Nat) (a_firstField : Nat) (a_secondField : Nat) (a_table : Nat) (v_base : Value) (v_size : Value) (ff : Int → Int) (sf : Int → Int) (tT : Int → Int64) (nT : Nat) (sz : Nat) (aa : Int) (jj : Int) (wz : Int) (ba : Int → Int) (fa : Int → Int) (sb : Int → Int) (hwz : 0 ≤ wz ∧ wz ≤ 16) (hij : inj ba wz N5) (hjj : 0 ≤ jj ∧ jj < wz) (haa : 0 ≤ aa ∧ aa < p2 wz) (hbt : bt aa jj = 1) (hmk : mkA ba fa sb wz wz ff sf) (hnT : p2 wz ≤ 8 * (nT : Int) ∧ (nT : Int) < 2147483648) (hwb : -1000 ≤ tbv tT (aa - p2 jj) ∧ tbv tT (aa - p2 jj) ≤ 1000) : MetI l yX4_worthOfDraw (wd yX4_worthOfDraw cX4_worthOfDraw 6 (some .int)) ({ frames := 1, cells := 0, slots := 0, locals := 21 } : Room) [.ref h, .int (iN aa), .int (iN jj)] D [(cI, .int), (cJ, .long)] [(h, .inr (4, [v_base, .ref a_firstField, .ref a_secondField, v_size, .ref a_table])), (a_firstField, .inl (cI, 16, .inl (ar ff))), (a_secondField, .inl (cI, 16, .inl (ar sf))), (a_table, .inl (cJ, nT, .inr (.inl (arJ tT))))] sz (fun _ : Unit => [(h, .inr (4, [v_base, .ref a_firstField, .ref a_secondField, v_size, .ref a_table])), (a_firstField, .inl (cI, 16, .inl (ar ff))), (a_secondField, .inl (cI, 16, .inl (ar sf))), (a_table, .inl (cJ, nT, .inr (.inl (arJ tT))))]) (fun z _ => z = dvb fa sb ba N5 wz (tbv tT) aa jj) 0 0 := by
  refine iv_mkI (cc := cX4_worthOfDraw) (maxL := 6) (by decide) rfl (Nat.le_of_ble_eq_true rfl) ?_
  intro p e s m below meth c A H ls hx hb hr hts hown hlocks hin hml hN hA hK hP hD hS hl
  have hT : ∀ w ∈ T0, w.before [.ref h, .int (iN aa), .int (iN jj)].toArray s = true := fun w h => hts w (List.mem_cons_of_mem _ h)
  have hown : s.vm.findClass RX4 = some m.cls := hown
  have hl : lv_has ls 6 [(0, .ref h), (1, .int (iN aa)), (2, .int (iN jj))] := hl
  have hp16 := p2_16 (k := wz) (by omega)
  have hpk := p2_lt (k := wz) hjj.1 hjj.2
  have hpp := p2_pos jj
  have hmb := mkA_b hmk hjj.1 hjj.2
  have hb1 := bA_bd (a := aa) (b := ff jj) hmb.1.1
  have hb2 := bA_bd (a := aa) (b := sf jj) hmb.2.1
  have hm := hmk jj hjj.1 hjj.2
  have hcl := clF_msk2 hij hwz.1 haa hjj.1 hjj.2 hbt hm.1 hm.2
  have hc := bt_clear haa.1 hjj.1 hjj.1 hbt
  refine iv_iconst hx hb dX4_worthOfDraw_0 ?_
  refine lv_iload_n hx hb dX4_worthOfDraw_1 rfl (lv_at hl 2 rfl) ?_
  refine iv_shl1 hx hb dX4_worthOfDraw_2 (by omega) ?_
  refine lv_istore_n (lv' := [(3, .int (iN (p2 jj))), (0, .ref h), (1, .int (iN aa)), (2, .int (iN jj))]) hx hb dX4_worthOfDraw_3 rfl hl (by decide) rfl (fun ls hl => ?_)
  refine lv_aload_n hx hb dX4_worthOfDraw_4 rfl (lv_at hl 1 rfl) ?_
  refine lv_iload_n hx hb dX4_worthOfDraw_5 rfl (lv_at hl 2 rfl) ?_
  refine lv_iload_n hx hb dX4_worthOfDraw_6 rfl (lv_at hl 0 rfl) ?_
  refine iv_xorp hx hb dX4_worthOfDraw_7 (by omega) (by omega) (by exact hbt) ?_
  refine iv_callV (mc := 0) (ms := 0) (wc := [(h, .inr (4, [v_base, .ref a_firstField, .ref a_secondField, v_size, .ref a_table])), (a_table, .inl (cJ, nT, .inr (.inl (arJ tT))))]) (wr := [(a_firstField, .inl (cI, 16, .inl (ar ff))), (a_secondField, .inl (cI, 16, .inl (ar sf)))]) (As := [.int (iN (aa - p2 jj))]) (rest := []) ⟨hx, hb, hml, hown, hT⟩ (ok_X4_worthOfSet l D cJ h a_table v_base (.ref a_firstField) (.ref a_secondField) v_size tT nT H.size (aa - p2 jj) (by first | with_reducible assumption | omega | assumption) (by first | with_reducible assumption | omega | assumption)) (iv_cw 1 hT k_592 k_63 k_589 k_591 k_24 (by decide +kernel) rfl rfl ⟨Nat.le_of_ble_eq_true rfl, Nat.le_of_ble_eq_true rfl⟩) hN hK hP hD hS hA [0, 3] [1, 2] [1] rfl rfl (by decide) (by decide) (by decide) rfl 0 (ci := 4) rfl rfl rfl hl.1 rfl (Nat.le_of_ble_eq_true rfl) dX4_worthOfDraw_8 ⟨Nat.le_of_ble_eq_true rfl, Nat.le_of_ble_eq_true rfl⟩ (fun z8 u8 H locs hw8 hP hD hS => ?_)
  obtain rfl := hw8
  have hP := hP.sub (ws' := [(h, .inr (4, [v_base, .ref a_firstField, .ref a_secondField, v_size, .ref a_table])), (a_firstField, .inl (cI, 16, .inl (ar ff))), (a_secondField, .inl (cI, 16, .inl (ar sf))), (a_table, .inl (cJ, nT, .inr (.inl (arJ tT))))]) [2, 0, 1, 3] rfl
  have hD := hD.sub (ws' := [(h, .inr (4, [v_base, .ref a_firstField, .ref a_secondField, v_size, .ref a_table])), (a_firstField, .inl (cI, 16, .inl (ar ff))), (a_secondField, .inl (cI, 16, .inl (ar sf))), (a_table, .inl (cJ, nT, .inr (.inl (arJ tT))))]) [2, 0, 1, 3] (by decide) rfl
  refine lv_istore (lv' := [(4, .int (iN (tbv tT (aa - p2 jj)))), (3, .int (iN (p2 jj))), (0, .ref h), (1, .int (iN aa)), (2, .int (iN jj))]) hx hb dX4_worthOfDraw_11 hl (by decide) rfl (fun ls hl => ?_)
  refine lv_iload_n hx hb dX4_worthOfDraw_13 rfl (lv_at hl 3 rfl) ?_
  refine lv_aload_n hx hb dX4_worthOfDraw_14 rfl (lv_at hl 2 rfl) ?_
  refine va_get (D := D) (ci := 4) (v := .ref a_firstField) (C := RX4) (T := TX4) (N := 5) hx hb hT hiX4 hown hK hP 0 rfl rfl 1 (by decide) (hT _ k_232) (fun _ h9 => h9) rfl dX4_worthOfDraw_15 ?_
  refine lv_iload_n hx hb dX4_worthOfDraw_18 rfl (lv_at hl 4 rfl) ?_
  refine iv_iald hx hb hK hP 1 0 rfl rfl (f := ff) (by omega) (by omega) dX4_worthOfDraw_19 ?_
  refine iv_iand hx hb dX4_worthOfDraw_20 (by omega) (by omega) ?_
  refine lv_iload_n hx hb dX4_worthOfDraw_21 rfl (lv_at hl 1 rfl) ?_
  refine iv_icmp_ne (tgt := 29) hx hb dX4_worthOfDraw_22 (by decide) (by omega) (by omega) (fun c22 => ?_) (fun c22 => ?_)
  · refine iv_iconst hx hb dX4_worthOfDraw_29 ?_
    refine lv_istore (lv' := [(5, .int (iN 0)), (4, .int (iN (tbv tT (aa - p2 jj)))), (3, .int (iN (p2 jj))), (0, .ref h), (1, .int (iN aa)), (2, .int (iN jj))]) hx hb dX4_worthOfDraw_30 hl (by decide) rfl (fun ls hl => ?_)
    refine lv_iload_n hx hb dX4_worthOfDraw_32 rfl (lv_at hl 4 rfl) ?_
    refine lv_aload_n hx hb dX4_worthOfDraw_33 rfl (lv_at hl 3 rfl) ?_
    refine va_get (D := D) (ci := 4) (v := .ref a_secondField) (C := RX4) (T := TX4) (N := 5) hx hb hT hiX4 hown hK hP 0 rfl rfl 2 (by decide) (hT _ k_233) (fun _ h9 => h9) rfl dX4_worthOfDraw_34 ?_
    refine lv_iload_n hx hb dX4_worthOfDraw_37 rfl (lv_at hl 5 rfl) ?_
    refine iv_iald hx hb hK hP 2 0 rfl rfl (f := sf) (by omega) (by omega) dX4_worthOfDraw_38 ?_
    refine iv_iand hx hb dX4_worthOfDraw_39 (by omega) (by omega) ?_
    refine lv_iload_n hx hb dX4_worthOfDraw_40 rfl (lv_at hl 2 rfl) ?_
    refine iv_icmp_ne (tgt := 47) hx hb dX4_worthOfDraw_41 (by decide) (by omega) (by omega) (fun c41 => ?_) (fun c41 => ?_)
    · refine lv_iload hx hb dX4_worthOfDraw_47 (lv_at hl 0 rfl) ?_
      refine iv_if_le (tgt := 60) hx hb dX4_worthOfDraw_49 (by decide) (by omega) (fun c49 => ?_) (fun c49 => ?_)
      · refine lv_iload hx hb dX4_worthOfDraw_60 (lv_at hl 1 rfl) ?_
        refine iv_ineg hx hb dX4_worthOfDraw_62 ?_
        exact iv_iret hx hb hr hlocks dX4_worthOfDraw_63 (by omega) (by omega) () (by unfold dvb dvl; rw [hcl]; (repeat' split) <;> omega) (by exact hP.sub [0, 1, 2, 3] rfl) (by exact hD.sub [0, 1, 2, 3] (by decide) rfl) hS
      · exact absurd c49 (by decide)
    · refine lv_iinc (v := iN (0 + 1)) (lv' := [(5, .int (iN (0 + 1))), (4, .int (iN (tbv tT (aa - p2 jj)))), (3, .int (iN (p2 jj))), (0, .ref h), (1, .int (iN aa)), (2, .int (iN jj))]) hx hb dX4_worthOfDraw_44 hl (k := 0) rfl (iN_add _ _) (by decide) rfl (fun ls hl => ?_)
      refine lv_iload hx hb dX4_worthOfDraw_47 (lv_at hl 0 rfl) ?_
      refine iv_if_le (tgt := 60) hx hb dX4_worthOfDraw_49 (by decide) (by omega) (fun c49 => ?_) (fun c49 => ?_)
      · exact absurd c49 (by decide)
      · refine lv_iload hx hb dX4_worthOfDraw_52 (lv_at hl 0 rfl) ?_
        refine lv_iload hx hb dX4_worthOfDraw_54 (lv_at hl 1 rfl) ?_
        refine iv_iadd hx hb dX4_worthOfDraw_56 ?_
        refine lv_goto (tgt := 63) hx hb dX4_worthOfDraw_57 (by decide) ?_
        exact iv_iret hx hb hr hlocks dX4_worthOfDraw_63 (by omega) (by omega) () (by unfold dvb dvl; rw [hcl]; (repeat' split) <;> omega) (by exact hP.sub [0, 1, 2, 3] rfl) (by exact hD.sub [0, 1, 2, 3] (by decide) rfl) hS
  · refine iv_iconst hx hb dX4_worthOfDraw_25 ?_
    refine lv_goto (tgt := 30) hx hb dX4_worthOfDraw_26 (by decide) ?_
    refine lv_istore (lv' := [(5, .int (iN 1)), (4, .int (iN (tbv tT (aa - p2 jj)))), (3, .int (iN (p2 jj))), (0, .ref h), (1, .int (iN aa)), (2, .int (iN jj))]) hx hb dX4_worthOfDraw_30 hl (by decide) rfl (fun ls hl => ?_)
    refine lv_iload_n hx hb dX4_worthOfDraw_32 rfl (lv_at hl 4 rfl) ?_
    refine lv_aload_n hx hb dX4_worthOfDraw_33 rfl (lv_at hl 3 rfl) ?_
    refine va_get (D := D) (ci := 4) (v := .ref a_secondField) (C := RX4) (T := TX4) (N := 5) hx hb hT hiX4 hown hK hP 0 rfl rfl 2 (by decide) (hT _ k_233) (fun _ h9 => h9) rfl dX4_worthOfDraw_34 ?_
    refine lv_iload_n hx hb dX4_worthOfDraw_37 rfl (lv_at hl 5 rfl) ?_
    refine iv_iald hx hb hK hP 2 0 rfl rfl (f := sf) (by omega) (by omega) dX4_worthOfDraw_38 ?_
    refine iv_iand hx hb dX4_worthOfDraw_39 (by omega) (by omega) ?_
    refine lv_iload_n hx hb dX4_worthOfDraw_40 rfl (lv_at hl 2 rfl) ?_
    refine iv_icmp_ne (tgt := 47) hx hb dX4_worthOfDraw_41 (by decide) (by omega) (by omega) (fun c41 => ?_) (fun c41 => ?_)
    · refine lv_iload hx hb dX4_worthOfDraw_47 (lv_at hl 0 rfl) ?_
      refine iv_if_le (tgt := 60) hx hb dX4_worthOfDraw_49 (by decide) (by omega) (fun c49 => ?_) (fun c49 => ?_)
      · exact absurd c49 (by decide)
      · refine lv_iload hx hb dX4_worthOfDraw_52 (lv_at hl 0 rfl) ?_
        refine lv_iload hx hb dX4_worthOfDraw_54 (lv_at hl 1 rfl) ?_
        refine iv_iadd hx hb dX4_worthOfDraw_56 ?_
        refine lv_goto (tgt := 63) hx hb dX4_worthOfDraw_57 (by decide) ?_
        exact iv_iret hx hb hr hlocks dX4_worthOfDraw_63 (by omega) (by omega) () (by unfold dvb dvl; rw [hcl]; (repeat' split) <;> omega) (by exact hP.sub [0, 1, 2, 3] rfl) (by exact hD.sub [0, 1, 2, 3] (by decide) rfl) hS
    · refine lv_iinc (v := iN (1 + 1)) (lv' := [(5, .int (iN (1 + 1))), (4, .int (iN (tbv tT (aa - p2 jj)))), (3, .int (iN (p2 jj))), (0, .ref h), (1, .int (iN aa)), (2, .int (iN jj))]) hx hb dX4_worthOfDraw_44 hl (k := 0) rfl (iN_add _ _) (by decide) rfl (fun ls hl => ?_)
      refine lv_iload hx hb dX4_worthOfDraw_47 (lv_at hl 0 rfl) ?_
      refine iv_if_le (tgt := 60) hx hb dX4_worthOfDraw_49 (by decide) (by omega) (fun c49 => ?_) (fun c49 => ?_)
      · exact absurd c49 (by decide)
      · refine lv_iload hx hb dX4_worthOfDraw_52 (lv_at hl 0 rfl) ?_
        refine lv_iload hx hb dX4_worthOfDraw_54 (lv_at hl 1 rfl) ?_
        refine iv_iadd hx hb dX4_worthOfDraw_56 ?_
        refine lv_goto (tgt := 63) hx hb dX4_worthOfDraw_57 (by decide) ?_
        exact iv_iret hx hb hr hlocks dX4_worthOfDraw_63 (by omega) (by omega) () (by unfold dvb dvl; rw [hcl]; (repeat' split) <;> omega) (by exact hP.sub [0, 1, 2, 3] rfl) (by exact hD.sub [0, 1, 2, 3] (by decide) rfl) hS
set_option maxHeartbeats 4000000 in
set_option maxRecDepth 100000 in
theorem ok_X4_bestOfSet (l : Launch) (D : va_G) (cI : ClassId) (cJ : ClassId) (h : Nat) (a_firstField : Nat) (a_secondField : Nat) (a_table : Nat) (v_base : Value) (ff : Int → Int) (sf : Int → Int) (tT : Int → Int64) (wz : Int) (nT : Nat) (sz : Nat) (aa : Int) (ba : Int → Int) (fa : Int → Int) (sb : Int → Int) (hwz : 0 ≤ wz ∧ wz ≤ 16) (hij : inj ba wz N5) (hmk : mkA ba fa sb wz wz ff sf) (hnT : p2 wz ≤ 8 * (nT : Int) ∧ (nT : Int) < 2147483648) (haa : 0 < aa ∧ aa < p2 wz) (htb : tbI fa sb ba wz (tbv tT) aa) : MetI l yX4_bestOfSet (wd yX4_bestOfSet cX4_bestOfSet 5 (some .int)) ({ frames := 2, cells := 0, slots := 0, locals := 46 } : Room) [.ref h, .int (iN aa)] D [(cI, .int), (cJ, .long)] [(h, .inr (4, [v_base, .ref a_firstField, .ref a_secondField, .int (iN wz), .ref a_table])), (a_firstField, .inl (cI, 16, .inl (ar ff))), (a_secondField, .inl (cI, 16, .inl (ar sf))), (a_table, .inl (cJ, nT, .inr (.inl (arJ tT))))] sz (fun _ : Unit => [(h, .inr (4, [v_base, .ref a_firstField, .ref a_secondField, .int (iN wz), .ref a_table])), (a_firstField, .inl (cI, 16, .inl (ar ff))), (a_secondField, .inl (cI, 16, .inl (ar sf))), (a_table, .inl (cJ, nT, .inr (.inl (arJ tT))))]) (fun z _ => mxS fa sb ba N5 wz (tbv tT) aa (-1000000000) wz z ∧ -34 ≤ z ∧ z ≤ 34) 0 0 := by
  refine iv_mkI (cc := cX4_bestOfSet) (maxL := 5) (by decide) rfl (Nat.le_of_ble_eq_true rfl) ?_
  intro p e s m below meth c A H ls hx hb hr hts hown hlocks hin hml hN hA hK hP hD hS hl
  have hT : ∀ w ∈ T0, w.before [.ref h, .int (iN aa)].toArray s = true := fun w h => hts w (List.mem_cons_of_mem _ h)
  have hown : s.vm.findClass RX4 = some m.cls := hown
  have hl : lv_has ls 5 [(0, .ref h), (1, .int (iN aa))] := hl
  refine iv_ldc hx hb (n := -1000000000) (v := -1000000000) (by decide) hown (hT _ k_584) dX4_bestOfSet_0 ?_
  refine lv_istore_n (lv' := [(2, .int (iN (-1000000000))), (0, .ref h), (1, .int (iN aa))]) hx hb dX4_bestOfSet_2 rfl hl (by decide) rfl (fun ls hl => ?_)
  refine iv_iconst hx hb dX4_bestOfSet_3 ?_
  refine lv_istore_n (lv' := [(3, .int (iN 0)), (2, .int (iN (-1000000000))), (0, .ref h), (1, .int (iN aa))]) hx hb dX4_bestOfSet_4 rfl hl (by decide) rfl (fun ls hl => ?_)
  have lab_5 : ∀ (fuel : Nat) (m_ : Int) (k_ : Int), (0 ≤ k_ ∧ k_ ≤ wz) → (mxS fa sb ba N5 wz (tbv tT) aa (-1000000000) k_ m_) → (-1000000000 ≤ m_ ∧ m_ ≤ 34) → (wz - k_ < (fuel : Int)) → ∀ (H : Heap) (locs : List Loc) (ls : Array Slot), va_P D vwCl [(h, .inr (4, [v_base, .ref a_firstField, .ref a_secondField, .int (iN wz), .ref a_table])), (a_firstField, .inl (cI, 16, .inl (ar ff))), (a_secondField, .inl (cI, 16, .inl (ar sf))), (a_table, .inl (cJ, nT, .inr (.inl (arJ tT))))] H → va_D A [(h, .inr (4, [v_base, .ref a_firstField, .ref a_secondField, .int (iN wz), .ref a_table])), (a_firstField, .inl (cI, 16, .inl (ar ff))), (a_secondField, .inl (cI, 16, .inl (ar sf))), (a_table, .inl (cJ, nT, .inr (.inl (arJ tT))))] → va_S A s.heap H locs → lv_has ls 5 [(0, .ref h), (1, .int (iN aa)), (2, .int (iN m_)), (3, .int (iN k_))] → W p l e ({ frames := 2, cells := 0, slots := 0, locals := 46 } : Room) s m [.ref h, .int (iN aa)].toArray below meth c H locs 0 0 (MQ below (iv_Qi D A (fun _ : Unit => [(h, .inr (4, [v_base, .ref a_firstField, .ref a_secondField, .int (iN wz), .ref a_table])), (a_firstField, .inl (cI, 16, .inl (ar ff))), (a_secondField, .inl (cI, 16, .inl (ar sf))), (a_table, .inl (cJ, nT, .inr (.inl (arJ tT))))]) (fun z _ => mxS fa sb ba N5 wz (tbv tT) aa (-1000000000) wz z ∧ -34 ≤ z ∧ z ≤ 34)) [.ref h, .int (iN aa)].toArray s 0 0 A) (F0 m 5 ls []) := by
    intro fuel
    induction fuel with
    | zero =>
      intro m_ k_ hk hmx hmb hm
      exact absurd hm (by omega)
    | succ fuel ih =>
      intro m_ k_ hk hmx hmb hm H locs ls hP hD hS hl
      have ih_5 := ih
      refine lv_iload_n hx hb dX4_bestOfSet_5 rfl (lv_at hl 3 rfl) ?_
      refine lv_aload_n hx hb dX4_bestOfSet_6 rfl (lv_at hl 0 rfl) ?_
      refine va_get (D := D) (ci := 4) (v := .int (iN wz)) (C := RX4) (T := TX4) (N := 5) hx hb hT hiX4 hown hK hP 0 rfl rfl 3 (by decide) (hT _ k_234) (fun _ h9 => h9) rfl dX4_bestOfSet_7 ?_
      refine iv_icmp_ge (tgt := 48) hx hb dX4_bestOfSet_10 (by decide) (by omega) (by omega) (fun c10 => ?_) (fun c10 => ?_)
      · refine lv_iload_n hx hb dX4_bestOfSet_48 rfl (lv_at hl 2 rfl) ?_
        exact iv_iret hx hb hr hlocks dX4_bestOfSet_49 (by omega) (by omega) () (by have ek : k_ = wz := (by omega); rw [ek] at hmx; obtain ⟨j, j0, j1, j2⟩ := bt_some haa.1 haa.2 hwz.1; have u9 := hmx.1 j j0 j1 j2; have v9 := (tbI_dv hij hwz htb (by omega) j0 j2).2.2; exact ⟨hmx, by omega, by omega⟩) (by exact hP.sub [0, 1, 2, 3] rfl) (by exact hD.sub [0, 1, 2, 3] (by decide) rfl) hS
      · have hp16 := p2_16 (k := wz) (by omega)
        have hdb := p2_div (a := aa) (k := k_) (by omega)
        refine lv_iload_n hx hb dX4_bestOfSet_13 rfl (lv_at hl 1 rfl) ?_
        refine lv_iload_n hx hb dX4_bestOfSet_14 rfl (lv_at hl 3 rfl) ?_
        refine iv_ishr hx hb dX4_bestOfSet_15 (by omega) (by omega) ?_
        refine iv_iconst hx hb dX4_bestOfSet_16 ?_
        refine iv_and1 hx hb dX4_bestOfSet_17 (by omega) ?_
        refine iv_if_eq (tgt := 42) hx hb dX4_bestOfSet_18 (by decide) (by omega) (fun c18 => ?_) (fun c18 => ?_)
        · refine lv_iinc (v := iN (k_ + 1)) (lv' := [(3, .int (iN (k_ + 1))), (0, .ref h), (1, .int (iN aa)), (2, .int (iN m_))]) hx hb dX4_bestOfSet_42 hl (k := 3) rfl (iN_add _ _) (by decide) rfl (fun ls hl => ?_)
          refine lv_goto (tgt := 5) hx hb dX4_bestOfSet_45 (by decide) ?_
          exact ih_5 m_ (k_ + 1) (by first | omega | with_reducible assumption | assumption) (by first | exact mxS_skip hmx (by unfold bt; omega) | exact mxS_up hmx (by omega) hbt (by omega) rfl (by omega) | exact mxS_keep hmx (by omega) hbt (by omega) (by omega)) (by first | omega | with_reducible assumption | assumption) (by omega) _ _ _ (hP.sub [0, 1, 2, 3] rfl) (hD.sub [0, 1, 2, 3] (by decide) rfl) hS (lv_sub hl [1, 2, 3, 0] rfl)
        · have hbt : bt aa k_ = 1 := by have q9 := bt_01 aa k_; unfold bt at q9 ⊢; omega
          have hdv := tbI_dv hij hwz htb (by omega) (by omega) hbt
          refine lv_aload_n hx hb dX4_bestOfSet_21 rfl (lv_at hl 0 rfl) ?_
          refine lv_iload_n hx hb dX4_bestOfSet_22 rfl (lv_at hl 1 rfl) ?_
          refine lv_iload_n hx hb dX4_bestOfSet_23 rfl (lv_at hl 3 rfl) ?_
          refine iv_callV (mc := 0) (ms := 0) (wc := [(h, .inr (4, [v_base, .ref a_firstField, .ref a_secondField, .int (iN wz), .ref a_table])), (a_firstField, .inl (cI, 16, .inl (ar ff))), (a_secondField, .inl (cI, 16, .inl (ar sf))), (a_table, .inl (cJ, nT, .inr (.inl (arJ tT))))]) (wr := []) (As := [.int (iN aa), .int (iN k_)]) (rest := []) ⟨hx, hb, hml, hown, hT⟩ (ok_X4_worthOfDraw l D cI cJ h a_firstField a_secondField a_table v_base (.int (iN wz)) ff sf tT nT H.size aa k_ wz ba fa sb (by first | with_reducible assumption | omega | assumption) (by first | with_reducible assumption | omega | assumption) (by first | with_reducible assumption | omega | assumption) (by first | with_reducible assumption | omega | assumption) (by first | with_reducible assumption | omega | assumption) (by first | with_reducible assumption | omega | assumption) (by first | with_reducible assumption | omega | assumption) (by first | with_reducible assumption | omega | assumption)) (iv_cw 2 hT k_588 k_63 k_585 k_587 k_23 (by decide +kernel) rfl rfl ⟨Nat.le_of_ble_eq_true rfl, Nat.le_of_ble_eq_true rfl⟩) hN hK hP hD hS hA [0, 1, 2, 3] [] [0, 1] rfl rfl (by decide) (by decide) (by decide) rfl 0 (ci := 4) rfl rfl rfl hl.1 rfl (Nat.le_of_ble_eq_true rfl) dX4_bestOfSet_24 ⟨Nat.le_of_ble_eq_true rfl, Nat.le_of_ble_eq_true rfl⟩ (fun z24 u24 H locs hw24 hP hD hS => ?_)
          obtain rfl := hw24
          have hP := hP.sub (ws' := [(h, .inr (4, [v_base, .ref a_firstField, .ref a_secondField, .int (iN wz), .ref a_table])), (a_firstField, .inl (cI, 16, .inl (ar ff))), (a_secondField, .inl (cI, 16, .inl (ar sf))), (a_table, .inl (cJ, nT, .inr (.inl (arJ tT))))]) [0, 1, 2, 3] rfl
          have hD := hD.sub (ws' := [(h, .inr (4, [v_base, .ref a_firstField, .ref a_secondField, .int (iN wz), .ref a_table])), (a_firstField, .inl (cI, 16, .inl (ar ff))), (a_secondField, .inl (cI, 16, .inl (ar sf))), (a_table, .inl (cJ, nT, .inr (.inl (arJ tT))))]) [0, 1, 2, 3] (by decide) rfl
          refine lv_istore (lv' := [(4, .int (iN (dvb fa sb ba N5 wz (tbv tT) aa k_))), (0, .ref h), (1, .int (iN aa)), (2, .int (iN m_)), (3, .int (iN k_))]) hx hb dX4_bestOfSet_27 hl (by decide) rfl (fun ls hl => ?_)
          refine lv_iload hx hb dX4_bestOfSet_29 (lv_at hl 0 rfl) ?_
          refine lv_iload_n hx hb dX4_bestOfSet_31 rfl (lv_at hl 3 rfl) ?_
          refine iv_icmp_le (tgt := 40) hx hb dX4_bestOfSet_32 (by decide) (by omega) (by omega) (fun c32 => ?_) (fun c32 => ?_)
          · refine lv_iload_n hx hb dX4_bestOfSet_40 rfl (lv_at hl 3 rfl) ?_
            refine lv_istore_n (lv' := [(2, .int (iN m_)), (4, .int (iN (dvb fa sb ba N5 wz (tbv tT) aa k_))), (0, .ref h), (1, .int (iN aa)), (3, .int (iN k_))]) hx hb dX4_bestOfSet_41 rfl hl (by decide) rfl (fun ls hl => ?_)
            refine lv_iinc (v := iN (k_ + 1)) (lv' := [(3, .int (iN (k_ + 1))), (2, .int (iN m_)), (4, .int (iN (dvb fa sb ba N5 wz (tbv tT) aa k_))), (0, .ref h), (1, .int (iN aa))]) hx hb dX4_bestOfSet_42 hl (k := 4) rfl (iN_add _ _) (by decide) rfl (fun ls hl => ?_)
            refine lv_goto (tgt := 5) hx hb dX4_bestOfSet_45 (by decide) ?_
            exact ih_5 m_ (k_ + 1) (by first | omega | with_reducible assumption | assumption) (by first | exact mxS_skip hmx (by unfold bt; omega) | exact mxS_up hmx (by omega) hbt (by omega) rfl (by omega) | exact mxS_keep hmx (by omega) hbt (by omega) (by omega)) (by first | omega | with_reducible assumption | assumption) (by omega) _ _ _ (hP.sub [0, 1, 2, 3] rfl) (hD.sub [0, 1, 2, 3] (by decide) rfl) hS (lv_sub hl [3, 4, 1, 0] rfl)
          · refine lv_iload hx hb dX4_bestOfSet_35 (lv_at hl 0 rfl) ?_
            refine lv_goto (tgt := 41) hx hb dX4_bestOfSet_37 (by decide) ?_
            refine lv_istore_n (lv' := [(2, .int (iN (dvb fa sb ba N5 wz (tbv tT) aa k_))), (4, .int (iN (dvb fa sb ba N5 wz (tbv tT) aa k_))), (0, .ref h), (1, .int (iN aa)), (3, .int (iN k_))]) hx hb dX4_bestOfSet_41 rfl hl (by decide) rfl (fun ls hl => ?_)
            refine lv_iinc (v := iN (k_ + 1)) (lv' := [(3, .int (iN (k_ + 1))), (2, .int (iN (dvb fa sb ba N5 wz (tbv tT) aa k_))), (4, .int (iN (dvb fa sb ba N5 wz (tbv tT) aa k_))), (0, .ref h), (1, .int (iN aa))]) hx hb dX4_bestOfSet_42 hl (k := 4) rfl (iN_add _ _) (by decide) rfl (fun ls hl => ?_)
            refine lv_goto (tgt := 5) hx hb dX4_bestOfSet_45 (by decide) ?_
            exact ih_5 (dvb fa sb ba N5 wz (tbv tT) aa k_) (k_ + 1) (by first | omega | with_reducible assumption | assumption) (by first | exact mxS_skip hmx (by unfold bt; omega) | exact mxS_up hmx (by omega) hbt (by omega) rfl (by omega) | exact mxS_keep hmx (by omega) hbt (by omega) (by omega)) (by first | omega | with_reducible assumption | assumption) (by omega) _ _ _ (hP.sub [0, 1, 2, 3] rfl) (hD.sub [0, 1, 2, 3] (by decide) rfl) hS (lv_sub hl [3, 4, 1, 0] rfl)
  exact lab_5 ((wz - 0 : Int).toNat + 1) (-1000000000) 0 (by first | omega | with_reducible assumption | assumption) (by exact mxS_0) (by first | omega | with_reducible assumption | assumption) (by omega) _ _ _ (hP.sub [0, 1, 2, 3] rfl) (hD.sub [0, 1, 2, 3] (by decide) rfl) hS (lv_sub hl [2, 3, 1, 0] rfl)
set_option maxHeartbeats 4000000 in
set_option maxRecDepth 100000 in
theorem ok_X4_worthInSet (l : Launch) (D : va_G) (cI : ClassId) (cJ : ClassId) (h : Nat) (a_base : Nat) (a_firstField : Nat) (a_secondField : Nat) (a_table : Nat) (ba : Int → Int) (ff : Int → Int) (sf : Int → Int) (tT : Int → Int64) (wz : Int) (nT : Nat) (sz : Nat) (aa : Int) (sd : Int) (fa : Int → Int) (sb : Int → Int) (hwz : 0 ≤ wz ∧ wz ≤ 16) (hij : inj ba wz N5) (hmk : mkA ba fa sb wz wz ff sf) (hnT : p2 wz ≤ 8 * (nT : Int) ∧ (nT : Int) < 2147483648) (haa : 0 ≤ aa ∧ aa < p2 wz) (htb : tbI fa sb ba wz (tbv tT) (p2 wz)) (hsd : -2147483648 ≤ sd ∧ sd < 2147483648) (hin9 : ∀ j : Int, 0 ≤ j → j < wz → ba j = sd → bt aa j = 1) : MetI l yX4_worthInSet (wd yX4_worthInSet cX4_worthInSet 4 (some .int)) ({ frames := 2, cells := 0, slots := 0, locals := 46 } : Room) [.ref h, .int (iN aa), .int (iN sd)] D [(cI, .int), (cJ, .long)] [(h, .inr (4, [.ref a_base, .ref a_firstField, .ref a_secondField, .int (iN wz), .ref a_table])), (a_base, .inl (cI, 16, .inl (ar ba))), (a_firstField, .inl (cI, 16, .inl (ar ff))), (a_secondField, .inl (cI, 16, .inl (ar sf))), (a_table, .inl (cJ, nT, .inr (.inl (arJ tT))))] sz (fun _ : Unit => [(h, .inr (4, [.ref a_base, .ref a_firstField, .ref a_secondField, .int (iN wz), .ref a_table])), (a_base, .inl (cI, 16, .inl (ar ba))), (a_firstField, .inl (cI, 16, .inl (ar ff))), (a_secondField, .inl (cI, 16, .inl (ar sf))), (a_table, .inl (cJ, nT, .inr (.inl (arJ tT))))]) (fun z _ => (∃ j : Int, 0 ≤ j ∧ j < wz ∧ ba j = sd ∧ z = dvb fa sb ba N5 wz (tbv tT) aa j) ∨ ((∀ j : Int, 0 ≤ j → j < wz → ba j ≠ sd) ∧ z = 1000)) 0 0 := by
  refine iv_mkI (cc := cX4_worthInSet) (maxL := 4) (by decide) rfl (Nat.le_of_ble_eq_true rfl) ?_
  intro p e s m below meth c A H ls hx hb hr hts hown hlocks hin hml hN hA hK hP hD hS hl
  have hT : ∀ w ∈ T0, w.before [.ref h, .int (iN aa), .int (iN sd)].toArray s = true := fun w h => hts w (List.mem_cons_of_mem _ h)
  have hown : s.vm.findClass RX4 = some m.cls := hown
  have hl : lv_has ls 4 [(0, .ref h), (1, .int (iN aa)), (2, .int (iN sd))] := hl
  refine iv_iconst hx hb dX4_worthInSet_0 ?_
  refine lv_istore_n (lv' := [(3, .int (iN 0)), (0, .ref h), (1, .int (iN aa)), (2, .int (iN sd))]) hx hb dX4_worthInSet_1 rfl hl (by decide) rfl (fun ls hl => ?_)
  have lab_2 : ∀ (fuel : Nat) (k_ : Int), (0 ≤ k_ ∧ k_ ≤ wz) → (∀ j : Int, 0 ≤ j → j < k_ → ba j ≠ sd) → (wz - k_ < (fuel : Int)) → ∀ (H : Heap) (locs : List Loc) (ls : Array Slot), va_P D vwCl [(h, .inr (4, [.ref a_base, .ref a_firstField, .ref a_secondField, .int (iN wz), .ref a_table])), (a_base, .inl (cI, 16, .inl (ar ba))), (a_firstField, .inl (cI, 16, .inl (ar ff))), (a_secondField, .inl (cI, 16, .inl (ar sf))), (a_table, .inl (cJ, nT, .inr (.inl (arJ tT))))] H → va_D A [(h, .inr (4, [.ref a_base, .ref a_firstField, .ref a_secondField, .int (iN wz), .ref a_table])), (a_base, .inl (cI, 16, .inl (ar ba))), (a_firstField, .inl (cI, 16, .inl (ar ff))), (a_secondField, .inl (cI, 16, .inl (ar sf))), (a_table, .inl (cJ, nT, .inr (.inl (arJ tT))))] → va_S A s.heap H locs → lv_has ls 4 [(0, .ref h), (1, .int (iN aa)), (2, .int (iN sd)), (3, .int (iN k_))] → W p l e ({ frames := 2, cells := 0, slots := 0, locals := 46 } : Room) s m [.ref h, .int (iN aa), .int (iN sd)].toArray below meth c H locs 0 0 (MQ below (iv_Qi D A (fun _ : Unit => [(h, .inr (4, [.ref a_base, .ref a_firstField, .ref a_secondField, .int (iN wz), .ref a_table])), (a_base, .inl (cI, 16, .inl (ar ba))), (a_firstField, .inl (cI, 16, .inl (ar ff))), (a_secondField, .inl (cI, 16, .inl (ar sf))), (a_table, .inl (cJ, nT, .inr (.inl (arJ tT))))]) (fun z _ => (∃ j : Int, 0 ≤ j ∧ j < wz ∧ ba j = sd ∧ z = dvb fa sb ba N5 wz (tbv tT) aa j) ∨ ((∀ j : Int, 0 ≤ j → j < wz → ba j ≠ sd) ∧ z = 1000))) [.ref h, .int (iN aa), .int (iN sd)].toArray s 0 0 A) (F0 m 2 ls []) := by
    intro fuel
    induction fuel with
    | zero =>
      intro k_ hk hno hm
      exact absurd hm (by omega)
    | succ fuel ih =>
      intro k_ hk hno hm H locs ls hP hD hS hl
      have ih_2 := ih
      refine lv_iload_n hx hb dX4_worthInSet_2 rfl (lv_at hl 3 rfl) ?_
      refine lv_aload_n hx hb dX4_worthInSet_3 rfl (lv_at hl 0 rfl) ?_
      refine va_get (D := D) (ci := 4) (v := .int (iN wz)) (C := RX4) (T := TX4) (N := 5) hx hb hT hiX4 hown hK hP 0 rfl rfl 3 (by decide) (hT _ k_234) (fun _ h9 => h9) rfl dX4_worthInSet_4 ?_
      refine iv_icmp_ge (tgt := 33) hx hb dX4_worthInSet_7 (by decide) (by omega) (by omega) (fun c7 => ?_) (fun c7 => ?_)
      · refine iv_sipush hx hb dX4_worthInSet_33 (by decide) ?_
        exact iv_iret hx hb hr hlocks dX4_worthInSet_36 (by omega) (by omega) () (by exact Or.inr ⟨fun j a b => hno j a (by omega), rfl⟩) (by exact hP.sub [0, 1, 2, 3, 4] rfl) (by exact hD.sub [0, 1, 2, 3, 4] (by decide) rfl) hS
      · have hbk := hij.1 k_ (by omega) (by omega)
        rw [N5_eq] at hbk
        refine lv_aload_n hx hb dX4_worthInSet_10 rfl (lv_at hl 0 rfl) ?_
        refine va_get (D := D) (ci := 4) (v := .ref a_base) (C := RX4) (T := TX4) (N := 5) hx hb hT hiX4 hown hK hP 0 rfl rfl 0 (by decide) (hT _ k_231) (fun _ h9 => h9) rfl dX4_worthInSet_11 ?_
        refine lv_iload_n hx hb dX4_worthInSet_14 rfl (lv_at hl 3 rfl) ?_
        refine iv_iald hx hb hK hP 1 0 rfl rfl (f := ba) (by omega) (by omega) dX4_worthInSet_15 ?_
        refine lv_iload_n hx hb dX4_worthInSet_16 rfl (lv_at hl 2 rfl) ?_
        refine iv_icmp_ne (tgt := 27) hx hb dX4_worthInSet_17 (by decide) (by omega) (by omega) (fun c17 => ?_) (fun c17 => ?_)
        · refine lv_iinc (v := iN (k_ + 1)) (lv' := [(3, .int (iN (k_ + 1))), (0, .ref h), (1, .int (iN aa)), (2, .int (iN sd))]) hx hb dX4_worthInSet_27 hl (k := 3) rfl (iN_add _ _) (by decide) rfl (fun ls hl => ?_)
          refine lv_goto (tgt := 2) hx hb dX4_worthInSet_30 (by decide) ?_
          exact ih_2 (k_ + 1) (by first | omega | with_reducible assumption | assumption) (by intro j a b; by_cases ej : j = k_; (rw [ej]; omega); exact hno j a (by omega)) (by omega) _ _ _ (hP.sub [0, 1, 2, 3, 4] rfl) (hD.sub [0, 1, 2, 3, 4] (by decide) rfl) hS (lv_sub hl [1, 2, 3, 0] rfl)
        · have hbt := hin9 k_ (by omega) (by omega) (by omega)
          have hdv := tbI_dv hij hwz (tbI_le (a := aa) htb (by omega)) (by omega) (by omega) hbt
          refine lv_aload_n hx hb dX4_worthInSet_20 rfl (lv_at hl 0 rfl) ?_
          refine lv_iload_n hx hb dX4_worthInSet_21 rfl (lv_at hl 1 rfl) ?_
          refine lv_iload_n hx hb dX4_worthInSet_22 rfl (lv_at hl 3 rfl) ?_
          refine iv_callV (mc := 0) (ms := 0) (wc := [(h, .inr (4, [.ref a_base, .ref a_firstField, .ref a_secondField, .int (iN wz), .ref a_table])), (a_firstField, .inl (cI, 16, .inl (ar ff))), (a_secondField, .inl (cI, 16, .inl (ar sf))), (a_table, .inl (cJ, nT, .inr (.inl (arJ tT))))]) (wr := [(a_base, .inl (cI, 16, .inl (ar ba)))]) (As := [.int (iN aa), .int (iN k_)]) (rest := []) ⟨hx, hb, hml, hown, hT⟩ (ok_X4_worthOfDraw l D cI cJ h a_firstField a_secondField a_table (.ref a_base) (.int (iN wz)) ff sf tT nT H.size aa k_ wz ba fa sb (by first | with_reducible assumption | omega | assumption) (by first | with_reducible assumption | omega | assumption) (by first | with_reducible assumption | omega | assumption) (by first | with_reducible assumption | omega | assumption) (by first | with_reducible assumption | omega | assumption) (by first | with_reducible assumption | omega | assumption) (by first | with_reducible assumption | omega | assumption) (by first | with_reducible assumption | omega | assumption)) (iv_cw 2 hT k_588 k_63 k_585 k_587 k_23 (by decide +kernel) rfl rfl ⟨Nat.le_of_ble_eq_true rfl, Nat.le_of_ble_eq_true rfl⟩) hN hK hP hD hS hA [0, 2, 3, 4] [1] [0, 1] rfl rfl (by decide) (by decide) (by decide) rfl 0 (ci := 4) rfl rfl rfl hl.1 rfl (Nat.le_of_ble_eq_true rfl) dX4_worthInSet_23 ⟨Nat.le_of_ble_eq_true rfl, Nat.le_of_ble_eq_true rfl⟩ (fun z23 u23 H locs hw23 hP hD hS => ?_)
          obtain rfl := hw23
          have hP := hP.sub (ws' := [(h, .inr (4, [.ref a_base, .ref a_firstField, .ref a_secondField, .int (iN wz), .ref a_table])), (a_base, .inl (cI, 16, .inl (ar ba))), (a_firstField, .inl (cI, 16, .inl (ar ff))), (a_secondField, .inl (cI, 16, .inl (ar sf))), (a_table, .inl (cJ, nT, .inr (.inl (arJ tT))))]) [1, 0, 2, 3, 4] rfl
          have hD := hD.sub (ws' := [(h, .inr (4, [.ref a_base, .ref a_firstField, .ref a_secondField, .int (iN wz), .ref a_table])), (a_base, .inl (cI, 16, .inl (ar ba))), (a_firstField, .inl (cI, 16, .inl (ar ff))), (a_secondField, .inl (cI, 16, .inl (ar sf))), (a_table, .inl (cJ, nT, .inr (.inl (arJ tT))))]) [1, 0, 2, 3, 4] (by decide) rfl
          exact iv_iret hx hb hr hlocks dX4_worthInSet_26 (by omega) (by omega) () (by exact Or.inl ⟨k_, by omega, by omega, by omega, rfl⟩) (by exact hP.sub [0, 1, 2, 3, 4] rfl) (by exact hD.sub [0, 1, 2, 3, 4] (by decide) rfl) hS
  exact lab_2 ((wz - 0 : Int).toNat + 1) 0 (by first | omega | with_reducible assumption | assumption) (by intro j a b; omega) (by omega) _ _ _ (hP.sub [0, 1, 2, 3, 4] rfl) (hD.sub [0, 1, 2, 3, 4] (by decide) rfl) hS (lv_sub hl [1, 2, 3, 0] rfl)
set_option maxHeartbeats 4000000 in
set_option maxRecDepth 100000 in
theorem ok_X4_isKept (l : Launch) (D : va_G) (cI : ClassId) (h : Nat) (a_base : Nat) (v_firstField : Value) (v_secondField : Value) (v_size : Value) (v_table : Value) (ba : Int → Int) (sz : Nat) (sd : Int) (kp : Int) (hkp : 0 ≤ kp ∧ kp ≤ 16) (hba : ∀ j : Int, 0 ≤ j → j < kp → 0 ≤ ba j ∧ ba j < 500) (hsd : -2147483648 ≤ sd ∧ sd < 2147483648) : MetI l yX4_isKept (wd yX4_isKept cX4_isKept 4 (some .boolean)) ({ frames := 0, cells := 0, slots := 0, locals := 0 } : Room) [.ref h, .int (iN sd), .int (iN kp)] D [(cI, .int)] [(h, .inr (4, [.ref a_base, v_firstField, v_secondField, v_size, v_table])), (a_base, .inl (cI, 16, .inl (ar ba)))] sz (fun _ : Unit => [(h, .inr (4, [.ref a_base, v_firstField, v_secondField, v_size, v_table])), (a_base, .inl (cI, 16, .inl (ar ba)))]) (fun z _ => (z = 1 ∧ (∃ j : Int, 0 ≤ j ∧ j < kp ∧ ba j = sd)) ∨ (z = 0 ∧ (∀ j : Int, 0 ≤ j → j < kp → ba j ≠ sd))) 0 0 := by
  refine iv_mkI (cc := cX4_isKept) (maxL := 4) (by decide) rfl (Nat.le_of_ble_eq_true rfl) ?_
  intro p e s m below meth c A H ls hx hb hr hts hown hlocks hin hml hN hA hK hP hD hS hl
  have hT : ∀ w ∈ T0, w.before [.ref h, .int (iN sd), .int (iN kp)].toArray s = true := fun w h => hts w (List.mem_cons_of_mem _ h)
  have hown : s.vm.findClass RX4 = some m.cls := hown
  have hl : lv_has ls 4 [(0, .ref h), (1, .int (iN sd)), (2, .int (iN kp))] := hl
  refine iv_iconst hx hb dX4_isKept_0 ?_
  refine lv_istore_n (lv' := [(3, .int (iN 0)), (0, .ref h), (1, .int (iN sd)), (2, .int (iN kp))]) hx hb dX4_isKept_1 rfl hl (by decide) rfl (fun ls hl => ?_)
  have lab_2 : ∀ (fuel : Nat) (k_ : Int), (0 ≤ k_ ∧ k_ ≤ kp) → (∀ j : Int, 0 ≤ j → j < k_ → ba j ≠ sd) → (kp - k_ < (fuel : Int)) → ∀ (H : Heap) (locs : List Loc) (ls : Array Slot), va_P D vwCl [(h, .inr (4, [.ref a_base, v_firstField, v_secondField, v_size, v_table])), (a_base, .inl (cI, 16, .inl (ar ba)))] H → va_D A [(h, .inr (4, [.ref a_base, v_firstField, v_secondField, v_size, v_table])), (a_base, .inl (cI, 16, .inl (ar ba)))] → va_S A s.heap H locs → lv_has ls 4 [(0, .ref h), (1, .int (iN sd)), (2, .int (iN kp)), (3, .int (iN k_))] → W p l e ({ frames := 0, cells := 0, slots := 0, locals := 0 } : Room) s m [.ref h, .int (iN sd), .int (iN kp)].toArray below meth c H locs 0 0 (MQ below (iv_Qi D A (fun _ : Unit => [(h, .inr (4, [.ref a_base, v_firstField, v_secondField, v_size, v_table])), (a_base, .inl (cI, 16, .inl (ar ba)))]) (fun z _ => (z = 1 ∧ (∃ j : Int, 0 ≤ j ∧ j < kp ∧ ba j = sd)) ∨ (z = 0 ∧ (∀ j : Int, 0 ≤ j → j < kp → ba j ≠ sd)))) [.ref h, .int (iN sd), .int (iN kp)].toArray s 0 0 A) (F0 m 2 ls []) := by
    intro fuel
    induction fuel with
    | zero =>
      intro k_ hk hno hm
      exact absurd hm (by omega)
    | succ fuel ih =>
      intro k_ hk hno hm H locs ls hP hD hS hl
      have ih_2 := ih
      refine lv_iload_n hx hb dX4_isKept_2 rfl (lv_at hl 3 rfl) ?_
      refine lv_iload_n hx hb dX4_isKept_3 rfl (lv_at hl 2 rfl) ?_
      refine iv_icmp_ge (tgt := 25) hx hb dX4_isKept_4 (by decide) (by omega) (by omega) (fun c4 => ?_) (fun c4 => ?_)
      · refine iv_iconst hx hb dX4_isKept_25 ?_
        exact iv_zret hx hb hr hlocks dX4_isKept_26 (by omega) (by omega) (by omega) () (by exact Or.inr ⟨rfl, fun j a b => hno j a (by omega)⟩) (by exact hP.sub [0, 1] rfl) (by exact hD.sub [0, 1] (by decide) rfl) hS
      · have hbk := hba k_ (by omega) (by omega)
        refine lv_aload_n hx hb dX4_isKept_7 rfl (lv_at hl 0 rfl) ?_
        refine va_get (D := D) (ci := 4) (v := .ref a_base) (C := RX4) (T := TX4) (N := 5) hx hb hT hiX4 hown hK hP 0 rfl rfl 0 (by decide) (hT _ k_231) (fun _ h9 => h9) rfl dX4_isKept_8 ?_
        refine lv_iload_n hx hb dX4_isKept_11 rfl (lv_at hl 3 rfl) ?_
        refine iv_iald hx hb hK hP 1 0 rfl rfl (f := ba) (by omega) (by omega) dX4_isKept_12 ?_
        refine lv_iload_n hx hb dX4_isKept_13 rfl (lv_at hl 1 rfl) ?_
        refine iv_icmp_ne (tgt := 19) hx hb dX4_isKept_14 (by decide) (by omega) (by omega) (fun c14 => ?_) (fun c14 => ?_)
        · refine lv_iinc (v := iN (k_ + 1)) (lv' := [(3, .int (iN (k_ + 1))), (0, .ref h), (1, .int (iN sd)), (2, .int (iN kp))]) hx hb dX4_isKept_19 hl (k := 3) rfl (iN_add _ _) (by decide) rfl (fun ls hl => ?_)
          refine lv_goto (tgt := 2) hx hb dX4_isKept_22 (by decide) ?_
          exact ih_2 (k_ + 1) (by first | omega | with_reducible assumption | assumption) (by intro j a b; by_cases ej : j = k_; (rw [ej]; omega); exact hno j a (by omega)) (by omega) _ _ _ (hP.sub [0, 1] rfl) (hD.sub [0, 1] (by decide) rfl) hS (lv_sub hl [1, 2, 3, 0] rfl)
        · refine iv_iconst hx hb dX4_isKept_17 ?_
          exact iv_zret hx hb hr hlocks dX4_isKept_18 (by omega) (by omega) (by omega) () (by exact Or.inl ⟨rfl, k_, by omega, by omega, by omega⟩) (by exact hP.sub [0, 1] rfl) (by exact hD.sub [0, 1] (by decide) rfl) hS
  exact lab_2 ((kp - 0 : Int).toNat + 1) 0 (by first | omega | with_reducible assumption | assumption) (by intro j a b; omega) (by omega) _ _ _ (hP.sub [0, 1] rfl) (hD.sub [0, 1] (by decide) rfl) hS (lv_sub hl [1, 2, 3, 0] rfl)
set_option maxHeartbeats 4000000 in
set_option maxRecDepth 100000 in
theorem ok_X4_setOf (l : Launch) (D : va_G) (cI : ClassId) (h : Nat) (a_base : Nat) (g : Nat) (a_first_g : Nat) (a_second_g : Nat) (v_firstField : Value) (v_secondField : Value) (v_table : Value) (v_unfenced_g : Value) (v_line_g : Value) (v_drawer_g : Value) (v_sidesAt_g : Value) (v_sideCount_g : Value) (v_openCount_g : Value) (v_owner_g : Value) (v_owned_g : Value) (v_fields_g : Value) (v_sides_g : Value) (v_openSides_g : Value) (v_done_g : Value) (v_known_g : Value) (v_turn_g : Value) (v_changes_g : Value) (ba : Int → Int) (fa : Int → Int) (sb : Int → Int) (wz : Int) (sz : Nat) (fd : Int) (hwz : 0 ≤ wz ∧ wz ≤ 16) (hba : ∀ j : Int, 0 ≤ j → j < wz → (0 ≤ ba j ∧ ba j < 500) ∧ (-1 ≤ fa (ba j) ∧ fa (ba j) < 200) ∧ (-1 ≤ sb (ba j) ∧ sb (ba j) < 200)) (hfd : -2147483648 ≤ fd ∧ fd < 2147483648) : MetI l yX4_setOf (wd yX4_setOf cX4_setOf 5 (some .int)) ({ frames := 0, cells := 0, slots := 0, locals := 0 } : Room) [.ref h, .ref g, .int (iN fd)] D [(cI, .int)] [(h, .inr (4, [.ref a_base, v_firstField, v_secondField, .int (iN wz), v_table])), (g, .inr (2, [.ref a_first_g, .ref a_second_g, v_unfenced_g, v_line_g, v_drawer_g, v_sidesAt_g, v_sideCount_g, v_openCount_g, v_owner_g, v_owned_g, v_fields_g, v_sides_g, v_openSides_g, v_done_g, v_known_g, v_turn_g, v_changes_g])), (a_base, .inl (cI, 16, .inl (ar ba))), (a_first_g, .inl (cI, 500, .inl (ar fa))), (a_second_g, .inl (cI, 500, .inl (ar sb)))] sz (fun _ : Unit => [(h, .inr (4, [.ref a_base, v_firstField, v_secondField, .int (iN wz), v_table])), (g, .inr (2, [.ref a_first_g, .ref a_second_g, v_unfenced_g, v_line_g, v_drawer_g, v_sidesAt_g, v_sideCount_g, v_openCount_g, v_owner_g, v_owned_g, v_fields_g, v_sides_g, v_openSides_g, v_done_g, v_known_g, v_turn_g, v_changes_g])), (a_base, .inl (cI, 16, .inl (ar ba))), (a_first_g, .inl (cI, 500, .inl (ar fa))), (a_second_g, .inl (cI, 500, .inl (ar sb)))]) (fun z _ => (fd = -1 → z = 0) ∧ (fd ≠ -1 → msk ba fa sb wz fd z)) 0 0 := by
  refine iv_mkI (cc := cX4_setOf) (maxL := 5) (by decide) rfl (Nat.le_of_ble_eq_true rfl) ?_
  intro p e s m below meth c A H ls hx hb hr hts hown hlocks hin hml hN hA hK hP hD hS hl
  have hT : ∀ w ∈ T0, w.before [.ref h, .ref g, .int (iN fd)].toArray s = true := fun w h => hts w (List.mem_cons_of_mem _ h)
  have hown : s.vm.findClass RX4 = some m.cls := hown
  have hl : lv_has ls 5 [(0, .ref h), (1, .ref g), (2, .int (iN fd))] := hl
  refine iv_iconst hx hb dX4_setOf_0 ?_
  refine lv_istore_n (lv' := [(3, .int (iN 0)), (0, .ref h), (1, .ref g), (2, .int (iN fd))]) hx hb dX4_setOf_1 rfl hl (by decide) rfl (fun ls hl => ?_)
  refine iv_iconst hx hb dX4_setOf_2 ?_
  refine lv_istore (lv' := [(4, .int (iN 0)), (3, .int (iN 0)), (0, .ref h), (1, .ref g), (2, .int (iN fd))]) hx hb dX4_setOf_3 hl (by decide) rfl (fun ls hl => ?_)
  have lab_5 : ∀ (fuel : Nat) (m_ : Int) (k_ : Int), (0 ≤ k_ ∧ k_ ≤ wz) → (fd = -1 → m_ = 0) → (fd ≠ -1 → mkB (fun j => fa (ba j) = fd ∨ sb (ba j) = fd) k_ m_) → (wz - k_ < (fuel : Int)) → ∀ (H : Heap) (locs : List Loc) (ls : Array Slot), va_P D vwCl [(h, .inr (4, [.ref a_base, v_firstField, v_secondField, .int (iN wz), v_table])), (g, .inr (2, [.ref a_first_g, .ref a_second_g, v_unfenced_g, v_line_g, v_drawer_g, v_sidesAt_g, v_sideCount_g, v_openCount_g, v_owner_g, v_owned_g, v_fields_g, v_sides_g, v_openSides_g, v_done_g, v_known_g, v_turn_g, v_changes_g])), (a_base, .inl (cI, 16, .inl (ar ba))), (a_first_g, .inl (cI, 500, .inl (ar fa))), (a_second_g, .inl (cI, 500, .inl (ar sb)))] H → va_D A [(h, .inr (4, [.ref a_base, v_firstField, v_secondField, .int (iN wz), v_table])), (g, .inr (2, [.ref a_first_g, .ref a_second_g, v_unfenced_g, v_line_g, v_drawer_g, v_sidesAt_g, v_sideCount_g, v_openCount_g, v_owner_g, v_owned_g, v_fields_g, v_sides_g, v_openSides_g, v_done_g, v_known_g, v_turn_g, v_changes_g])), (a_base, .inl (cI, 16, .inl (ar ba))), (a_first_g, .inl (cI, 500, .inl (ar fa))), (a_second_g, .inl (cI, 500, .inl (ar sb)))] → va_S A s.heap H locs → lv_has ls 5 [(0, .ref h), (1, .ref g), (2, .int (iN fd)), (3, .int (iN m_)), (4, .int (iN k_))] → W p l e ({ frames := 0, cells := 0, slots := 0, locals := 0 } : Room) s m [.ref h, .ref g, .int (iN fd)].toArray below meth c H locs 0 0 (MQ below (iv_Qi D A (fun _ : Unit => [(h, .inr (4, [.ref a_base, v_firstField, v_secondField, .int (iN wz), v_table])), (g, .inr (2, [.ref a_first_g, .ref a_second_g, v_unfenced_g, v_line_g, v_drawer_g, v_sidesAt_g, v_sideCount_g, v_openCount_g, v_owner_g, v_owned_g, v_fields_g, v_sides_g, v_openSides_g, v_done_g, v_known_g, v_turn_g, v_changes_g])), (a_base, .inl (cI, 16, .inl (ar ba))), (a_first_g, .inl (cI, 500, .inl (ar fa))), (a_second_g, .inl (cI, 500, .inl (ar sb)))]) (fun z _ => (fd = -1 → z = 0) ∧ (fd ≠ -1 → msk ba fa sb wz fd z))) [.ref h, .ref g, .int (iN fd)].toArray s 0 0 A) (F0 m 5 ls []) := by
    intro fuel
    induction fuel with
    | zero =>
      intro m_ k_ hk hz0 hms hm
      exact absurd hm (by omega)
    | succ fuel ih =>
      intro m_ k_ hk hz0 hms hm H locs ls hP hD hS hl
      have ih_5 := ih
      refine lv_iload hx hb dX4_setOf_5 (lv_at hl 4 rfl) ?_
      refine lv_aload_n hx hb dX4_setOf_7 rfl (lv_at hl 0 rfl) ?_
      refine va_get (D := D) (ci := 4) (v := .int (iN wz)) (C := RX4) (T := TX4) (N := 5) hx hb hT hiX4 hown hK hP 0 rfl rfl 3 (by decide) (hT _ k_234) (fun _ h9 => h9) rfl dX4_setOf_8 ?_
      refine iv_icmp_ge (tgt := 64) hx hb dX4_setOf_11 (by decide) (by omega) (by omega) (fun c11 => ?_) (fun c11 => ?_)
      · refine lv_iload_n hx hb dX4_setOf_64 rfl (lv_at hl 3 rfl) ?_
        exact iv_iret hx hb hr hlocks dX4_setOf_65 (by omega) (by omega) () (by exact ⟨fun e9 => hz0 e9, fun e9 => by have q9 := hms e9; rw [show k_ = wz by omega] at q9; exact msk_mkB q9⟩) (by exact hP.sub [0, 1, 2, 3, 4] rfl) (by exact hD.sub [0, 1, 2, 3, 4] (by decide) rfl) hS
      · refine lv_iload_n hx hb dX4_setOf_14 rfl (lv_at hl 2 rfl) ?_
        refine iv_iconst hx hb dX4_setOf_15 ?_
        refine iv_icmp_eq (tgt := 64) hx hb dX4_setOf_16 (by decide) (by omega) (by omega) (fun c16 => ?_) (fun c16 => ?_)
        · refine lv_iload_n hx hb dX4_setOf_64 rfl (lv_at hl 3 rfl) ?_
          exact iv_iret hx hb hr hlocks dX4_setOf_65 (by omega) (by omega) () (by exact ⟨fun e9 => hz0 e9, fun e9 => by have q9 := hms e9; rw [show k_ = wz by omega] at q9; exact msk_mkB q9⟩) (by exact hP.sub [0, 1, 2, 3, 4] rfl) (by exact hD.sub [0, 1, 2, 3, 4] (by decide) rfl) hS
        · have hbk := hba k_ (by omega) (by omega)
          have hmk_ := hms (by omega)
          refine lv_aload_n hx hb dX4_setOf_19 rfl (lv_at hl 1 rfl) ?_
          refine va_getN (D := D) (ci := 2) (v := .ref a_first_g) (C := RX2) (T := TX2) (N := 17) hx hb hT hiX2 hown hK hP 1 rfl rfl 0 (by decide) (hN.use _ k_91 rfl) (fun _ h9 => h9) rfl dX4_setOf_20 ?_
          refine lv_aload_n hx hb dX4_setOf_23 rfl (lv_at hl 0 rfl) ?_
          refine va_get (D := D) (ci := 4) (v := .ref a_base) (C := RX4) (T := TX4) (N := 5) hx hb hT hiX4 hown hK hP 0 rfl rfl 0 (by decide) (hT _ k_231) (fun _ h9 => h9) rfl dX4_setOf_24 ?_
          refine lv_iload hx hb dX4_setOf_27 (lv_at hl 4 rfl) ?_
          refine iv_iald hx hb hK hP 2 0 rfl rfl (f := ba) (by omega) (by omega) dX4_setOf_29 ?_
          refine iv_iald hx hb hK hP 3 0 rfl rfl (f := fa) (by omega) (by omega) dX4_setOf_30 ?_
          refine lv_iload_n hx hb dX4_setOf_31 rfl (lv_at hl 2 rfl) ?_
          refine iv_icmp_eq (tgt := 51) hx hb dX4_setOf_32 (by decide) (by omega) (by omega) (fun c32 => ?_) (fun c32 => ?_)
          · have hp9 := p2_pos k_
            refine lv_iload_n hx hb dX4_setOf_51 rfl (lv_at hl 3 rfl) ?_
            refine iv_iconst hx hb dX4_setOf_52 ?_
            refine lv_iload hx hb dX4_setOf_53 (lv_at hl 4 rfl) ?_
            refine iv_shl1 hx hb dX4_setOf_55 (by omega) ?_
            refine iv_ior hx hb dX4_setOf_56 (by exact hmk_.1.1) (by omega) ?_
            refine lv_istore_n (lv' := [(3, .int (iN (bO m_ (p2 k_)))), (0, .ref h), (1, .ref g), (2, .int (iN fd)), (4, .int (iN k_))]) hx hb dX4_setOf_57 rfl hl (by decide) rfl (fun ls hl => ?_)
            refine lv_iinc (v := iN (k_ + 1)) (lv' := [(4, .int (iN (k_ + 1))), (3, .int (iN (bO m_ (p2 k_)))), (0, .ref h), (1, .ref g), (2, .int (iN fd))]) hx hb dX4_setOf_58 hl (k := 4) rfl (iN_add _ _) (by decide) rfl (fun ls hl => ?_)
            refine lv_goto (tgt := 5) hx hb dX4_setOf_61 (by decide) ?_
            exact ih_5 (bO m_ (p2 k_)) (k_ + 1) (by first | omega | with_reducible assumption | assumption) (by intro e9; omega) (by intro e9; first | exact mkB_in (by omega) (hms e9) (by first | exact Or.inl (by omega) | exact Or.inr (by omega)) | exact mkB_out (by omega) (hms e9) (fun z9 => z9.elim (fun _ => by omega) (fun _ => by omega))) (by omega) _ _ _ (hP.sub [0, 1, 2, 3, 4] rfl) (hD.sub [0, 1, 2, 3, 4] (by decide) rfl) hS (lv_sub hl [2, 3, 4, 1, 0] rfl)
          · refine lv_aload_n hx hb dX4_setOf_35 rfl (lv_at hl 1 rfl) ?_
            refine va_getN (D := D) (ci := 2) (v := .ref a_second_g) (C := RX2) (T := TX2) (N := 17) hx hb hT hiX2 hown hK hP 1 rfl rfl 1 (by decide) (hN.use _ k_95 rfl) (fun _ h9 => h9) rfl dX4_setOf_36 ?_
            refine lv_aload_n hx hb dX4_setOf_39 rfl (lv_at hl 0 rfl) ?_
            refine va_get (D := D) (ci := 4) (v := .ref a_base) (C := RX4) (T := TX4) (N := 5) hx hb hT hiX4 hown hK hP 0 rfl rfl 0 (by decide) (hT _ k_231) (fun _ h9 => h9) rfl dX4_setOf_40 ?_
            refine lv_iload hx hb dX4_setOf_43 (lv_at hl 4 rfl) ?_
            refine iv_iald hx hb hK hP 2 0 rfl rfl (f := ba) (by omega) (by omega) dX4_setOf_45 ?_
            refine iv_iald hx hb hK hP 4 0 rfl rfl (f := sb) (by omega) (by omega) dX4_setOf_46 ?_
            refine lv_iload_n hx hb dX4_setOf_47 rfl (lv_at hl 2 rfl) ?_
            refine iv_icmp_ne (tgt := 58) hx hb dX4_setOf_48 (by decide) (by omega) (by omega) (fun c48 => ?_) (fun c48 => ?_)
            · refine lv_iinc (v := iN (k_ + 1)) (lv' := [(4, .int (iN (k_ + 1))), (0, .ref h), (1, .ref g), (2, .int (iN fd)), (3, .int (iN m_))]) hx hb dX4_setOf_58 hl (k := 4) rfl (iN_add _ _) (by decide) rfl (fun ls hl => ?_)
              refine lv_goto (tgt := 5) hx hb dX4_setOf_61 (by decide) ?_
              exact ih_5 m_ (k_ + 1) (by first | omega | with_reducible assumption | assumption) (by intro e9; omega) (by intro e9; first | exact mkB_in (by omega) (hms e9) (by first | exact Or.inl (by omega) | exact Or.inr (by omega)) | exact mkB_out (by omega) (hms e9) (fun z9 => z9.elim (fun _ => by omega) (fun _ => by omega))) (by omega) _ _ _ (hP.sub [0, 1, 2, 3, 4] rfl) (hD.sub [0, 1, 2, 3, 4] (by decide) rfl) hS (lv_sub hl [1, 2, 3, 4, 0] rfl)
            · have hp9 := p2_pos k_
              refine lv_iload_n hx hb dX4_setOf_51 rfl (lv_at hl 3 rfl) ?_
              refine iv_iconst hx hb dX4_setOf_52 ?_
              refine lv_iload hx hb dX4_setOf_53 (lv_at hl 4 rfl) ?_
              refine iv_shl1 hx hb dX4_setOf_55 (by omega) ?_
              refine iv_ior hx hb dX4_setOf_56 (by exact hmk_.1.1) (by omega) ?_
              refine lv_istore_n (lv' := [(3, .int (iN (bO m_ (p2 k_)))), (0, .ref h), (1, .ref g), (2, .int (iN fd)), (4, .int (iN k_))]) hx hb dX4_setOf_57 rfl hl (by decide) rfl (fun ls hl => ?_)
              refine lv_iinc (v := iN (k_ + 1)) (lv' := [(4, .int (iN (k_ + 1))), (3, .int (iN (bO m_ (p2 k_)))), (0, .ref h), (1, .ref g), (2, .int (iN fd))]) hx hb dX4_setOf_58 hl (k := 4) rfl (iN_add _ _) (by decide) rfl (fun ls hl => ?_)
              refine lv_goto (tgt := 5) hx hb dX4_setOf_61 (by decide) ?_
              exact ih_5 (bO m_ (p2 k_)) (k_ + 1) (by first | omega | with_reducible assumption | assumption) (by intro e9; omega) (by intro e9; first | exact mkB_in (by omega) (hms e9) (by first | exact Or.inl (by omega) | exact Or.inr (by omega)) | exact mkB_out (by omega) (hms e9) (fun z9 => z9.elim (fun _ => by omega) (fun _ => by omega))) (by omega) _ _ _ (hP.sub [0, 1, 2, 3, 4] rfl) (hD.sub [0, 1, 2, 3, 4] (by decide) rfl) hS (lv_sub hl [2, 3, 4, 1, 0] rfl)
  exact lab_5 ((wz - 0 : Int).toNat + 1) 0 0 (by first | omega | with_reducible assumption | assumption) (by intro _; rfl) (by intro _; exact mkB_0) (by omega) _ _ _ (hP.sub [0, 1, 2, 3, 4] rfl) (hD.sub [0, 1, 2, 3, 4] (by decide) rfl) hS (lv_sub hl [2, 3, 4, 1, 0] rfl)
set_option maxHeartbeats 4000000 in
set_option maxRecDepth 100000 in
theorem ok_X4_openInBase (l : Launch) (D : va_G) (cI : ClassId) (cZ : ClassId) (h : Nat) (a_base : Nat) (g : Nat) (a_unfenced_g : Nat) (v_firstField : Value) (v_secondField : Value) (v_table : Value) (v_first_g : Value) (v_second_g : Value) (v_line_g : Value) (v_drawer_g : Value) (v_sidesAt_g : Value) (v_sideCount_g : Value) (v_openCount_g : Value) (v_owner_g : Value) (v_owned_g : Value) (v_fields_g : Value) (v_openSides_g : Value) (v_done_g : Value) (v_known_g : Value) (v_turn_g : Value) (v_changes_g : Value) (ba : Int → Int) (un : Int → Int) (wz : Int) (ns : Int) (sz : Nat) (hwz : 0 ≤ wz ∧ wz ≤ 16) (hns : 0 ≤ ns ∧ ns ≤ 500) (hun : bo un ns) (hba : ∀ j : Int, 0 ≤ j → j < wz → 0 ≤ ba j ∧ ba j < 500) : MetI l yX4_openInBase (wd yX4_openInBase cX4_openInBase 4 (some .int)) ({ frames := 2, cells := 0, slots := 0, locals := 42 } : Room) [.ref h, .ref g] D [(cI, .int), (cZ, .boolean)] [(h, .inr (4, [.ref a_base, v_firstField, v_secondField, .int (iN wz), v_table])), (g, .inr (2, [v_first_g, v_second_g, .ref a_unfenced_g, v_line_g, v_drawer_g, v_sidesAt_g, v_sideCount_g, v_openCount_g, v_owner_g, v_owned_g, v_fields_g, .int (iN ns), v_openSides_g, v_done_g, v_known_g, v_turn_g, v_changes_g])), (a_base, .inl (cI, 16, .inl (ar ba))), (a_unfenced_g, .inl (cZ, 500, .inl (ar un)))] sz (fun _ : Unit => [(h, .inr (4, [.ref a_base, v_firstField, v_secondField, .int (iN wz), v_table])), (g, .inr (2, [v_first_g, v_second_g, .ref a_unfenced_g, v_line_g, v_drawer_g, v_sidesAt_g, v_sideCount_g, v_openCount_g, v_owner_g, v_owned_g, v_fields_g, .int (iN ns), v_openSides_g, v_done_g, v_known_g, v_turn_g, v_changes_g])), (a_base, .inl (cI, 16, .inl (ar ba))), (a_unfenced_g, .inl (cZ, 500, .inl (ar un)))]) (fun z _ => mkB (opB un ba ns) wz z) 0 0 := by
  refine iv_mkI (cc := cX4_openInBase) (maxL := 4) (by decide) rfl (Nat.le_of_ble_eq_true rfl) ?_
  intro p e s m below meth c A H ls hx hb hr hts hown hlocks hin hml hN hA hK hP hD hS hl
  have hT : ∀ w ∈ T0, w.before [.ref h, .ref g].toArray s = true := fun w h => hts w (List.mem_cons_of_mem _ h)
  have hown : s.vm.findClass RX4 = some m.cls := hown
  have hl : lv_has ls 4 [(0, .ref h), (1, .ref g)] := hl
  refine iv_iconst hx hb dX4_openInBase_0 ?_
  refine lv_istore_n (lv' := [(2, .int (iN 0)), (0, .ref h), (1, .ref g)]) hx hb dX4_openInBase_1 rfl hl (by decide) rfl (fun ls hl => ?_)
  refine iv_iconst hx hb dX4_openInBase_2 ?_
  refine lv_istore_n (lv' := [(3, .int (iN 0)), (2, .int (iN 0)), (0, .ref h), (1, .ref g)]) hx hb dX4_openInBase_3 rfl hl (by decide) rfl (fun ls hl => ?_)
  have lab_4 : ∀ (fuel : Nat) (m_ : Int) (k_ : Int), (0 ≤ k_ ∧ k_ ≤ wz) → (mkB (opB un ba ns) k_ m_) → (wz - k_ < (fuel : Int)) → ∀ (H : Heap) (locs : List Loc) (ls : Array Slot), va_P D vwCl [(h, .inr (4, [.ref a_base, v_firstField, v_secondField, .int (iN wz), v_table])), (g, .inr (2, [v_first_g, v_second_g, .ref a_unfenced_g, v_line_g, v_drawer_g, v_sidesAt_g, v_sideCount_g, v_openCount_g, v_owner_g, v_owned_g, v_fields_g, .int (iN ns), v_openSides_g, v_done_g, v_known_g, v_turn_g, v_changes_g])), (a_base, .inl (cI, 16, .inl (ar ba))), (a_unfenced_g, .inl (cZ, 500, .inl (ar un)))] H → va_D A [(h, .inr (4, [.ref a_base, v_firstField, v_secondField, .int (iN wz), v_table])), (g, .inr (2, [v_first_g, v_second_g, .ref a_unfenced_g, v_line_g, v_drawer_g, v_sidesAt_g, v_sideCount_g, v_openCount_g, v_owner_g, v_owned_g, v_fields_g, .int (iN ns), v_openSides_g, v_done_g, v_known_g, v_turn_g, v_changes_g])), (a_base, .inl (cI, 16, .inl (ar ba))), (a_unfenced_g, .inl (cZ, 500, .inl (ar un)))] → va_S A s.heap H locs → lv_has ls 4 [(0, .ref h), (1, .ref g), (2, .int (iN m_)), (3, .int (iN k_))] → W p l e ({ frames := 2, cells := 0, slots := 0, locals := 42 } : Room) s m [.ref h, .ref g].toArray below meth c H locs 0 0 (MQ below (iv_Qi D A (fun _ : Unit => [(h, .inr (4, [.ref a_base, v_firstField, v_secondField, .int (iN wz), v_table])), (g, .inr (2, [v_first_g, v_second_g, .ref a_unfenced_g, v_line_g, v_drawer_g, v_sidesAt_g, v_sideCount_g, v_openCount_g, v_owner_g, v_owned_g, v_fields_g, .int (iN ns), v_openSides_g, v_done_g, v_known_g, v_turn_g, v_changes_g])), (a_base, .inl (cI, 16, .inl (ar ba))), (a_unfenced_g, .inl (cZ, 500, .inl (ar un)))]) (fun z _ => mkB (opB un ba ns) wz z)) [.ref h, .ref g].toArray s 0 0 A) (F0 m 4 ls []) := by
    intro fuel
    induction fuel with
    | zero =>
      intro m_ k_ hk hms hm
      exact absurd hm (by omega)
    | succ fuel ih =>
      intro m_ k_ hk hms hm H locs ls hP hD hS hl
      have ih_4 := ih
      refine lv_iload_n hx hb dX4_openInBase_4 rfl (lv_at hl 3 rfl) ?_
      refine lv_aload_n hx hb dX4_openInBase_5 rfl (lv_at hl 0 rfl) ?_
      refine va_get (D := D) (ci := 4) (v := .int (iN wz)) (C := RX4) (T := TX4) (N := 5) hx hb hT hiX4 hown hK hP 0 rfl rfl 3 (by decide) (hT _ k_234) (fun _ h9 => h9) rfl dX4_openInBase_6 ?_
      refine iv_icmp_ge (tgt := 37) hx hb dX4_openInBase_9 (by decide) (by omega) (by omega) (fun c9 => ?_) (fun c9 => ?_)
      · refine lv_iload_n hx hb dX4_openInBase_37 rfl (lv_at hl 2 rfl) ?_
        exact iv_iret hx hb hr hlocks dX4_openInBase_38 (by omega) (by omega) () (by rw [show wz = k_ by omega]; exact hms) (by exact hP.sub [0, 1, 2, 3] rfl) (by exact hD.sub [0, 1, 2, 3] (by decide) rfl) hS
      · have hbk := hba k_ (by omega) (by omega)
        refine lv_aload_n hx hb dX4_openInBase_12 rfl (lv_at hl 1 rfl) ?_
        refine lv_aload_n hx hb dX4_openInBase_13 rfl (lv_at hl 0 rfl) ?_
        refine va_get (D := D) (ci := 4) (v := .ref a_base) (C := RX4) (T := TX4) (N := 5) hx hb hT hiX4 hown hK hP 0 rfl rfl 0 (by decide) (hT _ k_231) (fun _ h9 => h9) rfl dX4_openInBase_14 ?_
        refine lv_iload_n hx hb dX4_openInBase_17 rfl (lv_at hl 3 rfl) ?_
        refine iv_iald hx hb hK hP 2 0 rfl rfl (f := ba) (by omega) (by omega) dX4_openInBase_18 ?_
        refine iv_callV (mc := 0) (ms := 0) (wc := [(g, .inr (2, [v_first_g, v_second_g, .ref a_unfenced_g, v_line_g, v_drawer_g, v_sidesAt_g, v_sideCount_g, v_openCount_g, v_owner_g, v_owned_g, v_fields_g, .int (iN ns), v_openSides_g, v_done_g, v_known_g, v_turn_g, v_changes_g])), (a_unfenced_g, .inl (cZ, 500, .inl (ar un)))]) (wr := [(h, .inr (4, [.ref a_base, v_firstField, v_secondField, .int (iN wz), v_table])), (a_base, .inl (cI, 16, .inl (ar ba)))]) (As := [.int (iN (ba k_))]) (rest := []) ⟨hx, hb, hml, hown, hT⟩ (ok_X2_isOpen l D cZ g a_unfenced_g v_first_g v_second_g v_line_g v_drawer_g v_sidesAt_g v_sideCount_g v_openCount_g v_owner_g v_owned_g v_fields_g v_openSides_g v_done_g v_known_g v_turn_g v_changes_g un ns H.size (ba k_) (by first | with_reducible assumption | omega | assumption) (by first | with_reducible assumption | omega | assumption) (by first | with_reducible assumption | omega | assumption)) (iv_cw 1 hT k_398 k_61 k_537 k_396 k_397 (by decide +kernel) rfl rfl ⟨Nat.le_of_ble_eq_true rfl, Nat.le_of_ble_eq_true rfl⟩) hN hK hP hD hS hA [1, 3] [0, 2] [1] rfl rfl (by decide) (by decide) (by decide) rfl 0 (ci := 2) rfl rfl rfl hl.1 rfl (Nat.le_of_ble_eq_true rfl) dX4_openInBase_19 ⟨Nat.le_of_ble_eq_true rfl, Nat.le_of_ble_eq_true rfl⟩ (fun z19 u19 H locs hw19 hP hD hS => ?_)
        have hP := hP.sub (ws' := [(h, .inr (4, [.ref a_base, v_firstField, v_secondField, .int (iN wz), v_table])), (g, .inr (2, [v_first_g, v_second_g, .ref a_unfenced_g, v_line_g, v_drawer_g, v_sidesAt_g, v_sideCount_g, v_openCount_g, v_owner_g, v_owned_g, v_fields_g, .int (iN ns), v_openSides_g, v_done_g, v_known_g, v_turn_g, v_changes_g])), (a_base, .inl (cI, 16, .inl (ar ba))), (a_unfenced_g, .inl (cZ, 500, .inl (ar un)))]) [0, 2, 1, 3] rfl
        have hD := hD.sub (ws' := [(h, .inr (4, [.ref a_base, v_firstField, v_secondField, .int (iN wz), v_table])), (g, .inr (2, [v_first_g, v_second_g, .ref a_unfenced_g, v_line_g, v_drawer_g, v_sidesAt_g, v_sideCount_g, v_openCount_g, v_owner_g, v_owned_g, v_fields_g, .int (iN ns), v_openSides_g, v_done_g, v_known_g, v_turn_g, v_changes_g])), (a_base, .inl (cI, 16, .inl (ar ba))), (a_unfenced_g, .inl (cZ, 500, .inl (ar un)))]) [0, 2, 1, 3] (by decide) rfl
        rcases hw19 with ⟨rfl, hw19⟩ | ⟨rfl, hw19⟩
        · refine iv_if_eq (tgt := 31) hx hb dX4_openInBase_22 (by decide) (by omega) (fun c22 => ?_) (fun c22 => ?_)
          · exact absurd c22 (by decide)
          · have hp9 := p2_pos k_
            refine lv_iload_n hx hb dX4_openInBase_25 rfl (lv_at hl 2 rfl) ?_
            refine iv_iconst hx hb dX4_openInBase_26 ?_
            refine lv_iload_n hx hb dX4_openInBase_27 rfl (lv_at hl 3 rfl) ?_
            refine iv_shl1 hx hb dX4_openInBase_28 (by omega) ?_
            refine iv_ior hx hb dX4_openInBase_29 (by exact hms.1.1) (by omega) ?_
            refine lv_istore_n (lv' := [(2, .int (iN (bO m_ (p2 k_)))), (0, .ref h), (1, .ref g), (3, .int (iN k_))]) hx hb dX4_openInBase_30 rfl hl (by decide) rfl (fun ls hl => ?_)
            refine lv_iinc (v := iN (k_ + 1)) (lv' := [(3, .int (iN (k_ + 1))), (2, .int (iN (bO m_ (p2 k_)))), (0, .ref h), (1, .ref g)]) hx hb dX4_openInBase_31 hl (k := 3) rfl (iN_add _ _) (by decide) rfl (fun ls hl => ?_)
            refine lv_goto (tgt := 4) hx hb dX4_openInBase_34 (by decide) ?_
            exact ih_4 (bO m_ (p2 k_)) (k_ + 1) (by first | omega | with_reducible assumption | assumption) (by first | exact mkB_in (by omega) hms hw19 | exact mkB_out (by omega) hms hw19) (by omega) _ _ _ (hP.sub [0, 1, 2, 3] rfl) (hD.sub [0, 1, 2, 3] (by decide) rfl) hS (lv_sub hl [2, 3, 1, 0] rfl)
        · refine iv_if_eq (tgt := 31) hx hb dX4_openInBase_22 (by decide) (by omega) (fun c22 => ?_) (fun c22 => ?_)
          · refine lv_iinc (v := iN (k_ + 1)) (lv' := [(3, .int (iN (k_ + 1))), (0, .ref h), (1, .ref g), (2, .int (iN m_))]) hx hb dX4_openInBase_31 hl (k := 3) rfl (iN_add _ _) (by decide) rfl (fun ls hl => ?_)
            refine lv_goto (tgt := 4) hx hb dX4_openInBase_34 (by decide) ?_
            exact ih_4 m_ (k_ + 1) (by first | omega | with_reducible assumption | assumption) (by first | exact mkB_in (by omega) hms hw19 | exact mkB_out (by omega) hms hw19) (by omega) _ _ _ (hP.sub [0, 1, 2, 3] rfl) (hD.sub [0, 1, 2, 3] (by decide) rfl) hS (lv_sub hl [1, 2, 3, 0] rfl)
          · exact absurd c22 (by decide)
  exact lab_4 ((wz - 0 : Int).toNat + 1) 0 0 (by first | omega | with_reducible assumption | assumption) (by exact mkB_0) (by omega) _ _ _ (hP.sub [0, 1, 2, 3] rfl) (hD.sub [0, 1, 2, 3] (by decide) rfl) hS (lv_sub hl [2, 3, 1, 0] rfl)
set_option maxHeartbeats 4000000 in
set_option maxRecDepth 100000 in
theorem ok_X4_keptOfBase (l : Launch) (D : va_G) (cI : ClassId) (cZ : ClassId) (h : Nat) (a_base : Nat) (g : Nat) (a_unfenced_g : Nat) (v_firstField : Value) (v_secondField : Value) (v_table : Value) (v_first_g : Value) (v_second_g : Value) (v_line_g : Value) (v_drawer_g : Value) (v_sidesAt_g : Value) (v_sideCount_g : Value) (v_openCount_g : Value) (v_owner_g : Value) (v_owned_g : Value) (v_fields_g : Value) (v_openSides_g : Value) (v_done_g : Value) (v_known_g : Value) (v_turn_g : Value) (v_changes_g : Value) (ba : Int → Int) (un : Int → Int) (wz : Int) (ns : Int) (sz : Nat) (hwz : 0 ≤ wz ∧ wz ≤ 16) (hns : 0 ≤ ns ∧ ns ≤ 500) (hun : bo un ns) (hba : ∀ j : Int, 0 ≤ j → j < wz → 0 ≤ ba j ∧ ba j < 500) : MetI l yX4_keptOfBase (wd yX4_keptOfBase cX4_keptOfBase 4 (some .int)) ({ frames := 2, cells := 0, slots := 0, locals := 42 } : Room) [.ref h, .ref g] D [(cI, .int), (cZ, .boolean)] [(h, .inr (4, [.ref a_base, v_firstField, v_secondField, .int (iN wz), v_table])), (g, .inr (2, [v_first_g, v_second_g, .ref a_unfenced_g, v_line_g, v_drawer_g, v_sidesAt_g, v_sideCount_g, v_openCount_g, v_owner_g, v_owned_g, v_fields_g, .int (iN ns), v_openSides_g, v_done_g, v_known_g, v_turn_g, v_changes_g])), (a_base, .inl (cI, 16, .inl (ar ba))), (a_unfenced_g, .inl (cZ, 500, .inl (ar un)))] sz (fun _ : Unit => [(h, .inr (4, [.ref a_base, v_firstField, v_secondField, .int (iN wz), v_table])), (g, .inr (2, [v_first_g, v_second_g, .ref a_unfenced_g, v_line_g, v_drawer_g, v_sidesAt_g, v_sideCount_g, v_openCount_g, v_owner_g, v_owned_g, v_fields_g, .int (iN ns), v_openSides_g, v_done_g, v_known_g, v_turn_g, v_changes_g])), (a_base, .inl (cI, 16, .inl (ar ba))), (a_unfenced_g, .inl (cZ, 500, .inl (ar un)))]) (fun z _ => (0 ≤ z ∧ z ≤ wz) ∧ ∀ j : Int, 0 ≤ j → j < z → opB un ba ns j) 0 0 := by
  refine iv_mkI (cc := cX4_keptOfBase) (maxL := 4) (by decide) rfl (Nat.le_of_ble_eq_true rfl) ?_
  intro p e s m below meth c A H ls hx hb hr hts hown hlocks hin hml hN hA hK hP hD hS hl
  have hT : ∀ w ∈ T0, w.before [.ref h, .ref g].toArray s = true := fun w h => hts w (List.mem_cons_of_mem _ h)
  have hown : s.vm.findClass RX4 = some m.cls := hown
  have hl : lv_has ls 4 [(0, .ref h), (1, .ref g)] := hl
  refine iv_iconst hx hb dX4_keptOfBase_0 ?_
  refine lv_istore_n (lv' := [(2, .int (iN 0)), (0, .ref h), (1, .ref g)]) hx hb dX4_keptOfBase_1 rfl hl (by decide) rfl (fun ls hl => ?_)
  refine iv_iconst hx hb dX4_keptOfBase_2 ?_
  refine lv_istore_n (lv' := [(3, .int (iN 0)), (2, .int (iN 0)), (0, .ref h), (1, .ref g)]) hx hb dX4_keptOfBase_3 rfl hl (by decide) rfl (fun ls hl => ?_)
  have lab_4 : ∀ (fuel : Nat) (m_ : Int) (k_ : Int), (0 ≤ k_ ∧ k_ ≤ wz) → (m_ = k_) → (∀ j : Int, 0 ≤ j → j < k_ → opB un ba ns j) → (wz - k_ < (fuel : Int)) → ∀ (H : Heap) (locs : List Loc) (ls : Array Slot), va_P D vwCl [(h, .inr (4, [.ref a_base, v_firstField, v_secondField, .int (iN wz), v_table])), (g, .inr (2, [v_first_g, v_second_g, .ref a_unfenced_g, v_line_g, v_drawer_g, v_sidesAt_g, v_sideCount_g, v_openCount_g, v_owner_g, v_owned_g, v_fields_g, .int (iN ns), v_openSides_g, v_done_g, v_known_g, v_turn_g, v_changes_g])), (a_base, .inl (cI, 16, .inl (ar ba))), (a_unfenced_g, .inl (cZ, 500, .inl (ar un)))] H → va_D A [(h, .inr (4, [.ref a_base, v_firstField, v_secondField, .int (iN wz), v_table])), (g, .inr (2, [v_first_g, v_second_g, .ref a_unfenced_g, v_line_g, v_drawer_g, v_sidesAt_g, v_sideCount_g, v_openCount_g, v_owner_g, v_owned_g, v_fields_g, .int (iN ns), v_openSides_g, v_done_g, v_known_g, v_turn_g, v_changes_g])), (a_base, .inl (cI, 16, .inl (ar ba))), (a_unfenced_g, .inl (cZ, 500, .inl (ar un)))] → va_S A s.heap H locs → lv_has ls 4 [(0, .ref h), (1, .ref g), (2, .int (iN m_)), (3, .int (iN k_))] → W p l e ({ frames := 2, cells := 0, slots := 0, locals := 42 } : Room) s m [.ref h, .ref g].toArray below meth c H locs 0 0 (MQ below (iv_Qi D A (fun _ : Unit => [(h, .inr (4, [.ref a_base, v_firstField, v_secondField, .int (iN wz), v_table])), (g, .inr (2, [v_first_g, v_second_g, .ref a_unfenced_g, v_line_g, v_drawer_g, v_sidesAt_g, v_sideCount_g, v_openCount_g, v_owner_g, v_owned_g, v_fields_g, .int (iN ns), v_openSides_g, v_done_g, v_known_g, v_turn_g, v_changes_g])), (a_base, .inl (cI, 16, .inl (ar ba))), (a_unfenced_g, .inl (cZ, 500, .inl (ar un)))]) (fun z _ => (0 ≤ z ∧ z ≤ wz) ∧ ∀ j : Int, 0 ≤ j → j < z → opB un ba ns j)) [.ref h, .ref g].toArray s 0 0 A) (F0 m 4 ls []) := by
    intro fuel
    induction fuel with
    | zero =>
      intro m_ k_ hk hmk_ hop hm
      exact absurd hm (by omega)
    | succ fuel ih =>
      intro m_ k_ hk hmk_ hop hm H locs ls hP hD hS hl
      have ih_4 := ih
      refine lv_iload_n hx hb dX4_keptOfBase_4 rfl (lv_at hl 3 rfl) ?_
      refine lv_aload_n hx hb dX4_keptOfBase_5 rfl (lv_at hl 0 rfl) ?_
      refine va_get (D := D) (ci := 4) (v := .int (iN wz)) (C := RX4) (T := TX4) (N := 5) hx hb hT hiX4 hown hK hP 0 rfl rfl 3 (by decide) (hT _ k_234) (fun _ h9 => h9) rfl dX4_keptOfBase_6 ?_
      refine iv_icmp_ge (tgt := 34) hx hb dX4_keptOfBase_9 (by decide) (by omega) (by omega) (fun c9 => ?_) (fun c9 => ?_)
      · refine lv_iload_n hx hb dX4_keptOfBase_34 rfl (lv_at hl 2 rfl) ?_
        exact iv_iret hx hb hr hlocks dX4_keptOfBase_35 (by omega) (by omega) () (by rw [hmk_]; exact ⟨by omega, hop⟩) (by exact hP.sub [0, 1, 2, 3] rfl) (by exact hD.sub [0, 1, 2, 3] (by decide) rfl) hS
      · have hbk := hba k_ (by omega) (by omega)
        refine lv_aload_n hx hb dX4_keptOfBase_12 rfl (lv_at hl 1 rfl) ?_
        refine lv_aload_n hx hb dX4_keptOfBase_13 rfl (lv_at hl 0 rfl) ?_
        refine va_get (D := D) (ci := 4) (v := .ref a_base) (C := RX4) (T := TX4) (N := 5) hx hb hT hiX4 hown hK hP 0 rfl rfl 0 (by decide) (hT _ k_231) (fun _ h9 => h9) rfl dX4_keptOfBase_14 ?_
        refine lv_iload_n hx hb dX4_keptOfBase_17 rfl (lv_at hl 3 rfl) ?_
        refine iv_iald hx hb hK hP 2 0 rfl rfl (f := ba) (by omega) (by omega) dX4_keptOfBase_18 ?_
        refine iv_callV (mc := 0) (ms := 0) (wc := [(g, .inr (2, [v_first_g, v_second_g, .ref a_unfenced_g, v_line_g, v_drawer_g, v_sidesAt_g, v_sideCount_g, v_openCount_g, v_owner_g, v_owned_g, v_fields_g, .int (iN ns), v_openSides_g, v_done_g, v_known_g, v_turn_g, v_changes_g])), (a_unfenced_g, .inl (cZ, 500, .inl (ar un)))]) (wr := [(h, .inr (4, [.ref a_base, v_firstField, v_secondField, .int (iN wz), v_table])), (a_base, .inl (cI, 16, .inl (ar ba)))]) (As := [.int (iN (ba k_))]) (rest := []) ⟨hx, hb, hml, hown, hT⟩ (ok_X2_isOpen l D cZ g a_unfenced_g v_first_g v_second_g v_line_g v_drawer_g v_sidesAt_g v_sideCount_g v_openCount_g v_owner_g v_owned_g v_fields_g v_openSides_g v_done_g v_known_g v_turn_g v_changes_g un ns H.size (ba k_) (by first | with_reducible assumption | omega | assumption) (by first | with_reducible assumption | omega | assumption) (by first | with_reducible assumption | omega | assumption)) (iv_cw 1 hT k_398 k_61 k_537 k_396 k_397 (by decide +kernel) rfl rfl ⟨Nat.le_of_ble_eq_true rfl, Nat.le_of_ble_eq_true rfl⟩) hN hK hP hD hS hA [1, 3] [0, 2] [1] rfl rfl (by decide) (by decide) (by decide) rfl 0 (ci := 2) rfl rfl rfl hl.1 rfl (Nat.le_of_ble_eq_true rfl) dX4_keptOfBase_19 ⟨Nat.le_of_ble_eq_true rfl, Nat.le_of_ble_eq_true rfl⟩ (fun z19 u19 H locs hw19 hP hD hS => ?_)
        have hP := hP.sub (ws' := [(h, .inr (4, [.ref a_base, v_firstField, v_secondField, .int (iN wz), v_table])), (g, .inr (2, [v_first_g, v_second_g, .ref a_unfenced_g, v_line_g, v_drawer_g, v_sidesAt_g, v_sideCount_g, v_openCount_g, v_owner_g, v_owned_g, v_fields_g, .int (iN ns), v_openSides_g, v_done_g, v_known_g, v_turn_g, v_changes_g])), (a_base, .inl (cI, 16, .inl (ar ba))), (a_unfenced_g, .inl (cZ, 500, .inl (ar un)))]) [0, 2, 1, 3] rfl
        have hD := hD.sub (ws' := [(h, .inr (4, [.ref a_base, v_firstField, v_secondField, .int (iN wz), v_table])), (g, .inr (2, [v_first_g, v_second_g, .ref a_unfenced_g, v_line_g, v_drawer_g, v_sidesAt_g, v_sideCount_g, v_openCount_g, v_owner_g, v_owned_g, v_fields_g, .int (iN ns), v_openSides_g, v_done_g, v_known_g, v_turn_g, v_changes_g])), (a_base, .inl (cI, 16, .inl (ar ba))), (a_unfenced_g, .inl (cZ, 500, .inl (ar un)))]) [0, 2, 1, 3] (by decide) rfl
        rcases hw19 with ⟨rfl, hw19⟩ | ⟨rfl, hw19⟩
        · refine iv_if_eq (tgt := 34) hx hb dX4_keptOfBase_22 (by decide) (by omega) (fun c22 => ?_) (fun c22 => ?_)
          · exact absurd c22 (by decide)
          · refine lv_iinc (v := iN (m_ + 1)) (lv' := [(2, .int (iN (m_ + 1))), (0, .ref h), (1, .ref g), (3, .int (iN k_))]) hx hb dX4_keptOfBase_25 hl (k := 2) rfl (iN_add _ _) (by decide) rfl (fun ls hl => ?_)
            refine lv_iinc (v := iN (k_ + 1)) (lv' := [(3, .int (iN (k_ + 1))), (2, .int (iN (m_ + 1))), (0, .ref h), (1, .ref g)]) hx hb dX4_keptOfBase_28 hl (k := 3) rfl (iN_add _ _) (by decide) rfl (fun ls hl => ?_)
            refine lv_goto (tgt := 4) hx hb dX4_keptOfBase_31 (by decide) ?_
            exact ih_4 (m_ + 1) (k_ + 1) (by first | omega | with_reducible assumption | assumption) (by first | omega | with_reducible assumption | assumption) (by intro j a b; by_cases ej : j = k_; (rw [ej]; exact hw19); exact hop j a (by omega)) (by omega) _ _ _ (hP.sub [0, 1, 2, 3] rfl) (hD.sub [0, 1, 2, 3] (by decide) rfl) hS (lv_sub hl [2, 3, 1, 0] rfl)
        · refine iv_if_eq (tgt := 34) hx hb dX4_keptOfBase_22 (by decide) (by omega) (fun c22 => ?_) (fun c22 => ?_)
          · refine lv_iload_n hx hb dX4_keptOfBase_34 rfl (lv_at hl 2 rfl) ?_
            exact iv_iret hx hb hr hlocks dX4_keptOfBase_35 (by omega) (by omega) () (by rw [hmk_]; exact ⟨by omega, hop⟩) (by exact hP.sub [0, 1, 2, 3] rfl) (by exact hD.sub [0, 1, 2, 3] (by decide) rfl) hS
          · exact absurd c22 (by decide)
  exact lab_4 ((wz - 0 : Int).toNat + 1) 0 0 (by first | omega | with_reducible assumption | assumption) (by first | omega | with_reducible assumption | assumption) (by intro j a b; omega) (by omega) _ _ _ (hP.sub [0, 1, 2, 3] rfl) (hD.sub [0, 1, 2, 3] (by decide) rfl) hS (lv_sub hl [2, 3, 1, 0] rfl)
set_option maxHeartbeats 4000000 in
set_option maxRecDepth 100000 in
theorem ok_X4_widen (l : Launch) (D : va_G) (cI : ClassId) (cZ : ClassId) (h : Nat) (a_base : Nat) (a_firstField : Nat) (a_secondField : Nat) (g : Nat) (a_first_g : Nat) (a_second_g : Nat) (a_unfenced_g : Nat) (v_table : Value) (v_line_g : Value) (v_drawer_g : Value) (v_sidesAt_g : Value) (v_sideCount_g : Value) (v_openCount_g : Value) (v_owner_g : Value) (v_owned_g : Value) (v_fields_g : Value) (v_openSides_g : Value) (v_done_g : Value) (v_known_g : Value) (v_turn_g : Value) (v_changes_g : Value) (ba : Int → Int) (ff : Int → Int) (sf : Int → Int) (fa : Int → Int) (sb : Int → Int) (un : Int → Int) (wz : Int) (ns : Int) (sz : Nat) (kp : Int) (hkp : 0 ≤ kp ∧ kp ≤ 16) (hns : 0 ≤ ns ∧ ns ≤ 500) (hun : bo un ns) (hij : inj ba kp ns) (hop : ∀ j : Int, 0 ≤ j → j < kp → un (ba j) = 1) (hno : nop un ns ≤ 16) (ho1 : ∀ j : Int, 0 ≤ j → j < ns → 0 ≤ fa j ∧ fa j < 200) (ho2 : ∀ j : Int, 0 ≤ j → j < ns → -1 ≤ sb j ∧ sb j < 200) : MetV l yX4_widen (wd yX4_widen cX4_widen 4 none) ({ frames := 1, cells := 0, slots := 0, locals := 24 } : Room) [.ref h, .ref g, .int (iN kp)] D [(cI, .int), (cZ, .boolean)] [(h, .inr (4, [.ref a_base, .ref a_firstField, .ref a_secondField, .int (iN wz), v_table])), (g, .inr (2, [.ref a_first_g, .ref a_second_g, .ref a_unfenced_g, v_line_g, v_drawer_g, v_sidesAt_g, v_sideCount_g, v_openCount_g, v_owner_g, v_owned_g, v_fields_g, .int (iN ns), v_openSides_g, v_done_g, v_known_g, v_turn_g, v_changes_g])), (a_base, .inl (cI, 16, .inl (ar ba))), (a_firstField, .inl (cI, 16, .inl (ar ff))), (a_secondField, .inl (cI, 16, .inl (ar sf))), (a_first_g, .inl (cI, 500, .inl (ar fa))), (a_second_g, .inl (cI, 500, .inl (ar sb))), (a_unfenced_g, .inl (cZ, 500, .inl (ar un)))] sz (fun u : (Int) × (Int → Int) × (Int → Int) × (Int → Int) => match u with | (wz1, ba1, ff1, sf1) => [(h, .inr (4, [.ref a_base, .ref a_firstField, .ref a_secondField, .int (iN wz1), v_table])), (g, .inr (2, [.ref a_first_g, .ref a_second_g, .ref a_unfenced_g, v_line_g, v_drawer_g, v_sidesAt_g, v_sideCount_g, v_openCount_g, v_owner_g, v_owned_g, v_fields_g, .int (iN ns), v_openSides_g, v_done_g, v_known_g, v_turn_g, v_changes_g])), (a_base, .inl (cI, 16, .inl (ar ba1))), (a_firstField, .inl (cI, 16, .inl (ar ff1))), (a_secondField, .inl (cI, 16, .inl (ar sf1))), (a_first_g, .inl (cI, 500, .inl (ar fa))), (a_second_g, .inl (cI, 500, .inl (ar sb))), (a_unfenced_g, .inl (cZ, 500, .inl (ar un)))]) (fun u => match u with | (wz1, ba1, ff1, sf1) => wdI un ba ns kp ns wz1 ba1 ∧ mkA ba1 fa sb wz1 wz1 ff1 sf1) 0 0 := by
  refine iv_mkV (cc := cX4_widen) (maxL := 4) (by decide) rfl (Nat.le_of_ble_eq_true rfl) ?_
  intro p e s m below meth c A H ls hx hb hr hts hown hlocks hin hml hN hA hK hP hD hS hl
  have hT : ∀ w ∈ T0, w.before [.ref h, .ref g, .int (iN kp)].toArray s = true := fun w h => hts w (List.mem_cons_of_mem _ h)
  have hown : s.vm.findClass RX4 = some m.cls := hown
  have hl : lv_has ls 4 [(0, .ref h), (1, .ref g), (2, .int (iN kp))] := hl
  refine lv_aload_n hx hb dX4_widen_0 rfl (lv_at hl 0 rfl) ?_
  refine lv_iload_n hx hb dX4_widen_1 rfl (lv_at hl 2 rfl) ?_
  refine va_put (D := D) (ci := 4) (v := .int (iN kp)) (ty := .int) (C := RX4) (T := TX4) (N := 5) hx hb hT hiX4 tyX4 tyX4_ok nmX4 hown hK hP hD hS 0 rfl rfl 3 (by decide) (hT _ k_234) (fun _ h9 => h9) rfl (by decide +kernel) rfl rfl (Nat.le_of_ble_eq_true rfl) dX4_widen_2 (fun H locs hP hD hS => ?_)
  have hP : va_P D vwCl [(h, .inr (4, [.ref a_base, .ref a_firstField, .ref a_secondField, .int (iN kp), v_table])), (g, .inr (2, [.ref a_first_g, .ref a_second_g, .ref a_unfenced_g, v_line_g, v_drawer_g, v_sidesAt_g, v_sideCount_g, v_openCount_g, v_owner_g, v_owned_g, v_fields_g, .int (iN ns), v_openSides_g, v_done_g, v_known_g, v_turn_g, v_changes_g])), (a_base, .inl (cI, 16, .inl (ar ba))), (a_firstField, .inl (cI, 16, .inl (ar ff))), (a_secondField, .inl (cI, 16, .inl (ar sf))), (a_first_g, .inl (cI, 500, .inl (ar fa))), (a_second_g, .inl (cI, 500, .inl (ar sb))), (a_unfenced_g, .inl (cZ, 500, .inl (ar un)))] H := hP
  have hD : va_D A [(h, .inr (4, [.ref a_base, .ref a_firstField, .ref a_secondField, .int (iN kp), v_table])), (g, .inr (2, [.ref a_first_g, .ref a_second_g, .ref a_unfenced_g, v_line_g, v_drawer_g, v_sidesAt_g, v_sideCount_g, v_openCount_g, v_owner_g, v_owned_g, v_fields_g, .int (iN ns), v_openSides_g, v_done_g, v_known_g, v_turn_g, v_changes_g])), (a_base, .inl (cI, 16, .inl (ar ba))), (a_firstField, .inl (cI, 16, .inl (ar ff))), (a_secondField, .inl (cI, 16, .inl (ar sf))), (a_first_g, .inl (cI, 500, .inl (ar fa))), (a_second_g, .inl (cI, 500, .inl (ar sb))), (a_unfenced_g, .inl (cZ, 500, .inl (ar un)))] := hD
  refine iv_iconst hx hb dX4_widen_5 ?_
  refine lv_istore_n (lv' := [(3, .int (iN 0)), (0, .ref h), (1, .ref g), (2, .int (iN kp))]) hx hb dX4_widen_6 rfl hl (by decide) rfl (fun ls hl => ?_)
  have lab_7 : ∀ (fuel : Nat) (i : Int) (w_ : Int) (b_ : Int → Int), (0 ≤ i ∧ i ≤ ns) → (wdI un ba ns kp i w_ b_) → (ns - i < (fuel : Int)) → ∀ (H : Heap) (locs : List Loc) (ls : Array Slot), va_P D vwCl [(h, .inr (4, [.ref a_base, .ref a_firstField, .ref a_secondField, .int (iN w_), v_table])), (g, .inr (2, [.ref a_first_g, .ref a_second_g, .ref a_unfenced_g, v_line_g, v_drawer_g, v_sidesAt_g, v_sideCount_g, v_openCount_g, v_owner_g, v_owned_g, v_fields_g, .int (iN ns), v_openSides_g, v_done_g, v_known_g, v_turn_g, v_changes_g])), (a_base, .inl (cI, 16, .inl (ar b_))), (a_firstField, .inl (cI, 16, .inl (ar ff))), (a_secondField, .inl (cI, 16, .inl (ar sf))), (a_first_g, .inl (cI, 500, .inl (ar fa))), (a_second_g, .inl (cI, 500, .inl (ar sb))), (a_unfenced_g, .inl (cZ, 500, .inl (ar un)))] H → va_D A [(h, .inr (4, [.ref a_base, .ref a_firstField, .ref a_secondField, .int (iN w_), v_table])), (g, .inr (2, [.ref a_first_g, .ref a_second_g, .ref a_unfenced_g, v_line_g, v_drawer_g, v_sidesAt_g, v_sideCount_g, v_openCount_g, v_owner_g, v_owned_g, v_fields_g, .int (iN ns), v_openSides_g, v_done_g, v_known_g, v_turn_g, v_changes_g])), (a_base, .inl (cI, 16, .inl (ar b_))), (a_firstField, .inl (cI, 16, .inl (ar ff))), (a_secondField, .inl (cI, 16, .inl (ar sf))), (a_first_g, .inl (cI, 500, .inl (ar fa))), (a_second_g, .inl (cI, 500, .inl (ar sb))), (a_unfenced_g, .inl (cZ, 500, .inl (ar un)))] → va_S A s.heap H locs → lv_has ls 4 [(0, .ref h), (1, .ref g), (2, .int (iN kp)), (3, .int (iN i))] → W p l e ({ frames := 1, cells := 0, slots := 0, locals := 24 } : Room) s m [.ref h, .ref g, .int (iN kp)].toArray below meth c H locs 0 0 (MQ below (iv_Qv D A (fun u : (Int) × (Int → Int) × (Int → Int) × (Int → Int) => match u with | (wz1, ba1, ff1, sf1) => [(h, .inr (4, [.ref a_base, .ref a_firstField, .ref a_secondField, .int (iN wz1), v_table])), (g, .inr (2, [.ref a_first_g, .ref a_second_g, .ref a_unfenced_g, v_line_g, v_drawer_g, v_sidesAt_g, v_sideCount_g, v_openCount_g, v_owner_g, v_owned_g, v_fields_g, .int (iN ns), v_openSides_g, v_done_g, v_known_g, v_turn_g, v_changes_g])), (a_base, .inl (cI, 16, .inl (ar ba1))), (a_firstField, .inl (cI, 16, .inl (ar ff1))), (a_secondField, .inl (cI, 16, .inl (ar sf1))), (a_first_g, .inl (cI, 500, .inl (ar fa))), (a_second_g, .inl (cI, 500, .inl (ar sb))), (a_unfenced_g, .inl (cZ, 500, .inl (ar un)))]) (fun u => match u with | (wz1, ba1, ff1, sf1) => wdI un ba ns kp ns wz1 ba1 ∧ mkA ba1 fa sb wz1 wz1 ff1 sf1)) [.ref h, .ref g, .int (iN kp)].toArray s 0 0 A) (F0 m 7 ls []) := by
    intro fuel
    induction fuel with
    | zero =>
      intro i w_ b_ hi hwd hm
      exact absurd hm (by omega)
    | succ fuel ih =>
      intro i w_ b_ hi hwd hm H locs ls hP hD hS hl
      have ih_7 := ih
      have hw9 := hwd.1
      refine lv_iload_n hx hb dX4_widen_7 rfl (lv_at hl 3 rfl) ?_
      refine lv_aload_n hx hb dX4_widen_8 rfl (lv_at hl 1 rfl) ?_
      refine va_getN (D := D) (ci := 2) (v := .int (iN ns)) (C := RX2) (T := TX2) (N := 17) hx hb hT hiX2 hown hK hP 1 rfl rfl 11 (by decide) (hN.use _ k_118 rfl) (fun _ h9 => h9) rfl dX4_widen_9 ?_
      refine iv_icmp_ge (tgt := 68) hx hb dX4_widen_12 (by decide) (by omega) (by omega) (fun c12 => ?_) (fun c12 => ?_)
      · have ei : i = ns := by omega
        rw [ei] at hwd
        have hb9 : ∀ j : Int, 0 ≤ j → j < w_ → (0 ≤ b_ j ∧ b_ j < 500) ∧ (-1 ≤ fa (b_ j) ∧ fa (b_ j) < 200) ∧ (-1 ≤ sb (b_ j) ∧ sb (b_ j) < 200) := fun j a b => by have q9 := hwd.2.2.1.1 j a b; have r9 := ho1 (b_ j) q9.1 q9.2; have s9 := ho2 (b_ j) q9.1 q9.2; exact ⟨by omega, by omega, s9⟩
        refine iv_iconst hx hb dX4_widen_68 ?_
        refine lv_istore_n (lv' := [(3, .int (iN 0)), (0, .ref h), (1, .ref g), (2, .int (iN kp))]) hx hb dX4_widen_69 rfl hl (by decide) rfl (fun ls hl => ?_)
        have lab_70 : ∀ (fuel : Nat) (k_ : Int) (f_ : Int → Int) (s_ : Int → Int), (0 ≤ k_ ∧ k_ ≤ w_) → (mkA b_ fa sb w_ k_ f_ s_) → (w_ - k_ < (fuel : Int)) → ∀ (H : Heap) (locs : List Loc) (ls : Array Slot), va_P D vwCl [(h, .inr (4, [.ref a_base, .ref a_firstField, .ref a_secondField, .int (iN w_), v_table])), (g, .inr (2, [.ref a_first_g, .ref a_second_g, .ref a_unfenced_g, v_line_g, v_drawer_g, v_sidesAt_g, v_sideCount_g, v_openCount_g, v_owner_g, v_owned_g, v_fields_g, .int (iN ns), v_openSides_g, v_done_g, v_known_g, v_turn_g, v_changes_g])), (a_base, .inl (cI, 16, .inl (ar b_))), (a_firstField, .inl (cI, 16, .inl (ar f_))), (a_secondField, .inl (cI, 16, .inl (ar s_))), (a_first_g, .inl (cI, 500, .inl (ar fa))), (a_second_g, .inl (cI, 500, .inl (ar sb))), (a_unfenced_g, .inl (cZ, 500, .inl (ar un)))] H → va_D A [(h, .inr (4, [.ref a_base, .ref a_firstField, .ref a_secondField, .int (iN w_), v_table])), (g, .inr (2, [.ref a_first_g, .ref a_second_g, .ref a_unfenced_g, v_line_g, v_drawer_g, v_sidesAt_g, v_sideCount_g, v_openCount_g, v_owner_g, v_owned_g, v_fields_g, .int (iN ns), v_openSides_g, v_done_g, v_known_g, v_turn_g, v_changes_g])), (a_base, .inl (cI, 16, .inl (ar b_))), (a_firstField, .inl (cI, 16, .inl (ar f_))), (a_secondField, .inl (cI, 16, .inl (ar s_))), (a_first_g, .inl (cI, 500, .inl (ar fa))), (a_second_g, .inl (cI, 500, .inl (ar sb))), (a_unfenced_g, .inl (cZ, 500, .inl (ar un)))] → va_S A s.heap H locs → lv_has ls 4 [(0, .ref h), (1, .ref g), (2, .int (iN kp)), (3, .int (iN k_))] → W p l e ({ frames := 1, cells := 0, slots := 0, locals := 24 } : Room) s m [.ref h, .ref g, .int (iN kp)].toArray below meth c H locs 0 0 (MQ below (iv_Qv D A (fun u : (Int) × (Int → Int) × (Int → Int) × (Int → Int) => match u with | (wz1, ba1, ff1, sf1) => [(h, .inr (4, [.ref a_base, .ref a_firstField, .ref a_secondField, .int (iN wz1), v_table])), (g, .inr (2, [.ref a_first_g, .ref a_second_g, .ref a_unfenced_g, v_line_g, v_drawer_g, v_sidesAt_g, v_sideCount_g, v_openCount_g, v_owner_g, v_owned_g, v_fields_g, .int (iN ns), v_openSides_g, v_done_g, v_known_g, v_turn_g, v_changes_g])), (a_base, .inl (cI, 16, .inl (ar ba1))), (a_firstField, .inl (cI, 16, .inl (ar ff1))), (a_secondField, .inl (cI, 16, .inl (ar sf1))), (a_first_g, .inl (cI, 500, .inl (ar fa))), (a_second_g, .inl (cI, 500, .inl (ar sb))), (a_unfenced_g, .inl (cZ, 500, .inl (ar un)))]) (fun u => match u with | (wz1, ba1, ff1, sf1) => wdI un ba ns kp ns wz1 ba1 ∧ mkA ba1 fa sb wz1 wz1 ff1 sf1)) [.ref h, .ref g, .int (iN kp)].toArray s 0 0 A) (F0 m 70 ls []) := by
          intro fuel
          induction fuel with
          | zero =>
            intro k_ f_ s_ hk hma hm
            exact absurd hm (by omega)
          | succ fuel ih =>
            intro k_ f_ s_ hk hma hm H locs ls hP hD hS hl
            have ih_70 := ih
            refine lv_iload_n hx hb dX4_widen_70 rfl (lv_at hl 3 rfl) ?_
            refine lv_aload_n hx hb dX4_widen_71 rfl (lv_at hl 0 rfl) ?_
            refine va_get (D := D) (ci := 4) (v := .int (iN w_)) (C := RX4) (T := TX4) (N := 5) hx hb hT hiX4 hown hK hP 0 rfl rfl 3 (by decide) (hT _ k_234) (fun _ h9 => h9) rfl dX4_widen_72 ?_
            refine iv_icmp_ge (tgt := 128) hx hb dX4_widen_75 (by decide) (by omega) (by omega) (fun c75 => ?_) (fun c75 => ?_)
            · exact iv_vret hx hb hr hlocks dX4_widen_128 (by omega) (by omega) (w_, b_, f_, s_) (by exact ⟨hwd, by rw [show w_ = k_ by omega] at hma ⊢; exact hma⟩) (by exact hP.sub [0, 1, 2, 3, 4, 5, 6, 7] rfl) (by exact hD.sub [0, 1, 2, 3, 4, 5, 6, 7] (by decide) rfl) hS
            · have hbk := hb9 k_ (by omega) (by omega)
              have hbr := hwd.2.2.1.1 k_ (by omega) (by omega)
              have h1 := ho1 (b_ k_) hbr.1 hbr.2
              refine lv_aload_n hx hb dX4_widen_78 rfl (lv_at hl 0 rfl) ?_
              refine va_get (D := D) (ci := 4) (v := .ref a_firstField) (C := RX4) (T := TX4) (N := 5) hx hb hT hiX4 hown hK hP 0 rfl rfl 1 (by decide) (hT _ k_232) (fun _ h9 => h9) rfl dX4_widen_79 ?_
              refine lv_iload_n hx hb dX4_widen_82 rfl (lv_at hl 3 rfl) ?_
              refine lv_aload_n hx hb dX4_widen_83 rfl (lv_at hl 0 rfl) ?_
              refine lv_aload_n hx hb dX4_widen_84 rfl (lv_at hl 1 rfl) ?_
              refine lv_aload_n hx hb dX4_widen_85 rfl (lv_at hl 1 rfl) ?_
              refine va_getN (D := D) (ci := 2) (v := .ref a_first_g) (C := RX2) (T := TX2) (N := 17) hx hb hT hiX2 hown hK hP 1 rfl rfl 0 (by decide) (hN.use _ k_91 rfl) (fun _ h9 => h9) rfl dX4_widen_86 ?_
              refine lv_aload_n hx hb dX4_widen_89 rfl (lv_at hl 0 rfl) ?_
              refine va_get (D := D) (ci := 4) (v := .ref a_base) (C := RX4) (T := TX4) (N := 5) hx hb hT hiX4 hown hK hP 0 rfl rfl 0 (by decide) (hT _ k_231) (fun _ h9 => h9) rfl dX4_widen_90 ?_
              refine lv_iload_n hx hb dX4_widen_93 rfl (lv_at hl 3 rfl) ?_
              refine iv_iald hx hb hK hP 2 0 rfl rfl (f := b_) (by omega) (by omega) dX4_widen_94 ?_
              refine iv_iald hx hb hK hP 5 0 rfl rfl (f := fa) (by omega) (by omega) dX4_widen_95 ?_
              refine iv_callV (mc := 0) (ms := 0) (wc := [(h, .inr (4, [.ref a_base, .ref a_firstField, .ref a_secondField, .int (iN w_), v_table])), (g, .inr (2, [.ref a_first_g, .ref a_second_g, .ref a_unfenced_g, v_line_g, v_drawer_g, v_sidesAt_g, v_sideCount_g, v_openCount_g, v_owner_g, v_owned_g, v_fields_g, .int (iN ns), v_openSides_g, v_done_g, v_known_g, v_turn_g, v_changes_g])), (a_base, .inl (cI, 16, .inl (ar b_))), (a_first_g, .inl (cI, 500, .inl (ar fa))), (a_second_g, .inl (cI, 500, .inl (ar sb)))]) (wr := [(a_firstField, .inl (cI, 16, .inl (ar f_))), (a_secondField, .inl (cI, 16, .inl (ar s_))), (a_unfenced_g, .inl (cZ, 500, .inl (ar un)))]) (As := [.ref g, .int (iN (fa (b_ k_)))]) (rest := [.int (iN k_), .ref a_firstField]) ⟨hx, hb, hml, hown, hT⟩ (ok_X4_setOf l D cI h a_base g a_first_g a_second_g (.ref a_firstField) (.ref a_secondField) v_table (.ref a_unfenced_g) v_line_g v_drawer_g v_sidesAt_g v_sideCount_g v_openCount_g v_owner_g v_owned_g v_fields_g (.int (iN ns)) v_openSides_g v_done_g v_known_g v_turn_g v_changes_g b_ fa sb w_ H.size (fa (b_ k_)) (by first | with_reducible assumption | omega | assumption) (by exact hb9) (by first | with_reducible assumption | omega | assumption)) (iv_cw 2 hT k_559 k_63 k_556 k_558 k_20 (by decide +kernel) rfl rfl ⟨Nat.le_of_ble_eq_true rfl, Nat.le_of_ble_eq_true rfl⟩) hN hK hP hD hS hA [0, 1, 2, 5, 6] [3, 4, 7] [0] rfl rfl (by decide) (by decide) (by decide) rfl 0 (ci := 4) rfl rfl rfl hl.1 rfl (Nat.le_of_ble_eq_true rfl) dX4_widen_96 ⟨Nat.le_of_ble_eq_true rfl, Nat.le_of_ble_eq_true rfl⟩ (fun z96 u96 H locs hw96 hP hD hS => ?_)
              have hP := hP.sub (ws' := [(h, .inr (4, [.ref a_base, .ref a_firstField, .ref a_secondField, .int (iN w_), v_table])), (g, .inr (2, [.ref a_first_g, .ref a_second_g, .ref a_unfenced_g, v_line_g, v_drawer_g, v_sidesAt_g, v_sideCount_g, v_openCount_g, v_owner_g, v_owned_g, v_fields_g, .int (iN ns), v_openSides_g, v_done_g, v_known_g, v_turn_g, v_changes_g])), (a_base, .inl (cI, 16, .inl (ar b_))), (a_firstField, .inl (cI, 16, .inl (ar f_))), (a_secondField, .inl (cI, 16, .inl (ar s_))), (a_first_g, .inl (cI, 500, .inl (ar fa))), (a_second_g, .inl (cI, 500, .inl (ar sb))), (a_unfenced_g, .inl (cZ, 500, .inl (ar un)))]) [3, 4, 5, 0, 1, 6, 7, 2] rfl
              have hD := hD.sub (ws' := [(h, .inr (4, [.ref a_base, .ref a_firstField, .ref a_secondField, .int (iN w_), v_table])), (g, .inr (2, [.ref a_first_g, .ref a_second_g, .ref a_unfenced_g, v_line_g, v_drawer_g, v_sidesAt_g, v_sideCount_g, v_openCount_g, v_owner_g, v_owned_g, v_fields_g, .int (iN ns), v_openSides_g, v_done_g, v_known_g, v_turn_g, v_changes_g])), (a_base, .inl (cI, 16, .inl (ar b_))), (a_firstField, .inl (cI, 16, .inl (ar f_))), (a_secondField, .inl (cI, 16, .inl (ar s_))), (a_first_g, .inl (cI, 500, .inl (ar fa))), (a_second_g, .inl (cI, 500, .inl (ar sb))), (a_unfenced_g, .inl (cZ, 500, .inl (ar un)))]) [3, 4, 5, 0, 1, 6, 7, 2] (by decide) rfl
              refine iv_iast hx hb hK hP hD hS 3 0 rfl rfl (f := f_) (by omega) (by omega) dX4_widen_99 (fun H locs hP hD hS => ?_)
              have hP : va_P D vwCl [(h, .inr (4, [.ref a_base, .ref a_firstField, .ref a_secondField, .int (iN w_), v_table])), (g, .inr (2, [.ref a_first_g, .ref a_second_g, .ref a_unfenced_g, v_line_g, v_drawer_g, v_sidesAt_g, v_sideCount_g, v_openCount_g, v_owner_g, v_owned_g, v_fields_g, .int (iN ns), v_openSides_g, v_done_g, v_known_g, v_turn_g, v_changes_g])), (a_base, .inl (cI, 16, .inl (ar b_))), (a_firstField, .inl (cI, 16, .inl (ar (uI f_ k_ z96)))), (a_secondField, .inl (cI, 16, .inl (ar s_))), (a_first_g, .inl (cI, 500, .inl (ar fa))), (a_second_g, .inl (cI, 500, .inl (ar sb))), (a_unfenced_g, .inl (cZ, 500, .inl (ar un)))] H := hP
              have hD : va_D A [(h, .inr (4, [.ref a_base, .ref a_firstField, .ref a_secondField, .int (iN w_), v_table])), (g, .inr (2, [.ref a_first_g, .ref a_second_g, .ref a_unfenced_g, v_line_g, v_drawer_g, v_sidesAt_g, v_sideCount_g, v_openCount_g, v_owner_g, v_owned_g, v_fields_g, .int (iN ns), v_openSides_g, v_done_g, v_known_g, v_turn_g, v_changes_g])), (a_base, .inl (cI, 16, .inl (ar b_))), (a_firstField, .inl (cI, 16, .inl (ar (uI f_ k_ z96)))), (a_secondField, .inl (cI, 16, .inl (ar s_))), (a_first_g, .inl (cI, 500, .inl (ar fa))), (a_second_g, .inl (cI, 500, .inl (ar sb))), (a_unfenced_g, .inl (cZ, 500, .inl (ar un)))] := hD
              refine lv_aload_n hx hb dX4_widen_100 rfl (lv_at hl 0 rfl) ?_
              refine va_get (D := D) (ci := 4) (v := .ref a_secondField) (C := RX4) (T := TX4) (N := 5) hx hb hT hiX4 hown hK hP 0 rfl rfl 2 (by decide) (hT _ k_233) (fun _ h9 => h9) rfl dX4_widen_101 ?_
              refine lv_iload_n hx hb dX4_widen_104 rfl (lv_at hl 3 rfl) ?_
              refine lv_aload_n hx hb dX4_widen_105 rfl (lv_at hl 0 rfl) ?_
              refine lv_aload_n hx hb dX4_widen_106 rfl (lv_at hl 1 rfl) ?_
              refine lv_aload_n hx hb dX4_widen_107 rfl (lv_at hl 1 rfl) ?_
              refine va_getN (D := D) (ci := 2) (v := .ref a_second_g) (C := RX2) (T := TX2) (N := 17) hx hb hT hiX2 hown hK hP 1 rfl rfl 1 (by decide) (hN.use _ k_95 rfl) (fun _ h9 => h9) rfl dX4_widen_108 ?_
              refine lv_aload_n hx hb dX4_widen_111 rfl (lv_at hl 0 rfl) ?_
              refine va_get (D := D) (ci := 4) (v := .ref a_base) (C := RX4) (T := TX4) (N := 5) hx hb hT hiX4 hown hK hP 0 rfl rfl 0 (by decide) (hT _ k_231) (fun _ h9 => h9) rfl dX4_widen_112 ?_
              refine lv_iload_n hx hb dX4_widen_115 rfl (lv_at hl 3 rfl) ?_
              refine iv_iald hx hb hK hP 2 0 rfl rfl (f := b_) (by omega) (by omega) dX4_widen_116 ?_
              refine iv_iald hx hb hK hP 6 0 rfl rfl (f := sb) (by omega) (by omega) dX4_widen_117 ?_
              refine iv_callV (mc := 0) (ms := 0) (wc := [(h, .inr (4, [.ref a_base, .ref a_firstField, .ref a_secondField, .int (iN w_), v_table])), (g, .inr (2, [.ref a_first_g, .ref a_second_g, .ref a_unfenced_g, v_line_g, v_drawer_g, v_sidesAt_g, v_sideCount_g, v_openCount_g, v_owner_g, v_owned_g, v_fields_g, .int (iN ns), v_openSides_g, v_done_g, v_known_g, v_turn_g, v_changes_g])), (a_base, .inl (cI, 16, .inl (ar b_))), (a_first_g, .inl (cI, 500, .inl (ar fa))), (a_second_g, .inl (cI, 500, .inl (ar sb)))]) (wr := [(a_firstField, .inl (cI, 16, .inl (ar (uI f_ k_ z96)))), (a_secondField, .inl (cI, 16, .inl (ar s_))), (a_unfenced_g, .inl (cZ, 500, .inl (ar un)))]) (As := [.ref g, .int (iN (sb (b_ k_)))]) (rest := [.int (iN k_), .ref a_secondField]) ⟨hx, hb, hml, hown, hT⟩ (ok_X4_setOf l D cI h a_base g a_first_g a_second_g (.ref a_firstField) (.ref a_secondField) v_table (.ref a_unfenced_g) v_line_g v_drawer_g v_sidesAt_g v_sideCount_g v_openCount_g v_owner_g v_owned_g v_fields_g (.int (iN ns)) v_openSides_g v_done_g v_known_g v_turn_g v_changes_g b_ fa sb w_ H.size (sb (b_ k_)) (by first | with_reducible assumption | omega | assumption) (by exact hb9) (by first | with_reducible assumption | omega | assumption)) (iv_cw 2 hT k_559 k_63 k_556 k_558 k_20 (by decide +kernel) rfl rfl ⟨Nat.le_of_ble_eq_true rfl, Nat.le_of_ble_eq_true rfl⟩) hN hK hP hD hS hA [0, 1, 2, 5, 6] [3, 4, 7] [0] rfl rfl (by decide) (by decide) (by decide) rfl 0 (ci := 4) rfl rfl rfl hl.1 rfl (Nat.le_of_ble_eq_true rfl) dX4_widen_118 ⟨Nat.le_of_ble_eq_true rfl, Nat.le_of_ble_eq_true rfl⟩ (fun z118 u118 H locs hw118 hP hD hS => ?_)
              have hP := hP.sub (ws' := [(h, .inr (4, [.ref a_base, .ref a_firstField, .ref a_secondField, .int (iN w_), v_table])), (g, .inr (2, [.ref a_first_g, .ref a_second_g, .ref a_unfenced_g, v_line_g, v_drawer_g, v_sidesAt_g, v_sideCount_g, v_openCount_g, v_owner_g, v_owned_g, v_fields_g, .int (iN ns), v_openSides_g, v_done_g, v_known_g, v_turn_g, v_changes_g])), (a_base, .inl (cI, 16, .inl (ar b_))), (a_firstField, .inl (cI, 16, .inl (ar (uI f_ k_ z96)))), (a_secondField, .inl (cI, 16, .inl (ar s_))), (a_first_g, .inl (cI, 500, .inl (ar fa))), (a_second_g, .inl (cI, 500, .inl (ar sb))), (a_unfenced_g, .inl (cZ, 500, .inl (ar un)))]) [3, 4, 5, 0, 1, 6, 7, 2] rfl
              have hD := hD.sub (ws' := [(h, .inr (4, [.ref a_base, .ref a_firstField, .ref a_secondField, .int (iN w_), v_table])), (g, .inr (2, [.ref a_first_g, .ref a_second_g, .ref a_unfenced_g, v_line_g, v_drawer_g, v_sidesAt_g, v_sideCount_g, v_openCount_g, v_owner_g, v_owned_g, v_fields_g, .int (iN ns), v_openSides_g, v_done_g, v_known_g, v_turn_g, v_changes_g])), (a_base, .inl (cI, 16, .inl (ar b_))), (a_firstField, .inl (cI, 16, .inl (ar (uI f_ k_ z96)))), (a_secondField, .inl (cI, 16, .inl (ar s_))), (a_first_g, .inl (cI, 500, .inl (ar fa))), (a_second_g, .inl (cI, 500, .inl (ar sb))), (a_unfenced_g, .inl (cZ, 500, .inl (ar un)))]) [3, 4, 5, 0, 1, 6, 7, 2] (by decide) rfl
              refine iv_iast hx hb hK hP hD hS 4 0 rfl rfl (f := s_) (by omega) (by omega) dX4_widen_121 (fun H locs hP hD hS => ?_)
              have hP : va_P D vwCl [(h, .inr (4, [.ref a_base, .ref a_firstField, .ref a_secondField, .int (iN w_), v_table])), (g, .inr (2, [.ref a_first_g, .ref a_second_g, .ref a_unfenced_g, v_line_g, v_drawer_g, v_sidesAt_g, v_sideCount_g, v_openCount_g, v_owner_g, v_owned_g, v_fields_g, .int (iN ns), v_openSides_g, v_done_g, v_known_g, v_turn_g, v_changes_g])), (a_base, .inl (cI, 16, .inl (ar b_))), (a_firstField, .inl (cI, 16, .inl (ar (uI f_ k_ z96)))), (a_secondField, .inl (cI, 16, .inl (ar (uI s_ k_ z118)))), (a_first_g, .inl (cI, 500, .inl (ar fa))), (a_second_g, .inl (cI, 500, .inl (ar sb))), (a_unfenced_g, .inl (cZ, 500, .inl (ar un)))] H := hP
              have hD : va_D A [(h, .inr (4, [.ref a_base, .ref a_firstField, .ref a_secondField, .int (iN w_), v_table])), (g, .inr (2, [.ref a_first_g, .ref a_second_g, .ref a_unfenced_g, v_line_g, v_drawer_g, v_sidesAt_g, v_sideCount_g, v_openCount_g, v_owner_g, v_owned_g, v_fields_g, .int (iN ns), v_openSides_g, v_done_g, v_known_g, v_turn_g, v_changes_g])), (a_base, .inl (cI, 16, .inl (ar b_))), (a_firstField, .inl (cI, 16, .inl (ar (uI f_ k_ z96)))), (a_secondField, .inl (cI, 16, .inl (ar (uI s_ k_ z118)))), (a_first_g, .inl (cI, 500, .inl (ar fa))), (a_second_g, .inl (cI, 500, .inl (ar sb))), (a_unfenced_g, .inl (cZ, 500, .inl (ar un)))] := hD
              refine lv_iinc (v := iN (k_ + 1)) (lv' := [(3, .int (iN (k_ + 1))), (0, .ref h), (1, .ref g), (2, .int (iN kp))]) hx hb dX4_widen_122 hl (k := 3) rfl (iN_add _ _) (by decide) rfl (fun ls hl => ?_)
              refine lv_goto (tgt := 70) hx hb dX4_widen_125 (by decide) ?_
              exact ih_70 (k_ + 1) (uI f_ k_ z96) (uI s_ k_ z118) (by first | omega | with_reducible assumption | assumption) (by exact mkA_s hma (hw96.2 (by omega)) hw118) (by omega) _ _ _ (hP.sub [0, 1, 2, 3, 4, 5, 6, 7] rfl) (hD.sub [0, 1, 2, 3, 4, 5, 6, 7] (by decide) rfl) hS (lv_sub hl [1, 2, 3, 0] rfl)
        exact lab_70 ((w_ - 0 : Int).toNat + 1) 0 ff sf (by first | omega | with_reducible assumption | assumption) (by intro j a b; omega) (by omega) _ _ _ (hP.sub [0, 1, 2, 3, 4, 5, 6, 7] rfl) (hD.sub [0, 1, 2, 3, 4, 5, 6, 7] (by decide) rfl) hS (lv_sub hl [1, 2, 3, 0] rfl)
      · have hu9 := hun i (by omega) (by omega)
        refine lv_aload_n hx hb dX4_widen_15 rfl (lv_at hl 1 rfl) ?_
        refine va_getN (D := D) (ci := 2) (v := .ref a_unfenced_g) (C := RX2) (T := TX2) (N := 17) hx hb hT hiX2 hown hK hP 1 rfl rfl 2 (by decide) (hN.use _ k_99 rfl) (fun _ h9 => h9) rfl dX4_widen_16 ?_
        refine lv_iload_n hx hb dX4_widen_19 rfl (lv_at hl 3 rfl) ?_
        refine iv_zald hx hb hK hP 7 1 rfl rfl (f := un) (by omega) (by omega) dX4_widen_20 ?_
        refine iv_if_eq (tgt := 62) hx hb dX4_widen_21 (by decide) (by omega) (fun c21 => ?_) (fun c21 => ?_)
        · refine lv_iinc (v := iN (i + 1)) (lv' := [(3, .int (iN (i + 1))), (0, .ref h), (1, .ref g), (2, .int (iN kp))]) hx hb dX4_widen_62 hl (k := 3) rfl (iN_add _ _) (by decide) rfl (fun ls hl => ?_)
          refine lv_goto (tgt := 7) hx hb dX4_widen_65 (by decide) ?_
          exact ih_7 (i + 1) w_ b_ (by first | omega | with_reducible assumption | assumption) (by first | exact wdI_skip hwd (fun e9 => absurd e9 (by omega)) | exact wdI_new hwd hkp.1 (by omega) (by omega) (by omega) (by omega) (fun j a b => by rw [← hwd.2.1 j a b]; exact hw36 j a b) | exact wdI_skip hwd (fun _ => by obtain ⟨j, j0, j1, j2⟩ := hw36; exact ⟨j, j0, by omega, j2⟩) | exact wdI_skip hwd (fun e9 => Classical.byContradiction (fun z9 => by have q9 := inj_lt hwd.2.2.1 (by omega) hwd.2.2.2.1 (s := i) (by omega) (by omega) e9 (fun j a b e8 => z9 ⟨j, a, b, e8⟩); omega))) (by omega) _ _ _ (hP.sub [0, 1, 2, 3, 4, 5, 6, 7] rfl) (hD.sub [0, 1, 2, 3, 4, 5, 6, 7] (by decide) rfl) hS (lv_sub hl [1, 2, 3, 0] rfl)
        · refine lv_aload_n hx hb dX4_widen_24 rfl (lv_at hl 0 rfl) ?_
          refine va_get (D := D) (ci := 4) (v := .int (iN w_)) (C := RX4) (T := TX4) (N := 5) hx hb hT hiX4 hown hK hP 0 rfl rfl 3 (by decide) (hT _ k_234) (fun _ h9 => h9) rfl dX4_widen_25 ?_
          refine iv_bipush hx hb dX4_widen_28 (by decide) ?_
          refine iv_icmp_ge (tgt := 62) hx hb dX4_widen_30 (by decide) (by omega) (by omega) (fun c30 => ?_) (fun c30 => ?_)
          · refine lv_iinc (v := iN (i + 1)) (lv' := [(3, .int (iN (i + 1))), (0, .ref h), (1, .ref g), (2, .int (iN kp))]) hx hb dX4_widen_62 hl (k := 3) rfl (iN_add _ _) (by decide) rfl (fun ls hl => ?_)
            refine lv_goto (tgt := 7) hx hb dX4_widen_65 (by decide) ?_
            exact ih_7 (i + 1) w_ b_ (by first | omega | with_reducible assumption | assumption) (by first | exact wdI_skip hwd (fun e9 => absurd e9 (by omega)) | exact wdI_new hwd hkp.1 (by omega) (by omega) (by omega) (by omega) (fun j a b => by rw [← hwd.2.1 j a b]; exact hw36 j a b) | exact wdI_skip hwd (fun _ => by obtain ⟨j, j0, j1, j2⟩ := hw36; exact ⟨j, j0, by omega, j2⟩) | exact wdI_skip hwd (fun e9 => Classical.byContradiction (fun z9 => by have q9 := inj_lt hwd.2.2.1 (by omega) hwd.2.2.2.1 (s := i) (by omega) (by omega) e9 (fun j a b e8 => z9 ⟨j, a, b, e8⟩); omega))) (by omega) _ _ _ (hP.sub [0, 1, 2, 3, 4, 5, 6, 7] rfl) (hD.sub [0, 1, 2, 3, 4, 5, 6, 7] (by decide) rfl) hS (lv_sub hl [1, 2, 3, 0] rfl)
          · refine lv_aload_n hx hb dX4_widen_33 rfl (lv_at hl 0 rfl) ?_
            refine lv_iload_n hx hb dX4_widen_34 rfl (lv_at hl 3 rfl) ?_
            refine lv_iload_n hx hb dX4_widen_35 rfl (lv_at hl 2 rfl) ?_
            refine iv_callV (mc := 0) (ms := 0) (wc := [(h, .inr (4, [.ref a_base, .ref a_firstField, .ref a_secondField, .int (iN w_), v_table])), (a_base, .inl (cI, 16, .inl (ar b_)))]) (wr := [(g, .inr (2, [.ref a_first_g, .ref a_second_g, .ref a_unfenced_g, v_line_g, v_drawer_g, v_sidesAt_g, v_sideCount_g, v_openCount_g, v_owner_g, v_owned_g, v_fields_g, .int (iN ns), v_openSides_g, v_done_g, v_known_g, v_turn_g, v_changes_g])), (a_firstField, .inl (cI, 16, .inl (ar ff))), (a_secondField, .inl (cI, 16, .inl (ar sf))), (a_first_g, .inl (cI, 500, .inl (ar fa))), (a_second_g, .inl (cI, 500, .inl (ar sb))), (a_unfenced_g, .inl (cZ, 500, .inl (ar un)))]) (As := [.int (iN i), .int (iN kp)]) (rest := []) ⟨hx, hb, hml, hown, hT⟩ (ok_X4_isKept l D cI h a_base (.ref a_firstField) (.ref a_secondField) (.int (iN w_)) v_table b_ H.size i kp (by first | with_reducible assumption | omega | assumption) (by intro j a b; have q9 := hwd.2.2.1.1 j a (by omega); omega) (by first | with_reducible assumption | omega | assumption)) (iv_cw 2 hT k_555 k_63 k_552 k_554 k_19 (by decide +kernel) rfl rfl ⟨Nat.le_of_ble_eq_true rfl, Nat.le_of_ble_eq_true rfl⟩) hN hK hP hD hS hA [0, 2] [1, 3, 4, 5, 6, 7] [0] rfl rfl (by decide) (by decide) (by decide) rfl 0 (ci := 4) rfl rfl rfl hl.1 rfl (Nat.le_of_ble_eq_true rfl) dX4_widen_36 ⟨Nat.le_of_ble_eq_true rfl, Nat.le_of_ble_eq_true rfl⟩ (fun z36 u36 H locs hw36 hP hD hS => ?_)
            have hP := hP.sub (ws' := [(h, .inr (4, [.ref a_base, .ref a_firstField, .ref a_secondField, .int (iN w_), v_table])), (g, .inr (2, [.ref a_first_g, .ref a_second_g, .ref a_unfenced_g, v_line_g, v_drawer_g, v_sidesAt_g, v_sideCount_g, v_openCount_g, v_owner_g, v_owned_g, v_fields_g, .int (iN ns), v_openSides_g, v_done_g, v_known_g, v_turn_g, v_changes_g])), (a_base, .inl (cI, 16, .inl (ar b_))), (a_firstField, .inl (cI, 16, .inl (ar ff))), (a_secondField, .inl (cI, 16, .inl (ar sf))), (a_first_g, .inl (cI, 500, .inl (ar fa))), (a_second_g, .inl (cI, 500, .inl (ar sb))), (a_unfenced_g, .inl (cZ, 500, .inl (ar un)))]) [6, 0, 7, 1, 2, 3, 4, 5] rfl
            have hD := hD.sub (ws' := [(h, .inr (4, [.ref a_base, .ref a_firstField, .ref a_secondField, .int (iN w_), v_table])), (g, .inr (2, [.ref a_first_g, .ref a_second_g, .ref a_unfenced_g, v_line_g, v_drawer_g, v_sidesAt_g, v_sideCount_g, v_openCount_g, v_owner_g, v_owned_g, v_fields_g, .int (iN ns), v_openSides_g, v_done_g, v_known_g, v_turn_g, v_changes_g])), (a_base, .inl (cI, 16, .inl (ar b_))), (a_firstField, .inl (cI, 16, .inl (ar ff))), (a_secondField, .inl (cI, 16, .inl (ar sf))), (a_first_g, .inl (cI, 500, .inl (ar fa))), (a_second_g, .inl (cI, 500, .inl (ar sb))), (a_unfenced_g, .inl (cZ, 500, .inl (ar un)))]) [6, 0, 7, 1, 2, 3, 4, 5] (by decide) rfl
            rcases hw36 with ⟨rfl, hw36⟩ | ⟨rfl, hw36⟩
            · refine iv_if_ne (tgt := 62) hx hb dX4_widen_39 (by decide) (by omega) (fun c39 => ?_) (fun c39 => ?_)
              · refine lv_iinc (v := iN (i + 1)) (lv' := [(3, .int (iN (i + 1))), (0, .ref h), (1, .ref g), (2, .int (iN kp))]) hx hb dX4_widen_62 hl (k := 3) rfl (iN_add _ _) (by decide) rfl (fun ls hl => ?_)
                refine lv_goto (tgt := 7) hx hb dX4_widen_65 (by decide) ?_
                exact ih_7 (i + 1) w_ b_ (by first | omega | with_reducible assumption | assumption) (by first | exact wdI_skip hwd (fun e9 => absurd e9 (by omega)) | exact wdI_new hwd hkp.1 (by omega) (by omega) (by omega) (by omega) (fun j a b => by rw [← hwd.2.1 j a b]; exact hw36 j a b) | exact wdI_skip hwd (fun _ => by obtain ⟨j, j0, j1, j2⟩ := hw36; exact ⟨j, j0, by omega, j2⟩) | exact wdI_skip hwd (fun e9 => Classical.byContradiction (fun z9 => by have q9 := inj_lt hwd.2.2.1 (by omega) hwd.2.2.2.1 (s := i) (by omega) (by omega) e9 (fun j a b e8 => z9 ⟨j, a, b, e8⟩); omega))) (by omega) _ _ _ (hP.sub [0, 1, 2, 3, 4, 5, 6, 7] rfl) (hD.sub [0, 1, 2, 3, 4, 5, 6, 7] (by decide) rfl) hS (lv_sub hl [1, 2, 3, 0] rfl)
              · exact absurd c39 (by decide)
            · refine iv_if_ne (tgt := 62) hx hb dX4_widen_39 (by decide) (by omega) (fun c39 => ?_) (fun c39 => ?_)
              · exact absurd c39 (by decide)
              · refine lv_aload_n hx hb dX4_widen_42 rfl (lv_at hl 0 rfl) ?_
                refine va_get (D := D) (ci := 4) (v := .ref a_base) (C := RX4) (T := TX4) (N := 5) hx hb hT hiX4 hown hK hP 0 rfl rfl 0 (by decide) (hT _ k_231) (fun _ h9 => h9) rfl dX4_widen_43 ?_
                refine lv_aload_n hx hb dX4_widen_46 rfl (lv_at hl 0 rfl) ?_
                refine va_get (D := D) (ci := 4) (v := .int (iN w_)) (C := RX4) (T := TX4) (N := 5) hx hb hT hiX4 hown hK hP 0 rfl rfl 3 (by decide) (hT _ k_234) (fun _ h9 => h9) rfl dX4_widen_47 ?_
                refine lv_iload_n hx hb dX4_widen_50 rfl (lv_at hl 3 rfl) ?_
                refine iv_iast hx hb hK hP hD hS 2 0 rfl rfl (f := b_) (by omega) (by omega) dX4_widen_51 (fun H locs hP hD hS => ?_)
                have hP : va_P D vwCl [(h, .inr (4, [.ref a_base, .ref a_firstField, .ref a_secondField, .int (iN w_), v_table])), (g, .inr (2, [.ref a_first_g, .ref a_second_g, .ref a_unfenced_g, v_line_g, v_drawer_g, v_sidesAt_g, v_sideCount_g, v_openCount_g, v_owner_g, v_owned_g, v_fields_g, .int (iN ns), v_openSides_g, v_done_g, v_known_g, v_turn_g, v_changes_g])), (a_base, .inl (cI, 16, .inl (ar (uI b_ w_ i)))), (a_firstField, .inl (cI, 16, .inl (ar ff))), (a_secondField, .inl (cI, 16, .inl (ar sf))), (a_first_g, .inl (cI, 500, .inl (ar fa))), (a_second_g, .inl (cI, 500, .inl (ar sb))), (a_unfenced_g, .inl (cZ, 500, .inl (ar un)))] H := hP
                have hD : va_D A [(h, .inr (4, [.ref a_base, .ref a_firstField, .ref a_secondField, .int (iN w_), v_table])), (g, .inr (2, [.ref a_first_g, .ref a_second_g, .ref a_unfenced_g, v_line_g, v_drawer_g, v_sidesAt_g, v_sideCount_g, v_openCount_g, v_owner_g, v_owned_g, v_fields_g, .int (iN ns), v_openSides_g, v_done_g, v_known_g, v_turn_g, v_changes_g])), (a_base, .inl (cI, 16, .inl (ar (uI b_ w_ i)))), (a_firstField, .inl (cI, 16, .inl (ar ff))), (a_secondField, .inl (cI, 16, .inl (ar sf))), (a_first_g, .inl (cI, 500, .inl (ar fa))), (a_second_g, .inl (cI, 500, .inl (ar sb))), (a_unfenced_g, .inl (cZ, 500, .inl (ar un)))] := hD
                refine lv_aload_n hx hb dX4_widen_52 rfl (lv_at hl 0 rfl) ?_
                refine lv_dup hx hb dX4_widen_53 rfl ?_
                refine va_get (D := D) (ci := 4) (v := .int (iN w_)) (C := RX4) (T := TX4) (N := 5) hx hb hT hiX4 hown hK hP 0 rfl rfl 3 (by decide) (hT _ k_234) (fun _ h9 => h9) rfl dX4_widen_54 ?_
                refine iv_iconst hx hb dX4_widen_57 ?_
                refine iv_iadd hx hb dX4_widen_58 ?_
                refine va_put (D := D) (ci := 4) (v := .int (iN (w_ + 1))) (ty := .int) (C := RX4) (T := TX4) (N := 5) hx hb hT hiX4 tyX4 tyX4_ok nmX4 hown hK hP hD hS 0 rfl rfl 3 (by decide) (hT _ k_234) (fun _ h9 => h9) rfl (by decide +kernel) rfl rfl (Nat.le_of_ble_eq_true rfl) dX4_widen_59 (fun H locs hP hD hS => ?_)
                have hP : va_P D vwCl [(h, .inr (4, [.ref a_base, .ref a_firstField, .ref a_secondField, .int (iN (w_ + 1)), v_table])), (g, .inr (2, [.ref a_first_g, .ref a_second_g, .ref a_unfenced_g, v_line_g, v_drawer_g, v_sidesAt_g, v_sideCount_g, v_openCount_g, v_owner_g, v_owned_g, v_fields_g, .int (iN ns), v_openSides_g, v_done_g, v_known_g, v_turn_g, v_changes_g])), (a_base, .inl (cI, 16, .inl (ar (uI b_ w_ i)))), (a_firstField, .inl (cI, 16, .inl (ar ff))), (a_secondField, .inl (cI, 16, .inl (ar sf))), (a_first_g, .inl (cI, 500, .inl (ar fa))), (a_second_g, .inl (cI, 500, .inl (ar sb))), (a_unfenced_g, .inl (cZ, 500, .inl (ar un)))] H := hP
                have hD : va_D A [(h, .inr (4, [.ref a_base, .ref a_firstField, .ref a_secondField, .int (iN (w_ + 1)), v_table])), (g, .inr (2, [.ref a_first_g, .ref a_second_g, .ref a_unfenced_g, v_line_g, v_drawer_g, v_sidesAt_g, v_sideCount_g, v_openCount_g, v_owner_g, v_owned_g, v_fields_g, .int (iN ns), v_openSides_g, v_done_g, v_known_g, v_turn_g, v_changes_g])), (a_base, .inl (cI, 16, .inl (ar (uI b_ w_ i)))), (a_firstField, .inl (cI, 16, .inl (ar ff))), (a_secondField, .inl (cI, 16, .inl (ar sf))), (a_first_g, .inl (cI, 500, .inl (ar fa))), (a_second_g, .inl (cI, 500, .inl (ar sb))), (a_unfenced_g, .inl (cZ, 500, .inl (ar un)))] := hD
                refine lv_iinc (v := iN (i + 1)) (lv' := [(3, .int (iN (i + 1))), (0, .ref h), (1, .ref g), (2, .int (iN kp))]) hx hb dX4_widen_62 hl (k := 3) rfl (iN_add _ _) (by decide) rfl (fun ls hl => ?_)
                refine lv_goto (tgt := 7) hx hb dX4_widen_65 (by decide) ?_
                exact ih_7 (i + 1) (w_ + 1) (uI b_ w_ i) (by first | omega | with_reducible assumption | assumption) (by first | exact wdI_skip hwd (fun e9 => absurd e9 (by omega)) | exact wdI_new hwd hkp.1 (by omega) (by omega) (by omega) (by omega) (fun j a b => by rw [← hwd.2.1 j a b]; exact hw36 j a b) | exact wdI_skip hwd (fun _ => by obtain ⟨j, j0, j1, j2⟩ := hw36; exact ⟨j, j0, by omega, j2⟩) | exact wdI_skip hwd (fun e9 => Classical.byContradiction (fun z9 => by have q9 := inj_lt hwd.2.2.1 (by omega) hwd.2.2.2.1 (s := i) (by omega) (by omega) e9 (fun j a b e8 => z9 ⟨j, a, b, e8⟩); omega))) (by omega) _ _ _ (hP.sub [0, 1, 2, 3, 4, 5, 6, 7] rfl) (hD.sub [0, 1, 2, 3, 4, 5, 6, 7] (by decide) rfl) hS (lv_sub hl [1, 2, 3, 0] rfl)
  exact lab_7 ((ns - 0 : Int).toNat + 1) 0 kp ba (by first | omega | with_reducible assumption | assumption) (by exact wdI_0 hij hkp hop) (by omega) _ _ _ (hP.sub [0, 1, 2, 3, 4, 5, 6, 7] rfl) (hD.sub [0, 1, 2, 3, 4, 5, 6, 7] (by decide) rfl) hS (lv_sub hl [1, 2, 3, 0] rfl)
