def hcOK (nb : Int → Int) (df rr n t : Int) : Prop := (if rr = 0 then 1 else 2) ≤ n ∧ n ≤ 200 ∧ 1 ≤ t ∧ t ≤ 100 ∧ (nb ((if rr = 0 then 0 else 201) + n) + t ≤ 1000 ∧ (0 < nb ((if rr = 0 then 0 else 201) + n) ∨ df < 30))
set_option maxHeartbeats 4000000 in
set_option maxRecDepth 100000 in
theorem ok_X0_takeLoose (l : Launch) (D : va_G) (h : Nat) (v_others : Value) (v_isSimple : Value) (v_seen : Value) (hl_ : Int) (l2 : Int) (l4 : Int) (lf : Int) (sz : Nat) (lo : Int) (n : Int) (hl2 : l2 = 0 ∨ l2 = 1) (hl4 : l4 = 0 ∨ l4 = 1) (hlo : 0 ≤ lo ∧ lo ≤ 1000) (hn : 0 ≤ n ∧ n ≤ 200) : MetV l yX0_takeLoose (wd yX0_takeLoose cX0_takeLoose 3 none) ({ frames := 0, cells := 0, slots := 0, locals := 0 } : Room) [.ref h, .int (iN lo), .int (iN n)] D [] [(h, .inr (0, [v_others, v_isSimple, .int (iN hl_), .int (iN l2), .int (iN l4), .int (iN lf), v_seen]))] sz (fun u : (Int) × (Int) => match u with | (l21, l41) => [(h, .inr (0, [v_others, v_isSimple, .int (iN 1), .int (iN l21), .int (iN l41), .int (iN (lf + n)), v_seen]))]) (fun u => match u with | (l21, l41) => l21 = (if l2 = 1 ∨ (lo = 1 ∧ 2 ≤ n) then 1 else 0) ∧ l41 = (if l4 = 1 ∨ (lo = 2 ∧ 4 ≤ n) then 1 else 0)) 0 0 := by
  refine iv_mkV (cc := cX0_takeLoose) (maxL := 3) (by decide) rfl (Nat.le_of_ble_eq_true rfl) ?_
  intro p e s m below meth c A H ls hx hb hr hts hown hlocks hin hml hN hA hK hP hD hS hl
  have hT : ∀ w ∈ T0, w.before [.ref h, .int (iN lo), .int (iN n)].toArray s = true := fun w h => hts w (List.mem_cons_of_mem _ h)
  have hown : s.vm.findClass RX0 = some m.cls := hown
  have hl : lv_has ls 3 [(0, .ref h), (1, .int (iN lo)), (2, .int (iN n))] := hl
  refine lv_aload_n hx hb dX0_takeLoose_0 rfl (lv_at hl 0 rfl) ?_
  refine iv_iconst hx hb dX0_takeLoose_1 ?_
  refine va_put (D := D) (ci := 0) (v := .int (iN 1)) (ty := .boolean) (C := RX0) (T := TX0) (N := 7) hx hb hT hiX0 tyX0 tyX0_ok nmX0 hown hK hP hD hS 0 rfl rfl 2 (by decide) (hT _ k_297) (fun _ h9 => h9) rfl (by decide +kernel) (iN_zn (by omega)) (iN_zf (by omega)) (Nat.le_of_ble_eq_true rfl) dX0_takeLoose_2 (fun H locs hP hD hS => ?_)
  have hP : va_P D vwCl [(h, .inr (0, [v_others, v_isSimple, .int (iN 1), .int (iN l2), .int (iN l4), .int (iN lf), v_seen]))] H := hP
  have hD : va_D A [(h, .inr (0, [v_others, v_isSimple, .int (iN 1), .int (iN l2), .int (iN l4), .int (iN lf), v_seen]))] := hD
  refine lv_aload_n hx hb dX0_takeLoose_5 rfl (lv_at hl 0 rfl) ?_
  refine lv_dup hx hb dX0_takeLoose_6 rfl ?_
  refine va_get (D := D) (ci := 0) (v := .int (iN lf)) (C := RX0) (T := TX0) (N := 7) hx hb hT hiX0 hown hK hP 0 rfl rfl 5 (by decide) (hT _ k_301) (fun _ h9 => h9) rfl dX0_takeLoose_7 ?_
  refine lv_iload_n hx hb dX0_takeLoose_10 rfl (lv_at hl 2 rfl) ?_
  refine iv_iadd hx hb dX0_takeLoose_11 ?_
  refine va_put (D := D) (ci := 0) (v := .int (iN (lf + n))) (ty := .int) (C := RX0) (T := TX0) (N := 7) hx hb hT hiX0 tyX0 tyX0_ok nmX0 hown hK hP hD hS 0 rfl rfl 5 (by decide) (hT _ k_301) (fun _ h9 => h9) rfl (by decide +kernel) rfl rfl (Nat.le_of_ble_eq_true rfl) dX0_takeLoose_12 (fun H locs hP hD hS => ?_)
  have hP : va_P D vwCl [(h, .inr (0, [v_others, v_isSimple, .int (iN 1), .int (iN l2), .int (iN l4), .int (iN (lf + n)), v_seen]))] H := hP
  have hD : va_D A [(h, .inr (0, [v_others, v_isSimple, .int (iN 1), .int (iN l2), .int (iN l4), .int (iN (lf + n)), v_seen]))] := hD
  refine lv_aload_n hx hb dX0_takeLoose_15 rfl (lv_at hl 0 rfl) ?_
  refine lv_aload_n hx hb dX0_takeLoose_16 rfl (lv_at hl 0 rfl) ?_
  refine va_get (D := D) (ci := 0) (v := .int (iN l2)) (C := RX0) (T := TX0) (N := 7) hx hb hT hiX0 hown hK hP 0 rfl rfl 3 (by decide) (hT _ k_299) (fun _ h9 => h9) rfl dX0_takeLoose_17 ?_
  refine iv_if_ne (tgt := 33) hx hb dX0_takeLoose_20 (by decide) (by omega) (fun c20 => ?_) (fun c20 => ?_)
  · refine iv_iconst hx hb dX0_takeLoose_33 ?_
    refine lv_goto (tgt := 38) hx hb dX0_takeLoose_34 (by decide) ?_
    refine va_put (D := D) (ci := 0) (v := .int (iN 1)) (ty := .boolean) (C := RX0) (T := TX0) (N := 7) hx hb hT hiX0 tyX0 tyX0_ok nmX0 hown hK hP hD hS 0 rfl rfl 3 (by decide) (hT _ k_299) (fun _ h9 => h9) rfl (by decide +kernel) (iN_zn (by omega)) (iN_zf (by omega)) (Nat.le_of_ble_eq_true rfl) dX0_takeLoose_38 (fun H locs hP hD hS => ?_)
    have hP : va_P D vwCl [(h, .inr (0, [v_others, v_isSimple, .int (iN 1), .int (iN 1), .int (iN l4), .int (iN (lf + n)), v_seen]))] H := hP
    have hD : va_D A [(h, .inr (0, [v_others, v_isSimple, .int (iN 1), .int (iN 1), .int (iN l4), .int (iN (lf + n)), v_seen]))] := hD
    refine lv_aload_n hx hb dX0_takeLoose_41 rfl (lv_at hl 0 rfl) ?_
    refine lv_aload_n hx hb dX0_takeLoose_42 rfl (lv_at hl 0 rfl) ?_
    refine va_get (D := D) (ci := 0) (v := .int (iN l4)) (C := RX0) (T := TX0) (N := 7) hx hb hT hiX0 hown hK hP 0 rfl rfl 4 (by decide) (hT _ k_300) (fun _ h9 => h9) rfl dX0_takeLoose_43 ?_
    refine iv_if_ne (tgt := 59) hx hb dX0_takeLoose_46 (by decide) (by omega) (fun c46 => ?_) (fun c46 => ?_)
    · refine iv_iconst hx hb dX0_takeLoose_59 ?_
      refine lv_goto (tgt := 64) hx hb dX0_takeLoose_60 (by decide) ?_
      refine va_put (D := D) (ci := 0) (v := .int (iN 1)) (ty := .boolean) (C := RX0) (T := TX0) (N := 7) hx hb hT hiX0 tyX0 tyX0_ok nmX0 hown hK hP hD hS 0 rfl rfl 4 (by decide) (hT _ k_300) (fun _ h9 => h9) rfl (by decide +kernel) (iN_zn (by omega)) (iN_zf (by omega)) (Nat.le_of_ble_eq_true rfl) dX0_takeLoose_64 (fun H locs hP hD hS => ?_)
      have hP : va_P D vwCl [(h, .inr (0, [v_others, v_isSimple, .int (iN 1), .int (iN 1), .int (iN 1), .int (iN (lf + n)), v_seen]))] H := hP
      have hD : va_D A [(h, .inr (0, [v_others, v_isSimple, .int (iN 1), .int (iN 1), .int (iN 1), .int (iN (lf + n)), v_seen]))] := hD
      exact iv_vret hx hb hr hlocks dX0_takeLoose_67 (by omega) (by omega) (1, 1) (by exact ⟨by first | exact (if_pos (by omega)).symm | exact (if_neg (by omega)).symm, by first | exact (if_pos (by omega)).symm | exact (if_neg (by omega)).symm⟩) (by exact hP.sub [0] rfl) (by exact hD.sub [0] (by decide) rfl) hS
    · refine lv_iload_n hx hb dX0_takeLoose_49 rfl (lv_at hl 1 rfl) ?_
      refine iv_iconst hx hb dX0_takeLoose_50 ?_
      refine iv_icmp_ne (tgt := 63) hx hb dX0_takeLoose_51 (by decide) (by omega) (by omega) (fun c51 => ?_) (fun c51 => ?_)
      · refine iv_iconst hx hb dX0_takeLoose_63 ?_
        refine va_put (D := D) (ci := 0) (v := .int (iN 0)) (ty := .boolean) (C := RX0) (T := TX0) (N := 7) hx hb hT hiX0 tyX0 tyX0_ok nmX0 hown hK hP hD hS 0 rfl rfl 4 (by decide) (hT _ k_300) (fun _ h9 => h9) rfl (by decide +kernel) (iN_zn (by omega)) (iN_zf (by omega)) (Nat.le_of_ble_eq_true rfl) dX0_takeLoose_64 (fun H locs hP hD hS => ?_)
        have hP : va_P D vwCl [(h, .inr (0, [v_others, v_isSimple, .int (iN 1), .int (iN 1), .int (iN 0), .int (iN (lf + n)), v_seen]))] H := hP
        have hD : va_D A [(h, .inr (0, [v_others, v_isSimple, .int (iN 1), .int (iN 1), .int (iN 0), .int (iN (lf + n)), v_seen]))] := hD
        exact iv_vret hx hb hr hlocks dX0_takeLoose_67 (by omega) (by omega) (1, 0) (by exact ⟨by first | exact (if_pos (by omega)).symm | exact (if_neg (by omega)).symm, by first | exact (if_pos (by omega)).symm | exact (if_neg (by omega)).symm⟩) (by exact hP.sub [0] rfl) (by exact hD.sub [0] (by decide) rfl) hS
      · refine lv_iload_n hx hb dX0_takeLoose_54 rfl (lv_at hl 2 rfl) ?_
        refine iv_iconst hx hb dX0_takeLoose_55 ?_
        refine iv_icmp_lt (tgt := 63) hx hb dX0_takeLoose_56 (by decide) (by omega) (by omega) (fun c56 => ?_) (fun c56 => ?_)
        · refine iv_iconst hx hb dX0_takeLoose_63 ?_
          refine va_put (D := D) (ci := 0) (v := .int (iN 0)) (ty := .boolean) (C := RX0) (T := TX0) (N := 7) hx hb hT hiX0 tyX0 tyX0_ok nmX0 hown hK hP hD hS 0 rfl rfl 4 (by decide) (hT _ k_300) (fun _ h9 => h9) rfl (by decide +kernel) (iN_zn (by omega)) (iN_zf (by omega)) (Nat.le_of_ble_eq_true rfl) dX0_takeLoose_64 (fun H locs hP hD hS => ?_)
          have hP : va_P D vwCl [(h, .inr (0, [v_others, v_isSimple, .int (iN 1), .int (iN 1), .int (iN 0), .int (iN (lf + n)), v_seen]))] H := hP
          have hD : va_D A [(h, .inr (0, [v_others, v_isSimple, .int (iN 1), .int (iN 1), .int (iN 0), .int (iN (lf + n)), v_seen]))] := hD
          exact iv_vret hx hb hr hlocks dX0_takeLoose_67 (by omega) (by omega) (1, 0) (by exact ⟨by first | exact (if_pos (by omega)).symm | exact (if_neg (by omega)).symm, by first | exact (if_pos (by omega)).symm | exact (if_neg (by omega)).symm⟩) (by exact hP.sub [0] rfl) (by exact hD.sub [0] (by decide) rfl) hS
        · refine iv_iconst hx hb dX0_takeLoose_59 ?_
          refine lv_goto (tgt := 64) hx hb dX0_takeLoose_60 (by decide) ?_
          refine va_put (D := D) (ci := 0) (v := .int (iN 1)) (ty := .boolean) (C := RX0) (T := TX0) (N := 7) hx hb hT hiX0 tyX0 tyX0_ok nmX0 hown hK hP hD hS 0 rfl rfl 4 (by decide) (hT _ k_300) (fun _ h9 => h9) rfl (by decide +kernel) (iN_zn (by omega)) (iN_zf (by omega)) (Nat.le_of_ble_eq_true rfl) dX0_takeLoose_64 (fun H locs hP hD hS => ?_)
          have hP : va_P D vwCl [(h, .inr (0, [v_others, v_isSimple, .int (iN 1), .int (iN 1), .int (iN 1), .int (iN (lf + n)), v_seen]))] H := hP
          have hD : va_D A [(h, .inr (0, [v_others, v_isSimple, .int (iN 1), .int (iN 1), .int (iN 1), .int (iN (lf + n)), v_seen]))] := hD
          exact iv_vret hx hb hr hlocks dX0_takeLoose_67 (by omega) (by omega) (1, 1) (by exact ⟨by first | exact (if_pos (by omega)).symm | exact (if_neg (by omega)).symm, by first | exact (if_pos (by omega)).symm | exact (if_neg (by omega)).symm⟩) (by exact hP.sub [0] rfl) (by exact hD.sub [0] (by decide) rfl) hS
  · refine lv_iload_n hx hb dX0_takeLoose_23 rfl (lv_at hl 1 rfl) ?_
    refine iv_iconst hx hb dX0_takeLoose_24 ?_
    refine iv_icmp_ne (tgt := 37) hx hb dX0_takeLoose_25 (by decide) (by omega) (by omega) (fun c25 => ?_) (fun c25 => ?_)
    · refine iv_iconst hx hb dX0_takeLoose_37 ?_
      refine va_put (D := D) (ci := 0) (v := .int (iN 0)) (ty := .boolean) (C := RX0) (T := TX0) (N := 7) hx hb hT hiX0 tyX0 tyX0_ok nmX0 hown hK hP hD hS 0 rfl rfl 3 (by decide) (hT _ k_299) (fun _ h9 => h9) rfl (by decide +kernel) (iN_zn (by omega)) (iN_zf (by omega)) (Nat.le_of_ble_eq_true rfl) dX0_takeLoose_38 (fun H locs hP hD hS => ?_)
      have hP : va_P D vwCl [(h, .inr (0, [v_others, v_isSimple, .int (iN 1), .int (iN 0), .int (iN l4), .int (iN (lf + n)), v_seen]))] H := hP
      have hD : va_D A [(h, .inr (0, [v_others, v_isSimple, .int (iN 1), .int (iN 0), .int (iN l4), .int (iN (lf + n)), v_seen]))] := hD
      refine lv_aload_n hx hb dX0_takeLoose_41 rfl (lv_at hl 0 rfl) ?_
      refine lv_aload_n hx hb dX0_takeLoose_42 rfl (lv_at hl 0 rfl) ?_
      refine va_get (D := D) (ci := 0) (v := .int (iN l4)) (C := RX0) (T := TX0) (N := 7) hx hb hT hiX0 hown hK hP 0 rfl rfl 4 (by decide) (hT _ k_300) (fun _ h9 => h9) rfl dX0_takeLoose_43 ?_
      refine iv_if_ne (tgt := 59) hx hb dX0_takeLoose_46 (by decide) (by omega) (fun c46 => ?_) (fun c46 => ?_)
      · refine iv_iconst hx hb dX0_takeLoose_59 ?_
        refine lv_goto (tgt := 64) hx hb dX0_takeLoose_60 (by decide) ?_
        refine va_put (D := D) (ci := 0) (v := .int (iN 1)) (ty := .boolean) (C := RX0) (T := TX0) (N := 7) hx hb hT hiX0 tyX0 tyX0_ok nmX0 hown hK hP hD hS 0 rfl rfl 4 (by decide) (hT _ k_300) (fun _ h9 => h9) rfl (by decide +kernel) (iN_zn (by omega)) (iN_zf (by omega)) (Nat.le_of_ble_eq_true rfl) dX0_takeLoose_64 (fun H locs hP hD hS => ?_)
        have hP : va_P D vwCl [(h, .inr (0, [v_others, v_isSimple, .int (iN 1), .int (iN 0), .int (iN 1), .int (iN (lf + n)), v_seen]))] H := hP
        have hD : va_D A [(h, .inr (0, [v_others, v_isSimple, .int (iN 1), .int (iN 0), .int (iN 1), .int (iN (lf + n)), v_seen]))] := hD
        exact iv_vret hx hb hr hlocks dX0_takeLoose_67 (by omega) (by omega) (0, 1) (by exact ⟨by first | exact (if_pos (by omega)).symm | exact (if_neg (by omega)).symm, by first | exact (if_pos (by omega)).symm | exact (if_neg (by omega)).symm⟩) (by exact hP.sub [0] rfl) (by exact hD.sub [0] (by decide) rfl) hS
      · refine lv_iload_n hx hb dX0_takeLoose_49 rfl (lv_at hl 1 rfl) ?_
        refine iv_iconst hx hb dX0_takeLoose_50 ?_
        refine iv_icmp_ne (tgt := 63) hx hb dX0_takeLoose_51 (by decide) (by omega) (by omega) (fun c51 => ?_) (fun c51 => ?_)
        · refine iv_iconst hx hb dX0_takeLoose_63 ?_
          refine va_put (D := D) (ci := 0) (v := .int (iN 0)) (ty := .boolean) (C := RX0) (T := TX0) (N := 7) hx hb hT hiX0 tyX0 tyX0_ok nmX0 hown hK hP hD hS 0 rfl rfl 4 (by decide) (hT _ k_300) (fun _ h9 => h9) rfl (by decide +kernel) (iN_zn (by omega)) (iN_zf (by omega)) (Nat.le_of_ble_eq_true rfl) dX0_takeLoose_64 (fun H locs hP hD hS => ?_)
          have hP : va_P D vwCl [(h, .inr (0, [v_others, v_isSimple, .int (iN 1), .int (iN 0), .int (iN 0), .int (iN (lf + n)), v_seen]))] H := hP
          have hD : va_D A [(h, .inr (0, [v_others, v_isSimple, .int (iN 1), .int (iN 0), .int (iN 0), .int (iN (lf + n)), v_seen]))] := hD
          exact iv_vret hx hb hr hlocks dX0_takeLoose_67 (by omega) (by omega) (0, 0) (by exact ⟨by first | exact (if_pos (by omega)).symm | exact (if_neg (by omega)).symm, by first | exact (if_pos (by omega)).symm | exact (if_neg (by omega)).symm⟩) (by exact hP.sub [0] rfl) (by exact hD.sub [0] (by decide) rfl) hS
        · refine lv_iload_n hx hb dX0_takeLoose_54 rfl (lv_at hl 2 rfl) ?_
          refine iv_iconst hx hb dX0_takeLoose_55 ?_
          refine iv_icmp_lt (tgt := 63) hx hb dX0_takeLoose_56 (by decide) (by omega) (by omega) (fun c56 => ?_) (fun c56 => ?_)
          · refine iv_iconst hx hb dX0_takeLoose_63 ?_
            refine va_put (D := D) (ci := 0) (v := .int (iN 0)) (ty := .boolean) (C := RX0) (T := TX0) (N := 7) hx hb hT hiX0 tyX0 tyX0_ok nmX0 hown hK hP hD hS 0 rfl rfl 4 (by decide) (hT _ k_300) (fun _ h9 => h9) rfl (by decide +kernel) (iN_zn (by omega)) (iN_zf (by omega)) (Nat.le_of_ble_eq_true rfl) dX0_takeLoose_64 (fun H locs hP hD hS => ?_)
            have hP : va_P D vwCl [(h, .inr (0, [v_others, v_isSimple, .int (iN 1), .int (iN 0), .int (iN 0), .int (iN (lf + n)), v_seen]))] H := hP
            have hD : va_D A [(h, .inr (0, [v_others, v_isSimple, .int (iN 1), .int (iN 0), .int (iN 0), .int (iN (lf + n)), v_seen]))] := hD
            exact iv_vret hx hb hr hlocks dX0_takeLoose_67 (by omega) (by omega) (0, 0) (by exact ⟨by first | exact (if_pos (by omega)).symm | exact (if_neg (by omega)).symm, by first | exact (if_pos (by omega)).symm | exact (if_neg (by omega)).symm⟩) (by exact hP.sub [0] rfl) (by exact hD.sub [0] (by decide) rfl) hS
          · refine iv_iconst hx hb dX0_takeLoose_59 ?_
            refine lv_goto (tgt := 64) hx hb dX0_takeLoose_60 (by decide) ?_
            refine va_put (D := D) (ci := 0) (v := .int (iN 1)) (ty := .boolean) (C := RX0) (T := TX0) (N := 7) hx hb hT hiX0 tyX0 tyX0_ok nmX0 hown hK hP hD hS 0 rfl rfl 4 (by decide) (hT _ k_300) (fun _ h9 => h9) rfl (by decide +kernel) (iN_zn (by omega)) (iN_zf (by omega)) (Nat.le_of_ble_eq_true rfl) dX0_takeLoose_64 (fun H locs hP hD hS => ?_)
            have hP : va_P D vwCl [(h, .inr (0, [v_others, v_isSimple, .int (iN 1), .int (iN 0), .int (iN 1), .int (iN (lf + n)), v_seen]))] H := hP
            have hD : va_D A [(h, .inr (0, [v_others, v_isSimple, .int (iN 1), .int (iN 0), .int (iN 1), .int (iN (lf + n)), v_seen]))] := hD
            exact iv_vret hx hb hr hlocks dX0_takeLoose_67 (by omega) (by omega) (0, 1) (by exact ⟨by first | exact (if_pos (by omega)).symm | exact (if_neg (by omega)).symm, by first | exact (if_pos (by omega)).symm | exact (if_neg (by omega)).symm⟩) (by exact hP.sub [0] rfl) (by exact hD.sub [0] (by decide) rfl) hS
    · refine lv_iload_n hx hb dX0_takeLoose_28 rfl (lv_at hl 2 rfl) ?_
      refine iv_iconst hx hb dX0_takeLoose_29 ?_
      refine iv_icmp_lt (tgt := 37) hx hb dX0_takeLoose_30 (by decide) (by omega) (by omega) (fun c30 => ?_) (fun c30 => ?_)
      · refine iv_iconst hx hb dX0_takeLoose_37 ?_
        refine va_put (D := D) (ci := 0) (v := .int (iN 0)) (ty := .boolean) (C := RX0) (T := TX0) (N := 7) hx hb hT hiX0 tyX0 tyX0_ok nmX0 hown hK hP hD hS 0 rfl rfl 3 (by decide) (hT _ k_299) (fun _ h9 => h9) rfl (by decide +kernel) (iN_zn (by omega)) (iN_zf (by omega)) (Nat.le_of_ble_eq_true rfl) dX0_takeLoose_38 (fun H locs hP hD hS => ?_)
        have hP : va_P D vwCl [(h, .inr (0, [v_others, v_isSimple, .int (iN 1), .int (iN 0), .int (iN l4), .int (iN (lf + n)), v_seen]))] H := hP
        have hD : va_D A [(h, .inr (0, [v_others, v_isSimple, .int (iN 1), .int (iN 0), .int (iN l4), .int (iN (lf + n)), v_seen]))] := hD
        refine lv_aload_n hx hb dX0_takeLoose_41 rfl (lv_at hl 0 rfl) ?_
        refine lv_aload_n hx hb dX0_takeLoose_42 rfl (lv_at hl 0 rfl) ?_
        refine va_get (D := D) (ci := 0) (v := .int (iN l4)) (C := RX0) (T := TX0) (N := 7) hx hb hT hiX0 hown hK hP 0 rfl rfl 4 (by decide) (hT _ k_300) (fun _ h9 => h9) rfl dX0_takeLoose_43 ?_
        refine iv_if_ne (tgt := 59) hx hb dX0_takeLoose_46 (by decide) (by omega) (fun c46 => ?_) (fun c46 => ?_)
        · refine iv_iconst hx hb dX0_takeLoose_59 ?_
          refine lv_goto (tgt := 64) hx hb dX0_takeLoose_60 (by decide) ?_
          refine va_put (D := D) (ci := 0) (v := .int (iN 1)) (ty := .boolean) (C := RX0) (T := TX0) (N := 7) hx hb hT hiX0 tyX0 tyX0_ok nmX0 hown hK hP hD hS 0 rfl rfl 4 (by decide) (hT _ k_300) (fun _ h9 => h9) rfl (by decide +kernel) (iN_zn (by omega)) (iN_zf (by omega)) (Nat.le_of_ble_eq_true rfl) dX0_takeLoose_64 (fun H locs hP hD hS => ?_)
          have hP : va_P D vwCl [(h, .inr (0, [v_others, v_isSimple, .int (iN 1), .int (iN 0), .int (iN 1), .int (iN (lf + n)), v_seen]))] H := hP
          have hD : va_D A [(h, .inr (0, [v_others, v_isSimple, .int (iN 1), .int (iN 0), .int (iN 1), .int (iN (lf + n)), v_seen]))] := hD
          exact iv_vret hx hb hr hlocks dX0_takeLoose_67 (by omega) (by omega) (0, 1) (by exact ⟨by first | exact (if_pos (by omega)).symm | exact (if_neg (by omega)).symm, by first | exact (if_pos (by omega)).symm | exact (if_neg (by omega)).symm⟩) (by exact hP.sub [0] rfl) (by exact hD.sub [0] (by decide) rfl) hS
        · refine lv_iload_n hx hb dX0_takeLoose_49 rfl (lv_at hl 1 rfl) ?_
          refine iv_iconst hx hb dX0_takeLoose_50 ?_
          refine iv_icmp_ne (tgt := 63) hx hb dX0_takeLoose_51 (by decide) (by omega) (by omega) (fun c51 => ?_) (fun c51 => ?_)
          · refine iv_iconst hx hb dX0_takeLoose_63 ?_
            refine va_put (D := D) (ci := 0) (v := .int (iN 0)) (ty := .boolean) (C := RX0) (T := TX0) (N := 7) hx hb hT hiX0 tyX0 tyX0_ok nmX0 hown hK hP hD hS 0 rfl rfl 4 (by decide) (hT _ k_300) (fun _ h9 => h9) rfl (by decide +kernel) (iN_zn (by omega)) (iN_zf (by omega)) (Nat.le_of_ble_eq_true rfl) dX0_takeLoose_64 (fun H locs hP hD hS => ?_)
            have hP : va_P D vwCl [(h, .inr (0, [v_others, v_isSimple, .int (iN 1), .int (iN 0), .int (iN 0), .int (iN (lf + n)), v_seen]))] H := hP
            have hD : va_D A [(h, .inr (0, [v_others, v_isSimple, .int (iN 1), .int (iN 0), .int (iN 0), .int (iN (lf + n)), v_seen]))] := hD
            exact iv_vret hx hb hr hlocks dX0_takeLoose_67 (by omega) (by omega) (0, 0) (by exact ⟨by first | exact (if_pos (by omega)).symm | exact (if_neg (by omega)).symm, by first | exact (if_pos (by omega)).symm | exact (if_neg (by omega)).symm⟩) (by exact hP.sub [0] rfl) (by exact hD.sub [0] (by decide) rfl) hS
          · refine lv_iload_n hx hb dX0_takeLoose_54 rfl (lv_at hl 2 rfl) ?_
            refine iv_iconst hx hb dX0_takeLoose_55 ?_
            refine iv_icmp_lt (tgt := 63) hx hb dX0_takeLoose_56 (by decide) (by omega) (by omega) (fun c56 => ?_) (fun c56 => ?_)
            · refine iv_iconst hx hb dX0_takeLoose_63 ?_
              refine va_put (D := D) (ci := 0) (v := .int (iN 0)) (ty := .boolean) (C := RX0) (T := TX0) (N := 7) hx hb hT hiX0 tyX0 tyX0_ok nmX0 hown hK hP hD hS 0 rfl rfl 4 (by decide) (hT _ k_300) (fun _ h9 => h9) rfl (by decide +kernel) (iN_zn (by omega)) (iN_zf (by omega)) (Nat.le_of_ble_eq_true rfl) dX0_takeLoose_64 (fun H locs hP hD hS => ?_)
              have hP : va_P D vwCl [(h, .inr (0, [v_others, v_isSimple, .int (iN 1), .int (iN 0), .int (iN 0), .int (iN (lf + n)), v_seen]))] H := hP
              have hD : va_D A [(h, .inr (0, [v_others, v_isSimple, .int (iN 1), .int (iN 0), .int (iN 0), .int (iN (lf + n)), v_seen]))] := hD
              exact iv_vret hx hb hr hlocks dX0_takeLoose_67 (by omega) (by omega) (0, 0) (by exact ⟨by first | exact (if_pos (by omega)).symm | exact (if_neg (by omega)).symm, by first | exact (if_pos (by omega)).symm | exact (if_neg (by omega)).symm⟩) (by exact hP.sub [0] rfl) (by exact hD.sub [0] (by decide) rfl) hS
            · refine iv_iconst hx hb dX0_takeLoose_59 ?_
              refine lv_goto (tgt := 64) hx hb dX0_takeLoose_60 (by decide) ?_
              refine va_put (D := D) (ci := 0) (v := .int (iN 1)) (ty := .boolean) (C := RX0) (T := TX0) (N := 7) hx hb hT hiX0 tyX0 tyX0_ok nmX0 hown hK hP hD hS 0 rfl rfl 4 (by decide) (hT _ k_300) (fun _ h9 => h9) rfl (by decide +kernel) (iN_zn (by omega)) (iN_zf (by omega)) (Nat.le_of_ble_eq_true rfl) dX0_takeLoose_64 (fun H locs hP hD hS => ?_)
              have hP : va_P D vwCl [(h, .inr (0, [v_others, v_isSimple, .int (iN 1), .int (iN 0), .int (iN 1), .int (iN (lf + n)), v_seen]))] H := hP
              have hD : va_D A [(h, .inr (0, [v_others, v_isSimple, .int (iN 1), .int (iN 0), .int (iN 1), .int (iN (lf + n)), v_seen]))] := hD
              exact iv_vret hx hb hr hlocks dX0_takeLoose_67 (by omega) (by omega) (0, 1) (by exact ⟨by first | exact (if_pos (by omega)).symm | exact (if_neg (by omega)).symm, by first | exact (if_pos (by omega)).symm | exact (if_neg (by omega)).symm⟩) (by exact hP.sub [0] rfl) (by exact hD.sub [0] (by decide) rfl) hS
      · refine iv_iconst hx hb dX0_takeLoose_33 ?_
        refine lv_goto (tgt := 38) hx hb dX0_takeLoose_34 (by decide) ?_
        refine va_put (D := D) (ci := 0) (v := .int (iN 1)) (ty := .boolean) (C := RX0) (T := TX0) (N := 7) hx hb hT hiX0 tyX0 tyX0_ok nmX0 hown hK hP hD hS 0 rfl rfl 3 (by decide) (hT _ k_299) (fun _ h9 => h9) rfl (by decide +kernel) (iN_zn (by omega)) (iN_zf (by omega)) (Nat.le_of_ble_eq_true rfl) dX0_takeLoose_38 (fun H locs hP hD hS => ?_)
        have hP : va_P D vwCl [(h, .inr (0, [v_others, v_isSimple, .int (iN 1), .int (iN 1), .int (iN l4), .int (iN (lf + n)), v_seen]))] H := hP
        have hD : va_D A [(h, .inr (0, [v_others, v_isSimple, .int (iN 1), .int (iN 1), .int (iN l4), .int (iN (lf + n)), v_seen]))] := hD
        refine lv_aload_n hx hb dX0_takeLoose_41 rfl (lv_at hl 0 rfl) ?_
        refine lv_aload_n hx hb dX0_takeLoose_42 rfl (lv_at hl 0 rfl) ?_
        refine va_get (D := D) (ci := 0) (v := .int (iN l4)) (C := RX0) (T := TX0) (N := 7) hx hb hT hiX0 hown hK hP 0 rfl rfl 4 (by decide) (hT _ k_300) (fun _ h9 => h9) rfl dX0_takeLoose_43 ?_
        refine iv_if_ne (tgt := 59) hx hb dX0_takeLoose_46 (by decide) (by omega) (fun c46 => ?_) (fun c46 => ?_)
        · refine iv_iconst hx hb dX0_takeLoose_59 ?_
          refine lv_goto (tgt := 64) hx hb dX0_takeLoose_60 (by decide) ?_
          refine va_put (D := D) (ci := 0) (v := .int (iN 1)) (ty := .boolean) (C := RX0) (T := TX0) (N := 7) hx hb hT hiX0 tyX0 tyX0_ok nmX0 hown hK hP hD hS 0 rfl rfl 4 (by decide) (hT _ k_300) (fun _ h9 => h9) rfl (by decide +kernel) (iN_zn (by omega)) (iN_zf (by omega)) (Nat.le_of_ble_eq_true rfl) dX0_takeLoose_64 (fun H locs hP hD hS => ?_)
          have hP : va_P D vwCl [(h, .inr (0, [v_others, v_isSimple, .int (iN 1), .int (iN 1), .int (iN 1), .int (iN (lf + n)), v_seen]))] H := hP
          have hD : va_D A [(h, .inr (0, [v_others, v_isSimple, .int (iN 1), .int (iN 1), .int (iN 1), .int (iN (lf + n)), v_seen]))] := hD
          exact iv_vret hx hb hr hlocks dX0_takeLoose_67 (by omega) (by omega) (1, 1) (by exact ⟨by first | exact (if_pos (by omega)).symm | exact (if_neg (by omega)).symm, by first | exact (if_pos (by omega)).symm | exact (if_neg (by omega)).symm⟩) (by exact hP.sub [0] rfl) (by exact hD.sub [0] (by decide) rfl) hS
        · refine lv_iload_n hx hb dX0_takeLoose_49 rfl (lv_at hl 1 rfl) ?_
          refine iv_iconst hx hb dX0_takeLoose_50 ?_
          refine iv_icmp_ne (tgt := 63) hx hb dX0_takeLoose_51 (by decide) (by omega) (by omega) (fun c51 => ?_) (fun c51 => ?_)
          · refine iv_iconst hx hb dX0_takeLoose_63 ?_
            refine va_put (D := D) (ci := 0) (v := .int (iN 0)) (ty := .boolean) (C := RX0) (T := TX0) (N := 7) hx hb hT hiX0 tyX0 tyX0_ok nmX0 hown hK hP hD hS 0 rfl rfl 4 (by decide) (hT _ k_300) (fun _ h9 => h9) rfl (by decide +kernel) (iN_zn (by omega)) (iN_zf (by omega)) (Nat.le_of_ble_eq_true rfl) dX0_takeLoose_64 (fun H locs hP hD hS => ?_)
            have hP : va_P D vwCl [(h, .inr (0, [v_others, v_isSimple, .int (iN 1), .int (iN 1), .int (iN 0), .int (iN (lf + n)), v_seen]))] H := hP
            have hD : va_D A [(h, .inr (0, [v_others, v_isSimple, .int (iN 1), .int (iN 1), .int (iN 0), .int (iN (lf + n)), v_seen]))] := hD
            exact iv_vret hx hb hr hlocks dX0_takeLoose_67 (by omega) (by omega) (1, 0) (by exact ⟨by first | exact (if_pos (by omega)).symm | exact (if_neg (by omega)).symm, by first | exact (if_pos (by omega)).symm | exact (if_neg (by omega)).symm⟩) (by exact hP.sub [0] rfl) (by exact hD.sub [0] (by decide) rfl) hS
          · refine lv_iload_n hx hb dX0_takeLoose_54 rfl (lv_at hl 2 rfl) ?_
            refine iv_iconst hx hb dX0_takeLoose_55 ?_
            refine iv_icmp_lt (tgt := 63) hx hb dX0_takeLoose_56 (by decide) (by omega) (by omega) (fun c56 => ?_) (fun c56 => ?_)
            · refine iv_iconst hx hb dX0_takeLoose_63 ?_
              refine va_put (D := D) (ci := 0) (v := .int (iN 0)) (ty := .boolean) (C := RX0) (T := TX0) (N := 7) hx hb hT hiX0 tyX0 tyX0_ok nmX0 hown hK hP hD hS 0 rfl rfl 4 (by decide) (hT _ k_300) (fun _ h9 => h9) rfl (by decide +kernel) (iN_zn (by omega)) (iN_zf (by omega)) (Nat.le_of_ble_eq_true rfl) dX0_takeLoose_64 (fun H locs hP hD hS => ?_)
              have hP : va_P D vwCl [(h, .inr (0, [v_others, v_isSimple, .int (iN 1), .int (iN 1), .int (iN 0), .int (iN (lf + n)), v_seen]))] H := hP
              have hD : va_D A [(h, .inr (0, [v_others, v_isSimple, .int (iN 1), .int (iN 1), .int (iN 0), .int (iN (lf + n)), v_seen]))] := hD
              exact iv_vret hx hb hr hlocks dX0_takeLoose_67 (by omega) (by omega) (1, 0) (by exact ⟨by first | exact (if_pos (by omega)).symm | exact (if_neg (by omega)).symm, by first | exact (if_pos (by omega)).symm | exact (if_neg (by omega)).symm⟩) (by exact hP.sub [0] rfl) (by exact hD.sub [0] (by decide) rfl) hS
            · refine iv_iconst hx hb dX0_takeLoose_59 ?_
              refine lv_goto (tgt := 64) hx hb dX0_takeLoose_60 (by decide) ?_
              refine va_put (D := D) (ci := 0) (v := .int (iN 1)) (ty := .boolean) (C := RX0) (T := TX0) (N := 7) hx hb hT hiX0 tyX0 tyX0_ok nmX0 hown hK hP hD hS 0 rfl rfl 4 (by decide) (hT _ k_300) (fun _ h9 => h9) rfl (by decide +kernel) (iN_zn (by omega)) (iN_zf (by omega)) (Nat.le_of_ble_eq_true rfl) dX0_takeLoose_64 (fun H locs hP hD hS => ?_)
              have hP : va_P D vwCl [(h, .inr (0, [v_others, v_isSimple, .int (iN 1), .int (iN 1), .int (iN 1), .int (iN (lf + n)), v_seen]))] H := hP
              have hD : va_D A [(h, .inr (0, [v_others, v_isSimple, .int (iN 1), .int (iN 1), .int (iN 1), .int (iN (lf + n)), v_seen]))] := hD
              exact iv_vret hx hb hr hlocks dX0_takeLoose_67 (by omega) (by omega) (1, 1) (by exact ⟨by first | exact (if_pos (by omega)).symm | exact (if_neg (by omega)).symm, by first | exact (if_pos (by omega)).symm | exact (if_neg (by omega)).symm⟩) (by exact hP.sub [0] rfl) (by exact hD.sub [0] (by decide) rfl) hS
set_option maxHeartbeats 4000000 in
set_option maxRecDepth 100000 in
theorem ok_X0_canLeave (l : Launch) (D : va_G) (h : Nat) (v_others : Value) (v_isSimple : Value) (v_hasLoose : Value) (v_looseFields : Value) (v_seen : Value) (l2 : Int) (l4 : Int) (sz : Nat) (hl2 : l2 = 0 ∨ l2 = 1) (hl4 : l4 = 0 ∨ l4 = 1) : MetI l yX0_canLeave (wd yX0_canLeave cX0_canLeave 1 (some .boolean)) ({ frames := 0, cells := 0, slots := 0, locals := 0 } : Room) [.ref h] D [] [(h, .inr (0, [v_others, v_isSimple, v_hasLoose, .int (iN l2), .int (iN l4), v_looseFields, v_seen]))] sz (fun _ : Unit => [(h, .inr (0, [v_others, v_isSimple, v_hasLoose, .int (iN l2), .int (iN l4), v_looseFields, v_seen]))]) (fun z _ => (z = 1 ∧ (l2 = 1 ∨ l4 = 1)) ∨ (z = 0 ∧ (¬ (l2 = 1 ∨ l4 = 1)))) 0 0 := by
  refine iv_mkI (cc := cX0_canLeave) (maxL := 1) (by decide) rfl (Nat.le_of_ble_eq_true rfl) ?_
  intro p e s m below meth c A H ls hx hb hr hts hown hlocks hin hml hN hA hK hP hD hS hl
  have hT : ∀ w ∈ T0, w.before [.ref h].toArray s = true := fun w h => hts w (List.mem_cons_of_mem _ h)
  have hown : s.vm.findClass RX0 = some m.cls := hown
  have hl : lv_has ls 1 [(0, .ref h)] := hl
  refine lv_aload_n hx hb dX0_canLeave_0 rfl (lv_at hl 0 rfl) ?_
  refine va_get (D := D) (ci := 0) (v := .int (iN l2)) (C := RX0) (T := TX0) (N := 7) hx hb hT hiX0 hown hK hP 0 rfl rfl 3 (by decide) (hT _ k_299) (fun _ h9 => h9) rfl dX0_canLeave_1 ?_
  refine iv_if_ne (tgt := 14) hx hb dX0_canLeave_4 (by decide) (by omega) (fun c4 => ?_) (fun c4 => ?_)
  · refine iv_iconst hx hb dX0_canLeave_14 ?_
    refine lv_goto (tgt := 19) hx hb dX0_canLeave_15 (by decide) ?_
    exact iv_zret hx hb hr hlocks dX0_canLeave_19 (by omega) (by omega) (by omega) () (by first | exact Or.inl ⟨rfl, by omega⟩ | exact Or.inr ⟨rfl, by omega⟩) (by exact hP.sub [0] rfl) (by exact hD.sub [0] (by decide) rfl) hS
  · refine lv_aload_n hx hb dX0_canLeave_7 rfl (lv_at hl 0 rfl) ?_
    refine va_get (D := D) (ci := 0) (v := .int (iN l4)) (C := RX0) (T := TX0) (N := 7) hx hb hT hiX0 hown hK hP 0 rfl rfl 4 (by decide) (hT _ k_300) (fun _ h9 => h9) rfl dX0_canLeave_8 ?_
    refine iv_if_eq (tgt := 18) hx hb dX0_canLeave_11 (by decide) (by omega) (fun c11 => ?_) (fun c11 => ?_)
    · refine iv_iconst hx hb dX0_canLeave_18 ?_
      exact iv_zret hx hb hr hlocks dX0_canLeave_19 (by omega) (by omega) (by omega) () (by first | exact Or.inl ⟨rfl, by omega⟩ | exact Or.inr ⟨rfl, by omega⟩) (by exact hP.sub [0] rfl) (by exact hD.sub [0] (by decide) rfl) hS
    · refine iv_iconst hx hb dX0_canLeave_14 ?_
      refine lv_goto (tgt := 19) hx hb dX0_canLeave_15 (by decide) ?_
      exact iv_zret hx hb hr hlocks dX0_canLeave_19 (by omega) (by omega) (by omega) () (by first | exact Or.inl ⟨rfl, by omega⟩ | exact Or.inr ⟨rfl, by omega⟩) (by exact hP.sub [0] rfl) (by exact hD.sub [0] (by decide) rfl) hS
set_option maxHeartbeats 4000000 in
set_option maxRecDepth 100000 in
theorem ok_X0_closingAll (l : Launch) (D : va_G) (cI : ClassId) (h : Nat) (o : Nat) (a_v_o : Nat) (v_isSimple : Value) (v_hasLoose : Value) (v_canLeaveTwo : Value) (v_canLeaveFour : Value) (v_seen : Value) (v_numbers_o : Value) (v_place_o : Value) (v_length_o : Value) (v_cost_o : Value) (v_step_o : Value) (v_digit_o : Value) (v_different_o : Value) (v_kinds_o : Value) (v_fresh_o : Value) (va : Int → Int) (lf : Int) (hp : Int) (nV : Nat) (sz : Nat) (hnV : (nV : Int) < 2147483648) (hhp : 1 ≤ hp ∧ hp ≤ (nV : Int)) : MetI l yX0_closingAll (wd yX0_closingAll cX0_closingAll 1 (some .int)) ({ frames := 1, cells := 0, slots := 0, locals := 20 } : Room) [.ref h] D [(cI, .int)] [(h, .inr (0, [.ref o, v_isSimple, v_hasLoose, v_canLeaveTwo, v_canLeaveFour, .int (iN lf), v_seen])), (o, .inr (1, [v_numbers_o, v_place_o, v_length_o, v_cost_o, v_step_o, v_digit_o, v_different_o, v_kinds_o, .int (iN hp), v_fresh_o, .ref a_v_o])), (a_v_o, .inl (cI, nV, .inl (ar va)))] sz (fun _ : Unit => [(h, .inr (0, [.ref o, v_isSimple, v_hasLoose, v_canLeaveTwo, v_canLeaveFour, .int (iN lf), v_seen])), (o, .inr (1, [v_numbers_o, v_place_o, v_length_o, v_cost_o, v_step_o, v_digit_o, v_different_o, v_kinds_o, .int (iN hp), v_fresh_o, .ref a_v_o])), (a_v_o, .inl (cI, nV, .inl (ar va)))]) (fun z _ => z = lf + va (hp - 1)) 0 0 := by
  refine iv_mkI (cc := cX0_closingAll) (maxL := 1) (by decide) rfl (Nat.le_of_ble_eq_true rfl) ?_
  intro p e s m below meth c A H ls hx hb hr hts hown hlocks hin hml hN hA hK hP hD hS hl
  have hT : ∀ w ∈ T0, w.before [.ref h].toArray s = true := fun w h => hts w (List.mem_cons_of_mem _ h)
  have hown : s.vm.findClass RX0 = some m.cls := hown
  have hl : lv_has ls 1 [(0, .ref h)] := hl
  refine lv_aload_n hx hb dX0_closingAll_0 rfl (lv_at hl 0 rfl) ?_
  refine va_get (D := D) (ci := 0) (v := .int (iN lf)) (C := RX0) (T := TX0) (N := 7) hx hb hT hiX0 hown hK hP 0 rfl rfl 5 (by decide) (hT _ k_301) (fun _ h9 => h9) rfl dX0_closingAll_1 ?_
  refine lv_aload_n hx hb dX0_closingAll_4 rfl (lv_at hl 0 rfl) ?_
  refine va_get (D := D) (ci := 0) (v := .ref o) (C := RX0) (T := TX0) (N := 7) hx hb hT hiX0 hown hK hP 0 rfl rfl 0 (by decide) (hT _ k_294) (fun _ h9 => h9) rfl dX0_closingAll_5 ?_
  refine iv_callV (mc := 0) (ms := 0) (wc := [(o, .inr (1, [v_numbers_o, v_place_o, v_length_o, v_cost_o, v_step_o, v_digit_o, v_different_o, v_kinds_o, .int (iN hp), v_fresh_o, .ref a_v_o])), (a_v_o, .inl (cI, nV, .inl (ar va)))]) (wr := [(h, .inr (0, [.ref o, v_isSimple, v_hasLoose, v_canLeaveTwo, v_canLeaveFour, .int (iN lf), v_seen]))]) (As := []) (rest := [.int (iN lf)]) ⟨hx, hb, hml, hown, hT⟩ (ok_X1_whole l D cI o a_v_o v_numbers_o v_place_o v_length_o v_cost_o v_step_o v_digit_o v_different_o v_kinds_o v_fresh_o va hp nV H.size (by first | with_reducible assumption | omega | assumption) (by first | with_reducible assumption | omega | assumption)) (iv_cw 0 hT k_694 k_65 k_691 k_692 k_693 (by decide +kernel) rfl rfl ⟨Nat.le_of_ble_eq_true rfl, Nat.le_of_ble_eq_true rfl⟩) hN hK hP hD hS hA [1, 2] [0] [0] rfl rfl (by decide) (by decide) (by decide) rfl 0 (ci := 1) rfl rfl rfl hl.1 rfl (Nat.le_of_ble_eq_true rfl) dX0_closingAll_8 ⟨Nat.le_of_ble_eq_true rfl, Nat.le_of_ble_eq_true rfl⟩ (fun z8 u8 H locs hw8 hP hD hS => ?_)
  obtain rfl := hw8
  have hP := hP.sub (ws' := [(h, .inr (0, [.ref o, v_isSimple, v_hasLoose, v_canLeaveTwo, v_canLeaveFour, .int (iN lf), v_seen])), (o, .inr (1, [v_numbers_o, v_place_o, v_length_o, v_cost_o, v_step_o, v_digit_o, v_different_o, v_kinds_o, .int (iN hp), v_fresh_o, .ref a_v_o])), (a_v_o, .inl (cI, nV, .inl (ar va)))]) [0, 1, 2] rfl
  have hD := hD.sub (ws' := [(h, .inr (0, [.ref o, v_isSimple, v_hasLoose, v_canLeaveTwo, v_canLeaveFour, .int (iN lf), v_seen])), (o, .inr (1, [v_numbers_o, v_place_o, v_length_o, v_cost_o, v_step_o, v_digit_o, v_different_o, v_kinds_o, .int (iN hp), v_fresh_o, .ref a_v_o])), (a_v_o, .inl (cI, nV, .inl (ar va)))]) [0, 1, 2] (by decide) rfl
  refine iv_iadd hx hb dX0_closingAll_11 ?_
  exact iv_iret hx hb hr hlocks dX0_closingAll_12 (by omega) (by omega) () (by rfl) (by exact hP.sub [0, 1, 2] rfl) (by exact hD.sub [0, 1, 2] (by decide) rfl) hS
set_option maxHeartbeats 4000000 in
set_option maxRecDepth 100000 in
theorem ok_X0_leavingSome (l : Launch) (D : va_G) (cI : ClassId) (h : Nat) (o : Nat) (a_v_o : Nat) (v_isSimple : Value) (v_hasLoose : Value) (v_canLeaveFour : Value) (v_seen : Value) (v_numbers_o : Value) (v_place_o : Value) (v_length_o : Value) (v_cost_o : Value) (v_step_o : Value) (v_digit_o : Value) (v_different_o : Value) (v_kinds_o : Value) (v_fresh_o : Value) (va : Int → Int) (l2 : Int) (lf : Int) (hp : Int) (nV : Nat) (sz : Nat) (hnV : (nV : Int) < 2147483648) (hhp : 1 ≤ hp ∧ hp ≤ (nV : Int)) (hl2 : l2 = 0 ∨ l2 = 1) : MetI l yX0_leavingSome (wd yX0_leavingSome cX0_leavingSome 1 (some .int)) ({ frames := 1, cells := 0, slots := 0, locals := 20 } : Room) [.ref h] D [(cI, .int)] [(h, .inr (0, [.ref o, v_isSimple, v_hasLoose, .int (iN l2), v_canLeaveFour, .int (iN lf), v_seen])), (o, .inr (1, [v_numbers_o, v_place_o, v_length_o, v_cost_o, v_step_o, v_digit_o, v_different_o, v_kinds_o, .int (iN hp), v_fresh_o, .ref a_v_o])), (a_v_o, .inl (cI, nV, .inl (ar va)))] sz (fun _ : Unit => [(h, .inr (0, [.ref o, v_isSimple, v_hasLoose, .int (iN l2), v_canLeaveFour, .int (iN lf), v_seen])), (o, .inr (1, [v_numbers_o, v_place_o, v_length_o, v_cost_o, v_step_o, v_digit_o, v_different_o, v_kinds_o, .int (iN hp), v_fresh_o, .ref a_v_o])), (a_v_o, .inl (cI, nV, .inl (ar va)))]) (fun z _ => z = lf - (if l2 = 1 then 4 else 8) - va (hp - 1)) 0 0 := by
  refine iv_mkI (cc := cX0_leavingSome) (maxL := 1) (by decide) rfl (Nat.le_of_ble_eq_true rfl) ?_
  intro p e s m below meth c A H ls hx hb hr hts hown hlocks hin hml hN hA hK hP hD hS hl
  have hT : ∀ w ∈ T0, w.before [.ref h].toArray s = true := fun w h => hts w (List.mem_cons_of_mem _ h)
  have hown : s.vm.findClass RX0 = some m.cls := hown
  have hl : lv_has ls 1 [(0, .ref h)] := hl
  refine lv_aload_n hx hb dX0_leavingSome_0 rfl (lv_at hl 0 rfl) ?_
  refine va_get (D := D) (ci := 0) (v := .int (iN lf)) (C := RX0) (T := TX0) (N := 7) hx hb hT hiX0 hown hK hP 0 rfl rfl 5 (by decide) (hT _ k_301) (fun _ h9 => h9) rfl dX0_leavingSome_1 ?_
  refine lv_aload_n hx hb dX0_leavingSome_4 rfl (lv_at hl 0 rfl) ?_
  refine va_get (D := D) (ci := 0) (v := .int (iN l2)) (C := RX0) (T := TX0) (N := 7) hx hb hT hiX0 hown hK hP 0 rfl rfl 3 (by decide) (hT _ k_299) (fun _ h9 => h9) rfl dX0_leavingSome_5 ?_
  refine iv_if_eq (tgt := 15) hx hb dX0_leavingSome_8 (by decide) (by omega) (fun c8 => ?_) (fun c8 => ?_)
  · refine iv_bipush hx hb dX0_leavingSome_15 (by decide) ?_
    refine iv_isub hx hb dX0_leavingSome_17 ?_
    refine lv_aload_n hx hb dX0_leavingSome_18 rfl (lv_at hl 0 rfl) ?_
    refine va_get (D := D) (ci := 0) (v := .ref o) (C := RX0) (T := TX0) (N := 7) hx hb hT hiX0 hown hK hP 0 rfl rfl 0 (by decide) (hT _ k_294) (fun _ h9 => h9) rfl dX0_leavingSome_19 ?_
    refine iv_callV (mc := 0) (ms := 0) (wc := [(o, .inr (1, [v_numbers_o, v_place_o, v_length_o, v_cost_o, v_step_o, v_digit_o, v_different_o, v_kinds_o, .int (iN hp), v_fresh_o, .ref a_v_o])), (a_v_o, .inl (cI, nV, .inl (ar va)))]) (wr := [(h, .inr (0, [.ref o, v_isSimple, v_hasLoose, .int (iN l2), v_canLeaveFour, .int (iN lf), v_seen]))]) (As := []) (rest := [.int (iN (lf - 8))]) ⟨hx, hb, hml, hown, hT⟩ (ok_X1_whole l D cI o a_v_o v_numbers_o v_place_o v_length_o v_cost_o v_step_o v_digit_o v_different_o v_kinds_o v_fresh_o va hp nV H.size (by first | with_reducible assumption | omega | assumption) (by first | with_reducible assumption | omega | assumption)) (iv_cw 0 hT k_694 k_65 k_691 k_692 k_693 (by decide +kernel) rfl rfl ⟨Nat.le_of_ble_eq_true rfl, Nat.le_of_ble_eq_true rfl⟩) hN hK hP hD hS hA [1, 2] [0] [0] rfl rfl (by decide) (by decide) (by decide) rfl 0 (ci := 1) rfl rfl rfl hl.1 rfl (Nat.le_of_ble_eq_true rfl) dX0_leavingSome_22 ⟨Nat.le_of_ble_eq_true rfl, Nat.le_of_ble_eq_true rfl⟩ (fun z22 u22 H locs hw22 hP hD hS => ?_)
    obtain rfl := hw22
    have hP := hP.sub (ws' := [(h, .inr (0, [.ref o, v_isSimple, v_hasLoose, .int (iN l2), v_canLeaveFour, .int (iN lf), v_seen])), (o, .inr (1, [v_numbers_o, v_place_o, v_length_o, v_cost_o, v_step_o, v_digit_o, v_different_o, v_kinds_o, .int (iN hp), v_fresh_o, .ref a_v_o])), (a_v_o, .inl (cI, nV, .inl (ar va)))]) [0, 1, 2] rfl
    have hD := hD.sub (ws' := [(h, .inr (0, [.ref o, v_isSimple, v_hasLoose, .int (iN l2), v_canLeaveFour, .int (iN lf), v_seen])), (o, .inr (1, [v_numbers_o, v_place_o, v_length_o, v_cost_o, v_step_o, v_digit_o, v_different_o, v_kinds_o, .int (iN hp), v_fresh_o, .ref a_v_o])), (a_v_o, .inl (cI, nV, .inl (ar va)))]) [0, 1, 2] (by decide) rfl
    refine iv_isub hx hb dX0_leavingSome_25 ?_
    exact iv_iret hx hb hr hlocks dX0_leavingSome_26 (by omega) (by omega) () (by first | (rw [if_pos (by omega)]; done) | (rw [if_neg (by omega)]; done)) (by exact hP.sub [0, 1, 2] rfl) (by exact hD.sub [0, 1, 2] (by decide) rfl) hS
  · refine iv_iconst hx hb dX0_leavingSome_11 ?_
    refine lv_goto (tgt := 17) hx hb dX0_leavingSome_12 (by decide) ?_
    refine iv_isub hx hb dX0_leavingSome_17 ?_
    refine lv_aload_n hx hb dX0_leavingSome_18 rfl (lv_at hl 0 rfl) ?_
    refine va_get (D := D) (ci := 0) (v := .ref o) (C := RX0) (T := TX0) (N := 7) hx hb hT hiX0 hown hK hP 0 rfl rfl 0 (by decide) (hT _ k_294) (fun _ h9 => h9) rfl dX0_leavingSome_19 ?_
    refine iv_callV (mc := 0) (ms := 0) (wc := [(o, .inr (1, [v_numbers_o, v_place_o, v_length_o, v_cost_o, v_step_o, v_digit_o, v_different_o, v_kinds_o, .int (iN hp), v_fresh_o, .ref a_v_o])), (a_v_o, .inl (cI, nV, .inl (ar va)))]) (wr := [(h, .inr (0, [.ref o, v_isSimple, v_hasLoose, .int (iN l2), v_canLeaveFour, .int (iN lf), v_seen]))]) (As := []) (rest := [.int (iN (lf - 4))]) ⟨hx, hb, hml, hown, hT⟩ (ok_X1_whole l D cI o a_v_o v_numbers_o v_place_o v_length_o v_cost_o v_step_o v_digit_o v_different_o v_kinds_o v_fresh_o va hp nV H.size (by first | with_reducible assumption | omega | assumption) (by first | with_reducible assumption | omega | assumption)) (iv_cw 0 hT k_694 k_65 k_691 k_692 k_693 (by decide +kernel) rfl rfl ⟨Nat.le_of_ble_eq_true rfl, Nat.le_of_ble_eq_true rfl⟩) hN hK hP hD hS hA [1, 2] [0] [0] rfl rfl (by decide) (by decide) (by decide) rfl 0 (ci := 1) rfl rfl rfl hl.1 rfl (Nat.le_of_ble_eq_true rfl) dX0_leavingSome_22 ⟨Nat.le_of_ble_eq_true rfl, Nat.le_of_ble_eq_true rfl⟩ (fun z22 u22 H locs hw22 hP hD hS => ?_)
    obtain rfl := hw22
    have hP := hP.sub (ws' := [(h, .inr (0, [.ref o, v_isSimple, v_hasLoose, .int (iN l2), v_canLeaveFour, .int (iN lf), v_seen])), (o, .inr (1, [v_numbers_o, v_place_o, v_length_o, v_cost_o, v_step_o, v_digit_o, v_different_o, v_kinds_o, .int (iN hp), v_fresh_o, .ref a_v_o])), (a_v_o, .inl (cI, nV, .inl (ar va)))]) [0, 1, 2] rfl
    have hD := hD.sub (ws' := [(h, .inr (0, [.ref o, v_isSimple, v_hasLoose, .int (iN l2), v_canLeaveFour, .int (iN lf), v_seen])), (o, .inr (1, [v_numbers_o, v_place_o, v_length_o, v_cost_o, v_step_o, v_digit_o, v_different_o, v_kinds_o, .int (iN hp), v_fresh_o, .ref a_v_o])), (a_v_o, .inl (cI, nV, .inl (ar va)))]) [0, 1, 2] (by decide) rfl
    refine iv_isub hx hb dX0_leavingSome_25 ?_
    exact iv_iret hx hb hr hlocks dX0_leavingSome_26 (by omega) (by omega) () (by first | (rw [if_pos (by omega)]; done) | (rw [if_neg (by omega)]; done)) (by exact hP.sub [0, 1, 2] rfl) (by exact hD.sub [0, 1, 2] (by decide) rfl) hS
set_option maxHeartbeats 4000000 in
set_option maxRecDepth 100000 in
theorem ok_X0_worthByLengths (l : Launch) (D : va_G) (cI : ClassId) (h : Nat) (o : Nat) (a_v_o : Nat) (v_isSimple : Value) (v_hasLoose : Value) (v_seen : Value) (v_numbers_o : Value) (v_place_o : Value) (v_length_o : Value) (v_cost_o : Value) (v_step_o : Value) (v_digit_o : Value) (v_different_o : Value) (v_kinds_o : Value) (v_fresh_o : Value) (va : Int → Int) (l2 : Int) (l4 : Int) (lf : Int) (hp : Int) (nV : Nat) (sz : Nat) (hnV : (nV : Int) < 2147483648) (hhp : 1 ≤ hp ∧ hp ≤ (nV : Int)) (hl2 : l2 = 0 ∨ l2 = 1) (hl4 : l4 = 0 ∨ l4 = 1) (hlf : 0 ≤ lf ∧ lf ≤ 100000) (hvb : -10000000 ≤ va (hp - 1) ∧ va (hp - 1) ≤ 10000000) : MetI l yX0_worthByLengths (wd yX0_worthByLengths cX0_worthByLengths 2 (some .int)) ({ frames := 2, cells := 0, slots := 0, locals := 40 } : Room) [.ref h] D [(cI, .int)] [(h, .inr (0, [.ref o, v_isSimple, v_hasLoose, .int (iN l2), .int (iN l4), .int (iN lf), v_seen])), (o, .inr (1, [v_numbers_o, v_place_o, v_length_o, v_cost_o, v_step_o, v_digit_o, v_different_o, v_kinds_o, .int (iN hp), v_fresh_o, .ref a_v_o])), (a_v_o, .inl (cI, nV, .inl (ar va)))] sz (fun _ : Unit => [(h, .inr (0, [.ref o, v_isSimple, v_hasLoose, .int (iN l2), .int (iN l4), .int (iN lf), v_seen])), (o, .inr (1, [v_numbers_o, v_place_o, v_length_o, v_cost_o, v_step_o, v_digit_o, v_different_o, v_kinds_o, .int (iN hp), v_fresh_o, .ref a_v_o])), (a_v_o, .inl (cI, nV, .inl (ar va)))]) (fun z _ => z = if l2 = 1 ∨ l4 = 1 then max (lf + va (hp - 1)) (lf - (if l2 = 1 then 4 else 8) - va (hp - 1)) else lf + va (hp - 1)) 0 0 := by
  refine iv_mkI (cc := cX0_worthByLengths) (maxL := 2) (by decide) rfl (Nat.le_of_ble_eq_true rfl) ?_
  intro p e s m below meth c A H ls hx hb hr hts hown hlocks hin hml hN hA hK hP hD hS hl
  have hT : ∀ w ∈ T0, w.before [.ref h].toArray s = true := fun w h => hts w (List.mem_cons_of_mem _ h)
  have hown : s.vm.findClass RX0 = some m.cls := hown
  have hl : lv_has ls 2 [(0, .ref h)] := hl
  have hs4 : (if l2 = 1 then (4 : Int) else 8) = 4 ∨ (if l2 = 1 then (4 : Int) else 8) = 8 := by split <;> omega
  refine lv_aload_n hx hb dX0_worthByLengths_0 rfl (lv_at hl 0 rfl) ?_
  refine iv_callV (mc := 0) (ms := 0) (wc := [(h, .inr (0, [.ref o, v_isSimple, v_hasLoose, .int (iN l2), .int (iN l4), .int (iN lf), v_seen])), (o, .inr (1, [v_numbers_o, v_place_o, v_length_o, v_cost_o, v_step_o, v_digit_o, v_different_o, v_kinds_o, .int (iN hp), v_fresh_o, .ref a_v_o])), (a_v_o, .inl (cI, nV, .inl (ar va)))]) (wr := []) (As := []) (rest := []) ⟨hx, hb, hml, hown, hT⟩ (ok_X0_closingAll l D cI h o a_v_o v_isSimple v_hasLoose (.int (iN l2)) (.int (iN l4)) v_seen v_numbers_o v_place_o v_length_o v_cost_o v_step_o v_digit_o v_different_o v_kinds_o v_fresh_o va lf hp nV H.size (by first | with_reducible assumption | omega | assumption) (by first | with_reducible assumption | omega | assumption)) (iv_cw 0 hT k_690 k_64 k_687 k_689 k_36 (by decide +kernel) rfl rfl ⟨Nat.le_of_ble_eq_true rfl, Nat.le_of_ble_eq_true rfl⟩) hN hK hP hD hS hA [0, 1, 2] [] [0] rfl rfl (by decide) (by decide) (by decide) rfl 0 (ci := 0) rfl rfl rfl hl.1 rfl (Nat.le_of_ble_eq_true rfl) dX0_worthByLengths_1 ⟨Nat.le_of_ble_eq_true rfl, Nat.le_of_ble_eq_true rfl⟩ (fun z1 u1 H locs hw1 hP hD hS => ?_)
  obtain rfl := hw1
  have hP := hP.sub (ws' := [(h, .inr (0, [.ref o, v_isSimple, v_hasLoose, .int (iN l2), .int (iN l4), .int (iN lf), v_seen])), (o, .inr (1, [v_numbers_o, v_place_o, v_length_o, v_cost_o, v_step_o, v_digit_o, v_different_o, v_kinds_o, .int (iN hp), v_fresh_o, .ref a_v_o])), (a_v_o, .inl (cI, nV, .inl (ar va)))]) [0, 1, 2] rfl
  have hD := hD.sub (ws' := [(h, .inr (0, [.ref o, v_isSimple, v_hasLoose, .int (iN l2), .int (iN l4), .int (iN lf), v_seen])), (o, .inr (1, [v_numbers_o, v_place_o, v_length_o, v_cost_o, v_step_o, v_digit_o, v_different_o, v_kinds_o, .int (iN hp), v_fresh_o, .ref a_v_o])), (a_v_o, .inl (cI, nV, .inl (ar va)))]) [0, 1, 2] (by decide) rfl
  refine lv_istore_n (lv' := [(1, .int (iN (lf + va (hp - 1)))), (0, .ref h)]) hx hb dX0_worthByLengths_4 rfl hl (by decide) rfl (fun ls hl => ?_)
  refine lv_aload_n hx hb dX0_worthByLengths_5 rfl (lv_at hl 1 rfl) ?_
  refine iv_callV (mc := 0) (ms := 0) (wc := [(h, .inr (0, [.ref o, v_isSimple, v_hasLoose, .int (iN l2), .int (iN l4), .int (iN lf), v_seen]))]) (wr := [(o, .inr (1, [v_numbers_o, v_place_o, v_length_o, v_cost_o, v_step_o, v_digit_o, v_different_o, v_kinds_o, .int (iN hp), v_fresh_o, .ref a_v_o])), (a_v_o, .inl (cI, nV, .inl (ar va)))]) (As := []) (rest := []) ⟨hx, hb, hml, hown, hT⟩ (ok_X0_canLeave l D h (.ref o) v_isSimple v_hasLoose (.int (iN lf)) v_seen l2 l4 H.size (by first | with_reducible assumption | omega | assumption) (by first | with_reducible assumption | omega | assumption)) (iv_cw 0 hT k_698 k_64 k_695 k_697 k_37 (by decide +kernel) rfl rfl ⟨Nat.le_of_ble_eq_true rfl, Nat.le_of_ble_eq_true rfl⟩) hN hK hP hD hS hA [0] [1, 2] [] rfl rfl (by decide) (by decide) (by decide) rfl 0 (ci := 0) rfl rfl rfl hl.1 rfl (Nat.le_of_ble_eq_true rfl) dX0_worthByLengths_6 ⟨Nat.le_of_ble_eq_true rfl, Nat.le_of_ble_eq_true rfl⟩ (fun z6 u6 H locs hw6 hP hD hS => ?_)
  have hP := hP.sub (ws' := [(h, .inr (0, [.ref o, v_isSimple, v_hasLoose, .int (iN l2), .int (iN l4), .int (iN lf), v_seen])), (o, .inr (1, [v_numbers_o, v_place_o, v_length_o, v_cost_o, v_step_o, v_digit_o, v_different_o, v_kinds_o, .int (iN hp), v_fresh_o, .ref a_v_o])), (a_v_o, .inl (cI, nV, .inl (ar va)))]) [2, 0, 1] rfl
  have hD := hD.sub (ws' := [(h, .inr (0, [.ref o, v_isSimple, v_hasLoose, .int (iN l2), .int (iN l4), .int (iN lf), v_seen])), (o, .inr (1, [v_numbers_o, v_place_o, v_length_o, v_cost_o, v_step_o, v_digit_o, v_different_o, v_kinds_o, .int (iN hp), v_fresh_o, .ref a_v_o])), (a_v_o, .inl (cI, nV, .inl (ar va)))]) [2, 0, 1] (by decide) rfl
  rcases hw6 with ⟨rfl, hw6⟩ | ⟨rfl, hw6⟩
  · refine iv_if_eq (tgt := 21) hx hb dX0_worthByLengths_9 (by decide) (by omega) (fun c9 => ?_) (fun c9 => ?_)
    · exact absurd c9 (by decide)
    · refine lv_iload_n hx hb dX0_worthByLengths_12 rfl (lv_at hl 0 rfl) ?_
      refine lv_aload_n hx hb dX0_worthByLengths_13 rfl (lv_at hl 1 rfl) ?_
      refine iv_callV (mc := 0) (ms := 0) (wc := [(h, .inr (0, [.ref o, v_isSimple, v_hasLoose, .int (iN l2), .int (iN l4), .int (iN lf), v_seen])), (o, .inr (1, [v_numbers_o, v_place_o, v_length_o, v_cost_o, v_step_o, v_digit_o, v_different_o, v_kinds_o, .int (iN hp), v_fresh_o, .ref a_v_o])), (a_v_o, .inl (cI, nV, .inl (ar va)))]) (wr := []) (As := []) (rest := [.int (iN (lf + va (hp - 1)))]) ⟨hx, hb, hml, hown, hT⟩ (ok_X0_leavingSome l D cI h o a_v_o v_isSimple v_hasLoose (.int (iN l4)) v_seen v_numbers_o v_place_o v_length_o v_cost_o v_step_o v_digit_o v_different_o v_kinds_o v_fresh_o va l2 lf hp nV H.size (by first | with_reducible assumption | omega | assumption) (by first | with_reducible assumption | omega | assumption) (by first | with_reducible assumption | omega | assumption)) (iv_cw 0 hT k_702 k_64 k_699 k_701 k_38 (by decide +kernel) rfl rfl ⟨Nat.le_of_ble_eq_true rfl, Nat.le_of_ble_eq_true rfl⟩) hN hK hP hD hS hA [0, 1, 2] [] [0] rfl rfl (by decide) (by decide) (by decide) rfl 0 (ci := 0) rfl rfl rfl hl.1 rfl (Nat.le_of_ble_eq_true rfl) dX0_worthByLengths_14 ⟨Nat.le_of_ble_eq_true rfl, Nat.le_of_ble_eq_true rfl⟩ (fun z14 u14 H locs hw14 hP hD hS => ?_)
      obtain rfl := hw14
      have hP := hP.sub (ws' := [(h, .inr (0, [.ref o, v_isSimple, v_hasLoose, .int (iN l2), .int (iN l4), .int (iN lf), v_seen])), (o, .inr (1, [v_numbers_o, v_place_o, v_length_o, v_cost_o, v_step_o, v_digit_o, v_different_o, v_kinds_o, .int (iN hp), v_fresh_o, .ref a_v_o])), (a_v_o, .inl (cI, nV, .inl (ar va)))]) [0, 1, 2] rfl
      have hD := hD.sub (ws' := [(h, .inr (0, [.ref o, v_isSimple, v_hasLoose, .int (iN l2), .int (iN l4), .int (iN lf), v_seen])), (o, .inr (1, [v_numbers_o, v_place_o, v_length_o, v_cost_o, v_step_o, v_digit_o, v_different_o, v_kinds_o, .int (iN hp), v_fresh_o, .ref a_v_o])), (a_v_o, .inl (cI, nV, .inl (ar va)))]) [0, 1, 2] (by decide) rfl
      refine iv_mmax hx hb (hml.trans hl.1.symm) hown (hT _ k_703) (hT _ k_667) (hT _ k_68) (hT _ k_668) (Nat.le_of_ble_eq_true rfl) (Nat.le_of_ble_eq_true rfl) (by omega) (by omega) (by omega) (by omega) dX0_worthByLengths_17 ?_
      refine lv_istore_n (lv' := [(1, .int (iN (max (lf + va (hp - 1)) (lf - (if l2 = 1 then 4 else 8) - va (hp - 1))))), (0, .ref h)]) hx hb dX0_worthByLengths_20 rfl hl (by decide) rfl (fun ls hl => ?_)
      refine lv_iload_n hx hb dX0_worthByLengths_21 rfl (lv_at hl 0 rfl) ?_
      exact iv_iret hx hb hr hlocks dX0_worthByLengths_22 (by omega) (by omega) () (by first | (rw [if_pos hw6]; done) | (rw [if_neg hw6]; done)) (by exact hP.sub [0, 1, 2] rfl) (by exact hD.sub [0, 1, 2] (by decide) rfl) hS
  · refine iv_if_eq (tgt := 21) hx hb dX0_worthByLengths_9 (by decide) (by omega) (fun c9 => ?_) (fun c9 => ?_)
    · refine lv_iload_n hx hb dX0_worthByLengths_21 rfl (lv_at hl 0 rfl) ?_
      exact iv_iret hx hb hr hlocks dX0_worthByLengths_22 (by omega) (by omega) () (by first | (rw [if_pos hw6]; done) | (rw [if_neg hw6]; done)) (by exact hP.sub [0, 1, 2] rfl) (by exact hD.sub [0, 1, 2] (by decide) rfl) hS
    · exact absurd c9 (by decide)
set_option maxHeartbeats 4000000 in
set_option maxRecDepth 100000 in
theorem ok_X0_keepOrLeave (l : Launch) (D : va_G) (cI : ClassId) (h : Nat) (o : Nat) (a_v_o : Nat) (v_isSimple : Value) (v_hasLoose : Value) (v_seen : Value) (v_numbers_o : Value) (v_place_o : Value) (v_length_o : Value) (v_cost_o : Value) (v_step_o : Value) (v_digit_o : Value) (v_different_o : Value) (v_kinds_o : Value) (v_fresh_o : Value) (va : Int → Int) (l2 : Int) (l4 : Int) (lf : Int) (hp : Int) (nV : Nat) (sz : Nat) (hnV : (nV : Int) < 2147483648) (hhp : 1 ≤ hp ∧ hp ≤ (nV : Int)) (hl2 : l2 = 0 ∨ l2 = 1) (hl4 : l4 = 0 ∨ l4 = 1) (hlf : 0 ≤ lf ∧ lf ≤ 100000) (hvb : -10000000 ≤ va (hp - 1) ∧ va (hp - 1) ≤ 10000000) : MetI l yX0_keepOrLeave (wd yX0_keepOrLeave cX0_keepOrLeave 1 (some .int)) ({ frames := 2, cells := 0, slots := 0, locals := 40 } : Room) [.ref h] D [(cI, .int)] [(h, .inr (0, [.ref o, v_isSimple, v_hasLoose, .int (iN l2), .int (iN l4), .int (iN lf), v_seen])), (o, .inr (1, [v_numbers_o, v_place_o, v_length_o, v_cost_o, v_step_o, v_digit_o, v_different_o, v_kinds_o, .int (iN hp), v_fresh_o, .ref a_v_o])), (a_v_o, .inl (cI, nV, .inl (ar va)))] sz (fun _ : Unit => [(h, .inr (0, [.ref o, v_isSimple, v_hasLoose, .int (iN l2), .int (iN l4), .int (iN lf), v_seen])), (o, .inr (1, [v_numbers_o, v_place_o, v_length_o, v_cost_o, v_step_o, v_digit_o, v_different_o, v_kinds_o, .int (iN hp), v_fresh_o, .ref a_v_o])), (a_v_o, .inl (cI, nV, .inl (ar va)))]) (fun z _ => z = if ¬ (l2 = 1 ∨ l4 = 1) ∨ lf - (if l2 = 1 then 4 else 8) - va (hp - 1) < lf + va (hp - 1) then 1 else if lf + va (hp - 1) = lf - (if l2 = 1 then 4 else 8) - va (hp - 1) then 0 else -1) 0 0 := by
  refine iv_mkI (cc := cX0_keepOrLeave) (maxL := 1) (by decide) rfl (Nat.le_of_ble_eq_true rfl) ?_
  intro p e s m below meth c A H ls hx hb hr hts hown hlocks hin hml hN hA hK hP hD hS hl
  have hT : ∀ w ∈ T0, w.before [.ref h].toArray s = true := fun w h => hts w (List.mem_cons_of_mem _ h)
  have hown : s.vm.findClass RX0 = some m.cls := hown
  have hl : lv_has ls 1 [(0, .ref h)] := hl
  have hs4 : (if l2 = 1 then (4 : Int) else 8) = 4 ∨ (if l2 = 1 then (4 : Int) else 8) = 8 := by split <;> omega
  refine lv_aload_n hx hb dX0_keepOrLeave_0 rfl (lv_at hl 0 rfl) ?_
  refine iv_callV (mc := 0) (ms := 0) (wc := [(h, .inr (0, [.ref o, v_isSimple, v_hasLoose, .int (iN l2), .int (iN l4), .int (iN lf), v_seen]))]) (wr := [(o, .inr (1, [v_numbers_o, v_place_o, v_length_o, v_cost_o, v_step_o, v_digit_o, v_different_o, v_kinds_o, .int (iN hp), v_fresh_o, .ref a_v_o])), (a_v_o, .inl (cI, nV, .inl (ar va)))]) (As := []) (rest := []) ⟨hx, hb, hml, hown, hT⟩ (ok_X0_canLeave l D h (.ref o) v_isSimple v_hasLoose (.int (iN lf)) v_seen l2 l4 H.size (by first | with_reducible assumption | omega | assumption) (by first | with_reducible assumption | omega | assumption)) (iv_cw 0 hT k_698 k_64 k_695 k_697 k_37 (by decide +kernel) rfl rfl ⟨Nat.le_of_ble_eq_true rfl, Nat.le_of_ble_eq_true rfl⟩) hN hK hP hD hS hA [0] [1, 2] [] rfl rfl (by decide) (by decide) (by decide) rfl 0 (ci := 0) rfl rfl rfl hl.1 rfl (Nat.le_of_ble_eq_true rfl) dX0_keepOrLeave_1 ⟨Nat.le_of_ble_eq_true rfl, Nat.le_of_ble_eq_true rfl⟩ (fun z1 u1 H locs hw1 hP hD hS => ?_)
  have hP := hP.sub (ws' := [(h, .inr (0, [.ref o, v_isSimple, v_hasLoose, .int (iN l2), .int (iN l4), .int (iN lf), v_seen])), (o, .inr (1, [v_numbers_o, v_place_o, v_length_o, v_cost_o, v_step_o, v_digit_o, v_different_o, v_kinds_o, .int (iN hp), v_fresh_o, .ref a_v_o])), (a_v_o, .inl (cI, nV, .inl (ar va)))]) [2, 0, 1] rfl
  have hD := hD.sub (ws' := [(h, .inr (0, [.ref o, v_isSimple, v_hasLoose, .int (iN l2), .int (iN l4), .int (iN lf), v_seen])), (o, .inr (1, [v_numbers_o, v_place_o, v_length_o, v_cost_o, v_step_o, v_digit_o, v_different_o, v_kinds_o, .int (iN hp), v_fresh_o, .ref a_v_o])), (a_v_o, .inl (cI, nV, .inl (ar va)))]) [2, 0, 1] (by decide) rfl
  rcases hw1 with ⟨rfl, hw1⟩ | ⟨rfl, hw1⟩
  · refine iv_if_eq (tgt := 18) hx hb dX0_keepOrLeave_4 (by decide) (by omega) (fun c4 => ?_) (fun c4 => ?_)
    · exact absurd c4 (by decide)
    · refine lv_aload_n hx hb dX0_keepOrLeave_7 rfl (lv_at hl 0 rfl) ?_
      refine iv_callV (mc := 0) (ms := 0) (wc := [(h, .inr (0, [.ref o, v_isSimple, v_hasLoose, .int (iN l2), .int (iN l4), .int (iN lf), v_seen])), (o, .inr (1, [v_numbers_o, v_place_o, v_length_o, v_cost_o, v_step_o, v_digit_o, v_different_o, v_kinds_o, .int (iN hp), v_fresh_o, .ref a_v_o])), (a_v_o, .inl (cI, nV, .inl (ar va)))]) (wr := []) (As := []) (rest := []) ⟨hx, hb, hml, hown, hT⟩ (ok_X0_closingAll l D cI h o a_v_o v_isSimple v_hasLoose (.int (iN l2)) (.int (iN l4)) v_seen v_numbers_o v_place_o v_length_o v_cost_o v_step_o v_digit_o v_different_o v_kinds_o v_fresh_o va lf hp nV H.size (by first | with_reducible assumption | omega | assumption) (by first | with_reducible assumption | omega | assumption)) (iv_cw 0 hT k_690 k_64 k_687 k_689 k_36 (by decide +kernel) rfl rfl ⟨Nat.le_of_ble_eq_true rfl, Nat.le_of_ble_eq_true rfl⟩) hN hK hP hD hS hA [0, 1, 2] [] [0] rfl rfl (by decide) (by decide) (by decide) rfl 0 (ci := 0) rfl rfl rfl hl.1 rfl (Nat.le_of_ble_eq_true rfl) dX0_keepOrLeave_8 ⟨Nat.le_of_ble_eq_true rfl, Nat.le_of_ble_eq_true rfl⟩ (fun z8 u8 H locs hw8 hP hD hS => ?_)
      obtain rfl := hw8
      have hP := hP.sub (ws' := [(h, .inr (0, [.ref o, v_isSimple, v_hasLoose, .int (iN l2), .int (iN l4), .int (iN lf), v_seen])), (o, .inr (1, [v_numbers_o, v_place_o, v_length_o, v_cost_o, v_step_o, v_digit_o, v_different_o, v_kinds_o, .int (iN hp), v_fresh_o, .ref a_v_o])), (a_v_o, .inl (cI, nV, .inl (ar va)))]) [0, 1, 2] rfl
      have hD := hD.sub (ws' := [(h, .inr (0, [.ref o, v_isSimple, v_hasLoose, .int (iN l2), .int (iN l4), .int (iN lf), v_seen])), (o, .inr (1, [v_numbers_o, v_place_o, v_length_o, v_cost_o, v_step_o, v_digit_o, v_different_o, v_kinds_o, .int (iN hp), v_fresh_o, .ref a_v_o])), (a_v_o, .inl (cI, nV, .inl (ar va)))]) [0, 1, 2] (by decide) rfl
      refine lv_aload_n hx hb dX0_keepOrLeave_11 rfl (lv_at hl 0 rfl) ?_
      refine iv_callV (mc := 0) (ms := 0) (wc := [(h, .inr (0, [.ref o, v_isSimple, v_hasLoose, .int (iN l2), .int (iN l4), .int (iN lf), v_seen])), (o, .inr (1, [v_numbers_o, v_place_o, v_length_o, v_cost_o, v_step_o, v_digit_o, v_different_o, v_kinds_o, .int (iN hp), v_fresh_o, .ref a_v_o])), (a_v_o, .inl (cI, nV, .inl (ar va)))]) (wr := []) (As := []) (rest := [.int (iN (lf + va (hp - 1)))]) ⟨hx, hb, hml, hown, hT⟩ (ok_X0_leavingSome l D cI h o a_v_o v_isSimple v_hasLoose (.int (iN l4)) v_seen v_numbers_o v_place_o v_length_o v_cost_o v_step_o v_digit_o v_different_o v_kinds_o v_fresh_o va l2 lf hp nV H.size (by first | with_reducible assumption | omega | assumption) (by first | with_reducible assumption | omega | assumption) (by first | with_reducible assumption | omega | assumption)) (iv_cw 0 hT k_702 k_64 k_699 k_701 k_38 (by decide +kernel) rfl rfl ⟨Nat.le_of_ble_eq_true rfl, Nat.le_of_ble_eq_true rfl⟩) hN hK hP hD hS hA [0, 1, 2] [] [0] rfl rfl (by decide) (by decide) (by decide) rfl 0 (ci := 0) rfl rfl rfl hl.1 rfl (Nat.le_of_ble_eq_true rfl) dX0_keepOrLeave_12 ⟨Nat.le_of_ble_eq_true rfl, Nat.le_of_ble_eq_true rfl⟩ (fun z12 u12 H locs hw12 hP hD hS => ?_)
      obtain rfl := hw12
      have hP := hP.sub (ws' := [(h, .inr (0, [.ref o, v_isSimple, v_hasLoose, .int (iN l2), .int (iN l4), .int (iN lf), v_seen])), (o, .inr (1, [v_numbers_o, v_place_o, v_length_o, v_cost_o, v_step_o, v_digit_o, v_different_o, v_kinds_o, .int (iN hp), v_fresh_o, .ref a_v_o])), (a_v_o, .inl (cI, nV, .inl (ar va)))]) [0, 1, 2] rfl
      have hD := hD.sub (ws' := [(h, .inr (0, [.ref o, v_isSimple, v_hasLoose, .int (iN l2), .int (iN l4), .int (iN lf), v_seen])), (o, .inr (1, [v_numbers_o, v_place_o, v_length_o, v_cost_o, v_step_o, v_digit_o, v_different_o, v_kinds_o, .int (iN hp), v_fresh_o, .ref a_v_o])), (a_v_o, .inl (cI, nV, .inl (ar va)))]) [0, 1, 2] (by decide) rfl
      refine iv_icmp_le (tgt := 20) hx hb dX0_keepOrLeave_15 (by decide) (by omega) (by omega) (fun c15 => ?_) (fun c15 => ?_)
      · refine lv_aload_n hx hb dX0_keepOrLeave_20 rfl (lv_at hl 0 rfl) ?_
        refine iv_callV (mc := 0) (ms := 0) (wc := [(h, .inr (0, [.ref o, v_isSimple, v_hasLoose, .int (iN l2), .int (iN l4), .int (iN lf), v_seen])), (o, .inr (1, [v_numbers_o, v_place_o, v_length_o, v_cost_o, v_step_o, v_digit_o, v_different_o, v_kinds_o, .int (iN hp), v_fresh_o, .ref a_v_o])), (a_v_o, .inl (cI, nV, .inl (ar va)))]) (wr := []) (As := []) (rest := []) ⟨hx, hb, hml, hown, hT⟩ (ok_X0_closingAll l D cI h o a_v_o v_isSimple v_hasLoose (.int (iN l2)) (.int (iN l4)) v_seen v_numbers_o v_place_o v_length_o v_cost_o v_step_o v_digit_o v_different_o v_kinds_o v_fresh_o va lf hp nV H.size (by first | with_reducible assumption | omega | assumption) (by first | with_reducible assumption | omega | assumption)) (iv_cw 0 hT k_690 k_64 k_687 k_689 k_36 (by decide +kernel) rfl rfl ⟨Nat.le_of_ble_eq_true rfl, Nat.le_of_ble_eq_true rfl⟩) hN hK hP hD hS hA [0, 1, 2] [] [0] rfl rfl (by decide) (by decide) (by decide) rfl 0 (ci := 0) rfl rfl rfl hl.1 rfl (Nat.le_of_ble_eq_true rfl) dX0_keepOrLeave_21 ⟨Nat.le_of_ble_eq_true rfl, Nat.le_of_ble_eq_true rfl⟩ (fun z21 u21 H locs hw21 hP hD hS => ?_)
        obtain rfl := hw21
        have hP := hP.sub (ws' := [(h, .inr (0, [.ref o, v_isSimple, v_hasLoose, .int (iN l2), .int (iN l4), .int (iN lf), v_seen])), (o, .inr (1, [v_numbers_o, v_place_o, v_length_o, v_cost_o, v_step_o, v_digit_o, v_different_o, v_kinds_o, .int (iN hp), v_fresh_o, .ref a_v_o])), (a_v_o, .inl (cI, nV, .inl (ar va)))]) [0, 1, 2] rfl
        have hD := hD.sub (ws' := [(h, .inr (0, [.ref o, v_isSimple, v_hasLoose, .int (iN l2), .int (iN l4), .int (iN lf), v_seen])), (o, .inr (1, [v_numbers_o, v_place_o, v_length_o, v_cost_o, v_step_o, v_digit_o, v_different_o, v_kinds_o, .int (iN hp), v_fresh_o, .ref a_v_o])), (a_v_o, .inl (cI, nV, .inl (ar va)))]) [0, 1, 2] (by decide) rfl
        refine lv_aload_n hx hb dX0_keepOrLeave_24 rfl (lv_at hl 0 rfl) ?_
        refine iv_callV (mc := 0) (ms := 0) (wc := [(h, .inr (0, [.ref o, v_isSimple, v_hasLoose, .int (iN l2), .int (iN l4), .int (iN lf), v_seen])), (o, .inr (1, [v_numbers_o, v_place_o, v_length_o, v_cost_o, v_step_o, v_digit_o, v_different_o, v_kinds_o, .int (iN hp), v_fresh_o, .ref a_v_o])), (a_v_o, .inl (cI, nV, .inl (ar va)))]) (wr := []) (As := []) (rest := [.int (iN (lf + va (hp - 1)))]) ⟨hx, hb, hml, hown, hT⟩ (ok_X0_leavingSome l D cI h o a_v_o v_isSimple v_hasLoose (.int (iN l4)) v_seen v_numbers_o v_place_o v_length_o v_cost_o v_step_o v_digit_o v_different_o v_kinds_o v_fresh_o va l2 lf hp nV H.size (by first | with_reducible assumption | omega | assumption) (by first | with_reducible assumption | omega | assumption) (by first | with_reducible assumption | omega | assumption)) (iv_cw 0 hT k_702 k_64 k_699 k_701 k_38 (by decide +kernel) rfl rfl ⟨Nat.le_of_ble_eq_true rfl, Nat.le_of_ble_eq_true rfl⟩) hN hK hP hD hS hA [0, 1, 2] [] [0] rfl rfl (by decide) (by decide) (by decide) rfl 0 (ci := 0) rfl rfl rfl hl.1 rfl (Nat.le_of_ble_eq_true rfl) dX0_keepOrLeave_25 ⟨Nat.le_of_ble_eq_true rfl, Nat.le_of_ble_eq_true rfl⟩ (fun z25 u25 H locs hw25 hP hD hS => ?_)
        obtain rfl := hw25
        have hP := hP.sub (ws' := [(h, .inr (0, [.ref o, v_isSimple, v_hasLoose, .int (iN l2), .int (iN l4), .int (iN lf), v_seen])), (o, .inr (1, [v_numbers_o, v_place_o, v_length_o, v_cost_o, v_step_o, v_digit_o, v_different_o, v_kinds_o, .int (iN hp), v_fresh_o, .ref a_v_o])), (a_v_o, .inl (cI, nV, .inl (ar va)))]) [0, 1, 2] rfl
        have hD := hD.sub (ws' := [(h, .inr (0, [.ref o, v_isSimple, v_hasLoose, .int (iN l2), .int (iN l4), .int (iN lf), v_seen])), (o, .inr (1, [v_numbers_o, v_place_o, v_length_o, v_cost_o, v_step_o, v_digit_o, v_different_o, v_kinds_o, .int (iN hp), v_fresh_o, .ref a_v_o])), (a_v_o, .inl (cI, nV, .inl (ar va)))]) [0, 1, 2] (by decide) rfl
        refine iv_icmp_ne (tgt := 35) hx hb dX0_keepOrLeave_28 (by decide) (by omega) (by omega) (fun c28 => ?_) (fun c28 => ?_)
        · refine iv_iconst hx hb dX0_keepOrLeave_35 ?_
          exact iv_iret hx hb hr hlocks dX0_keepOrLeave_36 (by omega) (by omega) () (by first | (rw [if_pos (Or.inl hw1)]; done) | (rw [if_pos (Or.inr (by omega))]; done) | (rw [if_neg (by omega), if_pos (by omega)]; done) | (rw [if_neg (by omega), if_neg (by omega)]; done)) (by exact hP.sub [0, 1, 2] rfl) (by exact hD.sub [0, 1, 2] (by decide) rfl) hS
        · refine iv_iconst hx hb dX0_keepOrLeave_31 ?_
          refine lv_goto (tgt := 36) hx hb dX0_keepOrLeave_32 (by decide) ?_
          exact iv_iret hx hb hr hlocks dX0_keepOrLeave_36 (by omega) (by omega) () (by first | (rw [if_pos (Or.inl hw1)]; done) | (rw [if_pos (Or.inr (by omega))]; done) | (rw [if_neg (by omega), if_pos (by omega)]; done) | (rw [if_neg (by omega), if_neg (by omega)]; done)) (by exact hP.sub [0, 1, 2] rfl) (by exact hD.sub [0, 1, 2] (by decide) rfl) hS
      · refine iv_iconst hx hb dX0_keepOrLeave_18 ?_
        exact iv_iret hx hb hr hlocks dX0_keepOrLeave_19 (by omega) (by omega) () (by first | (rw [if_pos (Or.inl hw1)]; done) | (rw [if_pos (Or.inr (by omega))]; done) | (rw [if_neg (by omega), if_pos (by omega)]; done) | (rw [if_neg (by omega), if_neg (by omega)]; done)) (by exact hP.sub [0, 1, 2] rfl) (by exact hD.sub [0, 1, 2] (by decide) rfl) hS
  · refine iv_if_eq (tgt := 18) hx hb dX0_keepOrLeave_4 (by decide) (by omega) (fun c4 => ?_) (fun c4 => ?_)
    · refine iv_iconst hx hb dX0_keepOrLeave_18 ?_
      exact iv_iret hx hb hr hlocks dX0_keepOrLeave_19 (by omega) (by omega) () (by first | (rw [if_pos (Or.inl hw1)]; done) | (rw [if_pos (Or.inr (by omega))]; done) | (rw [if_neg (by omega), if_pos (by omega)]; done) | (rw [if_neg (by omega), if_neg (by omega)]; done)) (by exact hP.sub [0, 1, 2] rfl) (by exact hD.sub [0, 1, 2] (by decide) rfl) hS
    · exact absurd c4 (by decide)
set_option maxHeartbeats 4000000 in
set_option maxRecDepth 100000 in
theorem ok_X0_isTold (l : Launch) (D : va_G) (cI : ClassId) (h : Nat) (o : Nat) (a_numbers_o : Nat) (a_place_o : Nat) (a_length_o : Nat) (a_cost_o : Nat) (a_step_o : Nat) (a_digit_o : Nat) (a_v_o : Nat) (v_hasLoose : Value) (v_canLeaveTwo : Value) (v_canLeaveFour : Value) (v_looseFields : Value) (v_seen : Value) (v_different_o : Value) (nb : Int → Int) (pl : Int → Int) (lg : Int → Int) (co : Int → Int) (sp : Int → Int) (dg : Int → Int) (va : Int → Int) (is_ : Int) (nk : Int) (hp : Int) (fr : Int) (nV : Nat) (sz : Nat) (his : is_ = 0 ∨ is_ = 1) (hnb : nbOK nb) (hfr : fr = 0 ∨ fr = 1) (hlt : fr = 1 → lnT nb nk hp pl lg co sp va nV) (hnV : 1 ≤ nV ∧ nV ≤ 20000) : MetI l yX0_isTold (wd yX0_isTold cX0_isTold 1 (some .boolean)) ({ frames := 5, cells := 1, slots := (tgr nb fr nV), locals := 109 } : Room) [.ref h] D [(cI, .int)] [(h, .inr (0, [.ref o, .int (iN is_), v_hasLoose, v_canLeaveTwo, v_canLeaveFour, v_looseFields, v_seen])), (o, .inr (1, [.ref a_numbers_o, .ref a_place_o, .ref a_length_o, .ref a_cost_o, .ref a_step_o, .ref a_digit_o, v_different_o, .int (iN nk), .int (iN hp), .int (iN fr), .ref a_v_o])), (a_numbers_o, .inl (cI, 402, .inl (ar nb))), (a_place_o, .inl (cI, 30, .inl (ar pl))), (a_length_o, .inl (cI, 30, .inl (ar lg))), (a_cost_o, .inl (cI, 30, .inl (ar co))), (a_step_o, .inl (cI, 30, .inl (ar sp))), (a_digit_o, .inl (cI, 30, .inl (ar dg))), (a_v_o, .inl (cI, nV, .inl (ar va)))] sz (fun u : (Int) × (Int) × (Int) × (Int → Int) × (Int → Int) × (Int → Int) × (Int → Int) × (Int → Int) × (Int → Int) × (Nat) × (Nat) => match u with | (fr1, nk1, hp1, pl1, lg1, co1, sp1, dg1, va1, aV1, nV1) => [(h, .inr (0, [.ref o, .int (iN is_), v_hasLoose, v_canLeaveTwo, v_canLeaveFour, v_looseFields, v_seen])), (o, .inr (1, [.ref a_numbers_o, .ref a_place_o, .ref a_length_o, .ref a_cost_o, .ref a_step_o, .ref a_digit_o, v_different_o, .int (iN nk1), .int (iN hp1), .int (iN fr1), .ref aV1])), (a_numbers_o, .inl (cI, 402, .inl (ar nb))), (a_place_o, .inl (cI, 30, .inl (ar pl1))), (a_length_o, .inl (cI, 30, .inl (ar lg1))), (a_cost_o, .inl (cI, 30, .inl (ar co1))), (a_step_o, .inl (cI, 30, .inl (ar sp1))), (a_digit_o, .inl (cI, 30, .inl (ar dg1))), (aV1, .inl (cI, nV1, .inl (ar va1)))]) (fun z u => match u with | (fr1, nk1, hp1, pl1, lg1, co1, sp1, dg1, va1, aV1, nV1) => (z = 1 ∧ (is_ = 1 ∧ prI (nb1 nb) (nb2 nb) 402 ≤ 20000 ∧ lnT nb nk1 hp1 pl1 lg1 co1 sp1 va1 nV1 ∧ tln nb fr nV nV1 ∧ fr1 = 1)) ∨ (z = 0 ∧ (is_ = 1 ∧ ¬ prI (nb1 nb) (nb2 nb) 402 ≤ 20000 ∧ lnT nb nk1 hp1 pl1 lg1 co1 sp1 va1 nV1 ∧ tln nb fr nV nV1 ∧ fr1 = 1)) ∨ (z = 0 ∧ (is_ = 0 ∧ fr1 = fr ∧ nk1 = nk ∧ hp1 = hp ∧ pl1 = pl ∧ lg1 = lg ∧ co1 = co ∧ sp1 = sp ∧ va1 = va ∧ nV1 = nV))) 1 (tgr nb fr nV) := by
  refine iv_mkI (cc := cX0_isTold) (maxL := 1) (by decide) rfl (Nat.le_of_ble_eq_true rfl) ?_
  intro p e s m below meth c A H ls hx hb hr hts hown hlocks hin hml hN hA hK hP hD hS hl
  have hT : ∀ w ∈ T0, w.before [.ref h].toArray s = true := fun w h => hts w (List.mem_cons_of_mem _ h)
  have hown : s.vm.findClass RX0 = some m.cls := hown
  have hl : lv_has ls 1 [(0, .ref h)] := hl
  refine lv_aload_n hx hb dX0_isTold_0 rfl (lv_at hl 0 rfl) ?_
  refine va_get (D := D) (ci := 0) (v := .int (iN is_)) (C := RX0) (T := TX0) (N := 7) hx hb hT hiX0 hown hK hP 0 rfl rfl 1 (by decide) (hT _ k_296) (fun _ h9 => h9) rfl dX0_isTold_1 ?_
  refine iv_if_eq (tgt := 21) hx hb dX0_isTold_4 (by decide) (by omega) (fun c4 => ?_) (fun c4 => ?_)
  · refine iv_iconst hx hb dX0_isTold_21 ?_
    exact iv_zret hx hb hr hlocks dX0_isTold_22 (by omega) (by first | omega | (show 0 + tgr nb fr nV ≤ tgr nb fr nV; omega)) (by omega) (fr, nk, hp, pl, lg, co, sp, dg, va, a_v_o, nV) (by first | exact Or.inr (Or.inr ⟨rfl, by omega, rfl, rfl, rfl, rfl, rfl, rfl, rfl, rfl, rfl⟩) | exact Or.inl ⟨rfl, by omega, hw11⟩ | exact Or.inr (Or.inl ⟨rfl, by omega, hw11⟩)) (by exact hP.sub [0, 1, 2, 3, 4, 5, 6, 7, 8] rfl) (by exact hD.sub [0, 1, 2, 3, 4, 5, 6, 7, 8] (by decide) rfl) hS
  · refine lv_aload_n hx hb dX0_isTold_7 rfl (lv_at hl 0 rfl) ?_
    refine va_get (D := D) (ci := 0) (v := .ref o) (C := RX0) (T := TX0) (N := 7) hx hb hT hiX0 hown hK hP 0 rfl rfl 0 (by decide) (hT _ k_294) (fun _ h9 => h9) rfl dX0_isTold_8 ?_
    refine iv_callV (mc := 1) (ms := (tgr nb fr nV)) (wc := [(o, .inr (1, [.ref a_numbers_o, .ref a_place_o, .ref a_length_o, .ref a_cost_o, .ref a_step_o, .ref a_digit_o, v_different_o, .int (iN nk), .int (iN hp), .int (iN fr), .ref a_v_o])), (a_numbers_o, .inl (cI, 402, .inl (ar nb))), (a_place_o, .inl (cI, 30, .inl (ar pl))), (a_length_o, .inl (cI, 30, .inl (ar lg))), (a_cost_o, .inl (cI, 30, .inl (ar co))), (a_step_o, .inl (cI, 30, .inl (ar sp))), (a_digit_o, .inl (cI, 30, .inl (ar dg))), (a_v_o, .inl (cI, nV, .inl (ar va)))]) (wr := [(h, .inr (0, [.ref o, .int (iN is_), v_hasLoose, v_canLeaveTwo, v_canLeaveFour, v_looseFields, v_seen]))]) (As := []) (rest := []) ⟨hx, hb, hml, hown, hT⟩ (ok_X1_isTold l D cI o a_numbers_o a_place_o a_length_o a_cost_o a_step_o a_digit_o a_v_o v_different_o nb pl lg co sp dg va nk hp fr nV H.size (by first | with_reducible assumption | omega | assumption) (by first | with_reducible assumption | omega | assumption) (by first | with_reducible assumption | omega | assumption) (by first | with_reducible assumption | omega | assumption)) (iv_cw 0 hT k_649 k_65 k_646 k_647 k_648 (by decide +kernel) rfl rfl ⟨Nat.le_of_ble_eq_true rfl, Nat.le_of_ble_eq_true rfl⟩) hN hK hP hD hS hA [1, 2, 3, 4, 5, 6, 7, 8] [0] [0] rfl rfl (by decide) (by decide) (by decide) rfl 0 (ci := 1) rfl rfl rfl hl.1 rfl (Nat.le_of_ble_eq_true rfl) dX0_isTold_11 ⟨by first | exact Nat.le_of_ble_eq_true rfl | (show 0 + tgr nb fr nV ≤ tgr nb fr nV; omega), by first | exact Nat.le_of_ble_eq_true rfl | (show 0 + tgr nb fr nV ≤ tgr nb fr nV; omega)⟩ (fun z11 u11 H locs hw11 hP hD hS => ?_)
    obtain ⟨fr1_11, nk1_11, hp1_11, pl1_11, lg1_11, co1_11, sp1_11, dg1_11, va1_11, aV1_11, nV1_11⟩ := u11
    have hP := hP.sub (ws' := [(h, .inr (0, [.ref o, .int (iN is_), v_hasLoose, v_canLeaveTwo, v_canLeaveFour, v_looseFields, v_seen])), (o, .inr (1, [.ref a_numbers_o, .ref a_place_o, .ref a_length_o, .ref a_cost_o, .ref a_step_o, .ref a_digit_o, v_different_o, .int (iN nk1_11), .int (iN hp1_11), .int (iN fr1_11), .ref aV1_11])), (a_numbers_o, .inl (cI, 402, .inl (ar nb))), (a_place_o, .inl (cI, 30, .inl (ar pl1_11))), (a_length_o, .inl (cI, 30, .inl (ar lg1_11))), (a_cost_o, .inl (cI, 30, .inl (ar co1_11))), (a_step_o, .inl (cI, 30, .inl (ar sp1_11))), (a_digit_o, .inl (cI, 30, .inl (ar dg1_11))), (aV1_11, .inl (cI, nV1_11, .inl (ar va1_11)))]) [0, 1, 2, 3, 4, 5, 6, 7, 8] rfl
    have hD := hD.sub (ws' := [(h, .inr (0, [.ref o, .int (iN is_), v_hasLoose, v_canLeaveTwo, v_canLeaveFour, v_looseFields, v_seen])), (o, .inr (1, [.ref a_numbers_o, .ref a_place_o, .ref a_length_o, .ref a_cost_o, .ref a_step_o, .ref a_digit_o, v_different_o, .int (iN nk1_11), .int (iN hp1_11), .int (iN fr1_11), .ref aV1_11])), (a_numbers_o, .inl (cI, 402, .inl (ar nb))), (a_place_o, .inl (cI, 30, .inl (ar pl1_11))), (a_length_o, .inl (cI, 30, .inl (ar lg1_11))), (a_cost_o, .inl (cI, 30, .inl (ar co1_11))), (a_step_o, .inl (cI, 30, .inl (ar sp1_11))), (a_digit_o, .inl (cI, 30, .inl (ar dg1_11))), (aV1_11, .inl (cI, nV1_11, .inl (ar va1_11)))]) [0, 1, 2, 3, 4, 5, 6, 7, 8] (by decide) rfl
    rcases hw11 with ⟨rfl, hw11⟩ | ⟨rfl, hw11⟩
    · refine iv_if_eq (tgt := 21) hx hb dX0_isTold_14 (by decide) (by omega) (fun c14 => ?_) (fun c14 => ?_)
      · exact absurd c14 (by decide)
      · refine iv_iconst hx hb dX0_isTold_17 ?_
        refine lv_goto (tgt := 22) hx hb dX0_isTold_18 (by decide) ?_
        exact iv_zret hx hb hr hlocks dX0_isTold_22 (by omega) (by first | omega | (show 0 + tgr nb fr nV ≤ tgr nb fr nV; omega)) (by omega) (fr1_11, nk1_11, hp1_11, pl1_11, lg1_11, co1_11, sp1_11, dg1_11, va1_11, aV1_11, nV1_11) (by first | exact Or.inr (Or.inr ⟨rfl, by omega, rfl, rfl, rfl, rfl, rfl, rfl, rfl, rfl, rfl⟩) | exact Or.inl ⟨rfl, by omega, hw11⟩ | exact Or.inr (Or.inl ⟨rfl, by omega, hw11⟩)) (by exact hP.sub [0, 1, 2, 3, 4, 5, 6, 7, 8] rfl) (by exact hD.sub [0, 1, 2, 3, 4, 5, 6, 7, 8] (by decide) rfl) hS
    · refine iv_if_eq (tgt := 21) hx hb dX0_isTold_14 (by decide) (by omega) (fun c14 => ?_) (fun c14 => ?_)
      · refine iv_iconst hx hb dX0_isTold_21 ?_
        exact iv_zret hx hb hr hlocks dX0_isTold_22 (by omega) (by first | omega | (show 0 + tgr nb fr nV ≤ tgr nb fr nV; omega)) (by omega) (fr1_11, nk1_11, hp1_11, pl1_11, lg1_11, co1_11, sp1_11, dg1_11, va1_11, aV1_11, nV1_11) (by first | exact Or.inr (Or.inr ⟨rfl, by omega, rfl, rfl, rfl, rfl, rfl, rfl, rfl, rfl, rfl⟩) | exact Or.inl ⟨rfl, by omega, hw11⟩ | exact Or.inr (Or.inl ⟨rfl, by omega, hw11⟩)) (by exact hP.sub [0, 1, 2, 3, 4, 5, 6, 7, 8] rfl) (by exact hD.sub [0, 1, 2, 3, 4, 5, 6, 7, 8] (by decide) rfl) hS
      · exact absurd c14 (by decide)
set_option maxHeartbeats 4000000 in
set_option maxRecDepth 100000 in
theorem ok_X5_empty (l : Launch) (D : va_G) (cI : ClassId) (h : Nat) (o : Nat) (a_numbers_o : Nat) (v_meadow : Value) (v_parts : Value) (v_ways : Value) (v_ends : Value) (v_place_o : Value) (v_length_o : Value) (v_cost_o : Value) (v_step_o : Value) (v_digit_o : Value) (v_kinds_o : Value) (v_heaps_o : Value) (v_v_o : Value) (nb : Int → Int) (df : Int) (fr : Int) (sz : Nat) : MetV l yX5_empty (wd yX5_empty cX5_empty 1 none) ({ frames := 2, cells := 0, slots := 0, locals := 43 } : Room) [.ref h] D [(cI, .int)] [(h, .inr (5, [v_meadow, v_parts, v_ways, v_ends, .ref o])), (o, .inr (1, [.ref a_numbers_o, v_place_o, v_length_o, v_cost_o, v_step_o, v_digit_o, .int (iN df), v_kinds_o, v_heaps_o, .int (iN fr), v_v_o])), (a_numbers_o, .inl (cI, 402, .inl (ar nb)))] sz (fun nb1 : Int → Int => [(h, .inr (5, [v_meadow, v_parts, v_ways, v_ends, .ref o])), (o, .inr (1, [.ref a_numbers_o, v_place_o, v_length_o, v_cost_o, v_step_o, v_digit_o, .int (iN 0), v_kinds_o, v_heaps_o, .int (iN 0), v_v_o])), (a_numbers_o, .inl (cI, 402, .inl (ar nb1)))]) (fun nb1 => ∀ j : Int, 0 ≤ j → j < 402 → nb1 j = 0) 0 0 := by
  refine iv_mkV (cc := cX5_empty) (maxL := 1) (by decide) rfl (Nat.le_of_ble_eq_true rfl) ?_
  intro p e s m below meth c A H ls hx hb hr hts hown hlocks hin hml hN hA hK hP hD hS hl
  have hT : ∀ w ∈ T0, w.before [.ref h].toArray s = true := fun w h => hts w (List.mem_cons_of_mem _ h)
  have hown : s.vm.findClass RX5 = some m.cls := hown
  have hl : lv_has ls 1 [(0, .ref h)] := hl
  refine lv_aload_n hx hb dX5_empty_0 rfl (lv_at hl 0 rfl) ?_
  refine va_get (D := D) (ci := 5) (v := .ref o) (C := RX5) (T := TX5) (N := 5) hx hb hT hiX5 hown hK hP 0 rfl rfl 4 (by decide) (hT _ k_324) (fun _ h9 => h9) rfl dX5_empty_1 ?_
  refine iv_callVv (mc := 0) (ms := 0) (wc := [(o, .inr (1, [.ref a_numbers_o, v_place_o, v_length_o, v_cost_o, v_step_o, v_digit_o, .int (iN df), v_kinds_o, v_heaps_o, .int (iN fr), v_v_o])), (a_numbers_o, .inl (cI, 402, .inl (ar nb)))]) (wr := [(h, .inr (5, [v_meadow, v_parts, v_ways, v_ends, .ref o]))]) (As := []) (rest := []) ⟨hx, hb, hml, hown, hT⟩ (ok_X1_wipe l D cI o a_numbers_o v_place_o v_length_o v_cost_o v_step_o v_digit_o v_kinds_o v_heaps_o v_v_o nb df fr H.size) (iv_cw 0 hT k_628 k_65 k_737 k_626 k_627 (by decide +kernel) rfl rfl ⟨Nat.le_of_ble_eq_true rfl, Nat.le_of_ble_eq_true rfl⟩) hN hK hP hD hS hA [1, 2] [0] [0] rfl rfl (by decide) (by decide) (by decide) rfl 0 (ci := 1) rfl rfl rfl hl.1 rfl (Nat.le_of_ble_eq_true rfl) dX5_empty_4 ⟨Nat.le_of_ble_eq_true rfl, Nat.le_of_ble_eq_true rfl⟩ (fun u4 H locs hw4 hP hD hS => ?_)
  obtain ⟨nb1_4, rfl⟩ : ∃ z, z = u4 := ⟨_, rfl⟩
  have hP := hP.sub (ws' := [(h, .inr (5, [v_meadow, v_parts, v_ways, v_ends, .ref o])), (o, .inr (1, [.ref a_numbers_o, v_place_o, v_length_o, v_cost_o, v_step_o, v_digit_o, .int (iN 0), v_kinds_o, v_heaps_o, .int (iN 0), v_v_o])), (a_numbers_o, .inl (cI, 402, .inl (ar nb1_4)))]) [0, 1, 2] rfl
  have hD := hD.sub (ws' := [(h, .inr (5, [v_meadow, v_parts, v_ways, v_ends, .ref o])), (o, .inr (1, [.ref a_numbers_o, v_place_o, v_length_o, v_cost_o, v_step_o, v_digit_o, .int (iN 0), v_kinds_o, v_heaps_o, .int (iN 0), v_v_o])), (a_numbers_o, .inl (cI, 402, .inl (ar nb1_4)))]) [0, 1, 2] (by decide) rfl
  exact iv_vret hx hb hr hlocks dX5_empty_7 (by omega) (by omega) (nb1_4) (by exact hw4) (by exact hP.sub [0, 1, 2] rfl) (by exact hD.sub [0, 1, 2] (by decide) rfl) hS
set_option maxHeartbeats 4000000 in
set_option maxRecDepth 100000 in
theorem ok_X5_heap (l : Launch) (D : va_G) (cI : ClassId) (h : Nat) (o : Nat) (a_numbers_o : Nat) (v_meadow : Value) (v_parts : Value) (v_ways : Value) (v_ends : Value) (v_place_o : Value) (v_length_o : Value) (v_cost_o : Value) (v_step_o : Value) (v_digit_o : Value) (v_kinds_o : Value) (v_heaps_o : Value) (v_v_o : Value) (nb : Int → Int) (df : Int) (fr : Int) (sz : Nat) (rr : Int) (n : Int) (t : Int) (hrr : rr = 0 ∨ rr = 1) (hn : -2147483648 ≤ n ∧ n < 2147483648) (ht : -2147483648 ≤ t ∧ t < 2147483648) (hnb : rg nb 402 0 1000) (hdf : 0 ≤ df ∧ df ≤ 1000) : MetI l yX5_heap (wd yX5_heap cX5_heap 5 (some .int)) ({ frames := 2, cells := 0, slots := 0, locals := 46 } : Room) [.ref h, .int (iN rr), .int (iN n), .int (iN t)] D [(cI, .int)] [(h, .inr (5, [v_meadow, v_parts, v_ways, v_ends, .ref o])), (o, .inr (1, [.ref a_numbers_o, v_place_o, v_length_o, v_cost_o, v_step_o, v_digit_o, .int (iN df), v_kinds_o, v_heaps_o, .int (iN fr), v_v_o])), (a_numbers_o, .inl (cI, 402, .inl (ar nb)))] sz (fun u : (Int → Int) × (Int) × (Int) => match u with | (nb1, df1, fr1) => [(h, .inr (5, [v_meadow, v_parts, v_ways, v_ends, .ref o])), (o, .inr (1, [.ref a_numbers_o, v_place_o, v_length_o, v_cost_o, v_step_o, v_digit_o, .int (iN df1), v_kinds_o, v_heaps_o, .int (iN fr1), v_v_o])), (a_numbers_o, .inl (cI, 402, .inl (ar nb1)))]) (fun z u => match u with | (nb1, df1, fr1) => (hcOK nb df rr n t ∧ z = nb ((if rr = 0 then 0 else 201) + n) + t ∧ nb1 = uI nb ((if rr = 0 then 0 else 201) + n) (nb ((if rr = 0 then 0 else 201) + n) + t) ∧ df1 = df + (if nb ((if rr = 0 then 0 else 201) + n) = 0 then 1 else 0) ∧ fr1 = 0) ∨ (¬ hcOK nb df rr n t ∧ z = -1 ∧ nb1 = nb ∧ df1 = df ∧ fr1 = fr)) 0 0 := by
  refine iv_mkI (cc := cX5_heap) (maxL := 5) (by decide) rfl (Nat.le_of_ble_eq_true rfl) ?_
  intro p e s m below meth c A H ls hx hb hr hts hown hlocks hin hml hN hA hK hP hD hS hl
  have hT : ∀ w ∈ T0, w.before [.ref h, .int (iN rr), .int (iN n), .int (iN t)].toArray s = true := fun w h => hts w (List.mem_cons_of_mem _ h)
  have hown : s.vm.findClass RX5 = some m.cls := hown
  have hl : lv_has ls 5 [(0, .ref h), (1, .int (iN rr)), (2, .int (iN n)), (3, .int (iN t))] := hl
  have hpl2 : (if rr = 0 then (1 : Int) else 2) = 1 ∨ (if rr = 0 then (1 : Int) else 2) = 2 := by split <;> omega
  refine lv_iload_n hx hb dX5_heap_0 rfl (lv_at hl 2 rfl) ?_
  refine lv_iload_n hx hb dX5_heap_1 rfl (lv_at hl 1 rfl) ?_
  refine iv_if_eq (tgt := 9) hx hb dX5_heap_2 (by decide) (by omega) (fun c2 => ?_) (fun c2 => ?_)
  · refine iv_iconst hx hb dX5_heap_9 ?_
    refine iv_icmp_lt (tgt := 48) hx hb dX5_heap_10 (by decide) (by omega) (by omega) (fun c10 => ?_) (fun c10 => ?_)
    · refine iv_iconst hx hb dX5_heap_48 ?_
      refine lv_istore (lv' := [(4, .int (iN 0)), (0, .ref h), (1, .int (iN rr)), (2, .int (iN n)), (3, .int (iN t))]) hx hb dX5_heap_49 hl (by decide) rfl (fun ls hl => ?_)
      refine lv_iload hx hb dX5_heap_51 (lv_at hl 0 rfl) ?_
      refine iv_if_eq (tgt := 69) hx hb dX5_heap_53 (by decide) (by omega) (fun c53 => ?_) (fun c53 => ?_)
      · refine iv_iconst hx hb dX5_heap_69 ?_
        exact iv_iret hx hb hr hlocks dX5_heap_70 (by omega) (by omega) (nb, df, fr) (by first | (exfalso; omega) | exact Or.inl ⟨by unfold hcOK; exact ⟨by split <;> omega, by omega, by omega, by omega, hw38⟩, hw63.1, hw63.2.1, hw63.2.2, rfl⟩ | exact Or.inr ⟨by unfold hcOK; exact fun g => hw38 g.2.2.2.2, rfl, rfl, rfl, rfl⟩ | exact Or.inr ⟨by unfold hcOK; intro g; obtain ⟨g1, g2, g3, g4, g5⟩ := g; first | omega | (rw [if_pos (by omega)] at g1; omega) | (rw [if_neg (by omega)] at g1; omega), rfl, rfl, rfl, rfl⟩) (by exact hP.sub [0, 1, 2] rfl) (by exact hD.sub [0, 1, 2] (by decide) rfl) hS
      · exact absurd c53 (by decide)
    · refine lv_iload_n hx hb dX5_heap_13 rfl (lv_at hl 2 rfl) ?_
      refine iv_sipush hx hb dX5_heap_14 (by decide) ?_
      refine iv_icmp_gt (tgt := 48) hx hb dX5_heap_17 (by decide) (by omega) (by omega) (fun c17 => ?_) (fun c17 => ?_)
      · refine iv_iconst hx hb dX5_heap_48 ?_
        refine lv_istore (lv' := [(4, .int (iN 0)), (0, .ref h), (1, .int (iN rr)), (2, .int (iN n)), (3, .int (iN t))]) hx hb dX5_heap_49 hl (by decide) rfl (fun ls hl => ?_)
        refine lv_iload hx hb dX5_heap_51 (lv_at hl 0 rfl) ?_
        refine iv_if_eq (tgt := 69) hx hb dX5_heap_53 (by decide) (by omega) (fun c53 => ?_) (fun c53 => ?_)
        · refine iv_iconst hx hb dX5_heap_69 ?_
          exact iv_iret hx hb hr hlocks dX5_heap_70 (by omega) (by omega) (nb, df, fr) (by first | (exfalso; omega) | exact Or.inl ⟨by unfold hcOK; exact ⟨by split <;> omega, by omega, by omega, by omega, hw38⟩, hw63.1, hw63.2.1, hw63.2.2, rfl⟩ | exact Or.inr ⟨by unfold hcOK; exact fun g => hw38 g.2.2.2.2, rfl, rfl, rfl, rfl⟩ | exact Or.inr ⟨by unfold hcOK; intro g; obtain ⟨g1, g2, g3, g4, g5⟩ := g; first | omega | (rw [if_pos (by omega)] at g1; omega) | (rw [if_neg (by omega)] at g1; omega), rfl, rfl, rfl, rfl⟩) (by exact hP.sub [0, 1, 2] rfl) (by exact hD.sub [0, 1, 2] (by decide) rfl) hS
        · exact absurd c53 (by decide)
      · refine lv_iload_n hx hb dX5_heap_20 rfl (lv_at hl 3 rfl) ?_
        refine iv_iconst hx hb dX5_heap_21 ?_
        refine iv_icmp_lt (tgt := 48) hx hb dX5_heap_22 (by decide) (by omega) (by omega) (fun c22 => ?_) (fun c22 => ?_)
        · refine iv_iconst hx hb dX5_heap_48 ?_
          refine lv_istore (lv' := [(4, .int (iN 0)), (0, .ref h), (1, .int (iN rr)), (2, .int (iN n)), (3, .int (iN t))]) hx hb dX5_heap_49 hl (by decide) rfl (fun ls hl => ?_)
          refine lv_iload hx hb dX5_heap_51 (lv_at hl 0 rfl) ?_
          refine iv_if_eq (tgt := 69) hx hb dX5_heap_53 (by decide) (by omega) (fun c53 => ?_) (fun c53 => ?_)
          · refine iv_iconst hx hb dX5_heap_69 ?_
            exact iv_iret hx hb hr hlocks dX5_heap_70 (by omega) (by omega) (nb, df, fr) (by first | (exfalso; omega) | exact Or.inl ⟨by unfold hcOK; exact ⟨by split <;> omega, by omega, by omega, by omega, hw38⟩, hw63.1, hw63.2.1, hw63.2.2, rfl⟩ | exact Or.inr ⟨by unfold hcOK; exact fun g => hw38 g.2.2.2.2, rfl, rfl, rfl, rfl⟩ | exact Or.inr ⟨by unfold hcOK; intro g; obtain ⟨g1, g2, g3, g4, g5⟩ := g; first | omega | (rw [if_pos (by omega)] at g1; omega) | (rw [if_neg (by omega)] at g1; omega), rfl, rfl, rfl, rfl⟩) (by exact hP.sub [0, 1, 2] rfl) (by exact hD.sub [0, 1, 2] (by decide) rfl) hS
          · exact absurd c53 (by decide)
        · refine lv_iload_n hx hb dX5_heap_25 rfl (lv_at hl 3 rfl) ?_
          refine iv_bipush hx hb dX5_heap_26 (by decide) ?_
          refine iv_icmp_gt (tgt := 48) hx hb dX5_heap_28 (by decide) (by omega) (by omega) (fun c28 => ?_) (fun c28 => ?_)
          · refine iv_iconst hx hb dX5_heap_48 ?_
            refine lv_istore (lv' := [(4, .int (iN 0)), (0, .ref h), (1, .int (iN rr)), (2, .int (iN n)), (3, .int (iN t))]) hx hb dX5_heap_49 hl (by decide) rfl (fun ls hl => ?_)
            refine lv_iload hx hb dX5_heap_51 (lv_at hl 0 rfl) ?_
            refine iv_if_eq (tgt := 69) hx hb dX5_heap_53 (by decide) (by omega) (fun c53 => ?_) (fun c53 => ?_)
            · refine iv_iconst hx hb dX5_heap_69 ?_
              exact iv_iret hx hb hr hlocks dX5_heap_70 (by omega) (by omega) (nb, df, fr) (by first | (exfalso; omega) | exact Or.inl ⟨by unfold hcOK; exact ⟨by split <;> omega, by omega, by omega, by omega, hw38⟩, hw63.1, hw63.2.1, hw63.2.2, rfl⟩ | exact Or.inr ⟨by unfold hcOK; exact fun g => hw38 g.2.2.2.2, rfl, rfl, rfl, rfl⟩ | exact Or.inr ⟨by unfold hcOK; intro g; obtain ⟨g1, g2, g3, g4, g5⟩ := g; first | omega | (rw [if_pos (by omega)] at g1; omega) | (rw [if_neg (by omega)] at g1; omega), rfl, rfl, rfl, rfl⟩) (by exact hP.sub [0, 1, 2] rfl) (by exact hD.sub [0, 1, 2] (by decide) rfl) hS
            · exact absurd c53 (by decide)
          · refine lv_aload_n hx hb dX5_heap_31 rfl (lv_at hl 0 rfl) ?_
            refine va_get (D := D) (ci := 5) (v := .ref o) (C := RX5) (T := TX5) (N := 5) hx hb hT hiX5 hown hK hP 0 rfl rfl 4 (by decide) (hT _ k_324) (fun _ h9 => h9) rfl dX5_heap_32 ?_
            refine lv_iload_n hx hb dX5_heap_35 rfl (lv_at hl 1 rfl) ?_
            refine lv_iload_n hx hb dX5_heap_36 rfl (lv_at hl 2 rfl) ?_
            refine lv_iload_n hx hb dX5_heap_37 rfl (lv_at hl 3 rfl) ?_
            refine iv_callV (mc := 0) (ms := 0) (wc := [(o, .inr (1, [.ref a_numbers_o, v_place_o, v_length_o, v_cost_o, v_step_o, v_digit_o, .int (iN df), v_kinds_o, v_heaps_o, .int (iN fr), v_v_o])), (a_numbers_o, .inl (cI, 402, .inl (ar nb)))]) (wr := [(h, .inr (5, [v_meadow, v_parts, v_ways, v_ends, .ref o]))]) (As := [.int (iN rr), .int (iN n), .int (iN t)]) (rest := []) ⟨hx, hb, hml, hown, hT⟩ (ok_X1_hasRoom l D cI o a_numbers_o v_place_o v_length_o v_cost_o v_step_o v_digit_o v_kinds_o v_heaps_o (.int (iN fr)) v_v_o nb df H.size rr n t (by first | with_reducible assumption | omega | assumption) (by first | with_reducible assumption | omega | assumption) (by first | with_reducible assumption | omega | assumption) (by first | with_reducible assumption | omega | assumption) (by first | with_reducible assumption | omega | assumption)) (iv_cw 3 hT k_745 k_65 k_742 k_743 k_744 (by decide +kernel) rfl rfl ⟨Nat.le_of_ble_eq_true rfl, Nat.le_of_ble_eq_true rfl⟩) hN hK hP hD hS hA [1, 2] [0] [0] rfl rfl (by decide) (by decide) (by decide) rfl 0 (ci := 1) rfl rfl rfl hl.1 rfl (Nat.le_of_ble_eq_true rfl) dX5_heap_38 ⟨Nat.le_of_ble_eq_true rfl, Nat.le_of_ble_eq_true rfl⟩ (fun z38 u38 H locs hw38 hP hD hS => ?_)
            have hP := hP.sub (ws' := [(h, .inr (5, [v_meadow, v_parts, v_ways, v_ends, .ref o])), (o, .inr (1, [.ref a_numbers_o, v_place_o, v_length_o, v_cost_o, v_step_o, v_digit_o, .int (iN df), v_kinds_o, v_heaps_o, .int (iN fr), v_v_o])), (a_numbers_o, .inl (cI, 402, .inl (ar nb)))]) [0, 1, 2] rfl
            have hD := hD.sub (ws' := [(h, .inr (5, [v_meadow, v_parts, v_ways, v_ends, .ref o])), (o, .inr (1, [.ref a_numbers_o, v_place_o, v_length_o, v_cost_o, v_step_o, v_digit_o, .int (iN df), v_kinds_o, v_heaps_o, .int (iN fr), v_v_o])), (a_numbers_o, .inl (cI, 402, .inl (ar nb)))]) [0, 1, 2] (by decide) rfl
            rcases hw38 with ⟨rfl, hw38⟩ | ⟨rfl, hw38⟩
            · refine iv_if_eq (tgt := 48) hx hb dX5_heap_41 (by decide) (by omega) (fun c41 => ?_) (fun c41 => ?_)
              · exact absurd c41 (by decide)
              · refine iv_iconst hx hb dX5_heap_44 ?_
                refine lv_goto (tgt := 49) hx hb dX5_heap_45 (by decide) ?_
                refine lv_istore (lv' := [(4, .int (iN 1)), (0, .ref h), (1, .int (iN rr)), (2, .int (iN n)), (3, .int (iN t))]) hx hb dX5_heap_49 hl (by decide) rfl (fun ls hl => ?_)
                refine lv_iload hx hb dX5_heap_51 (lv_at hl 0 rfl) ?_
                refine iv_if_eq (tgt := 69) hx hb dX5_heap_53 (by decide) (by omega) (fun c53 => ?_) (fun c53 => ?_)
                · exact absurd c53 (by decide)
                · refine lv_aload_n hx hb dX5_heap_56 rfl (lv_at hl 1 rfl) ?_
                  refine va_get (D := D) (ci := 5) (v := .ref o) (C := RX5) (T := TX5) (N := 5) hx hb hT hiX5 hown hK hP 0 rfl rfl 4 (by decide) (hT _ k_324) (fun _ h9 => h9) rfl dX5_heap_57 ?_
                  refine lv_iload_n hx hb dX5_heap_60 rfl (lv_at hl 2 rfl) ?_
                  refine lv_iload_n hx hb dX5_heap_61 rfl (lv_at hl 3 rfl) ?_
                  refine lv_iload_n hx hb dX5_heap_62 rfl (lv_at hl 4 rfl) ?_
                  refine iv_callV (mc := 0) (ms := 0) (wc := [(o, .inr (1, [.ref a_numbers_o, v_place_o, v_length_o, v_cost_o, v_step_o, v_digit_o, .int (iN df), v_kinds_o, v_heaps_o, .int (iN fr), v_v_o])), (a_numbers_o, .inl (cI, 402, .inl (ar nb)))]) (wr := [(h, .inr (5, [v_meadow, v_parts, v_ways, v_ends, .ref o]))]) (As := [.int (iN rr), .int (iN n), .int (iN t)]) (rest := []) ⟨hx, hb, hml, hown, hT⟩ (ok_X1_put l D cI o a_numbers_o v_place_o v_length_o v_cost_o v_step_o v_digit_o v_kinds_o v_heaps_o v_v_o nb df fr H.size rr n t (by first | with_reducible assumption | omega | assumption) (by first | with_reducible assumption | omega | assumption) (by first | with_reducible assumption | omega | assumption) (by first | with_reducible assumption | omega | assumption)) (iv_cw 3 hT k_637 k_65 k_746 k_635 k_636 (by decide +kernel) rfl rfl ⟨Nat.le_of_ble_eq_true rfl, Nat.le_of_ble_eq_true rfl⟩) hN hK hP hD hS hA [1, 2] [0] [0] rfl rfl (by decide) (by decide) (by decide) rfl 0 (ci := 1) rfl rfl rfl hl.1 rfl (Nat.le_of_ble_eq_true rfl) dX5_heap_63 ⟨Nat.le_of_ble_eq_true rfl, Nat.le_of_ble_eq_true rfl⟩ (fun z63 u63 H locs hw63 hP hD hS => ?_)
                  obtain ⟨df1_63, nb1_63⟩ := u63
                  have hP := hP.sub (ws' := [(h, .inr (5, [v_meadow, v_parts, v_ways, v_ends, .ref o])), (o, .inr (1, [.ref a_numbers_o, v_place_o, v_length_o, v_cost_o, v_step_o, v_digit_o, .int (iN df1_63), v_kinds_o, v_heaps_o, .int (iN 0), v_v_o])), (a_numbers_o, .inl (cI, 402, .inl (ar nb1_63)))]) [0, 1, 2] rfl
                  have hD := hD.sub (ws' := [(h, .inr (5, [v_meadow, v_parts, v_ways, v_ends, .ref o])), (o, .inr (1, [.ref a_numbers_o, v_place_o, v_length_o, v_cost_o, v_step_o, v_digit_o, .int (iN df1_63), v_kinds_o, v_heaps_o, .int (iN 0), v_v_o])), (a_numbers_o, .inl (cI, 402, .inl (ar nb1_63)))]) [0, 1, 2] (by decide) rfl
                  refine lv_goto (tgt := 70) hx hb dX5_heap_66 (by decide) ?_
                  exact iv_iret hx hb hr hlocks dX5_heap_70 (by omega) (by omega) (nb1_63, df1_63, 0) (by first | (exfalso; omega) | exact Or.inl ⟨by unfold hcOK; exact ⟨by split <;> omega, by omega, by omega, by omega, hw38⟩, hw63.1, hw63.2.1, hw63.2.2, rfl⟩ | exact Or.inr ⟨by unfold hcOK; exact fun g => hw38 g.2.2.2.2, rfl, rfl, rfl, rfl⟩ | exact Or.inr ⟨by unfold hcOK; intro g; obtain ⟨g1, g2, g3, g4, g5⟩ := g; first | omega | (rw [if_pos (by omega)] at g1; omega) | (rw [if_neg (by omega)] at g1; omega), rfl, rfl, rfl, rfl⟩) (by exact hP.sub [0, 1, 2] rfl) (by exact hD.sub [0, 1, 2] (by decide) rfl) hS
            · refine iv_if_eq (tgt := 48) hx hb dX5_heap_41 (by decide) (by omega) (fun c41 => ?_) (fun c41 => ?_)
              · refine iv_iconst hx hb dX5_heap_48 ?_
                refine lv_istore (lv' := [(4, .int (iN 0)), (0, .ref h), (1, .int (iN rr)), (2, .int (iN n)), (3, .int (iN t))]) hx hb dX5_heap_49 hl (by decide) rfl (fun ls hl => ?_)
                refine lv_iload hx hb dX5_heap_51 (lv_at hl 0 rfl) ?_
                refine iv_if_eq (tgt := 69) hx hb dX5_heap_53 (by decide) (by omega) (fun c53 => ?_) (fun c53 => ?_)
                · refine iv_iconst hx hb dX5_heap_69 ?_
                  exact iv_iret hx hb hr hlocks dX5_heap_70 (by omega) (by omega) (nb, df, fr) (by first | (exfalso; omega) | exact Or.inl ⟨by unfold hcOK; exact ⟨by split <;> omega, by omega, by omega, by omega, hw38⟩, hw63.1, hw63.2.1, hw63.2.2, rfl⟩ | exact Or.inr ⟨by unfold hcOK; exact fun g => hw38 g.2.2.2.2, rfl, rfl, rfl, rfl⟩ | exact Or.inr ⟨by unfold hcOK; intro g; obtain ⟨g1, g2, g3, g4, g5⟩ := g; first | omega | (rw [if_pos (by omega)] at g1; omega) | (rw [if_neg (by omega)] at g1; omega), rfl, rfl, rfl, rfl⟩) (by exact hP.sub [0, 1, 2] rfl) (by exact hD.sub [0, 1, 2] (by decide) rfl) hS
                · exact absurd c53 (by decide)
              · exact absurd c41 (by decide)
  · refine iv_iconst hx hb dX5_heap_5 ?_
    refine lv_goto (tgt := 10) hx hb dX5_heap_6 (by decide) ?_
    refine iv_icmp_lt (tgt := 48) hx hb dX5_heap_10 (by decide) (by omega) (by omega) (fun c10 => ?_) (fun c10 => ?_)
    · refine iv_iconst hx hb dX5_heap_48 ?_
      refine lv_istore (lv' := [(4, .int (iN 0)), (0, .ref h), (1, .int (iN rr)), (2, .int (iN n)), (3, .int (iN t))]) hx hb dX5_heap_49 hl (by decide) rfl (fun ls hl => ?_)
      refine lv_iload hx hb dX5_heap_51 (lv_at hl 0 rfl) ?_
      refine iv_if_eq (tgt := 69) hx hb dX5_heap_53 (by decide) (by omega) (fun c53 => ?_) (fun c53 => ?_)
      · refine iv_iconst hx hb dX5_heap_69 ?_
        exact iv_iret hx hb hr hlocks dX5_heap_70 (by omega) (by omega) (nb, df, fr) (by first | (exfalso; omega) | exact Or.inl ⟨by unfold hcOK; exact ⟨by split <;> omega, by omega, by omega, by omega, hw38⟩, hw63.1, hw63.2.1, hw63.2.2, rfl⟩ | exact Or.inr ⟨by unfold hcOK; exact fun g => hw38 g.2.2.2.2, rfl, rfl, rfl, rfl⟩ | exact Or.inr ⟨by unfold hcOK; intro g; obtain ⟨g1, g2, g3, g4, g5⟩ := g; first | omega | (rw [if_pos (by omega)] at g1; omega) | (rw [if_neg (by omega)] at g1; omega), rfl, rfl, rfl, rfl⟩) (by exact hP.sub [0, 1, 2] rfl) (by exact hD.sub [0, 1, 2] (by decide) rfl) hS
      · exact absurd c53 (by decide)
    · refine lv_iload_n hx hb dX5_heap_13 rfl (lv_at hl 2 rfl) ?_
      refine iv_sipush hx hb dX5_heap_14 (by decide) ?_
      refine iv_icmp_gt (tgt := 48) hx hb dX5_heap_17 (by decide) (by omega) (by omega) (fun c17 => ?_) (fun c17 => ?_)
      · refine iv_iconst hx hb dX5_heap_48 ?_
        refine lv_istore (lv' := [(4, .int (iN 0)), (0, .ref h), (1, .int (iN rr)), (2, .int (iN n)), (3, .int (iN t))]) hx hb dX5_heap_49 hl (by decide) rfl (fun ls hl => ?_)
        refine lv_iload hx hb dX5_heap_51 (lv_at hl 0 rfl) ?_
        refine iv_if_eq (tgt := 69) hx hb dX5_heap_53 (by decide) (by omega) (fun c53 => ?_) (fun c53 => ?_)
        · refine iv_iconst hx hb dX5_heap_69 ?_
          exact iv_iret hx hb hr hlocks dX5_heap_70 (by omega) (by omega) (nb, df, fr) (by first | (exfalso; omega) | exact Or.inl ⟨by unfold hcOK; exact ⟨by split <;> omega, by omega, by omega, by omega, hw38⟩, hw63.1, hw63.2.1, hw63.2.2, rfl⟩ | exact Or.inr ⟨by unfold hcOK; exact fun g => hw38 g.2.2.2.2, rfl, rfl, rfl, rfl⟩ | exact Or.inr ⟨by unfold hcOK; intro g; obtain ⟨g1, g2, g3, g4, g5⟩ := g; first | omega | (rw [if_pos (by omega)] at g1; omega) | (rw [if_neg (by omega)] at g1; omega), rfl, rfl, rfl, rfl⟩) (by exact hP.sub [0, 1, 2] rfl) (by exact hD.sub [0, 1, 2] (by decide) rfl) hS
        · exact absurd c53 (by decide)
      · refine lv_iload_n hx hb dX5_heap_20 rfl (lv_at hl 3 rfl) ?_
        refine iv_iconst hx hb dX5_heap_21 ?_
        refine iv_icmp_lt (tgt := 48) hx hb dX5_heap_22 (by decide) (by omega) (by omega) (fun c22 => ?_) (fun c22 => ?_)
        · refine iv_iconst hx hb dX5_heap_48 ?_
          refine lv_istore (lv' := [(4, .int (iN 0)), (0, .ref h), (1, .int (iN rr)), (2, .int (iN n)), (3, .int (iN t))]) hx hb dX5_heap_49 hl (by decide) rfl (fun ls hl => ?_)
          refine lv_iload hx hb dX5_heap_51 (lv_at hl 0 rfl) ?_
          refine iv_if_eq (tgt := 69) hx hb dX5_heap_53 (by decide) (by omega) (fun c53 => ?_) (fun c53 => ?_)
          · refine iv_iconst hx hb dX5_heap_69 ?_
            exact iv_iret hx hb hr hlocks dX5_heap_70 (by omega) (by omega) (nb, df, fr) (by first | (exfalso; omega) | exact Or.inl ⟨by unfold hcOK; exact ⟨by split <;> omega, by omega, by omega, by omega, hw38⟩, hw63.1, hw63.2.1, hw63.2.2, rfl⟩ | exact Or.inr ⟨by unfold hcOK; exact fun g => hw38 g.2.2.2.2, rfl, rfl, rfl, rfl⟩ | exact Or.inr ⟨by unfold hcOK; intro g; obtain ⟨g1, g2, g3, g4, g5⟩ := g; first | omega | (rw [if_pos (by omega)] at g1; omega) | (rw [if_neg (by omega)] at g1; omega), rfl, rfl, rfl, rfl⟩) (by exact hP.sub [0, 1, 2] rfl) (by exact hD.sub [0, 1, 2] (by decide) rfl) hS
          · exact absurd c53 (by decide)
        · refine lv_iload_n hx hb dX5_heap_25 rfl (lv_at hl 3 rfl) ?_
          refine iv_bipush hx hb dX5_heap_26 (by decide) ?_
          refine iv_icmp_gt (tgt := 48) hx hb dX5_heap_28 (by decide) (by omega) (by omega) (fun c28 => ?_) (fun c28 => ?_)
          · refine iv_iconst hx hb dX5_heap_48 ?_
            refine lv_istore (lv' := [(4, .int (iN 0)), (0, .ref h), (1, .int (iN rr)), (2, .int (iN n)), (3, .int (iN t))]) hx hb dX5_heap_49 hl (by decide) rfl (fun ls hl => ?_)
            refine lv_iload hx hb dX5_heap_51 (lv_at hl 0 rfl) ?_
            refine iv_if_eq (tgt := 69) hx hb dX5_heap_53 (by decide) (by omega) (fun c53 => ?_) (fun c53 => ?_)
            · refine iv_iconst hx hb dX5_heap_69 ?_
              exact iv_iret hx hb hr hlocks dX5_heap_70 (by omega) (by omega) (nb, df, fr) (by first | (exfalso; omega) | exact Or.inl ⟨by unfold hcOK; exact ⟨by split <;> omega, by omega, by omega, by omega, hw38⟩, hw63.1, hw63.2.1, hw63.2.2, rfl⟩ | exact Or.inr ⟨by unfold hcOK; exact fun g => hw38 g.2.2.2.2, rfl, rfl, rfl, rfl⟩ | exact Or.inr ⟨by unfold hcOK; intro g; obtain ⟨g1, g2, g3, g4, g5⟩ := g; first | omega | (rw [if_pos (by omega)] at g1; omega) | (rw [if_neg (by omega)] at g1; omega), rfl, rfl, rfl, rfl⟩) (by exact hP.sub [0, 1, 2] rfl) (by exact hD.sub [0, 1, 2] (by decide) rfl) hS
            · exact absurd c53 (by decide)
          · refine lv_aload_n hx hb dX5_heap_31 rfl (lv_at hl 0 rfl) ?_
            refine va_get (D := D) (ci := 5) (v := .ref o) (C := RX5) (T := TX5) (N := 5) hx hb hT hiX5 hown hK hP 0 rfl rfl 4 (by decide) (hT _ k_324) (fun _ h9 => h9) rfl dX5_heap_32 ?_
            refine lv_iload_n hx hb dX5_heap_35 rfl (lv_at hl 1 rfl) ?_
            refine lv_iload_n hx hb dX5_heap_36 rfl (lv_at hl 2 rfl) ?_
            refine lv_iload_n hx hb dX5_heap_37 rfl (lv_at hl 3 rfl) ?_
            refine iv_callV (mc := 0) (ms := 0) (wc := [(o, .inr (1, [.ref a_numbers_o, v_place_o, v_length_o, v_cost_o, v_step_o, v_digit_o, .int (iN df), v_kinds_o, v_heaps_o, .int (iN fr), v_v_o])), (a_numbers_o, .inl (cI, 402, .inl (ar nb)))]) (wr := [(h, .inr (5, [v_meadow, v_parts, v_ways, v_ends, .ref o]))]) (As := [.int (iN rr), .int (iN n), .int (iN t)]) (rest := []) ⟨hx, hb, hml, hown, hT⟩ (ok_X1_hasRoom l D cI o a_numbers_o v_place_o v_length_o v_cost_o v_step_o v_digit_o v_kinds_o v_heaps_o (.int (iN fr)) v_v_o nb df H.size rr n t (by first | with_reducible assumption | omega | assumption) (by first | with_reducible assumption | omega | assumption) (by first | with_reducible assumption | omega | assumption) (by first | with_reducible assumption | omega | assumption) (by first | with_reducible assumption | omega | assumption)) (iv_cw 3 hT k_745 k_65 k_742 k_743 k_744 (by decide +kernel) rfl rfl ⟨Nat.le_of_ble_eq_true rfl, Nat.le_of_ble_eq_true rfl⟩) hN hK hP hD hS hA [1, 2] [0] [0] rfl rfl (by decide) (by decide) (by decide) rfl 0 (ci := 1) rfl rfl rfl hl.1 rfl (Nat.le_of_ble_eq_true rfl) dX5_heap_38 ⟨Nat.le_of_ble_eq_true rfl, Nat.le_of_ble_eq_true rfl⟩ (fun z38 u38 H locs hw38 hP hD hS => ?_)
            have hP := hP.sub (ws' := [(h, .inr (5, [v_meadow, v_parts, v_ways, v_ends, .ref o])), (o, .inr (1, [.ref a_numbers_o, v_place_o, v_length_o, v_cost_o, v_step_o, v_digit_o, .int (iN df), v_kinds_o, v_heaps_o, .int (iN fr), v_v_o])), (a_numbers_o, .inl (cI, 402, .inl (ar nb)))]) [0, 1, 2] rfl
            have hD := hD.sub (ws' := [(h, .inr (5, [v_meadow, v_parts, v_ways, v_ends, .ref o])), (o, .inr (1, [.ref a_numbers_o, v_place_o, v_length_o, v_cost_o, v_step_o, v_digit_o, .int (iN df), v_kinds_o, v_heaps_o, .int (iN fr), v_v_o])), (a_numbers_o, .inl (cI, 402, .inl (ar nb)))]) [0, 1, 2] (by decide) rfl
            rcases hw38 with ⟨rfl, hw38⟩ | ⟨rfl, hw38⟩
            · refine iv_if_eq (tgt := 48) hx hb dX5_heap_41 (by decide) (by omega) (fun c41 => ?_) (fun c41 => ?_)
              · exact absurd c41 (by decide)
              · refine iv_iconst hx hb dX5_heap_44 ?_
                refine lv_goto (tgt := 49) hx hb dX5_heap_45 (by decide) ?_
                refine lv_istore (lv' := [(4, .int (iN 1)), (0, .ref h), (1, .int (iN rr)), (2, .int (iN n)), (3, .int (iN t))]) hx hb dX5_heap_49 hl (by decide) rfl (fun ls hl => ?_)
                refine lv_iload hx hb dX5_heap_51 (lv_at hl 0 rfl) ?_
                refine iv_if_eq (tgt := 69) hx hb dX5_heap_53 (by decide) (by omega) (fun c53 => ?_) (fun c53 => ?_)
                · exact absurd c53 (by decide)
                · refine lv_aload_n hx hb dX5_heap_56 rfl (lv_at hl 1 rfl) ?_
                  refine va_get (D := D) (ci := 5) (v := .ref o) (C := RX5) (T := TX5) (N := 5) hx hb hT hiX5 hown hK hP 0 rfl rfl 4 (by decide) (hT _ k_324) (fun _ h9 => h9) rfl dX5_heap_57 ?_
                  refine lv_iload_n hx hb dX5_heap_60 rfl (lv_at hl 2 rfl) ?_
                  refine lv_iload_n hx hb dX5_heap_61 rfl (lv_at hl 3 rfl) ?_
                  refine lv_iload_n hx hb dX5_heap_62 rfl (lv_at hl 4 rfl) ?_
                  refine iv_callV (mc := 0) (ms := 0) (wc := [(o, .inr (1, [.ref a_numbers_o, v_place_o, v_length_o, v_cost_o, v_step_o, v_digit_o, .int (iN df), v_kinds_o, v_heaps_o, .int (iN fr), v_v_o])), (a_numbers_o, .inl (cI, 402, .inl (ar nb)))]) (wr := [(h, .inr (5, [v_meadow, v_parts, v_ways, v_ends, .ref o]))]) (As := [.int (iN rr), .int (iN n), .int (iN t)]) (rest := []) ⟨hx, hb, hml, hown, hT⟩ (ok_X1_put l D cI o a_numbers_o v_place_o v_length_o v_cost_o v_step_o v_digit_o v_kinds_o v_heaps_o v_v_o nb df fr H.size rr n t (by first | with_reducible assumption | omega | assumption) (by first | with_reducible assumption | omega | assumption) (by first | with_reducible assumption | omega | assumption) (by first | with_reducible assumption | omega | assumption)) (iv_cw 3 hT k_637 k_65 k_746 k_635 k_636 (by decide +kernel) rfl rfl ⟨Nat.le_of_ble_eq_true rfl, Nat.le_of_ble_eq_true rfl⟩) hN hK hP hD hS hA [1, 2] [0] [0] rfl rfl (by decide) (by decide) (by decide) rfl 0 (ci := 1) rfl rfl rfl hl.1 rfl (Nat.le_of_ble_eq_true rfl) dX5_heap_63 ⟨Nat.le_of_ble_eq_true rfl, Nat.le_of_ble_eq_true rfl⟩ (fun z63 u63 H locs hw63 hP hD hS => ?_)
                  obtain ⟨df1_63, nb1_63⟩ := u63
                  have hP := hP.sub (ws' := [(h, .inr (5, [v_meadow, v_parts, v_ways, v_ends, .ref o])), (o, .inr (1, [.ref a_numbers_o, v_place_o, v_length_o, v_cost_o, v_step_o, v_digit_o, .int (iN df1_63), v_kinds_o, v_heaps_o, .int (iN 0), v_v_o])), (a_numbers_o, .inl (cI, 402, .inl (ar nb1_63)))]) [0, 1, 2] rfl
                  have hD := hD.sub (ws' := [(h, .inr (5, [v_meadow, v_parts, v_ways, v_ends, .ref o])), (o, .inr (1, [.ref a_numbers_o, v_place_o, v_length_o, v_cost_o, v_step_o, v_digit_o, .int (iN df1_63), v_kinds_o, v_heaps_o, .int (iN 0), v_v_o])), (a_numbers_o, .inl (cI, 402, .inl (ar nb1_63)))]) [0, 1, 2] (by decide) rfl
                  refine lv_goto (tgt := 70) hx hb dX5_heap_66 (by decide) ?_
                  exact iv_iret hx hb hr hlocks dX5_heap_70 (by omega) (by omega) (nb1_63, df1_63, 0) (by first | (exfalso; omega) | exact Or.inl ⟨by unfold hcOK; exact ⟨by split <;> omega, by omega, by omega, by omega, hw38⟩, hw63.1, hw63.2.1, hw63.2.2, rfl⟩ | exact Or.inr ⟨by unfold hcOK; exact fun g => hw38 g.2.2.2.2, rfl, rfl, rfl, rfl⟩ | exact Or.inr ⟨by unfold hcOK; intro g; obtain ⟨g1, g2, g3, g4, g5⟩ := g; first | omega | (rw [if_pos (by omega)] at g1; omega) | (rw [if_neg (by omega)] at g1; omega), rfl, rfl, rfl, rfl⟩) (by exact hP.sub [0, 1, 2] rfl) (by exact hD.sub [0, 1, 2] (by decide) rfl) hS
            · refine iv_if_eq (tgt := 48) hx hb dX5_heap_41 (by decide) (by omega) (fun c41 => ?_) (fun c41 => ?_)
              · refine iv_iconst hx hb dX5_heap_48 ?_
                refine lv_istore (lv' := [(4, .int (iN 0)), (0, .ref h), (1, .int (iN rr)), (2, .int (iN n)), (3, .int (iN t))]) hx hb dX5_heap_49 hl (by decide) rfl (fun ls hl => ?_)
                refine lv_iload hx hb dX5_heap_51 (lv_at hl 0 rfl) ?_
                refine iv_if_eq (tgt := 69) hx hb dX5_heap_53 (by decide) (by omega) (fun c53 => ?_) (fun c53 => ?_)
                · refine iv_iconst hx hb dX5_heap_69 ?_
                  exact iv_iret hx hb hr hlocks dX5_heap_70 (by omega) (by omega) (nb, df, fr) (by first | (exfalso; omega) | exact Or.inl ⟨by unfold hcOK; exact ⟨by split <;> omega, by omega, by omega, by omega, hw38⟩, hw63.1, hw63.2.1, hw63.2.2, rfl⟩ | exact Or.inr ⟨by unfold hcOK; exact fun g => hw38 g.2.2.2.2, rfl, rfl, rfl, rfl⟩ | exact Or.inr ⟨by unfold hcOK; intro g; obtain ⟨g1, g2, g3, g4, g5⟩ := g; first | omega | (rw [if_pos (by omega)] at g1; omega) | (rw [if_neg (by omega)] at g1; omega), rfl, rfl, rfl, rfl⟩) (by exact hP.sub [0, 1, 2] rfl) (by exact hD.sub [0, 1, 2] (by decide) rfl) hS
                · exact absurd c53 (by decide)
              · exact absurd c41 (by decide)
