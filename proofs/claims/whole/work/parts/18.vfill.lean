section IVE
variable {p : Program} {l : Launch} {e : Env} {R : Room} {s : State} {m : MethodId} {args : Array Value} {below : List Frame} {meth : Method} {c : Code} {H : Heap} {locs : List Loc} {cells slots : Nat} {Q : State → Prop}
variable {cc : ByteArray} {pc : Nat} {ls : Array Slot} {rest : List Value}
theorem iN_div {x y : Int} (hx : 0 ≤ x ∧ x < 2147483648) (hy : 0 < y ∧ y < 2147483648) : iN x / iN y = iN (x / y) := by
  obtain ⟨a, rfl⟩ := Int.eq_ofNat_of_zero_le hx.1
  obtain ⟨b, rfl⟩ := Int.eq_ofNat_of_zero_le (show 0 ≤ y by omega)
  show nI a / nI b = _
  rw [pk_div (by omega) (by omega) (by omega)]
  rfl
theorem iN_rem {x y : Int} (hx : 0 ≤ x ∧ x < 2147483648) (hy : 0 < y ∧ y < 2147483648) : iN x - iN x / iN y * iN y = iN (x % y) := by
  obtain ⟨a, rfl⟩ := Int.eq_ofNat_of_zero_le hx.1
  obtain ⟨b, rfl⟩ := Int.eq_ofNat_of_zero_le (show 0 ≤ y by omega)
  show nI a - nI a / nI b * nI b = _
  rw [pk_rem (by omega) (by omega) (by omega)]
  rfl
theorem iv_ne0 {y : Int} (hy : 0 < y ∧ y < 2147483648) : ¬ iN y = 0 := fun h => by
  have := (iN_eq (a := y) (b := 0) (by omega) (by omega)).mp h
  omega
theorem iv_idiv (hx : p.tables.exec = Jvm.exec) (hb : c.code = cc) {x y : Int} (hdg : decode cc pc = .ok (.idiv, 1)) (h1 : 0 ≤ x ∧ x < 2147483648) (h2 : 0 < y ∧ y < 2147483648) (k : W p l e R s m args below meth c H locs cells slots Q (F0 m (pc + 1) ls (.int (iN (x / y)) :: rest))) : W p l e R s m args below meth c H locs cells slots Q (F0 m pc ls (.int (iN y) :: .int (iN x) :: rest)) := lv_idiv hx hb hdg (iv_ne0 h2) (by rw [iN_div h1 h2]; exact k)
theorem iv_irem (hx : p.tables.exec = Jvm.exec) (hb : c.code = cc) {x y : Int} (hdg : decode cc pc = .ok (.irem, 1)) (h1 : 0 ≤ x ∧ x < 2147483648) (h2 : 0 < y ∧ y < 2147483648) (k : W p l e R s m args below meth c H locs cells slots Q (F0 m (pc + 1) ls (.int (iN (x % y)) :: rest))) : W p l e R s m args below meth c H locs cells slots Q (F0 m pc ls (.int (iN y) :: .int (iN x) :: rest)) := lv_irem hx hb hdg (iv_ne0 h2) (by rw [iN_rem h1 h2]; exact k)
end IVE
theorem kN_c {x1 x2 : Int → Int} {n : Int} (h0 : 1 ≤ n) (h1 : n ≤ 200) : kN x1 x2 n = x1 n := if_pos ⟨h0, h1⟩
theorem kN_r {x1 x2 : Int → Int} {n : Int} (h0 : 1 ≤ n) (h1 : n ≤ 200) : kN x1 x2 (201 + n) = x2 n := by
  unfold kN
  rw [if_neg (by omega), if_pos (by omega), show 201 + n - 201 = n by omega]
theorem layOK_0 (x1 x2 lg nu ri sp : Int → Int) : layOK x1 x2 1 0 lg nu ri sp := by
  have : layOK x1 x2 (0 + 1) 0 lg nu ri sp := layOK_skip (by omega) ⟨rfl, fun q a b => absurd b (by omega)⟩ (by show ¬ 0 < kN x1 x2 0; unfold kN; rw [if_neg (by omega), if_neg (by omega)]; omega)
  exact this
theorem layOK_mid {x1 x2 lg nu ri sp : Int → Int} {nk : Int} (h : layOK x1 x2 201 nk lg nu ri sp) : layOK x1 x2 202 nk lg nu ri sp := by
  have : layOK x1 x2 (201 + 1) nk lg nu ri sp := layOK_skip (by omega) h (by unfold kN; rw [if_neg (by omega), if_neg (by omega)]; omega)
  exact this
theorem prI_0 (x1 x2 : Int → Int) : prI x1 x2 1 = 1 := by
  have : prI x1 x2 (0 + 1) = prI x1 x2 0 * (kN x1 x2 0 + 1) := prI_s (by omega)
  rw [show (1 : Int) = 0 + 1 from rfl, this, show kN x1 x2 0 = 0 by unfold kN; rw [if_neg (by omega), if_neg (by omega)]]
  rfl
theorem prI_mid (x1 x2 : Int → Int) : prI x1 x2 202 = prI x1 x2 201 := by
  have : prI x1 x2 (201 + 1) = prI x1 x2 201 * (kN x1 x2 201 + 1) := prI_s (by omega)
  rw [show (202 : Int) = 201 + 1 from rfl, this, show kN x1 x2 201 = 0 by unfold kN; rw [if_neg (by omega), if_neg (by omega)]]
  omega
theorem dg_pos {sp nu : Int → Int} {h k : Int} (hs : 1 ≤ sp k) (hh : 0 ≤ h) (hd : 0 < dgI sp nu h k) : sp k ≤ h := by
  apply Classical.byContradiction
  intro g
  unfold dgI at hd
  rw [Int.ediv_eq_zero_of_lt hh (by omega)] at hd
  rw [Int.zero_emod] at hd
  omega
/-- a heap that is none has one of some kind -/
theorem dg_div {x1 x2 : Int → Int} (h1 : rg x1 201 0 1000) (h2 : rg x2 201 0 1000) {h : Int} : ∀ p : Nat, (∀ q : Int, 0 ≤ q → q < p → 0 < kN x1 x2 q → ¬ 0 < h / prI x1 x2 q % (kN x1 x2 q + 1)) → prI x1 x2 p ∣ h
  | 0, _ => ⟨h, by show h = 1 * h; omega⟩
  | p + 1, hq => by
    obtain ⟨w, hw⟩ := dg_div h1 h2 p (fun q a b c => hq q a (by omega) c)
    have hk := kN_nn h1 h2 (p : Int)
    have hp := prI_pos h1 h2 (p : Int)
    rw [show ((p + 1 : Nat) : Int) = (p : Int) + 1 from rfl, prI_s (by omega)]
    by_cases hz : 0 < kN x1 x2 p
    · have a := hq p (by omega) (by omega) hz
      have e : h / prI x1 x2 p = w := by rw [hw]; exact Int.mul_ediv_cancel_left w (by omega)
      rw [e] at a
      have b : 0 ≤ w % (kN x1 x2 p + 1) := Int.emod_nonneg w (by omega)
      have d : (kN x1 x2 p + 1) ∣ w := Int.dvd_of_emod_eq_zero (by omega)
      obtain ⟨v, hv⟩ := d
      exact ⟨v, by rw [hw, hv, Int.mul_assoc]⟩
    · rw [show kN x1 x2 (p : Int) + 1 = 1 by omega]
      exact ⟨w, by rw [Int.mul_one]; exact hw⟩
theorem dg_ex {x1 x2 lg nu ri sp : Int → Int} {nk h : Int} (h1 : rg x1 201 0 1000) (h2 : rg x2 201 0 1000) (hl : layOK x1 x2 402 nk lg nu ri sp) (ha : 1 ≤ h) (hb : h < prI x1 x2 402) : ∃ k : Int, 0 ≤ k ∧ k < nk ∧ 0 < dgI sp nu h k := by
  apply Classical.byContradiction
  intro g
  have := dg_div h1 h2 (h := h) 402 (fun q a b c hd => g ⟨ixI x1 x2 q, (ixI_bd x1 x2 a).1, by rw [hl.1]; exact ixI_lt a (by omega) c, by
    obtain ⟨-, e2, -, e4⟩ := hl.2 q a (by omega) c
    unfold dgI
    rw [e2, e4]; exact hd⟩)
  have := Int.le_of_dvd (by omega) this
  have e : prI x1 x2 ((402 : Nat) : Int) = prI x1 x2 402 := rfl
  omega
/-- what the rows of a layout hold -/
theorem lay_rg {x1 x2 lg nu ri sp : Int → Int} {nk : Int} (h1 : rg x1 201 0 1000) (h2 : rg x2 201 0 1000) (hl : layOK x1 x2 402 nk lg nu ri sp) {k : Int} (h0 : 0 ≤ k) (hk : k < nk) : (1 ≤ lg k ∧ lg k ≤ 200) ∧ (1 ≤ nu k ∧ nu k ≤ 1000) ∧ (ri k = 0 ∨ ri k = 1) ∧ (1 ≤ sp k ∧ sp k ≤ prI x1 x2 402) := by
  obtain ⟨q, a, b, d, e⟩ := ix_on (x1 := x1) (x2 := x2) (p := 402) (by omega) h0 (by rw [← hl.1]; exact hk)
  obtain ⟨f1, f2, f3, f4⟩ := hl.2 q a b d
  rw [e] at f1 f2 f3 f4
  have g := kN_nn h1 h2 q
  have i := prI_pos h1 h2 q
  have j := prI_mono h1 h2 a (show q ≤ 402 by omega)
  have hq : (1 ≤ q ∧ q ≤ 200) ∨ (202 ≤ q ∧ q ≤ 401) := by
    unfold kN at d
    split at d
    · omega
    · split at d <;> omega
  refine ⟨?_, by omega, ?_, by omega⟩
  · rw [f1]; split <;> omega
  · rw [f3]; split <;> omega
theorem opv_bd {lg ri sp va : Int → Int} {h k B : Int} (h1 : 1 ≤ lg k ∧ lg k ≤ 200) (hB : -B ≤ va (h - sp k) ∧ va (h - sp k) ≤ B) : -(208 + B) ≤ opv lg ri sp va h k ∧ opv lg ri sp va h k ≤ 208 + B := by
  unfold opv
  split
  · omega
  · split <;> omega
theorem bstN_congr {lg nu ri sp va va' : Int → Int} {b0 h : Int} : ∀ n : Nat, (∀ k : Int, 0 ≤ k → k < n → 0 < dgI sp nu h k → va (h - sp k) = va' (h - sp k)) → bstN lg nu ri sp va b0 h n = bstN lg nu ri sp va' b0 h n
  | 0, _ => rfl
  | n + 1, hk => by
    unfold bstN
    rw [bstN_congr n (fun k a b c => hk k a (by omega) c)]
    split
    · rename_i hd
      rw [show opv lg ri sp va h (n : Int) = opv lg ri sp va' h (n : Int) by unfold opv; rw [hk n (by omega) (by omega) hd]]
    · rfl
theorem bst_congr {lg nu ri sp va va' : Int → Int} {b0 h n : Int} (hk : ∀ k : Int, 0 ≤ k → k < n → 0 < dgI sp nu h k → va (h - sp k) = va' (h - sp k)) : bst lg nu ri sp va b0 h n = bst lg nu ri sp va' b0 h n :=
  bstN_congr n.toNat (fun k a b c => hk k a (by omega) c)
theorem bstN_ge {lg nu ri sp va : Int → Int} {b0 h : Int} : ∀ (n : Nat) (k : Int), 0 ≤ k → k < n → 0 < dgI sp nu h k → opv lg ri sp va h k ≤ bstN lg nu ri sp va b0 h n
  | 0, k, a, b, _ => absurd b (by omega)
  | n + 1, k, a, b, hd => by
    unfold bstN
    by_cases e : k = n
    · rw [← e, if_pos hd]; omega
    · have := bstN_ge (lg := lg) (ri := ri) (va := va) (b0 := b0) n k a (by omega) hd
      split <;> omega
theorem bst_ge {lg nu ri sp va : Int → Int} {b0 h n k : Int} (a : 0 ≤ k) (b : k < n) (hd : 0 < dgI sp nu h k) : opv lg ri sp va h k ≤ bst lg nu ri sp va b0 h n := bstN_ge n.toNat k a (by omega) hd
theorem bstN_le {lg nu ri sp va : Int → Int} {b0 h B : Int} (h0 : b0 ≤ B) : ∀ (n : Nat), (∀ k : Int, 0 ≤ k → k < n → 0 < dgI sp nu h k → opv lg ri sp va h k ≤ B) → b0 ≤ bstN lg nu ri sp va b0 h n ∧ bstN lg nu ri sp va b0 h n ≤ B
  | 0, _ => ⟨Int.le_refl _, h0⟩
  | n + 1, hk => by
    have a := bstN_le h0 n (fun k a b c => hk k a (by omega) c)
    unfold bstN
    split
    · have := hk n (by omega) (by omega) (by assumption)
      omega
    · exact a
theorem bst_le {lg nu ri sp va : Int → Int} {b0 h B n : Int} (h0 : b0 ≤ B) (hk : ∀ k : Int, 0 ≤ k → k < n → 0 < dgI sp nu h k → opv lg ri sp va h k ≤ B) : b0 ≤ bst lg nu ri sp va b0 h n ∧ bst lg nu ri sp va b0 h n ≤ B :=
  bstN_le h0 n.toNat (fun k a b c => hk k a (by omega) c)
/-- the table grows by one -/
theorem vTab_s {x1 x2 lg nu ri sp va : Int → Int} {nk b0 h w : Int} (h1 : rg x1 201 0 1000) (h2 : rg x2 201 0 1000) (hl : layOK x1 x2 402 nk lg nu ri sp) (hb0 : b0 ≤ -10000000) (ha : 1 ≤ h) (hh : h < prI x1 x2 402) (hm : prI x1 x2 402 ≤ 20000) (hv : vTab lg nu ri sp nk b0 va h) (hw : w = bst lg nu ri sp va b0 h nk) : vTab lg nu ri sp nk b0 (uI va h w) (h + 1) := by
  obtain ⟨v0, v1, v2⟩ := hv
  have cg : ∀ q : Int, 1 ≤ q → q ≤ h → bst lg nu ri sp (uI va h w) b0 q nk = bst lg nu ri sp va b0 q nk := fun q a b => bst_congr (fun k k0 k1 kd => by
    have := (lay_rg h1 h2 hl k0 k1).2.2.2
    exact uI_ne (by omega))
  refine ⟨by rw [uI_ne (by omega)]; exact v0, fun q a b => ?_, fun q a b => ?_⟩
  · rw [cg q a (by omega)]
    by_cases g : q = h
    · rw [g, uI_eq]; exact hw
    · rw [uI_ne g]; exact v1 q a (by omega)
  · by_cases g : q = h
    · rw [g, uI_eq, hw]
      have ub : ∀ k : Int, 0 ≤ k → k < nk → 0 < dgI sp nu h k → -(208 * h) ≤ opv lg ri sp va h k ∧ opv lg ri sp va h k ≤ 208 * h := fun k k0 k1 kd => by
        have r := lay_rg h1 h2 hl k0 k1
        have p := dg_pos r.2.2.2.1 (by omega) kd
        have q := v2 (h - sp k) (by omega) (by omega)
        have := opv_bd (lg := lg) (ri := ri) (sp := sp) (va := va) (h := h) (k := k) (B := 208 * (h - 1)) r.1 (by omega)
        omega
      obtain ⟨k, k0, k1, kd⟩ := dg_ex h1 h2 hl ha hh
      have lo := bst_ge (lg := lg) (nu := nu) (ri := ri) (sp := sp) (va := va) (b0 := b0) (h := h) (n := nk) k0 k1 kd
      have l2 := ub k k0 k1 kd
      have hi := bst_le (lg := lg) (nu := nu) (ri := ri) (sp := sp) (va := va) (b0 := b0) (h := h) (n := nk) (B := 208 * h) (by omega) (fun k a b c => (ub k a b c).2)
      omega
    · rw [uI_ne g]; exact v2 q a (by omega)
/-- which kinds are best to open in heap tp -/
def gdK (lg ri sp va : Int → Int) (tp : Int) : Int → Int := fun k => if opv lg ri sp va tp k = va tp then 1 else 0
theorem gdK_t {lg ri sp va : Int → Int} {tp k : Int} (h : opv lg ri sp va tp k = va tp) : gdK lg ri sp va tp k = 1 := if_pos h
theorem gdK_f {lg ri sp va : Int → Int} {tp k : Int} (h : ¬ opv lg ri sp va tp k = va tp) : gdK lg ri sp va tp k = 0 := if_neg h
theorem gdK_nn (lg ri sp va : Int → Int) (tp k : Int) : 0 ≤ gdK lg ri sp va tp k ∧ gdK lg ri sp va tp k ≤ 1 := ite_bd _
theorem su_nn' {g : Int → Int} (h : ∀ k : Int, 0 ≤ g k) (n : Int) : 0 ≤ su g n := su_nn (fun j _ _ => h j)
