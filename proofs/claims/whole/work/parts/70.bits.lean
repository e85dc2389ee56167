/-! BITS: sets of sides as numbers -/
theorem nx_and (a b : Nat) : nI a &&& nI b = nI (a &&& b) := by
  apply Int32.toBitVec_inj.1
  show BitVec.ofNat 32 a &&& BitVec.ofNat 32 b = BitVec.ofNat 32 (a &&& b)
  apply BitVec.eq_of_getLsbD_eq
  intro i hi
  simp [hi]
theorem nx_or (a b : Nat) : nI a ||| nI b = nI (a ||| b) := by
  apply Int32.toBitVec_inj.1
  show BitVec.ofNat 32 a ||| BitVec.ofNat 32 b = BitVec.ofNat 32 (a ||| b)
  apply BitVec.eq_of_getLsbD_eq
  intro i hi
  simp [hi]
theorem nx_xor (a b : Nat) : nI a ^^^ nI b = nI (a ^^^ b) := by
  apply Int32.toBitVec_inj.1
  show BitVec.ofNat 32 a ^^^ BitVec.ofNat 32 b = BitVec.ofNat 32 (a ^^^ b)
  apply BitVec.eq_of_getLsbD_eq
  intro i hi
  simp [hi]
theorem s_l : ∀ n, n < 32 → ((nI n &&& 31).toBitVec.smod 32).toNat = n := by decide +kernel
def p2 (k : Int) : Int := ((2 ^ k.toNat : Nat) : Int)
def bA (a b : Int) : Int := ((a.toNat &&& b.toNat : Nat) : Int)
def bO (a b : Int) : Int := ((a.toNat ||| b.toNat : Nat) : Int)
def bX (a b : Int) : Int := ((a.toNat ^^^ b.toNat : Nat) : Int)
theorem iN_nn {a : Int} (h : 0 ≤ a) : iN a = nI a.toNat := by rw [← iN_nI, Int.toNat_of_nonneg h]
theorem iN_and {a b : Int} (ha : 0 ≤ a) (hb : 0 ≤ b) : iN a &&& iN b = iN (bA a b) := by rw [iN_nn ha, iN_nn hb, nx_and]; rfl
theorem iN_or {a b : Int} (ha : 0 ≤ a) (hb : 0 ≤ b) : iN a ||| iN b = iN (bO a b) := by rw [iN_nn ha, iN_nn hb, nx_or]; rfl
theorem iN_xor {a b : Int} (ha : 0 ≤ a) (hb : 0 ≤ b) : iN a ^^^ iN b = iN (bX a b) := by rw [iN_nn ha, iN_nn hb, nx_xor]; rfl
theorem p2_pos (k : Int) : 1 ≤ p2 k := by
  have := Nat.pow_pos (n := k.toNat) (show 0 < 2 by decide)
  unfold p2; omega
theorem iN_shl {a k : Int} (ha : 0 ≤ a) (hk : 0 ≤ k ∧ k < 31) (hm : a * p2 k < 2147483648) : iN a <<< (iN k &&& 31) = iN (a * p2 k) := by
  obtain ⟨x, rfl⟩ := Int.eq_ofNat_of_zero_le ha
  obtain ⟨y, rfl⟩ := Int.eq_ofNat_of_zero_le hk.1
  have e : ((x : Int) * p2 (y : Int)) = ((x * 2 ^ y : Nat) : Int) := by unfold p2; simp
  rw [e] at hm ⊢
  show nI x <<< (nI y &&& 31) = nI (x * 2 ^ y)
  exact pk_shlN _ y (s_l y (by omega)) (by omega)
theorem iN_shr {a k : Int} (ha : 0 ≤ a ∧ a < 2147483648) (hk : 0 ≤ k ∧ k < 32) : iN a >>> (iN k &&& 31) = iN (a / p2 k) := by
  obtain ⟨x, rfl⟩ := Int.eq_ofNat_of_zero_le ha.1
  obtain ⟨y, rfl⟩ := Int.eq_ofNat_of_zero_le hk.1
  have e : ((x : Int) / p2 (y : Int)) = ((x / 2 ^ y : Nat) : Int) := by unfold p2; simp
  rw [e]
  show nI x >>> (nI y &&& 31) = nI (x / 2 ^ y)
  exact pk_shrN (by omega) _ y (s_l y (by omega))
theorem p2_le {k : Int} {n : Nat} (h : k ≤ n) : p2 k ≤ ((2 ^ n : Nat) : Int) := by
  have := Nat.pow_le_pow_right (show 0 < 2 by decide) (show k.toNat ≤ n by omega)
  unfold p2
  omega
theorem p2_s {k : Int} (h : 0 ≤ k) : p2 (k + 1) = 2 * p2 k := by
  unfold p2
  rw [show (k + 1).toNat = k.toNat + 1 by omega, Nat.pow_succ]
  omega
theorem iN_and1 {a : Int} (h : 0 ≤ a ∧ a < 2147483648) : iN a &&& iN 1 = iN (a % 2) := by
  obtain ⟨x, rfl⟩ := Int.eq_ofNat_of_zero_le h.1
  show nI x &&& (iN 1) = _
  rw [pk_andN (by omega) 1 (by decide)]
  rfl
theorem iN_and7 {a : Int} (h : 0 ≤ a ∧ a < 2147483648) : iN a &&& iN 7 = iN (a % 8) := by
  obtain ⟨x, rfl⟩ := Int.eq_ofNat_of_zero_le h.1
  show nI x &&& (iN 7) = _
  rw [pk_andN (by omega) 3 (by decide)]
  rfl
theorem p2_3 : p2 3 = 8 := by decide
section IVH
variable {p : Program} {l : Launch} {e : Env} {R : Room} {s : State} {m : MethodId} {args : Array Value} {below : List Frame} {meth : Method} {c : Code} {H : Heap} {locs : List Loc} {cells slots : Nat} {Q : State → Prop}
variable {cc : ByteArray} {pc : Nat} {ls : Array Slot} {rest : List Value}
theorem iv_shl1 (hx : p.tables.exec = Jvm.exec) (hb : c.code = cc) {k : Int} (hdg : decode cc pc = .ok (.ishl, 1)) (hk : 0 ≤ k ∧ k < 31) (kk : W p l e R s m args below meth c H locs cells slots Q (F0 m (pc + 1) ls (.int (iN (p2 k)) :: rest))) : W p l e R s m args below meth c H locs cells slots Q (F0 m pc ls (.int (iN k) :: .int (iN 1) :: rest)) :=
  lv_ishl hx hb hdg (by
    have a := p2_le (k := k) (n := 30) (by omega)
    have b : ((2 ^ 30 : Nat) : Int) = 1073741824 := by decide
    rw [iN_shl (by omega) hk (by omega), show 1 * p2 k = p2 k by omega]; exact kk)
theorem iv_shl3 (hx : p.tables.exec = Jvm.exec) (hb : c.code = cc) {x : Int} (hdg : decode cc pc = .ok (.ishl, 1)) (h : 0 ≤ x ∧ x < 1000000) (kk : W p l e R s m args below meth c H locs cells slots Q (F0 m (pc + 1) ls (.int (iN (x * 8)) :: rest))) : W p l e R s m args below meth c H locs cells slots Q (F0 m pc ls (.int (iN 3) :: .int (iN x) :: rest)) :=
  lv_ishl hx hb hdg (by rw [iN_shl (by omega) (by omega) (by rw [p2_3]; omega), p2_3]; exact kk)
theorem iv_shr3 (hx : p.tables.exec = Jvm.exec) (hb : c.code = cc) {x : Int} (hdg : decode cc pc = .ok (.ishr, 1)) (h : 0 ≤ x ∧ x < 2147483648) (kk : W p l e R s m args below meth c H locs cells slots Q (F0 m (pc + 1) ls (.int (iN (x / 8)) :: rest))) : W p l e R s m args below meth c H locs cells slots Q (F0 m pc ls (.int (iN 3) :: .int (iN x) :: rest)) :=
  lv_ishr hx hb hdg (by rw [iN_shr h (by omega), p2_3]; exact kk)
theorem iv_ishr (hx : p.tables.exec = Jvm.exec) (hb : c.code = cc) {x k : Int} (hdg : decode cc pc = .ok (.ishr, 1)) (h : 0 ≤ x ∧ x < 2147483648) (hk : 0 ≤ k ∧ k < 32) (kk : W p l e R s m args below meth c H locs cells slots Q (F0 m (pc + 1) ls (.int (iN (x / p2 k)) :: rest))) : W p l e R s m args below meth c H locs cells slots Q (F0 m pc ls (.int (iN k) :: .int (iN x) :: rest)) :=
  lv_ishr hx hb hdg (by rw [iN_shr h hk]; exact kk)
theorem iv_and1 (hx : p.tables.exec = Jvm.exec) (hb : c.code = cc) {x : Int} (hdg : decode cc pc = .ok (.iand, 1)) (h : 0 ≤ x ∧ x < 2147483648) (kk : W p l e R s m args below meth c H locs cells slots Q (F0 m (pc + 1) ls (.int (iN (x % 2)) :: rest))) : W p l e R s m args below meth c H locs cells slots Q (F0 m pc ls (.int (iN 1) :: .int (iN x) :: rest)) :=
  lv_iand hx hb hdg (by rw [iN_and1 h]; exact kk)
theorem iv_and7 (hx : p.tables.exec = Jvm.exec) (hb : c.code = cc) {x : Int} (hdg : decode cc pc = .ok (.iand, 1)) (h : 0 ≤ x ∧ x < 2147483648) (kk : W p l e R s m args below meth c H locs cells slots Q (F0 m (pc + 1) ls (.int (iN (x % 8)) :: rest))) : W p l e R s m args below meth c H locs cells slots Q (F0 m pc ls (.int (iN 7) :: .int (iN x) :: rest)) :=
  lv_iand hx hb hdg (by rw [iN_and7 h]; exact kk)
theorem iv_iand (hx : p.tables.exec = Jvm.exec) (hb : c.code = cc) {x y : Int} (hdg : decode cc pc = .ok (.iand, 1)) (h1 : 0 ≤ x) (h2 : 0 ≤ y) (kk : W p l e R s m args below meth c H locs cells slots Q (F0 m (pc + 1) ls (.int (iN (bA x y)) :: rest))) : W p l e R s m args below meth c H locs cells slots Q (F0 m pc ls (.int (iN y) :: .int (iN x) :: rest)) :=
  lv_iand hx hb hdg (by rw [iN_and h1 h2]; exact kk)
theorem iv_ior (hx : p.tables.exec = Jvm.exec) (hb : c.code = cc) {x y : Int} (hdg : decode cc pc = .ok (.ior, 1)) (h1 : 0 ≤ x) (h2 : 0 ≤ y) (kk : W p l e R s m args below meth c H locs cells slots Q (F0 m (pc + 1) ls (.int (iN (bO x y)) :: rest))) : W p l e R s m args below meth c H locs cells slots Q (F0 m pc ls (.int (iN y) :: .int (iN x) :: rest)) :=
  lv_ior hx hb hdg (by rw [iN_or h1 h2]; exact kk)
theorem iv_ixor (hx : p.tables.exec = Jvm.exec) (hb : c.code = cc) {x y : Int} (hdg : decode cc pc = .ok (.ixor, 1)) (h1 : 0 ≤ x) (h2 : 0 ≤ y) (kk : W p l e R s m args below meth c H locs cells slots Q (F0 m (pc + 1) ls (.int (iN (bX x y)) :: rest))) : W p l e R s m args below meth c H locs cells slots Q (F0 m pc ls (.int (iN y) :: .int (iN x) :: rest)) :=
  lv_ixor hx hb hdg (by rw [iN_xor h1 h2]; exact kk)
end IVH
