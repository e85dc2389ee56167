/-! BITS: sets of sides as numbers -/
theorem nx_and (a b : Nat) : nI a &&& nI b = nI (a &&& b) := by
  apply Int32.toBitVec_inj.1
  show BitVec.ofNat 32 a &&& BitVec.ofNat 32 b = BitVec.ofNat 32 (a &&& b)
  apply BitVec.eq_of_getLsbD_eq
  intro i hi
  simp [hi]
theorem nx_or (a b : Nat) : nI a ||| nI b = nI (a ||| b) := by
  apply Int32.toBitVec_inj.1
  show BitVec.ofNat 32 a ||| BitVec.ofNat 32 b = BitVec.ofNat 32 (a ||| b)
  apply BitVec.eq_of_getLsbD_eq
  intro i hi
  simp [hi]
theorem nx_xor (a b : Nat) : nI a ^^^ nI b = nI (a ^^^ b) := by
  apply Int32.toBitVec_inj.1
  show BitVec.ofNat 32 a ^^^ BitVec.ofNat 32 b = BitVec.ofNat 32 (a ^^^ b)
  apply BitVec.eq_of_getLsbD_eq
  intro i hi
  simp [hi]
theorem s_l : ∀ n, n < 32 → ((nI n &&& 31).toBitVec.smod 32).toNat = n := by decide +kernel
def p2 (k : Int) : Int := ((2 ^ k.toNat : Nat) : Int)
def bA (a b : Int) : Int := ((a.toNat &&& b.toNat : Nat) : Int)
def bO (a b : Int) : Int := ((a.toNat ||| b.toNat : Nat) : Int)
def bX (a b : Int) : Int := ((a.toNat ^^^ b.toNat : Nat) : Int)
theorem iN_nn {a : Int} (h : 0 ≤ a) : iN a = nI a.toNat := by rw [← iN_nI, Int.toNat_of_nonneg h]
theorem iN_and {a b : Int} (ha : 0 ≤ a) (hb : 0 ≤ b) : iN a &&& iN b = iN (bA a b) := by rw [iN_nn ha, iN_nn hb, nx_and]; rfl
theorem iN_or {a b : Int} (ha : 0 ≤ a) (hb : 0 ≤ b) : iN a ||| iN b = iN (bO a b) := by rw [iN_nn ha, iN_nn hb, nx_or]; rfl
theorem iN_xor {a b : Int} (ha : 0 ≤ a) (hb : 0 ≤ b) : iN a ^^^ iN b = iN (bX a b) := by rw [iN_nn ha, iN_nn hb, nx_xor]; rfl
theorem p2_pos (k : Int) : 1 ≤ p2 k := by
  have := Nat.pow_pos (n := k.toNat) (show 0 < 2 by decide)
  unfold p2; omega
theorem iN_shl {a k : Int} (ha : 0 ≤ a) (hk : 0 ≤ k ∧ k < 31) (hm : a * p2 k < 2147483648) : iN a <<< (iN k &&& 31) = iN (a * p2 k) := by
  obtain ⟨x, rfl⟩ := Int.eq_ofNat_of_zero_le ha
  obtain ⟨y, rfl⟩ := Int.eq_ofNat_of_zero_le hk.1
  have e : ((x : Int) * p2 (y : Int)) = ((x * 2 ^ y : Nat) : Int) := by unfold p2; simp
  rw [e] at hm ⊢
  show nI x <<< (nI y &&& 31) = nI (x * 2 ^ y)
  exact pk_shlN _ y (s_l y (by omega)) (by omega)
theorem iN_shr {a k : Int} (ha : 0 ≤ a ∧ a < 2147483648) (hk : 0 ≤ k ∧ k < 32) : iN a >>> (iN k &&& 31) = iN (a / p2 k) := by
  obtain ⟨x, rfl⟩ := Int.eq_ofNat_of_zero_le ha.1
  obtain ⟨y, rfl⟩ := Int.eq_ofNat_of_zero_le hk.1
  have e : ((x : Int) / p2 (y : Int)) = ((x / 2 ^ y : Nat) : Int) := by unfold p2; simp
  rw [e]
  show nI x >>> (nI y &&& 31) = nI (x / 2 ^ y)
  exact pk_shrN (by omega) _ y (s_l y (by omega))
