/-! counting bits as the library does it; a long array longer than before -/
def shU (x : Int32) (k : Int) : Int32 := (x.toUInt32 >>> ((iN k).toUInt32 &&& Int32.toUInt32 31)).toInt32
def bcW (x : Int32) : Int32 :=
  let a := x - (shU x 1 &&& 1431655765)
  let b := (a &&& 858993459) + (shU a 2 &&& 858993459)
  let d := (b + shU b 4) &&& 252645135
  let f := d + shU d 8
  let g := f + shU f 16
  g &&& iN 63
def bcn (z : Int) : Int := (bcW (iN z)).toInt
def bcN (x : Nat) : Nat :=
  let a := x - ((x / 2) &&& 1431655765)
  let b := (a &&& 858993459) + ((a / 4) &&& 858993459)
  let d := (b + b / 16) &&& 252645135
  let f := d + d / 256
  let g := f + f / 65536
  g &&& 63
def poN (x : Nat) : Nat := x % 2 + x / 2 % 2 + x / 4 % 2 + x / 8 % 2 + x / 16 % 2 + x / 32 % 2 + x / 64 % 2 + x / 128 % 2 + x / 256 % 2 + x / 512 % 2 + x / 1024 % 2 + x / 2048 % 2 + x / 4096 % 2 + x / 8192 % 2 + x / 16384 % 2 + x / 32768 % 2
def alB (x : Nat) : Nat → Bool
  | 0 => true
  | n + 1 => bcN (x + n) == poN (x + n) && alB x n
def alA : Nat → Bool
  | 0 => true
  | n + 1 => alB (256 * n) 256 && alA n
theorem alB_at {x : Nat} : ∀ {n : Nat}, alB x n = true → ∀ k, k < n → bcN (x + k) = poN (x + k)
  | 0, _, k, hk => by omega
  | n + 1, h, k, hk => by
    have h : (bcN (x + n) == poN (x + n) && alB x n) = true := h
    rw [Bool.and_eq_true] at h
    by_cases e : k = n
    · rw [e]; exact eq_of_beq h.1
    · exact alB_at h.2 k (by omega)
theorem alA_at : ∀ {n : Nat}, alA n = true → ∀ k, k < 256 * n → bcN k = poN k
  | 0, _, k, hk => by omega
  | n + 1, h, k, hk => by
    have h : (alB (256 * n) 256 && alA n) = true := h
    rw [Bool.and_eq_true] at h
    by_cases e : k < 256 * n
    · exact alA_at h.2 k e
    · have := alB_at h.1 (k - 256 * n) (by omega)
      rw [show 256 * n + (k - 256 * n) = k by omega] at this
      exact this
theorem alA_all : alA 256 = true := by decide +kernel
theorem bcN_po {x : Nat} (h : x < 65536) : bcN x = poN x := alA_at alA_all x (by omega)
theorem shU_n {x k : Nat} (hk : k < 32) (hx : x < 4294967296) : shU (iN (x : Int)) (k : Int) = iN ((x / 2 ^ k : Nat) : Int) := by
  unfold shU
  apply Int32.toBitVec_inj.1
  show ((BitVec.ofInt 32 (x : Int)) >>> ((((BitVec.ofInt 32 (k : Int)) &&& 31#32)) % 32#32).toNat) = BitVec.ofInt 32 ((x / 2 ^ k : Nat) : Int)
  have e : (((BitVec.ofInt 32 (k : Int)) &&& 31#32) % 32#32).toNat = k := by
    have : ∀ k : Fin 32, (((BitVec.ofInt 32 (k.1 : Int)) &&& 31#32) % 32#32).toNat = k.1 := by decide
    exact this ⟨k, hk⟩
  rw [e, BitVec.ofInt_natCast, BitVec.ofInt_natCast]
  apply BitVec.eq_of_toNat_eq
  rw [BitVec.toNat_ushiftRight, BitVec.toNat_ofNat, BitVec.toNat_ofNat, Nat.shiftRight_eq_div_pow, Nat.mod_eq_of_lt (by omega), Nat.mod_eq_of_lt]
  exact Nat.lt_of_le_of_lt (Nat.div_le_self _ _) (by omega)
theorem iN_landN (a b : Nat) : iN (a : Int) &&& iN (b : Int) = iN ((a &&& b : Nat) : Int) := by
  apply Int32.toBitVec_inj.1
  show BitVec.ofInt 32 (a : Int) &&& BitVec.ofInt 32 (b : Int) = BitVec.ofInt 32 ((a &&& b : Nat) : Int)
  rw [BitVec.ofInt_natCast, BitVec.ofInt_natCast, BitVec.ofInt_natCast]
  apply BitVec.eq_of_getLsbD_eq
  intro i hi
  simp [hi]
theorem iN_addN (a b : Nat) : iN (a : Int) + iN (b : Int) = iN ((a + b : Nat) : Int) := (Int32.ofInt_add _ _).symm
theorem iN_subN {a b : Nat} (h : b ≤ a) : iN (a : Int) - iN (b : Int) = iN ((a - b : Nat) : Int) := by
  rw [show ((a - b : Nat) : Int) = (a : Int) - (b : Int) by omega]
  exact (Int32.ofInt_sub _ _).symm
theorem bcn_n {x : Nat} (h : x < 65536) : bcn (x : Int) = ((bcN x : Nat) : Int) := by
  unfold bcn
  have key : bcW (iN (x : Int)) = iN ((bcN x : Nat) : Int) := by
    unfold bcW bcN
    have c1 : (1431655765 : Int32) = iN ((1431655765 : Nat) : Int) := by decide
    have c2 : (858993459 : Int32) = iN ((858993459 : Nat) : Int) := by decide
    have c3 : (252645135 : Int32) = iN ((252645135 : Nat) : Int) := by decide
    have c4 : iN 63 = iN ((63 : Nat) : Int) := rfl
    have a1 : (x / 2 &&& 1431655765) ≤ x := Nat.le_trans Nat.and_le_left (Nat.div_le_self _ _)
    have s1 := shU_n (x := x) (k := 1) (by omega) (by omega)
    have s1 : shU (iN (x : Int)) 1 = iN ((x / 2 : Nat) : Int) := s1
    have e1 : iN (x : Int) - (shU (iN (x : Int)) 1 &&& 1431655765) = iN ((x - (x / 2 &&& 1431655765) : Nat) : Int) := by
      rw [s1, c1, iN_landN, iN_subN a1]
    have b1 : x - (x / 2 &&& 1431655765) ≤ 65536 := by omega
    simp only [e1]
    generalize x - (x / 2 &&& 1431655765) = a at b1 ⊢
    have s2 : shU (iN (a : Int)) 2 = iN ((a / 4 : Nat) : Int) := shU_n (x := a) (k := 2) (by omega) (by omega)
    have e2 : (iN (a : Int) &&& 858993459) + (shU (iN (a : Int)) 2 &&& 858993459) = iN (((a &&& 858993459) + (a / 4 &&& 858993459) : Nat) : Int) := by
      rw [s2, c2, iN_landN, iN_landN, iN_addN]
    have b2 : (a &&& 858993459) + (a / 4 &&& 858993459) ≤ 200000 := by
      have u := Nat.and_le_left (n := a) (m := 858993459)
      have v := Nat.and_le_left (n := a / 4) (m := 858993459)
      omega
    simp only [e2]
    generalize (a &&& 858993459) + (a / 4 &&& 858993459) = b at b2 ⊢
    have s3 : shU (iN (b : Int)) 4 = iN ((b / 16 : Nat) : Int) := shU_n (x := b) (k := 4) (by omega) (by omega)
    have e3 : (iN (b : Int) + shU (iN (b : Int)) 4) &&& 252645135 = iN (((b + b / 16) &&& 252645135 : Nat) : Int) := by
      rw [s3, c3, iN_addN, iN_landN]
    have b3 : ((b + b / 16) &&& 252645135) ≤ 400000 := by
      have u := Nat.and_le_left (n := b + b / 16) (m := 252645135)
      omega
    simp only [e3]
    generalize ((b + b / 16) &&& 252645135) = d at b3 ⊢
    have s4 : shU (iN (d : Int)) 8 = iN ((d / 256 : Nat) : Int) := shU_n (x := d) (k := 8) (by omega) (by omega)
    have e4 : iN (d : Int) + shU (iN (d : Int)) 8 = iN ((d + d / 256 : Nat) : Int) := by rw [s4, iN_addN]
    simp only [e4]
    have b4 : d + d / 256 ≤ 800000 := by omega
    generalize d + d / 256 = f at b4 ⊢
    have s5 : shU (iN (f : Int)) 16 = iN ((f / 65536 : Nat) : Int) := shU_n (x := f) (k := 16) (by omega) (by omega)
    have e5 : iN (f : Int) + shU (iN (f : Int)) 16 = iN ((f + f / 65536 : Nat) : Int) := by rw [s5, iN_addN]
    simp only [e5]
    rw [c4, iN_landN]
  rw [key]
  have b : bcN x ≤ 63 := by unfold bcN; exact Nat.and_le_right
  show (Int32.ofInt _).toInt = _
  exact Int32.toInt_ofInt_of_le (by omega) (by omega)
/-- the number of sides of a set -/
theorem bcn_su {z : Int} (h : 0 ≤ z ∧ z < 65536) : bcn z = su (fun j => if bt z j = 1 then 1 else 0) 16 := by
  obtain ⟨x, rfl⟩ := Int.eq_ofNat_of_zero_le h.1
  rw [bcn_n (by omega), bcN_po (by omega)]
  have e : ∀ k : Nat, (if bt (x : Int) (k : Int) = 1 then (1 : Int) else 0) = ((x / 2 ^ k % 2 : Nat) : Int) := fun k => by
    have q : bt (x : Int) (k : Int) = ((x / 2 ^ k % 2 : Nat) : Int) := by
      have e : ((x : Int) / p2 (k : Int)) = ((x / 2 ^ k : Nat) : Int) := by unfold p2; simp
      unfold bt
      rw [e]
      omega
    rw [q]
    by_cases c : x / 2 ^ k % 2 = 1
    · rw [c]; rfl
    · rw [show x / 2 ^ k % 2 = 0 by omega]; rfl
  have s : su (fun j => if bt (x : Int) j = 1 then 1 else 0) 16 = (0 : Int) + ((x / 2 ^ 0 % 2 : Nat) : Int) + ((x / 2 ^ 1 % 2 : Nat) : Int) + ((x / 2 ^ 2 % 2 : Nat) : Int) + ((x / 2 ^ 3 % 2 : Nat) : Int) + ((x / 2 ^ 4 % 2 : Nat) : Int) + ((x / 2 ^ 5 % 2 : Nat) : Int) + ((x / 2 ^ 6 % 2 : Nat) : Int) + ((x / 2 ^ 7 % 2 : Nat) : Int) + ((x / 2 ^ 8 % 2 : Nat) : Int) + ((x / 2 ^ 9 % 2 : Nat) : Int) + ((x / 2 ^ 10 % 2 : Nat) : Int) + ((x / 2 ^ 11 % 2 : Nat) : Int) + ((x / 2 ^ 12 % 2 : Nat) : Int) + ((x / 2 ^ 13 % 2 : Nat) : Int) + ((x / 2 ^ 14 % 2 : Nat) : Int) + ((x / 2 ^ 15 % 2 : Nat) : Int) := by
    rw [← e 0, ← e 1, ← e 2, ← e 3, ← e 4, ← e 5, ← e 6, ← e 7, ← e 8, ← e 9, ← e 10, ← e 11, ← e 12, ← e 13, ← e 14, ← e 15]
    rfl
  rw [s]
  unfold poN
  simp only [Nat.reducePow, Nat.div_one]
  omega
theorem bcn_xs {b : Int → Int} {n ns z : Int} (h : inj b n ns) (hn : 0 ≤ n ∧ n ≤ 16) (hz : 0 ≤ z ∧ z < p2 n) : bcn z = nop (xs b n z) ns := by
  have p := p2_16 hn.2
  rw [bcn_su (by omega), xs_nop h hn.1]
  exact su_flat hn.1 hn.2 (fun t a _ => by
    show (if bt z t = 1 then (1 : Int) else 0) = 0
    rw [bt_hi hz.1 hz.2 hn.1 a]
    rfl)
/-- as many sides as are open: all that are open -/
theorem nop_all {x y : Int → Int} {n : Int} (h : ∀ s : Int, 0 ≤ s → s < n → x s = 1 → y s = 1) (e : nop x n = nop y n) {s : Int} (a : 0 ≤ s) (b : s < n) (hy : y s = 1) : x s = 1 := by
  apply Classical.byContradiction
  intro c
  have u : nop (uI x s 1) n = nop x n + 1 := by
    unfold nop
    rw [su_up (f := fun t => if uI x s 1 t = 1 then 1 else 0) (g := fun t => if x t = 1 then 1 else 0) (k := s) (fun j hj => by rw [uI_ne hj]) a b]
    rw [uI_eq, if_pos rfl, if_neg c]
    omega
  have v := nop_sub (x := uI x s 1) (y := y) (n := n) (fun t t0 t1 q => by
    by_cases d : t = s
    · rw [d]; exact hy
    · rw [uI_ne d] at q; exact h t t0 t1 q)
  omega
