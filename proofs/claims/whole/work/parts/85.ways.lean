/-! THE CLASS'S TABLE: eight worths in a long -/
def gbv (w : Int64) (r : Int) : Int := ((w >>> ((iN (r * 8)).toInt64 &&& 63)).toInt32.toInt8.toInt32).toInt
def pbv (w : Int64) (r z : Int) : Int64 := (w &&& ((255 <<< ((iN (r * 8)).toInt64 &&& 63)) ^^^ (-1))) ||| (((iN z).toInt64 &&& 255) <<< ((iN (r * 8)).toInt64 &&& 63))
theorem sh_amt {r : Int} (h0 : 0 ≤ r) (h1 : r < 8) : (((iN (r * 8)).toInt64 &&& 63).toBitVec.smod 64).toNat = 8 * r.toNat := by
  have : r = 0 ∨ r = 1 ∨ r = 2 ∨ r = 3 ∨ r = 4 ∨ r = 5 ∨ r = 6 ∨ r = 7 := by omega
  rcases this with h | h | h | h | h | h | h | h <;> subst h <;> decide
theorem gb_bv {w : Int64} {r : Int} (h0 : 0 ≤ r) (h1 : r < 8) : gbv w r = (w.toBitVec.extractLsb' (8 * r.toNat) 8).toInt := by
  unfold gbv
  rw [Int8.toInt_toInt32]
  show ((w >>> ((iN (r * 8)).toInt64 &&& 63)).toInt32.toInt8).toBitVec.toInt = _
  congr 1
  apply BitVec.eq_of_getLsbD_eq
  intro i hi
  rw [Int32.toBitVec_toInt8, Int64.toBitVec_toInt32, Int64.toBitVec_shiftRight]
  unfold BitVec.sshiftRight'
  rw [sh_amt h0 h1, BitVec.getLsbD_signExtend, BitVec.getLsbD_signExtend, BitVec.getLsbD_sshiftRight, BitVec.getLsbD_extractLsb', if_pos (by omega), if_pos (by omega), if_pos (by omega)]
  have : i < 32 := by omega
  have h3 : ¬ 64 ≤ i := by omega
  simp [hi, this, h3]
theorem pb_bv {w : Int64} {r z : Int} (h0 : 0 ≤ r) (h1 : r < 8) (j : Nat) (hj : j < 64) : (pbv w r z).toBitVec.getLsbD j = if 8 * r.toNat ≤ j ∧ j < 8 * r.toNat + 8 then (iN z).toBitVec.getLsbD (j - 8 * r.toNat) else w.toBitVec.getLsbD j := by
  unfold pbv
  have hs := sh_amt h0 h1
  generalize (iN (r * 8)).toInt64 &&& 63 = sa at hs ⊢
  have e : (-1 : Int64).toBitVec = BitVec.allOnes 64 := by decide
  have f : (255 : Int64).toBitVec = 255#64 := by decide
  have g : ∀ k : Nat, (255#64).getLsbD k = decide (k < 8) := fun k => by
    by_cases c : k < 64
    · have : ∀ k : Fin 64, (255#64).getLsbD k.1 = decide (k.1 < 8) := by decide
      exact this ⟨k, c⟩
    · rw [BitVec.getLsbD_of_ge _ _ (by omega), decide_eq_false (by omega)]
  rw [Int64.toBitVec_or, Int64.toBitVec_and, Int64.toBitVec_xor, Int64.toBitVec_shiftLeft, Int64.toBitVec_shiftLeft, e, BitVec.xor_allOnes, f]
  rw [BitVec.shiftLeft_eq', BitVec.shiftLeft_eq', hs, Int64.toBitVec_and, f, Int32.toBitVec_toInt64]
  rw [BitVec.getLsbD_or, BitVec.getLsbD_and, BitVec.getLsbD_not, BitVec.getLsbD_shiftLeft, BitVec.getLsbD_shiftLeft, BitVec.getLsbD_and, g, BitVec.getLsbD_signExtend]
  by_cases c : 8 * r.toNat ≤ j ∧ j < 8 * r.toNat + 8
  · rw [if_pos c, if_pos (by omega), decide_eq_true hj, decide_eq_false (show ¬ j < 8 * r.toNat by omega), decide_eq_true (show j - 8 * r.toNat < 8 by omega), decide_eq_true (show j - 8 * r.toNat < 64 by omega)]
    simp
  · rw [if_neg c, decide_eq_true hj]
    by_cases d : j < 8 * r.toNat
    · rw [decide_eq_true d]; simp
    · rw [decide_eq_false d, decide_eq_false (show ¬ j - 8 * r.toNat < 8 by omega)]; simp
theorem gb_pb {w : Int64} {r q z : Int} (h0 : 0 ≤ r) (h1 : r < 8) (q0 : 0 ≤ q) (q1 : q < 8) (hz : -128 ≤ z ∧ z < 128) : gbv (pbv w r z) q = if q = r then z else gbv w q := by
  rw [gb_bv q0 q1, gb_bv q0 q1]
  by_cases c : q = r
  · rw [if_pos c, c]
    have e : (pbv w r z).toBitVec.extractLsb' (8 * r.toNat) 8 = BitVec.ofInt 8 z := by
      apply BitVec.eq_of_getLsbD_eq
      intro i hi
      rw [BitVec.getLsbD_extractLsb', pb_bv h0 h1 _ (by omega), if_pos (by omega), decide_eq_true hi, Bool.true_and, show 8 * r.toNat + i - 8 * r.toNat = i by omega]
      have q : (Int32.ofInt z).toInt8 = Int8.ofInt z := Int32.toInt8_ofInt
      have q2 : (Int32.ofInt z).toInt8.toBitVec.getLsbD i = (Int8.ofInt z).toBitVec.getLsbD i := by rw [q]
      rw [Int32.toBitVec_toInt8, BitVec.getLsbD_signExtend, decide_eq_true hi, if_pos (by omega), Bool.true_and] at q2
      exact q2
    rw [e, BitVec.toInt_ofInt]
    show Int.bmod z 256 = z
    exact Int.bmod_eq_of_le (by omega) (by omega)
  · rw [if_neg c]
    congr 1
    apply BitVec.eq_of_getLsbD_eq
    intro i hi
    rw [BitVec.getLsbD_extractLsb', BitVec.getLsbD_extractLsb', pb_bv h0 h1 _ (by omega), if_neg (by omega)]
def uJ (f : Int → Int64) (i : Int) (x : Int64) : Int → Int64 := fun j => if j = i then x else f j
def tbv (T : Int → Int64) : Int → Int := fun t => gbv (T (t / 8)) (t % 8)
theorem tbv_up {T : Int → Int64} {a z : Int} (hz : -128 ≤ z ∧ z < 128) : tbv (uJ T (a / 8) (pbv (T (a / 8)) (a % 8) z)) = uI (tbv T) a z := funext fun t => by
  unfold tbv uJ uI
  by_cases c : t / 8 = a / 8
  · rw [if_pos c, gb_pb (by omega) (by omega) (by omega) (by omega) hz]
    by_cases d : t = a
    · rw [if_pos d, if_pos (by omega)]
    · rw [if_neg d, if_neg (by omega)]
      show gbv (T (a / 8)) (t % 8) = gbv (T (t / 8)) (t % 8)
      rw [c]
  · rw [if_neg c, if_neg (fun d => c (by rw [d]))]
def cpJ (f : Int → Int64) (n : Int) : Int → Int64 := fun j => if 0 ≤ j ∧ j < n then f j else 0
theorem tbv_cp {T : Int → Int64} {n t : Int} (t0 : 0 ≤ t) (t1 : t < 8 * n) : tbv (cpJ T n) t = tbv T t := by
  unfold tbv cpJ
  rw [if_pos (show 0 ≤ t / 8 ∧ t / 8 < n by omega)]
theorem bA_0 (a : Int) : bA a 0 = 0 := by unfold bA; show ((a.toNat &&& 0 : Nat) : Int) = 0; rw [Nat.and_zero]; rfl
/-- what a draw closes, by the class's masks -/
theorem clF_msk2 {b o1 o2 : Int → Int} {n ns a h1 h2 k : Int} (h : inj b n ns) (hn : 0 ≤ n) (ha : 0 ≤ a ∧ a < p2 n) (k0 : 0 ≤ k) (k1 : k < n) (hk : bt a k = 1) (m1 : msk b o1 o2 n (o1 (b k)) h1) (m2 : (o2 (b k) = -1 → h2 = 0) ∧ (o2 (b k) ≠ -1 → msk b o1 o2 n (o2 (b k)) h2)) : clF (xs b n a) o1 o2 ns (b k) = (if bA a h1 = p2 k then 1 else 0) + (if bA a h2 = p2 k then 1 else 0) := by
  rw [clF_msk h hn ha k0 k1 hk m1 m2.2, bA_comm a h1, bA_comm a h2]
  by_cases d : o2 (b k) = -1
  · rw [if_neg (show ¬ (o2 (b k) ≠ -1 ∧ bA h2 a = p2 k) from fun z => z.1 d), bA_comm h2 a, m2.1 d, bA_0, if_neg (show ¬ (0 = p2 k) by have := p2_pos k; omega)]
  · by_cases g : bA h2 a = p2 k
    · rw [if_pos (show o2 (b k) ≠ -1 ∧ bA h2 a = p2 k from ⟨d, g⟩), if_pos g]
    · rw [if_neg (show ¬ (o2 (b k) ≠ -1 ∧ bA h2 a = p2 k) from fun z => g z.2), if_neg g]
theorem mxS_up {o1 o2 b tb : Int → Int} {ns n a lo i m w : Int} (h : mxS o1 o2 b ns n tb a lo i m) (i0 : 0 ≤ i) (e : bt a i = 1) (hl : lo ≤ dvb o1 o2 b ns n tb a i) (ew : w = dvb o1 o2 b ns n tb a i) (c : m < w) : mxS o1 o2 b ns n tb a lo (i + 1) w := by
  have r := mxS_new h i0 e hl
  rw [show max m (dvb o1 o2 b ns n tb a i) = w by omega] at r
  exact r
theorem mxS_keep {o1 o2 b tb : Int → Int} {ns n a lo i m : Int} (h : mxS o1 o2 b ns n tb a lo i m) (i0 : 0 ≤ i) (e : bt a i = 1) (hl : lo ≤ dvb o1 o2 b ns n tb a i) (c : ¬ m < dvb o1 o2 b ns n tb a i) : mxS o1 o2 b ns n tb a lo (i + 1) m := by
  have r := mxS_new h i0 e hl
  rw [show max m (dvb o1 o2 b ns n tb a i) = m by omega] at r
  exact r
/-- sets of sides that are kept are the same sets -/
theorem xs_kept {b b' : Int → Int} {n n' k t : Int} (k0 : 0 ≤ k) (kn : k ≤ n) (kn' : k ≤ n') (e : ∀ j : Int, 0 ≤ j → j < k → b j = b' j) (t0 : 0 ≤ t) (t1 : t < p2 k) : xs b n t = xs b' n' t := funext fun s => by
  have z : ∀ (c : Int → Int) (m : Int), k ≤ m → su (fun j => if c j = s then bt t j else 0) m = su (fun j => if c j = s then bt t j else 0) k := fun c m km => su_flat k0 km (fun j j0 j1 => by
    show (if c j = s then bt t j else 0) = 0
    rw [bt_hi t0 t1 k0 j0, ite_self])
  show su (fun j => if b j = s then bt t j else 0) n = su (fun j => if b' j = s then bt t j else 0) n'
  rw [z b n kn, z b' n' kn']
  exact su_congr (fun j j0 j1 => by
    show (if b j = s then bt t j else 0) = (if b' j = s then bt t j else 0)
    rw [e j j0 j1])
theorem tbI_kept {o1 o2 b b' tb tb' : Int → Int} {n n' k : Int} (k0 : 0 ≤ k) (kn : k ≤ n) (kn' : k ≤ n') (e : ∀ j : Int, 0 ≤ j → j < k → b j = b' j) (et : ∀ t : Int, 0 ≤ t → t < p2 k → tb t = tb' t) (h : tbI o1 o2 b n tb (p2 n)) : tbI o1 o2 b' n' tb' (p2 k) := by
  have pk := p2_pos k
  have pn := p2_mono kn
  refine ⟨by rw [← et 0 (by omega) (by omega)]; exact h.1, fun t t0 t1 => ?_⟩
  have r := h.2 t t0 (by omega)
  unfold tW at r ⊢
  rw [← xs_kept k0 kn kn' e t0 t1, ← et t t0 t1]
  exact r
section IVJ
variable {p : Program} {l : Launch} {e : Env} {R : Room} {s : State} {m : MethodId} {args : Array Value} {below : List Frame} {meth : Method} {c : Code} {H : Heap} {locs : List Loc} {cells slots : Nat} {Q : State → Prop}
variable {cc : ByteArray} {pc : Nat} {ls : Array Slot} {rest : List Value} {D : va_G} {cl : List vw_C} {A : Nat → Prop} {a : Nat} {tys : List (ClassId × FieldType)} {ws : va_W} {H0 : Heap}
def arJ (f : Int → Int64) : Nat → Int64 := fun j => f (j : Int)
theorem arJ_at {f : Int → Int64} {i : Int} (h : 0 ≤ i ∧ i < 2147483648) : arJ f (iN i).toNatClampNeg = f i := by
  rw [iN_cl h]
  show f ((i.toNat : Nat) : Int) = _
  rw [Int.toNat_of_nonneg h.1]
theorem arJ_up {f : Int → Int64} {i : Int} {x : Int64} (h : 0 ≤ i ∧ i < 2147483648) : vp_updL (arJ f) (iN i).toNatClampNeg x = arJ (uJ f i x) := by
  rw [iN_cl h]
  funext j
  show (if j = i.toNat then x else f j) = (if (j : Int) = i then x else f j)
  by_cases e : j = i.toNat
  · rw [if_pos e, if_pos (by omega)]
  · rw [if_neg e, if_neg (by omega)]
theorem iv_lald (hx : p.tables.exec = Jvm.exec) (hb : c.code = cc) (hK : va_K D cl tys s) (hP : va_P D cl ws H) (q0 t0 : Nat) {cA : ClassId} {n : Nat} {f : Int → Int64} (ha : ws[q0]? = some (a, .inl (cA, n, .inr (.inl (arJ f))))) (ht : tys[t0]? = some (cA, .long)) {i : Int} (hi : 0 ≤ i ∧ i < n) (hn : n < 2147483648) (hdg : decode cc pc = .ok (.laload, 1)) (kk : W p l e R s m args below meth c H locs cells slots Q (F0 m (pc + 1) ls (.long (f i) :: rest))) : W p l e R s m args below meth c H locs cells slots Q (F0 m pc ls (.int (iN i) :: .ref a :: rest)) := va_lald hx hb hK hP q0 t0 ha ht (iN_in hi hn) hdg (by rw [arJ_at (by omega)]; exact kk)
theorem iv_last (hx : p.tables.exec = Jvm.exec) (hb : c.code = cc) (hK : va_K D cl tys s) (hP : va_P D cl ws H) (hD : va_D A ws) (hS : va_S A H0 H locs) (q0 t0 : Nat) {cA : ClassId} {n : Nat} {f : Int → Int64} (ha : ws[q0]? = some (a, .inl (cA, n, .inr (.inl (arJ f))))) (ht : tys[t0]? = some (cA, .long)) {i : Int} {x : Int64} (hi : 0 ≤ i ∧ i < n) (hn : n < 2147483648) (hdg : decode cc pc = .ok (.lastore, 1)) (kk : ∀ (H1 : Heap) (locs1 : List Loc), va_P D cl (ws.set q0 (a, .inl (cA, n, .inr (.inl (arJ (uJ f i x)))))) H1 → va_D A (ws.set q0 (a, .inl (cA, n, .inr (.inl (arJ (uJ f i x)))))) → va_S A H0 H1 locs1 → W p l e R s m args below meth c H1 locs1 cells slots Q (F0 m (pc + 1) ls rest)) : W p l e R s m args below meth c H locs cells slots Q (F0 m pc ls (.long x :: .int (iN i) :: .ref a :: rest)) := va_last hx hb hK hP hD hS q0 t0 ha ht (iN_in hi hn) hdg (by rw [arJ_up (by omega)]; exact kk)
end IVJ
