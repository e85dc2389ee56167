/-! THE LAW: its script, its comparisons -/
def sI (xs : Nat → Int32) (i : Int) : Int := (xs i.toNat).toInt
theorem sI_bd (xs : Nat → Int32) (i : Int) : -2147483648 ≤ sI xs i ∧ sI xs i < 2147483648 := iN_bd _
theorem iN_and31 (x : Int) : iN x &&& iN 31 = iN (x % 32) := by
  apply Int32.toBitVec_inj.1
  show BitVec.ofInt 32 x &&& BitVec.ofInt 32 31 = BitVec.ofInt 32 (x % 32)
  apply BitVec.eq_of_toNat_eq
  have e : (BitVec.ofInt 32 31) = 31#32 := by decide
  rw [e, BitVec.toNat_and, BitVec.toNat_ofInt, BitVec.toNat_ofInt]
  have f : (31#32).toNat = 2 ^ 5 - 1 := by decide
  rw [f, Nat.and_two_pow_sub_one_eq_mod]
  omega
section LWR
variable {p : Program} {l : Launch} {e : Env} {R : Room} {s : State} {m : MethodId} {args : Array Value} {below : List Frame} {meth : Method} {c : Code} {H : Heap} {locs : List Loc} {cells slots : Nat} {Q : State → Prop}
variable {cc : ByteArray} {pc : Nat} {ls : Array Slot} {rest : List Value} {A : Nat → Prop} {H0 : Heap}
theorem iv_sld (hx : p.tables.exec = Jvm.exec) (hb : c.code = cc) {b L : Nat} {xs : Nat → Int32} (hX : va_X b L xs s H0) (hbl : b < H0.size) (hbA : ¬ A b) (hS : va_S A H0 H locs) (hL : L ≤ 2048) {i : Int} (hi : 0 ≤ i ∧ i < L) (hdg : decode cc pc = .ok (.iaload, 1))
    (kk : W p l e R s m args below meth c H locs cells slots Q (F0 m (pc + 1) ls (.int (iN (sI xs i)) :: rest))) : W p l e R s m args below meth c H locs cells slots Q (F0 m pc ls (.int (iN i) :: .ref b :: rest)) :=
  va_sld hx hb hX hbl hbA hS (iN_in hi (by omega)) hdg (by
    rw [iN_cl (by omega)]
    unfold sI at kk
    rw [iN_of] at kk
    exact kk)
theorem iv_slen (hx : p.tables.exec = Jvm.exec) (hb : c.code = cc) {b L : Nat} {xs : Nat → Int32} (hX : va_X b L xs s H0) (hbl : b < H0.size) (hbA : ¬ A b) (hS : va_S A H0 H locs) (hdg : decode cc pc = .ok (.arraylength, 1))
    (kk : W p l e R s m args below meth c H locs cells slots Q (F0 m (pc + 1) ls (.int (iN (L : Int)) :: rest))) : W p l e R s m args below meth c H locs cells slots Q (F0 m pc ls (.ref b :: rest)) := va_slen hx hb hX hbl hbA hS hdg kk
theorem iv_and31 (hx : p.tables.exec = Jvm.exec) (hb : c.code = cc) {x : Int} (hdg : decode cc pc = .ok (.iand, 1)) (kk : W p l e R s m args below meth c H locs cells slots Q (F0 m (pc + 1) ls (.int (iN (x % 32)) :: rest))) : W p l e R s m args below meth c H locs cells slots Q (F0 m pc ls (.int (iN 31) :: .int (iN x) :: rest)) :=
  lv_iand hx hb hdg (by rw [iN_and31]; exact kk)
theorem iv_same_eq (hx : p.tables.exec = Jvm.exec) (hb : c.code = cc) {x y : Int} {off : Int} {tgt : Nat} (hdg : decode cc pc = .ok (.if_icmp .eq off, 3)) (ht : (pc : Int) + off = (tgt : Int)) (h : x = y) (kt : W p l e R s m args below meth c H locs cells slots Q (F0 m tgt ls rest)) : W p l e R s m args below meth c H locs cells slots Q (F0 m pc ls (.int (iN y) :: .int (iN x) :: rest)) :=
  lv_icmp_eq hx hb hdg ht (fun _ => kt) (fun g => absurd (by rw [h]) g)
end LWR
/-- how much a row of V has taken so far -/
def spB (sp n : Nat) : Prop := (n < 20000 ∧ sp ≤ 2 * n) ∨ (n = 20000 ∧ sp ≤ 60000)
theorem spB_le {sp n : Nat} (h : spB sp n) : sp ≤ 60000 := by
  rcases h with h | h <;> omega
theorem spB_tln {nb : Int → Int} {fr : Int} {sp nV nV1 : Nat} (h : spB sp nV) (t : tln nb fr nV nV1) : spB (sp + tgr nb fr nV) nV1 := by
  obtain ⟨t1, t2, t3⟩ := t
  unfold spB at h ⊢
  rcases t3 with g | g
  · rw [g.1, g.2]; omega
  · rw [g.1]
    rcases h with h | h <;> omega
