/-! the reference's tables: its open sides in their order, the masks of the fields -/
theorem bA_bd {a b : Int} (hb : 0 ≤ b) : 0 ≤ bA a b ∧ bA a b ≤ b := by
  have := Nat.and_le_right (n := a.toNat) (m := b.toNat)
  unfold bA
  omega
theorem bA_comm (a b : Int) : bA a b = bA b a := by unfold bA; rw [Nat.and_comm]
theorem p2_16 {k : Int} (h : k ≤ 16) : p2 k ≤ 65536 := p2_le (n := 16) (by omega)
theorem msk_0 {b o1 o2 : Int → Int} {f : Int} : msk b o1 o2 0 f 0 := ⟨⟨by omega, by have := p2_pos 0; omega⟩, fun j a b => by omega⟩
theorem msk_in {b o1 o2 : Int → Int} {n f hh i : Int} (hn : 0 ≤ n) (h : msk b o1 o2 n f hh) (hi : o1 i = f ∨ o2 i = f) : msk (uI b n i) o1 o2 (n + 1) f (bO hh (p2 n)) := by
  have pn := p2_pos n
  have o0 : 0 ≤ bO hh (p2 n) := by unfold bO; omega
  refine ⟨⟨o0, bt_lt o0 (by omega) (fun j hj => ?_)⟩, fun j j0 j1 => ?_⟩
  · have z := bt_hi h.1.1 h.1.2 hn (show n ≤ j by omega)
    rw [Ne, bt_or h.1.1 (by omega) (by omega), bt_p2 hn (by omega)]
    omega
  · rw [bt_or h.1.1 (by omega) j0, bt_p2 hn j0]
    by_cases e : j = n
    · rw [e, uI_eq]; exact ⟨fun _ => hi, fun _ => Or.inr rfl⟩
    · rw [uI_ne e, ← h.2 j j0 (by omega)]
      exact ⟨fun g => g.resolve_right e, Or.inl⟩
theorem msk_out {b o1 o2 : Int → Int} {n f hh i : Int} (hn : 0 ≤ n) (h : msk b o1 o2 n f hh) (hi : ¬ (o1 i = f ∨ o2 i = f)) : msk (uI b n i) o1 o2 (n + 1) f hh := by
  have pn := p2_lt hn (show n < n + 1 by omega)
  refine ⟨⟨h.1.1, by have := h.1.2; omega⟩, fun j j0 j1 => ?_⟩
  by_cases e : j = n
  · rw [e, uI_eq]
    have z := bt_hi h.1.1 h.1.2 hn (Int.le_refl n)
    exact ⟨fun g => by omega, fun g => absurd g hi⟩
  · rw [uI_ne e]; exact h.2 j j0 (by omega)
def trI (io o1 o2 : Int → Int) (nf i w : Int) (oa hd : Int → Int) : Prop := w = nop io i ∧ 0 ≤ w ∧ (∀ j : Int, 0 ≤ j → j < w → 0 ≤ oa j ∧ oa j < i ∧ io (oa j) = 1) ∧ (∀ j k : Int, 0 ≤ j → j < k → k < w → oa j < oa k) ∧ (∀ s : Int, 0 ≤ s → s < i → io s = 1 → ∃ j : Int, 0 ≤ j ∧ j < w ∧ oa j = s) ∧ (∀ f : Int, 0 ≤ f → f < nf → msk oa o1 o2 w f (hd f))
theorem trI_0 {io o1 o2 oa hd : Int → Int} {nf : Int} (h : ∀ f : Int, 0 ≤ f → f < nf → hd f = 0) : trI io o1 o2 nf 0 0 oa hd :=
  ⟨rfl, by omega, fun j a b => by omega, fun j k a b c => by omega, fun s a b => by omega, fun f a b => by rw [h f a b]; exact msk_0⟩
theorem trI_skip {io o1 o2 oa hd : Int → Int} {nf i w : Int} (h : trI io o1 o2 nf i w oa hd) (i0 : 0 ≤ i) (e : io i ≠ 1) : trI io o1 o2 nf (i + 1) w oa hd := by
  obtain ⟨h1, h2, h3, h4, h5, h6⟩ := h
  refine ⟨by rw [nop_s i0, if_neg e, ← h1]; omega, h2, fun j a b => ?_, h4, fun s a b c => ?_, h6⟩
  · have := h3 j a b; exact ⟨this.1, by omega, this.2.2⟩
  · by_cases g : s = i
    · rw [g] at c; exact absurd c e
    · exact h5 s a (by omega) c
theorem trI_new {io o1 o2 oa hd hd' : Int → Int} {nf i w : Int} (h : trI io o1 o2 nf i w oa hd) (i0 : 0 ≤ i) (e : io i = 1) (hh : ∀ f : Int, 0 ≤ f → f < nf → ((o1 i = f ∨ o2 i = f) → hd' f = bO (hd f) (p2 w)) ∧ (¬ (o1 i = f ∨ o2 i = f) → hd' f = hd f)) : trI io o1 o2 nf (i + 1) (w + 1) (uI oa w i) hd' := by
  obtain ⟨h1, h2, h3, h4, h5, h6⟩ := h
  refine ⟨by rw [nop_s i0, if_pos e, ← h1], by omega, fun j a b => ?_, fun j k a b c => ?_, fun s a b c => ?_, fun f a b => ?_⟩
  · by_cases g : j = w
    · rw [g, uI_eq]; exact ⟨i0, by omega, e⟩
    · rw [uI_ne g]
      have := h3 j a (by omega)
      exact ⟨this.1, by omega, this.2.2⟩
  · rw [uI_ne (show j ≠ w by omega)]
    by_cases g : k = w
    · rw [g, uI_eq]; exact (h3 j a (by omega)).2.1
    · rw [uI_ne g]; exact h4 j k a b (by omega)
  · by_cases g : s = i
    · exact ⟨w, h2, by omega, by rw [uI_eq]; exact g.symm⟩
    · obtain ⟨j, j0, j1, j2⟩ := h5 s a (by omega) c
      exact ⟨j, j0, by omega, by rw [uI_ne (by omega)]; exact j2⟩
  · by_cases g : o1 i = f ∨ o2 i = f
    · rw [(hh f a b).1 g]; exact msk_in h2 (h6 f a b) g
    · rw [(hh f a b).2 g]; exact msk_out h2 (h6 f a b) g
theorem trI_inj {io o1 o2 oa hd : Int → Int} {nf i w ns : Int} (h : trI io o1 o2 nf i w oa hd) (hi : i ≤ ns) : inj oa w ns := by
  obtain ⟨h1, h2, h3, h4, h5, h6⟩ := h
  refine ⟨fun j a b => ?_, fun j k a b c d e => ?_⟩
  · have := h3 j a b; omega
  · rcases Int.lt_trichotomy j k with g | g | g
    · have := h4 j k a g d; omega
    · exact g
    · have := h4 k j c g b; omega
/-- the whole set is what is open -/
theorem trI_all {io o1 o2 oa hd : Int → Int} {nf ns w : Int} (h : trI io o1 o2 nf ns w oa hd) : xs oa w (p2 w - 1) = opX io ns := by
  refine xs_opX (trI_inj h (Int.le_refl ns)) h.2.1 (fun j a b => ?_) h.2.2.2.2.1
  have := h.2.2.1 j a b
  exact ⟨fun _ => this, fun _ => bt_full a b⟩
/-- what behind two stores stands in the masks -/
theorem hd_two {o1 o2 hd : Int → Int} {i f v : Int} (hne : o1 i ≠ o2 i) : ((o1 i = f ∨ o2 i = f) → uI (uI hd (o1 i) (bO (hd (o1 i)) v)) (o2 i) (bO (hd (o2 i)) v) f = bO (hd f) v) ∧ (¬ (o1 i = f ∨ o2 i = f) → uI (uI hd (o1 i) (bO (hd (o1 i)) v)) (o2 i) (bO (hd (o2 i)) v) f = hd f) := by
  refine ⟨fun g => ?_, fun g => ?_⟩
  · by_cases e : f = o2 i
    · rw [e, uI_eq]
    · rw [uI_ne e]
      have : f = o1 i := by omega
      rw [this, uI_eq]
  · rw [uI_ne (by omega), uI_ne (by omega)]
theorem hd_one {o1 o2 hd : Int → Int} {i f v : Int} (f0 : 0 ≤ f) (h : o2 i = -1) : ((o1 i = f ∨ o2 i = f) → uI hd (o1 i) (bO (hd (o1 i)) v) f = bO (hd f) v) ∧ (¬ (o1 i = f ∨ o2 i = f) → uI hd (o1 i) (bO (hd (o1 i)) v) f = hd f) := by
  refine ⟨fun g => ?_, fun g => ?_⟩
  · have : f = o1 i := by omega
    rw [this, uI_eq]
  · rw [uI_ne (by omega)]
/-- as many sides as there can be -/
def N5w (n : Nat) : Int := if 0 < n then N5w (n - 1) else 500
termination_by n
decreasing_by omega
def N5 : Int := N5w 0
theorem N5_eq : N5 = 500 := by unfold N5 N5w; rfl
/-- the table as far as a -/
def tbI (o1 o2 b : Int → Int) (n : Int) (tb : Int → Int) (a : Int) : Prop := tb 0 = 0 ∧ ∀ t : Int, 0 ≤ t → t < a → tW o1 o2 b N5 n tb t
theorem tbI_1 {o1 o2 b tb : Int → Int} {n : Int} (h : inj b n N5) (hn : 0 ≤ n) (h0 : tb 0 = 0) : tbI o1 o2 b n tb 1 := ⟨h0, fun t a b9 => by rw [show t = 0 by omega]; exact tW_0 h hn h0⟩
theorem tbI_s {o1 o2 b tb : Int → Int} {n a m lo : Int} (h : inj b n N5) (hn : 0 ≤ n) (ha : 0 < a ∧ a < p2 n) (ht : tbI o1 o2 b n tb a) (hm : mxS o1 o2 b N5 n tb a lo n m) : tbI o1 o2 b n (uI tb a m) (a + 1) := by
  refine ⟨by rw [uI_ne (by omega)]; exact ht.1, fun t t0 t1 => ?_⟩
  unfold tW
  by_cases e : t = a
  · rw [e, uI_eq]; exact mxS_end h hn ha ht.2 hm
  · rw [uI_ne e]; exact ht.2 t t0 (by omega)
theorem tbI_bd {o1 o2 b tb : Int → Int} {n a t : Int} (h : inj b n N5) (hn : 0 ≤ n ∧ n ≤ 16) (ht : tbI o1 o2 b n tb a) (t0 : 0 ≤ t) (t1 : t < a) : -32 ≤ tb t ∧ tb t ≤ 32 := tW_bd h hn (ht.2 t t0 t1)
theorem tbI_dv {o1 o2 b tb : Int → Int} {n a k : Int} (h : inj b n N5) (hn : 0 ≤ n ∧ n ≤ 16) (ht : tbI o1 o2 b n tb a) (a0 : 0 ≤ a) (k0 : 0 ≤ k) (hk : bt a k = 1) : (0 ≤ a - p2 k ∧ a - p2 k < a) ∧ (-32 ≤ tb (a - p2 k) ∧ tb (a - p2 k) ≤ 32) ∧ (-34 ≤ dvb o1 o2 b N5 n tb a k ∧ dvb o1 o2 b N5 n tb a k ≤ 34) := by
  have c := (bt_clear a0 k0 k0 hk).1
  have d := p2_pos k
  exact ⟨by omega, tbI_bd h hn ht (by omega) (by omega), dvb_bd h hn (ht.2 _ (by omega) (by omega))⟩
theorem tbI_le {o1 o2 b tb : Int → Int} {n a c : Int} (h : tbI o1 o2 b n tb c) (hc : a ≤ c) : tbI o1 o2 b n tb a := ⟨h.1, fun t t0 t1 => h.2 t t0 (by omega)⟩
section IVN
variable {p : Program} {l : Launch} {e : Env} {R : Room} {s : State} {m : MethodId} {args : Array Value} {below : List Frame} {meth : Method} {c : Code} {H : Heap} {locs : List Loc} {cells slots : Nat} {Q : State → Prop}
variable {cc : ByteArray} {pc : Nat} {ls : Array Slot} {rest : List Value}
theorem i32_neg1 (x : Int32) : x ^^^ (-1) = -1 - x := by
  apply Int32.toBitVec_inj.1
  show x.toBitVec ^^^ (-1 : Int32).toBitVec = (-1 : Int32).toBitVec - x.toBitVec
  have e : (-1 : Int32).toBitVec = BitVec.allOnes 32 := by decide
  rw [e, BitVec.xor_allOnes, BitVec.not_eq_neg_add]
  have f : BitVec.allOnes 32 = -1#32 := by decide
  rw [f, BitVec.sub_eq_add_neg, BitVec.sub_eq_add_neg, BitVec.add_comm]
theorem iN_not (x : Int) : iN x ^^^ iN (-1) = iN (-1 - x) := by
  rw [← iN_sub]
  exact i32_neg1 (iN x)
theorem i32_andn (x y : Int32) : x &&& (-1 - y) = x ^^^ (x &&& y) := by
  rw [← i32_neg1 y]
  apply Int32.toBitVec_inj.1
  show x.toBitVec &&& (y.toBitVec ^^^ (-1 : Int32).toBitVec) = x.toBitVec ^^^ (x.toBitVec &&& y.toBitVec)
  have e : (-1 : Int32).toBitVec = BitVec.allOnes 32 := by decide
  rw [e, BitVec.xor_allOnes]
  apply BitVec.eq_of_getLsbD_eq
  intro i hi
  simp only [BitVec.getLsbD_and, BitVec.getLsbD_xor, BitVec.getLsbD_not, hi, decide_true, Bool.true_and]
  cases x.toBitVec.getLsbD i <;> cases y.toBitVec.getLsbD i <;> rfl
theorem iN_andn {a k : Int} (ha : 0 ≤ a) (hk : 0 ≤ k) (h : bt a k = 1) : iN a &&& iN (-1 - p2 k) = iN (a - p2 k) := by
  have pk := p2_pos k
  have e : bA a (p2 k) = p2 k := bt_ext (by unfold bA; omega) (by omega) (fun j hj => by
    rw [bt_and ha (by omega) hj, bt_p2 hk hj]
    exact ⟨fun g => g.2, fun g => ⟨by rw [g]; exact h, g⟩⟩)
  rw [← iN_sub (-1) (p2 k)]
  have : iN (-1) = -1 := rfl
  rw [this, i32_andn, iN_and ha (by omega), e, iN_xor ha (by omega), bt_xor ha hk h]
theorem iv_xnot (hx : p.tables.exec = Jvm.exec) (hb : c.code = cc) {x : Int} (hdg : decode cc pc = .ok (.ixor, 1)) (kk : W p l e R s m args below meth c H locs cells slots Q (F0 m (pc + 1) ls (.int (iN (-1 - x)) :: rest))) : W p l e R s m args below meth c H locs cells slots Q (F0 m pc ls (.int (iN (-1)) :: .int (iN x) :: rest)) :=
  lv_ixor hx hb hdg (by rw [iN_not]; exact kk)
theorem iv_andn (hx : p.tables.exec = Jvm.exec) (hb : c.code = cc) {x k : Int} (hdg : decode cc pc = .ok (.iand, 1)) (h0 : 0 ≤ x) (h1 : 0 ≤ k) (h2 : bt x k = 1) (kk : W p l e R s m args below meth c H locs cells slots Q (F0 m (pc + 1) ls (.int (iN (x - p2 k)) :: rest))) : W p l e R s m args below meth c H locs cells slots Q (F0 m pc ls (.int (iN (-1 - p2 k)) :: .int (iN x) :: rest)) :=
  lv_iand hx hb hdg (by rw [iN_andn h0 h1 h2]; exact kk)
theorem iv_xorp (hx : p.tables.exec = Jvm.exec) (hb : c.code = cc) {x k : Int} (hdg : decode cc pc = .ok (.ixor, 1)) (h0 : 0 ≤ x) (h1 : 0 ≤ k) (h2 : bt x k = 1) (kk : W p l e R s m args below meth c H locs cells slots Q (F0 m (pc + 1) ls (.int (iN (x - p2 k)) :: rest))) : W p l e R s m args below meth c H locs cells slots Q (F0 m pc ls (.int (iN (p2 k)) :: .int (iN x) :: rest)) :=
  lv_ixor hx hb hdg (by rw [iN_xor h0 (by have := p2_pos k; omega), bt_xor h0 h1 h2]; exact kk)
end IVN
