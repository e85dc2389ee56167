section IVD
variable {p : Program} {l : Launch} {e : Env} {R : Room} {s : State} {m : MethodId} {args : Array Value} {below : List Frame} {meth : Method} {c : Code} {H : Heap} {locs : List Loc} {cells slots : Nat} {Q : State → Prop}
variable {cc : ByteArray} {pc : Nat} {ls : Array Slot} {rest : List Value}
theorem iv_tableIn (hx : p.tables.exec = Jvm.exec) (hb : c.code = cc) {dflt lo hi : Int} {offs : Array Int} {len : Nat} {x : Int} {off : Int} {tgt : Nat} (hdg : decode cc pc = .ok (.tableswitch dflt lo hi offs, len)) (hs : -2147483648 ≤ x ∧ x < 2147483648) (k : Nat) (hk : x = lo + (k : Int)) (hh : lo + (k : Int) ≤ hi) (ho : offs[k]? = some off) (ht : (pc : Int) + off = (tgt : Int)) (kk : W p l e R s m args below meth c H locs cells slots Q (F0 m tgt ls rest)) : W p l e R s m args below meth c H locs cells slots Q (F0 m pc ls (.int (iN x) :: rest)) :=
  lv_tableIn hx hb hdg (by rw [iN_toInt hs]; omega) (by rw [iN_toInt hs]; omega) (by rw [iN_toInt hs, show (x - lo).toNat = k by omega]; exact ho) ht kk
theorem iv_tableOut (hx : p.tables.exec = Jvm.exec) (hb : c.code = cc) {dflt lo hi : Int} {offs : Array Int} {len : Nat} {x : Int} {tgt : Nat} (hdg : decode cc pc = .ok (.tableswitch dflt lo hi offs, len)) (hs : -2147483648 ≤ x ∧ x < 2147483648) (h : x < lo ∨ hi < x) (ht : (pc : Int) + dflt = (tgt : Int)) (kk : W p l e R s m args below meth c H locs cells slots Q (F0 m tgt ls rest)) : W p l e R s m args below meth c H locs cells slots Q (F0 m pc ls (.int (iN x) :: rest)) :=
  lv_tableOut hx hb hdg (by rw [iN_toInt hs]; exact h) ht kk
theorem iv_mmin {own : String} {index : Nat} (hx : p.tables.exec = Jvm.exec) (hb : c.code = cc) (hml : c.maxLocals = ls.size) (hown : s.vm.findClass own = some m.cls) (hlink : (Cond.methodLink own index Lib.Math.min.name).before args s = true) (hstat : (Cond.static Lib.Math.min.name).before args s = true) (hini : (Cond.initialized "java/lang/Math").before args s = true) (hcode : (Cond.code Lib.Math.min.name Lib.Math.min.code 2 (some .int)).before args s = true)
    (hframes : 1 ≤ R.frames) (hlocals : (rest.map fun v => v.category).sum + 13 ≤ R.locals) (hc : cells ≤ R.cells) (hs : slots ≤ R.slots) {x y : Int} (h1 : -2147483648 ≤ x ∧ x < 2147483648) (h2 : -2147483648 ≤ y ∧ y < 2147483648) (hdg : decode cc pc = .ok (.invokestatic index, 3))
    (kk : W p l e R s m args below meth c H locs cells slots Q (F0 m (pc + 3) ls (.int (iN (min x y)) :: rest))) : W p l e R s m args below meth c H locs cells slots Q (F0 m pc ls (.int (iN y) :: .int (iN x) :: rest)) := by
  refine va_mmin hx hb hml hown hlink hstat hini hcode hframes hlocals hc hs hdg ?_
  have e : (if iN y < iN x then iN y else iN x) = iN (min x y) := by
    by_cases h : y < x
    · rw [if_pos ((iN_lt h2 h1).mpr h), show min x y = y by omega]
    · rw [if_neg (fun g => h ((iN_lt h2 h1).mp g)), show min x y = x by omega]
  rw [e]; exact kk
end IVD
/-! what holds of draws that could be drawn -/
theorem nop_up {x : Int → Int} {ns k : Int} (h0 : 0 ≤ k) (h1 : k < ns) (h : x k = 1) : nop (uI x k 0) ns = nop x ns - 1 := by
  unfold nop
  rw [su_up (f := fun s => if uI x k 0 s = 1 then 1 else 0) (g := fun s => if x s = 1 then 1 else 0) (k := k) (fun j hj => by rw [uI_ne hj]) h0 h1]
  rw [uI_eq, if_neg (by omega), if_pos h]; omega
/-- the draws: each of a side that was open -/
def dvd (ds : Int → Int) (ns n : Int) : Prop := ∀ k : Int, 0 ≤ k → k < n → 0 ≤ ds k ∧ ds k < ns ∧ opI ds k (ds k) = 1
theorem nop_opN {ds : Int → Int} {ns n : Int} (hns : 0 ≤ ns) (h : dvd ds ns n) : ∀ k : Nat, (k : Int) ≤ n → nop (opI ds k) ns = ns - k
  | 0, _ => by
    show su (fun s => if (1 : Int) = 1 then 1 else 0) ns = _
    rw [show (fun s : Int => if (1 : Int) = 1 then (1 : Int) else 0) = fun _ => 1 from funext fun _ => if_pos rfl, su_const 1 hns]
    omega
  | k + 1, hk => by
    have hk' : (k : Int) < n := by omega
    obtain ⟨a, b, c⟩ := h k (by omega) hk'
    rw [show ((k + 1 : Nat) : Int) = (k : Int) + 1 from rfl, opI_s (by omega), nop_up a b c, nop_opN hns h k (by omega)]
    omega
theorem nop_op {ds : Int → Int} {ns n k : Int} (hns : 0 ≤ ns) (h : dvd ds ns n) (h0 : 0 ≤ k) (hk : k ≤ n) : nop (opI ds k) ns = ns - k := by
  have := nop_opN hns h k.toNat (by omega)
  rw [Int.toNat_of_nonneg h0] at this
  exact this
theorem nop_pos {x : Int → Int} {ns k : Int} (h0 : 0 ≤ k) (h1 : k < ns) (h : x k = 1) : 0 < nop x ns := by
  have a := nop_up h0 h1 h
  have b := (nop_bd (uI x k 0) (n := ns) (by omega)).1
  omega
theorem dvd_le {ds : Int → Int} {ns n : Int} (hns : 0 ≤ ns) (h : dvd ds ns n) (h0 : 0 ≤ n) : n ≤ ns := by
  have a := nop_op hns h h0 (by omega)
  have b := (nop_bd (opI ds n) (n := ns) hns).1
  omega
theorem dvd_lt {ds : Int → Int} {ns n k s : Int} (hns : 0 ≤ ns) (h : dvd ds ns n) (h0 : 0 ≤ k) (hk : k ≤ n) (a : 0 ≤ s) (b : s < ns) (c : opI ds k s = 1) : k < ns := by
  have e := nop_op hns h h0 hk
  have := nop_pos a b c
  omega
/-- how many different kinds of length a heap has -/
def dff (hc hr : Int → Int) (n : Int) : Int := su (fun k => (if 0 < hc k then 1 else 0) + (if 0 < hr k then 1 else 0)) n
theorem dff_s {hc hr : Int → Int} {n : Int} (h : 0 ≤ n) : dff hc hr (n + 1) = dff hc hr n + ((if 0 < hc n then 1 else 0) + (if 0 < hr n then 1 else 0)) := su_s h
theorem dff_bd (hc hr : Int → Int) {n : Int} (h : 0 ≤ n) : 0 ≤ dff hc hr n ∧ dff hc hr n ≤ 2 * n := by
  refine ⟨su_nn (fun j _ _ => by have a := ite_bd (0 < hc j); have b := ite_bd (0 < hr j); omega), ?_⟩
  have := su_le (f := fun k => (if 0 < hc k then 1 else 0) + (if 0 < hr k then 1 else 0)) (g := fun _ => 2) (n := n) (fun j _ _ => by have a := ite_bd (0 < hc j); have b := ite_bd (0 < hr j); show (if 0 < hc j then (1 : Int) else 0) + (if 0 < hr j then 1 else 0) ≤ 2; omega)
  rw [su_const 2 h] at this
  exact this
/-- what ask answers: x says which sides are open -/
def askR (x o1 o2 : Int → Int) (ns sd wt : Int) : Int := if ¬ (0 ≤ sd ∧ sd < ns) then -1 else if wt = 0 then x sd else if wt = 1 then o1 sd else if wt = 2 then o2 sd else if wt = 3 then (if x sd = 1 then clF x o1 o2 ns sd else 0) else -1
/-- t more of a kind can come to the heap -/
def hpOK (hc hr : Int → Int) (rr n t : Int) : Prop := (if rr = 0 then 1 else 2) ≤ n ∧ n ≤ 200 ∧ 1 ≤ t ∧ t ≤ 100 ∧ (0 < (if rr = 0 then hc n else hr n) ∨ dff hc hr 201 < 30) ∧ (if rr = 0 then hc n else hr n) + t ≤ 1000
