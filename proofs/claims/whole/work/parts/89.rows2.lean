section IVR
variable {p : Program} {l : Launch} {e : Env} {R : Room} {s : State} {m : MethodId} {args : Array Value} {below : List Frame} {meth : Method} {c : Code} {H : Heap} {locs : List Loc} {cells slots : Nat} {Q : State → Prop}
variable {cc : ByteArray} {pc : Nat} {ls : Array Slot} {rest : List Value} {D : va_G} {cl : List vw_C} {A : Nat → Prop} {a : Nat} {tys : List (ClassId × FieldType)} {ws : va_W} {H0 : Heap}
theorem iv_newaJ (hx : p.tables.exec = Jvm.exec) (hb : c.code = cc) (harr : (Cond.arrayClass FieldType.long).before args s = true) {cI : ClassId} (hK : va_K D cl tys s) (t0 : Nat) (ht : tys[t0]? = some (cI, .long)) (hP : va_P D cl ws H) (hD : va_D A ws) (hS : va_S A H0 H locs) (hA : ∀ q, H0.size ≤ q → A q)
    {n : Int} {N' : Nat} (hn : n = (N' : Int)) (hN : N' ≤ 1000000) (hcells : cells + 1 ≤ R.cells) (hslots : slots + N' ≤ R.slots) (hdg : decode cc pc = .ok (.newarray .long, 2))
    (kk : ∀ (q : Nat) (H1 : Heap), va_P D cl (ws ++ [(q, .inl (cI, N', .inr (.inl (arJ fun _ => 0))))]) H1 → va_D A (ws ++ [(q, .inl (cI, N', .inr (.inl (arJ fun _ => 0))))]) → va_S A H0 H1 locs → W p l e R s m args below meth c H1 locs (cells + 1) (slots + N') Q (F0 m (pc + 2) ls (.ref q :: rest))) :
    W p l e R s m args below meth c H locs cells slots Q (F0 m pc ls (.int (iN n) :: rest)) := by
  refine va_newa (atype := .long) (ty := .long) (N' := N') (a0 := (N', .inr (.inl (arJ fun _ => 0)))) hx hb harr rfl hK hP hD hS hA (fun cA => rfl) (fun h => by have := (iN_lt (a := n) (b := 0) (by omega) (by omega)).mp h; omega) (by rw [iN_cl (by omega)]; omega) (by show N' * 8 ≤ 536870912; omega) hcells hslots hdg (fun q cA H1 hK1 hP1 hD1 hS1 => ?_)
  have e := iv_same hK ht hK1 (fun C h => by cases h)
  subst e
  exact kk q H1 hP1 hD1 hS1
theorem iv_newaZ (hx : p.tables.exec = Jvm.exec) (hb : c.code = cc) (harr : (Cond.arrayClass FieldType.boolean).before args s = true) {cI : ClassId} (hK : va_K D cl tys s) (t0 : Nat) (ht : tys[t0]? = some (cI, .boolean)) (hP : va_P D cl ws H) (hD : va_D A ws) (hS : va_S A H0 H locs) (hA : ∀ q, H0.size ≤ q → A q)
    {n : Int} {N' : Nat} (hn : n = (N' : Int)) (hN : N' ≤ 1000000) (hcells : cells + 1 ≤ R.cells) (hslots : slots + N' ≤ R.slots) (hdg : decode cc pc = .ok (.newarray .boolean, 2))
    (kk : ∀ (q : Nat) (H1 : Heap), va_P D cl (ws ++ [(q, .inl (cI, N', .inl (ar fun _ => 0)))]) H1 → va_D A (ws ++ [(q, .inl (cI, N', .inl (ar fun _ => 0)))]) → va_S A H0 H1 locs → W p l e R s m args below meth c H1 locs (cells + 1) (slots + N') Q (F0 m (pc + 2) ls (.ref q :: rest))) :
    W p l e R s m args below meth c H locs cells slots Q (F0 m pc ls (.int (iN n) :: rest)) := by
  refine va_newa (atype := .boolean) (ty := .boolean) (N' := N') (a0 := (N', .inl (ar fun _ => 0))) hx hb harr rfl hK hP hD hS hA (fun cA => rfl) (fun h => by have := (iN_lt (a := n) (b := 0) (by omega) (by omega)).mp h; omega) (by rw [iN_cl (by omega)]; omega) (by show N' * 1 ≤ 536870912; omega) hcells hslots hdg (fun q cA H1 hK1 hP1 hD1 hS1 => ?_)
  have e := iv_same hK ht hK1 (fun C h => by cases h)
  subst e
  exact kk q H1 hP1 hD1 hS1
theorem cpJ_ar {f : Int → Int64} {n : Int} (h : 0 ≤ n ∧ n < 2147483648) : va_cpy (arJ f) (arJ fun _ => 0) (iN 0).toNatClampNeg (iN 0).toNatClampNeg (iN n).toNatClampNeg = arJ (cpJ f n) := by
  rw [iN_cl (by omega), iN_cl h]
  funext k
  show (if (0 : Int).toNat ≤ k ∧ k < (0 : Int).toNat + n.toNat then f (((0 : Int).toNat + (k - (0 : Int).toNat) : Nat) : Int) else 0) = (if 0 ≤ (k : Int) ∧ (k : Int) < n then f k else 0)
  by_cases e : (k : Int) < n
  · rw [if_pos (show (0 : Int).toNat ≤ k ∧ k < (0 : Int).toNat + n.toNat by omega), if_pos (show 0 ≤ (k : Int) ∧ (k : Int) < n by omega), show (0 : Int).toNat + (k - (0 : Int).toNat) = k by omega]
  · rw [if_neg (show ¬ ((0 : Int).toNat ≤ k ∧ k < (0 : Int).toNat + n.toNat) by omega), if_neg (show ¬ (0 ≤ (k : Int) ∧ (k : Int) < n) by omega)]
/-- a long array laid at the front of a fresh one -/
theorem iv_copyl (hx : p.tables.exec = Jvm.exec) (hb : c.code = cc) (hml : c.maxLocals = ls.size) {own : String} {index : Nat} (hown : s.vm.findClass own = some m.cls) (hlink : (Cond.methodLink own index ⟨"java/lang/System", "arraycopy", "(Ljava/lang/Object;ILjava/lang/Object;II)V"⟩).before args s = true) (hnat : (Cond.native ⟨"java/lang/System", "arraycopy", "(Ljava/lang/Object;ILjava/lang/Object;II)V"⟩).before args s = true) (hstat : (Cond.static ⟨"java/lang/System", "arraycopy", "(Ljava/lang/Object;ILjava/lang/Object;II)V"⟩).before args s = true) (hini : (Cond.initialized "java/lang/System").before args s = true)
    (hK : va_K D cl tys s) (hP : va_P D cl ws H) (hD : va_D A ws) (hS : va_S A H0 H locs) (q0 q1 t0 t1 : Nat) {a0 : Nat} {c0 c1 : ClassId} {n0 n1 : Nat} {f : Int → Int64} (ha0 : ws[q0]? = some (a0, .inl (c0, n0, .inr (.inl (arJ f))))) (ha1 : ws[q1]? = some (a, .inl (c1, n1, .inr (.inl (arJ fun _ => 0))))) (ht0 : tys[t0]? = some (c0, .long)) (ht1 : tys[t1]? = some (c1, .long))
    {n : Int} (hn : 0 ≤ n ∧ n ≤ n0 ∧ n ≤ n1) (hn0 : n0 < 2147483648) (hframes : 1 ≤ R.frames) (hlocals : (rest.map fun v => v.category).sum + (nativeFrameWords "java/lang/System" "arraycopy" 5 + 11) ≤ R.locals) (hdg : decode cc pc = .ok (.invokestatic index, 3))
    (kk : ∀ (H1 : Heap) (locs1 : List Loc), va_P D cl (ws.set q1 (a, .inl (c1, n1, .inr (.inl (arJ (cpJ f n)))))) H1 → va_D A (ws.set q1 (a, .inl (c1, n1, .inr (.inl (arJ (cpJ f n)))))) → va_S A H0 H1 locs1 → W p l e R s m args below meth c H1 locs1 cells slots Q (F0 m (pc + 3) ls rest)) : W p l e R s m args below meth c H locs cells slots Q (F0 m pc ls (.int (iN n) :: .int (iN 0) :: .ref a :: .int (iN 0) :: .ref a0 :: rest)) := by
  have z0 : (iN 0).toNatClampNeg = 0 := by rw [iN_cl (by omega)]; rfl
  have zn : (iN n).toNatClampNeg = n.toNat := iN_cl (by omega)
  have n0' : ¬ iN 0 < 0 := fun h => by have := (iN_lt (a := 0) (b := 0) (by omega) (by omega)).mp h; omega
  have n1' : ¬ iN n < 0 := fun h => by have := (iN_lt (a := n) (b := 0) (by omega) (by omega)).mp h; omega
  refine va_copyl (ty := .long) hx hb hml hown hlink hnat hstat hini hK hP hD hS q0 q1 t0 t1 ha0 ha1 ht0 ht1 rfl n0' n0' n1' (by rw [z0, zn]; omega) (by rw [z0, zn]; omega) (fun i _ => rfl) hframes hlocals hdg ?_
  rw [cpJ_ar (by omega)]
  exact kk
end IVR
section IVS
variable {p : Program} {l : Launch} {e : Env} {R : Room} {s : State} {m : MethodId} {args : Array Value} {below : List Frame} {meth : Method} {c : Code} {H : Heap} {locs : List Loc} {cells slots : Nat} {Q : State → Prop}
variable {cc : ByteArray} {pc : Nat} {ls : Array Slot} {rest st0 : List Value} {D : va_G} {A A0 : Nat → Prop} {a : Nat} {tys tyc : List (ClassId × FieldType)} {ws wc wr : va_W} {S : Type} {wf : S → va_W} {rf : S → Nat}
variable {y : MethodName} {bytes : ByteArray} {maxL nL mc ms n index : Nat} {ret : Option FieldType} {wds : List Cond} {rm : Room} {Ts : List Cond} {own : String} {As : List Value}
theorem iv_callSr {post : S → Prop} (Sx : CallFix p m c cc nL s args Ts own) (hM : MetR l y wds rm As D tyc wc H.size wf rf post mc ms) (cw : CallB R s args own index y bytes maxL ret wds rm mc ms n ∧ (Cond.static y).before args s = true)
    (hN : iv_N s) (hK : va_K D vwCl tys s) (hP : va_P D vwCl ws H) (hD : va_D A0 ws) (hS : va_S A0 s.heap H locs) (hA : ∀ q, s.heap.size ≤ q → A0 q)
    (isC isR isT : List Nat) (hC : isC.map (fun i => ws[i]?) = wc.map some) (hR : isR.map (fun i => ws[i]?) = wr.map some) (hnC : va_nd isC = true) (hnR : va_nd isR = true) (hdis : ∀ i ∈ isR, i ∉ isC) (hT : isT.filterMap (fun i => tys[i]?) = tyc)
    (hlen : As.length = n) (hsz : ls.size = nL) (hst : st0 = As.reverse ++ rest) (hroom : (rest.map fun v => v.category).sum ≤ 8) (hdg : decode cc pc = .ok (.invokestatic index, 3)) (hf : cells + mc ≤ R.cells ∧ slots + ms ≤ R.slots)
    (kk : ∀ (u : S) (H1 : Heap) (locs1 : List Loc), post u → va_P D vwCl (wr ++ wf u) H1 → va_D A0 (wr ++ wf u) → va_S A0 s.heap H1 locs1 → W p l e R s m args below meth c H1 locs1 (cells + mc) (slots + ms) Q (F0 m (pc + 3) ls (.ref (rf u) :: rest))) :
    W p l e R s m args below meth c H locs cells slots Q (F0 m pc ls st0) := by
  have hF := va_free (wc := wc) hD hS hA isC hC
  subst hst
  refine va_callr (va_runS Sx hM cw ⟨iv_blind, iv_pre hN hK hP hD isC isT hC hnC hT _⟩ rfl hlen hsz rfl (lv_room hroom) hdg hf) hS (fun q _ h => hF q h) hF (fun u ra t H1 locs1 ht hvm hp hB hz hk hS1 => ?_)
  obtain ⟨rfl, hP1, hD1⟩ := hB
  rw [ht] at hP1
  obtain ⟨hP2, hD2⟩ := va_join (wr := wr) (w1 := wf u) hP hD isC isR hC hR hnR hdis hk hF hP1 hD1
  exact kk u H1 locs1 hp hP2 hD2 hS1
end IVS
