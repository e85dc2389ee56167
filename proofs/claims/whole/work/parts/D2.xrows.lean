/-! METHODS THAT THROW: what a throw needs of the heap and the tables, contracts with one exception, calls, the catch -/
def xW (U : State) : Prop := va_Nw (.declares (Bundle.initS "java/lang/RuntimeException")) U ∧ va_Nw (.declares (Bundle.initS "java/lang/Exception")) U ∧ va_Nw (.declares (Bundle.initS Bundle.tN)) U ∧ va_Nw (.castable "java/util/NoSuchElementException" "java/util/NoSuchElementException") U ∧ va_Nw (.castable "java/lang/IllegalStateException" "java/lang/IllegalStateException") U ∧ (∃ sa : Nat, vk_R RX5 120 "no such draw" sa U) ∧ ∃ sa : Nat, vk_R RX5 215 "the heap is not told" sa U
theorem xW.warm {s U : State} (hW : s.WarmedH U.vm) (h : xW s) : xW U := by
  obtain ⟨h1, h2, h3, h4, h5, ⟨a, h6⟩, b, h7⟩ := h
  exact ⟨va_Nw.warmD hW h1, va_Nw.warmD hW h2, va_Nw.warmD hW h3, va_Nw.warmC hW h4, va_Nw.warmC hW h5, ⟨a, vk_R.warm hW h6⟩, b, vk_R.warm hW h7⟩
theorem xW.same {s U : State} (e : U.vm = s.vm) (h : xW s) : xW U := by
  obtain ⟨h1, h2, h3, h4, h5, ⟨a, h6⟩, b, h7⟩ := h
  exact ⟨va_Nw.same rfl e.symm h1, va_Nw.same rfl e.symm h2, va_Nw.same rfl e.symm h3, va_Nw.same rfl e.symm h4, va_Nw.same rfl e.symm h5, ⟨a, vk_R.same e h6⟩, b, vk_R.same e h7⟩
def xE (A : Nat → Prop) (U : State) (H : Heap) : Prop := xW U ∧ vx_Zq Bundle.tN "UNASSIGNED_STACK" Bundle.steD A U H ∧ vx_Zq Bundle.tN "SUPPRESSED_SENTINEL" Bundle.listD A U H
theorem xE.go {A B : Nat → Prop} {s U : State} {H : Heap} (h : xE A s s.heap) (hW : s.WarmedH U.vm) (hq : ∀ a : Nat, a < s.heap.size → ¬ A a → H[a]? = s.heap[a]?) (hU : U.heap = H) (hAB : ∀ q, B q → A q) : xE B U U.heap := by
  rw [hU]
  exact ⟨h.1.warm hW, (vx_Zq.moved hW.alike (h.2.1.kept hq)).narrow hAB, (vx_Zq.moved hW.alike (h.2.2.kept hq)).narrow hAB⟩
def xPc (D : va_G) (tys : List (ClassId × FieldType)) (ws : va_W) (sz : Nat) (av : List Value) : Array Value → State → Prop := fun a U => iv_Pc D tys ws sz av a U ∧ xE (va_A ws sz) U U.heap
theorem xPc_blind {D : va_G} {tys : List (ClassId × FieldType)} {ws : va_W} {sz : Nat} {av : List Value} : FrameBlind (xPc D tys ws sz av) := fun a U g mk q =>
  ⟨iv_blind a U g mk q.1, xW.same (s := U) (U := U.calling g mk a) rfl q.2.1, vx_Zq.moved (u := U) (U := U.calling g mk a) (Vm.Alike.refl U.vm) q.2.2.1, vx_Zq.moved (u := U) (U := U.calling g mk a) (Vm.Alike.refl U.vm) q.2.2.2⟩
def xBx (D : va_G) (A : Nat → Prop) (E : String) {S : Type} (wf : S → va_W) : String → S → State → Prop := fun E9 u t => E9 = E ∧ va_P D vwCl (wf u) t.heap ∧ va_D A (wf u)
def xXC (D : va_G) (A : Nat → Prop) (E : String) {S : Type} (wf : S → va_W) (px : S → Prop) : String → State → State → Prop := vx_X px (xBx D A E wf) A
/-- returns an int, or throws an E -/
def MetX (l : Launch) (y : MethodName) (wds : List Cond) (rm : Room) (av : List Value) (D : va_G) (tys : List (ClassId × FieldType)) (ws : va_W) (sz : Nat) {S : Type} (wf : S → va_W) (post : Int → S → Prop) (E : String) (px : S → Prop) (mc ms : Nat) : Prop :=
  vx_Met l y wds rm (xPc D tys ws sz av) (iv_Qi D (va_A ws sz) wf post) (xXC D (va_A ws sz) E wf px) mc ms (va_A ws sz)
theorem xv_mk {l : Launch} {y : MethodName} {wds wds' : List Cond} {rm : Room} {cc : ByteArray} {maxL : Nat} {rt : Option FieldType} {av : List Value} {D : va_G} {tys : List (ClassId × FieldType)} {ws : va_W} {sz mc ms : Nat} {S : Type} {wf : S → va_W} {post : Int → S → Prop} {E : String} {px : S → Prop}
    (hy : plainName y.cls = true) (hw : wds = Cond.code y cc maxL rt :: wds') (hlen : (lg_sl av).length ≤ maxL)
    (body : ∀ (p : Program) (e : Env) (s : State) (m : MethodId) (below : List Frame) (meth : Method) (c : Code) (A : Nat → Prop) (H : Heap) (ls : Array Slot), p.tables.exec = Jvm.exec → c.code = cc → meth.sig.returnType = rt → (∀ w ∈ wds, w.before av.toArray s = true) → s.vm.findClass y.cls = some m.cls → meth.locks = false → c.maxLocals = maxL →
      iv_N s → (∀ q : Nat, s.heap.size ≤ q → A q) → va_K D vwCl tys s → va_P D vwCl ws H → va_D A ws → va_S A s.heap H [] → lv_has ls maxL (lv_args 0 av) → (∀ x ∈ c.exceptionTable.toList, False) → xE A s s.heap →
      W p l e rm s m av.toArray below meth c H [] 0 0 (vx_MQ below (iv_Qi D A wf post) (xXC D A E wf px) av.toArray s mc ms A) (F0 m 0 ls [])) :
    MetX l y wds rm av D tys ws sz wf post E px mc ms := by
  refine vx_ofW (cc := cc) (maxL := maxL) (ret := rt) hy hw ?_
  intro p e s m args below meth c s₁ B hml htab hv
  obtain ⟨⟨rfl, hsz, hP, hK, hD0, hN⟩, hE⟩ := hv
  subst hsz
  have hl := lv_entry av (n := maxL) hlen
  rw [lg_entry_eq]
  exact body p e s m below meth c (va_A ws s.heap.size) s.heap _ B.exec B.bytes B.returns (atoms_spec (ws := wds) B.pre) (findClass_of_methodNamed B.named) B.notSynchronized hml hN (fun q h => Or.inr h) hK hP (hD0.self) va_S.rf hl htab hE
theorem xv_mkH {l : Launch} {y : MethodName} {wds wds' : List Cond} {rm : Room} {cc : ByteArray} {maxL : Nat} {rt : Option FieldType} {hh : List (Nat × Nat × Nat × Nat)} {av : List Value} {D : va_G} {tys : List (ClassId × FieldType)} {ws : va_W} {sz mc ms : Nat} {S : Type} {wf : S → va_W} {post : Int → S → Prop} {E : String} {px : S → Prop}
    (hy : plainName y.cls = true) (hw : wds = Cond.codeWith y cc maxL rt hh :: wds') (hlen : (lg_sl av).length ≤ maxL)
    (body : ∀ (p : Program) (e : Env) (s : State) (m : MethodId) (below : List Frame) (meth : Method) (c : Code) (A : Nat → Prop) (H : Heap) (ls : Array Slot), p.tables.exec = Jvm.exec → c.code = cc → meth.sig.returnType = rt → (∀ w ∈ wds, w.before av.toArray s = true) → s.vm.findClass y.cls = some m.cls → meth.locks = false → c.maxLocals = maxL →
      iv_N s → (∀ q : Nat, s.heap.size ≤ q → A q) → va_K D vwCl tys s → va_P D vwCl ws H → va_D A ws → va_S A s.heap H [] → lv_has ls maxL (lv_args 0 av) → c.exceptionTable.toList = tableOf hh → xE A s s.heap →
      W p l e rm s m av.toArray below meth c H [] 0 0 (vx_MQ below (iv_Qi D A wf post) (xXC D A E wf px) av.toArray s mc ms A) (F0 m 0 ls [])) :
    MetX l y wds rm av D tys ws sz wf post E px mc ms := by
  refine vx_ofWH (cc := cc) (maxL := maxL) (ret := rt) (hh := hh) hy hw ?_
  intro p e s m args below meth c s₁ B hml hv
  obtain ⟨⟨rfl, hsz, hP, hK, hD0, hN⟩, hE⟩ := hv
  subst hsz
  have hl := lv_entry av (n := maxL) hlen
  rw [lg_entry_eq]
  have hw9 : ∀ w ∈ wds, w.before av.toArray s = true := atoms_spec (ws := wds) B.pre
  exact body p e s m below meth c (va_A ws s.heap.size) s.heap _ B.exec B.bytes B.returns hw9 (findClass_of_methodNamed B.named) B.notSynchronized hml hN (fun q h => Or.inr h) hK hP (hD0.self) va_S.rf hl (vx_table (x := y) B (hw9 _ (by rw [hw]; exact List.mem_cons_self))) hE
section XV
variable {p : Program} {l : Launch} {e : Env} {R : Room} {s : State} {m : MethodId} {args : Array Value} {below : List Frame} {meth : Method} {c : Code} {H : Heap} {locs : List Loc} {cells slots : Nat} {Q : State → Prop}
variable {cc : ByteArray} {pc : Nat} {ls : Array Slot} {rest st0 : List Value} {D : va_G} {A A0 : Nat → Prop} {a : Nat} {tys tyc : List (ClassId × FieldType)} {ws wc wr : va_W} {S : Type} {wf : S → va_W}
variable {y : MethodName} {bytes : ByteArray} {maxL nL mc ms n index ci : Nat} {ret : Option FieldType} {wds : List Cond} {rm : Room} {Ts : List Cond} {own C E : String} {T : u_T} {N : Nat} {b : Nat} {As : List Value} {fs : List Value}
theorem xv_pre (hE : xE A0 s s.heap) (hN : iv_N s) (hK : va_K D vwCl tys s) (hP : va_P D vwCl ws H) (hD : va_D A0 ws) (hS : va_S A0 s.heap H locs) (hA : ∀ q, s.heap.size ≤ q → A0 q) (isC isT : List Nat) (hC : isC.map (fun i => ws[i]?) = wc.map some) (hnC : va_nd isC = true) (hT : isT.filterMap (fun i => tys[i]?) = tyc) (av : List Value) :
    ∀ U : State, U.heap = H → s.WarmedH U.vm → xPc D tyc wc H.size av av.toArray U := fun U hU hW =>
  ⟨iv_pre hN hK hP hD isC isT hC hnC hT av U hU hW, hE.go hW hS.2.1 hU (va_free (wc := wc) hD hS hA isC hC)⟩
theorem xv_callV {post : Int → S → Prop} {px : S → Prop} (Sx : CallFix p m c cc nL s args Ts own) (hM : MetX l y wds rm (.ref b :: As) D tyc wc H.size wf post E px mc ms) (cw : CallW R s args own C index y bytes maxL ret wds rm mc ms n) (hE : xE A0 s s.heap)
    (hN : iv_N s) (hK : va_K D vwCl tys s) (hP : va_P D vwCl ws H) (hD : va_D A0 ws) (hS : va_S A0 s.heap H locs) (hA : ∀ q, s.heap.size ≤ q → A0 q)
    (isC isR isT : List Nat) (hC : isC.map (fun i => ws[i]?) = wc.map some) (hR : isR.map (fun i => ws[i]?) = wr.map some) (hnC : va_nd isC = true) (hnR : va_nd isR = true) (hdis : ∀ i ∈ isR, i ∉ isC) (hT : isT.filterMap (fun i => tys[i]?) = tyc)
    (q0 : Nat) (hci : vwCl[ci]? = some (C, T, N)) (hq : wc[q0]? = some (b, .inr (ci, fs)))
    (hlen : As.length = n) (hsz : ls.size = nL) (hst : st0 = As.reverse ++ .ref b :: rest) (hroom : (rest.map fun v => v.category).sum ≤ 8) (hdg : decode cc pc = .ok (.invokevirtual index, 3)) (hf : cells + mc ≤ R.cells ∧ slots + ms ≤ R.slots)
    (kx : ∀ (ce : Cell) (q9 : Addr) (u : S) (H1 : Heap) (locs1 : List Loc), px u → va_P D vwCl (wr ++ wf u) H1 → va_D A0 (wr ++ wf u) → va_S A0 s.heap H1 locs1 → H1[q9]? = some ce → ce.vm = .none → s.vm.findClass E = some ce.cls → vx_W p l e R s m args below meth c H1 locs1 (cells + mc) (slots + ms) Q (F0 m pc ls rest) q9)
    (kk : ∀ (z : Int) (u : S) (H1 : Heap) (locs1 : List Loc), post z u → va_P D vwCl (wr ++ wf u) H1 → va_D A0 (wr ++ wf u) → va_S A0 s.heap H1 locs1 → W p l e R s m args below meth c H1 locs1 (cells + mc) (slots + ms) Q (F0 m (pc + 3) ls (.int (iN z) :: rest))) :
    W p l e R s m args below meth c H locs cells slots Q (F0 m pc ls st0) := by
  have hPc := hP.sub isC (iv_fm hC)
  have hKc := hK.sub isT hT
  have hF := va_free (wc := wc) hD hS hA isC hC
  subst hst
  refine vx_calli (vx_runV Sx hM cw ⟨xPc_blind, va_recv hKc hPc hci hq, xv_pre hE hN hK hP hD hS hA isC isT hC hnC hT _⟩ rfl hlen hsz rfl (lv_room hroom) hdg hf) hS (fun q _ h => hF q h) hF (fun q _ h => hF q h)
    (fun E9 ce q9 u t H1 locs1 ht hvm hp hB hz hk hS1 hc1 hc2 hc3 => ?_) (fun r u t H1 locs1 ht hvm hw hB hz hk hS1 => ?_)
  · obtain ⟨hE9, hP1, hD1⟩ := hB
    rw [ht] at hP1
    rw [hE9] at hc3
    obtain ⟨hP2, hD2⟩ := va_join (wr := wr) (w1 := wf u) hP hD isC isR hC hR hnR hdis hk hF hP1 hD1
    exact kx ce q9 u H1 locs1 hp hP2 hD2 hS1 hc1 hc2 hc3
  · obtain ⟨z, rfl, hp⟩ := hw
    obtain ⟨hP1, hD1⟩ := hB
    rw [ht] at hP1
    obtain ⟨hP2, hD2⟩ := va_join (wr := wr) (w1 := wf u) hP hD isC isR hC hR hnR hdis hk hF hP1 hD1
    exact kk z u H1 locs1 hp hP2 hD2 hS1
theorem xv_callS {post : Int → S → Prop} {hh : List (Nat × Nat × Nat × Nat)} (Sx : CallFix p m c cc nL s args Ts own) (hM : MetX l y wds rm As D tyc wc H.size wf post E (fun _ => False) mc ms) (cw : vx_CSW R s args own index y bytes maxL ret hh wds rm mc ms n) (hE : xE A0 s s.heap)
    (hN : iv_N s) (hK : va_K D vwCl tys s) (hP : va_P D vwCl ws H) (hD : va_D A0 ws) (hS : va_S A0 s.heap H locs) (hA : ∀ q, s.heap.size ≤ q → A0 q)
    (isC isR isT : List Nat) (hC : isC.map (fun i => ws[i]?) = wc.map some) (hR : isR.map (fun i => ws[i]?) = wr.map some) (hnC : va_nd isC = true) (hnR : va_nd isR = true) (hdis : ∀ i ∈ isR, i ∉ isC) (hT : isT.filterMap (fun i => tys[i]?) = tyc)
    (hlen : As.length = n) (hsz : ls.size = nL) (hst : st0 = As.reverse ++ rest) (hroom : (rest.map fun v => v.category).sum ≤ 8) (hdg : decode cc pc = .ok (.invokestatic index, 3)) (hf : cells + mc ≤ R.cells ∧ slots + ms ≤ R.slots)
    (kk : ∀ (z : Int) (u : S) (H1 : Heap) (locs1 : List Loc), post z u → va_P D vwCl (wr ++ wf u) H1 → va_D A0 (wr ++ wf u) → va_S A0 s.heap H1 locs1 → W p l e R s m args below meth c H1 locs1 (cells + mc) (slots + ms) Q (F0 m (pc + 3) ls (.int (iN z) :: rest))) :
    W p l e R s m args below meth c H locs cells slots Q (F0 m pc ls st0) := by
  have hF := va_free (wc := wc) hD hS hA isC hC
  subst hst
  refine vx_calli (vx_runSX Sx hM cw ⟨xPc_blind, xv_pre hE hN hK hP hD hS hA isC isT hC hnC hT _⟩ rfl hlen hsz rfl (lv_room hroom) hdg hf) hS (fun q _ h => hF q h) hF (fun q _ h => hF q h)
    (fun E9 ce q9 u t H1 locs1 ht hvm hp hB hz hk hS1 hc1 hc2 hc3 => hp.elim) (fun r u t H1 locs1 ht hvm hw hB hz hk hS1 => ?_)
  obtain ⟨z, rfl, hp⟩ := hw
  obtain ⟨hP1, hD1⟩ := hB
  rw [ht] at hP1
  obtain ⟨hP2, hD2⟩ := va_join (wr := wr) (w1 := wf u) hP hD isC isR hC hR hnR hdis hk hF hP1 hD1
  exact kk z u H1 locs1 hp hP2 hD2 hS1
theorem xv_cwS {hh : List (Nat × Nat × Nat × Nat)} (n : Nat) (hT : ∀ w ∈ T0, w.before args s = true) (kc : Cond.codeWith y bytes maxL ret hh ∈ T0) (ki : Cond.initialized y.cls ∈ T0) (kl : Cond.methodLink own index y ∈ T0) (ks : Cond.static y ∈ T0)
    (hd : y.cls ≠ "java/lang/invoke/MethodHandle" ∧ y.cls ≠ "java/lang/invoke/VarHandle" ∧ (parseMethodDescriptor y.desc).map (fun d => d.parameters.length) = some n) (hrc : rm.cells = mc) (hrs : rm.slots = ms) (hR : rm.frames + 1 ≤ R.frames ∧ 8 + (maxL + 11) + rm.locals ≤ R.locals) :
    vx_CSW R s args own index y bytes maxL ret hh (Cond.codeWith y bytes maxL ret hh :: T0) rm mc ms n := by
  have hG : GoodIn T0 (Cond.codeWith y bytes maxL ret hh :: T0) := fun w hw => by
    have hw0 : w ∈ T0 := (List.mem_cons.mp hw).elim (fun e => e ▸ kc) id
    exact ⟨hw0, good_of_word (List.mem_filter.mp hw0).2⟩
  refine ⟨⟨hrc, hrs, hR.1, hR.2, pay_in hT hG, List.mem_cons_self⟩, hT _ kc, hT _ ki, ⟨hd.1, hd.2.1⟩, fun sig h => ?_, hT _ kl, hT _ ks⟩
  have h2 := hd.2.2
  rw [h] at h2
  exact (Option.some.inj h2).symm
theorem xv_iret {post : Int → S → Prop} {px : S → Prop} {mc ms : Nat} (hx : p.tables.exec = Jvm.exec) (hb : c.code = cc) (hr : meth.sig.returnType = some .int) (hlocks : meth.locks = false) (hdg : decode cc pc = .ok (.ireturn, 1)) (hc : cells ≤ mc) (hs : slots ≤ ms) {z : Int} (u : S) (hp : post z u) (hP : va_P D vwCl (wf u) H) (hD : va_D A (wf u)) (hS : va_S A s.heap H locs) :
    W p l e R s m args below meth c H locs cells slots (vx_MQ below (iv_Qi D A wf post) (xXC D A E wf px) args s mc ms A) (F0 m pc ls [.int (iN z)]) := vx_ret (iv_iret hx hb hr hlocks hdg hc hs u hp hP hD hS)
/-- the throw's own end: nothing that lay in the heap has changed -/
theorem xv_end {px : S → Prop} (u : S) (hp : px u) (hP : va_P D vwCl (wf u) H) (hD : va_D A (wf u)) (hS : va_S A s.heap H locs) : ∀ t : State, s.vm.Alike t.vm → H.size ≤ t.heap.size → (∀ q : Nat, q < H.size → t.heap[q]? = H[q]?) → xXC D A E wf px E s t := fun t _ h1 h2 =>
  ⟨u, hp, ⟨rfl, hP.kept (fun k q hk => h2 q.1 (vx_lt hP hk)), hD⟩, Nat.le_trans hS.1 h1, fun q g1 g2 => (h2 q (Nat.lt_of_lt_of_le g1 hS.1)).trans (hS.2.1 q g1 g2)⟩
end XV
