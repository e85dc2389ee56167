section IVF
variable {p : Program} {l : Launch} {e : Env} {R : Room} {s : State} {m : MethodId} {args : Array Value} {below : List Frame} {meth : Method} {c : Code} {H : Heap} {locs : List Loc} {cells slots : Nat} {Q : State → Prop}
variable {cc : ByteArray} {pc : Nat} {ls : Array Slot} {rest st0 : List Value} {D : va_G} {A A0 : Nat → Prop} {a : Nat} {tys tyc : List (ClassId × FieldType)} {ws wc wr : va_W} {S : Type} {wf : S → va_W} {rf : S → Nat}
variable {y : MethodName} {bytes : ByteArray} {maxL nL mc ms n index : Nat} {ret : Option FieldType} {wds : List Cond} {rm : Room} {Ts : List Cond} {own : String} {As : List Value}
theorem iv_cwS (n : Nat) (hT : ∀ w ∈ T0, w.before args s = true) (kc : Cond.code y bytes maxL ret ∈ T0) (ki : Cond.initialized y.cls ∈ T0) (kl : Cond.methodLink own index y ∈ T0) (ks : Cond.static y ∈ T0)
    (hd : y.cls ≠ "java/lang/invoke/MethodHandle" ∧ y.cls ≠ "java/lang/invoke/VarHandle" ∧ (parseMethodDescriptor y.desc).map (fun d => d.parameters.length) = some n) (hrc : rm.cells = mc) (hrs : rm.slots = ms) (hR : rm.frames + 1 ≤ R.frames ∧ 8 + (maxL + 11) + rm.locals ≤ R.locals) :
    CallB R s args own index y bytes maxL ret (wd y bytes maxL ret) rm mc ms n ∧ (Cond.static y).before args s = true :=
  ⟨callB_of n hT (gd kc) rfl hrc hrs (hT _ ki) (hT _ kl) hd hR, hT _ ks⟩
theorem iv_callS {post : Int → S → Prop} (Sx : CallFix p m c cc nL s args Ts own) (hM : MetI l y wds rm As D tyc wc H.size wf post mc ms) (cw : CallB R s args own index y bytes maxL ret wds rm mc ms n ∧ (Cond.static y).before args s = true)
    (hN : iv_N s) (hK : va_K D vwCl tys s) (hP : va_P D vwCl ws H) (hD : va_D A0 ws) (hS : va_S A0 s.heap H locs) (hA : ∀ q, s.heap.size ≤ q → A0 q)
    (isC isR isT : List Nat) (hC : isC.map (fun i => ws[i]?) = wc.map some) (hR : isR.map (fun i => ws[i]?) = wr.map some) (hnC : va_nd isC = true) (hnR : va_nd isR = true) (hdis : ∀ i ∈ isR, i ∉ isC) (hT : isT.filterMap (fun i => tys[i]?) = tyc)
    (hlen : As.length = n) (hsz : ls.size = nL) (hst : st0 = As.reverse ++ rest) (hroom : (rest.map fun v => v.category).sum ≤ 8) (hdg : decode cc pc = .ok (.invokestatic index, 3)) (hf : cells + mc ≤ R.cells ∧ slots + ms ≤ R.slots)
    (kk : ∀ (z : Int) (u : S) (H1 : Heap) (locs1 : List Loc), post z u → va_P D vwCl (wr ++ wf u) H1 → va_D A0 (wr ++ wf u) → va_S A0 s.heap H1 locs1 → W p l e R s m args below meth c H1 locs1 (cells + mc) (slots + ms) Q (F0 m (pc + 3) ls (.int (iN z) :: rest))) :
    W p l e R s m args below meth c H locs cells slots Q (F0 m pc ls st0) := by
  have hF := va_free (wc := wc) hD hS hA isC hC
  subst hst
  refine va_calli (va_runS Sx hM cw ⟨iv_blind, iv_pre hN hK hP hD isC isT hC hnC hT _⟩ rfl hlen hsz rfl (lv_room hroom) hdg hf) hS (fun q _ h => hF q h) hF (fun r u t H1 locs1 ht hvm hw hB hz hk hS1 => ?_)
  obtain ⟨z, rfl, hp⟩ := hw
  obtain ⟨hP1, hD1⟩ := hB
  rw [ht] at hP1
  obtain ⟨hP2, hD2⟩ := va_join (wr := wr) (w1 := wf u) hP hD isC isR hC hR hnR hdis hk hF hP1 hD1
  exact kk z u H1 locs1 hp hP2 hD2 hS1
theorem iv_callSv {post : S → Prop} (Sx : CallFix p m c cc nL s args Ts own) (hM : MetV l y wds rm As D tyc wc H.size wf post mc ms) (cw : CallB R s args own index y bytes maxL ret wds rm mc ms n ∧ (Cond.static y).before args s = true)
    (hN : iv_N s) (hK : va_K D vwCl tys s) (hP : va_P D vwCl ws H) (hD : va_D A0 ws) (hS : va_S A0 s.heap H locs) (hA : ∀ q, s.heap.size ≤ q → A0 q)
    (isC isR isT : List Nat) (hC : isC.map (fun i => ws[i]?) = wc.map some) (hR : isR.map (fun i => ws[i]?) = wr.map some) (hnC : va_nd isC = true) (hnR : va_nd isR = true) (hdis : ∀ i ∈ isR, i ∉ isC) (hT : isT.filterMap (fun i => tys[i]?) = tyc)
    (hlen : As.length = n) (hsz : ls.size = nL) (hst : st0 = As.reverse ++ rest) (hroom : (rest.map fun v => v.category).sum ≤ 8) (hdg : decode cc pc = .ok (.invokestatic index, 3)) (hf : cells + mc ≤ R.cells ∧ slots + ms ≤ R.slots)
    (kk : ∀ (u : S) (H1 : Heap) (locs1 : List Loc), post u → va_P D vwCl (wr ++ wf u) H1 → va_D A0 (wr ++ wf u) → va_S A0 s.heap H1 locs1 → W p l e R s m args below meth c H1 locs1 (cells + mc) (slots + ms) Q (F0 m (pc + 3) ls rest)) :
    W p l e R s m args below meth c H locs cells slots Q (F0 m pc ls st0) := by
  have hF := va_free (wc := wc) hD hS hA isC hC
  subst hst
  refine va_callv (va_runS Sx hM cw ⟨iv_blind, iv_pre hN hK hP hD isC isT hC hnC hT _⟩ rfl hlen hsz rfl (lv_room hroom) hdg hf) hS (fun q _ h => hF q h) hF (fun u t H1 locs1 ht hvm hp hB hz hk hS1 => ?_)
  obtain ⟨hP1, hD1⟩ := hB
  rw [ht] at hP1
  obtain ⟨hP2, hD2⟩ := va_join (wr := wr) (w1 := wf u) hP hD isC isR hC hR hnR hdis hk hF hP1 hD1
  exact kk u H1 locs1 hp hP2 hD2 hS1
end IVF
/-! the class's heap of lengths: numbers by place (chains 0 .. 200, rings 201 .. 401) -/
def nb1 (nb : Int → Int) : Int → Int := nb
def nb2 (nb : Int → Int) : Int → Int := fun j => nb (j + 201)
/-- the numbers of a heap: none at the places 0 and 201 -/
def nbOK (nb : Int → Int) : Prop := rg nb 402 0 1000 ∧ nb 0 = 0 ∧ nb 201 = 0
theorem nb1_rg {nb : Int → Int} (h : nbOK nb) : rg (nb1 nb) 201 0 1000 := fun j a b => h.1 j a (by omega)
theorem nb2_rg {nb : Int → Int} (h : nbOK nb) : rg (nb2 nb) 201 0 1000 := fun j a b => h.1 (j + 201) (by omega) (by omega)
theorem kN_nb {nb : Int → Int} (h : nbOK nb) {p : Int} (h0 : 0 ≤ p) (h1 : p < 402) : kN (nb1 nb) (nb2 nb) p = nb p := by
  unfold kN nb1 nb2
  split
  · rfl
  · split
    · rw [show p - 201 + 201 = p by omega]
    · have : p = 0 ∨ p = 201 := by omega
      rcases this with e | e
      · rw [e]; exact h.2.1.symm
      · rw [e]; exact h.2.2.symm
def cst (n r : Int) : Int := if r = 1 then (if n < 4 then 0 else 8) else (if n < 3 then 0 else 4)
def lgP (at_ : Int) : Int := if at_ ≤ 200 then at_ else at_ - 201
def riP (at_ : Int) : Int := if at_ ≤ 200 then 0 else 1
/-- the class's rows say the layout of its numbers -/
def layC (nb : Int → Int) (p nk : Int) (pl lg co sp : Int → Int) : Prop := layOK (nb1 nb) (nb2 nb) p nk lg (fun k => nb (pl k)) (fun k => riP (pl k)) sp ∧ (∀ k : Int, 0 ≤ k → k < nk → 0 ≤ pl k ∧ pl k < p ∧ co k = cst (lg k) (riP (pl k)))
theorem layOK_congr {x1 x2 lg lg' nu nu' ri ri' sp sp' : Int → Int} {p nk : Int} (hp : 0 ≤ p) (h : layOK x1 x2 p nk lg nu ri sp) (e : ∀ k : Int, 0 ≤ k → k < nk → lg k = lg' k ∧ nu k = nu' k ∧ ri k = ri' k ∧ sp k = sp' k) : layOK x1 x2 p nk lg' nu' ri' sp' := by
  refine ⟨h.1, fun q a b c => ?_⟩
  have i0 := (ixI_bd x1 x2 a).1
  have i1 := ixI_lt (b := p) a b c
  obtain ⟨e1, e2, e3, e4⟩ := e (ixI x1 x2 q) i0 (by rw [h.1]; exact i1)
  rw [← e1, ← e2, ← e3, ← e4]
  exact h.2 q a b c
theorem layC_add {nb pl lg co sp : Int → Int} {p nk hp cc : Int} (hnb : nbOK nb) (h0 : 0 ≤ p) (h1 : p < 402) (h : layC nb p nk pl lg co sp) (hz : 0 < nb p) (hh : hp = prI (nb1 nb) (nb2 nb) p) (hc : cc = cst (lgP p) (riP p)) : layC nb (p + 1) (nk + 1) (uI pl nk p) (uI lg nk (lgP p)) (uI co nk cc) (uI sp nk hp) := by
  obtain ⟨a, b⟩ := h
  have hk := kN_nb hnb h0 h1
  have ad := layOK_add h0 a (by rw [hk]; exact hz) (a := lgP p) (b := nb p) (c := riP p) (d := hp) rfl hk.symm rfl hh
  have i0 := (ixI_bd (nb1 nb) (nb2 nb) h0).1
  have nk0 : 0 ≤ nk := by rw [a.1]; exact i0
  refine ⟨layOK_congr (by omega) ad (fun k k0 k1 => ?_), fun k k0 k1 => ?_⟩
  · by_cases g : k = nk
    · rw [g, uI_eq, uI_eq, uI_eq, uI_eq, uI_eq]
      exact ⟨rfl, rfl, rfl, rfl⟩
    · rw [uI_ne g, uI_ne g, uI_ne g, uI_ne g, uI_ne g]
      exact ⟨rfl, rfl, rfl, rfl⟩
  · by_cases g : k = nk
    · rw [g, uI_eq, uI_eq, uI_eq]
      exact ⟨by omega, by omega, hc⟩
    · rw [uI_ne g, uI_ne g, uI_ne g]
      have := b k k0 (by omega)
      exact ⟨this.1, by omega, this.2.2⟩
theorem layC_skip {nb pl lg co sp : Int → Int} {p nk : Int} (hnb : nbOK nb) (h0 : 0 ≤ p) (h1 : p < 402) (h : layC nb p nk pl lg co sp) (hz : ¬ 0 < nb p) : layC nb (p + 1) nk pl lg co sp :=
  ⟨layOK_skip h0 h.1 (by rw [kN_nb hnb h0 h1]; exact hz), fun k a b => by have := h.2 k a b; exact ⟨this.1, by omega, this.2.2⟩⟩
theorem opv_cost {lg ri sp va co : Int → Int} {h k : Int} (hri : ri k = 0 ∨ ri k = 1) (hc : co k = cst (lg k) (ri k)) : opv lg ri sp va h k = -(if 0 < co k then max (lg k + va (h - sp k)) (lg k - co k - va (h - sp k)) else lg k + va (h - sp k)) := by
  unfold opv
  rw [hc]
  unfold cst
  rcases hri with e | e <;> rw [e] <;> (repeat' split) <;> first | rfl | omega
