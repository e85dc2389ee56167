theorem iv_mkI {l : Launch} {y : MethodName} {wds wds' : List Cond} {rm : Room} {cc : ByteArray} {maxL : Nat} {rt : Option FieldType} {av : List Value} {D : va_G} {tys : List (ClassId × FieldType)} {ws : va_W} {sz mc ms : Nat} {S : Type} {wf : S → va_W} {post : Int → S → Prop}
    (hy : plainName y.cls = true) (hw : wds = Cond.code y cc maxL rt :: wds') (hlen : (lg_sl av).length ≤ maxL)
    (body : ∀ (p : Program) (e : Env) (s : State) (m : MethodId) (below : List Frame) (meth : Method) (c : Code) (A : Nat → Prop) (H : Heap) (ls : Array Slot), p.tables.exec = Jvm.exec → c.code = cc → meth.sig.returnType = rt → (∀ w ∈ wds, w.before av.toArray s = true) → s.vm.findClass y.cls = some m.cls → meth.locks = false → meth.name = y.name → c.maxLocals = maxL →
      iv_N s → (∀ q : Nat, s.heap.size ≤ q → A q) → va_K D vwCl tys s → va_P D vwCl ws H → va_D A ws → va_S A s.heap H [] → lv_has ls maxL (lv_args 0 av) →
      W p l e rm s m av.toArray below meth c H [] 0 0 (MQ below (iv_Qi D A wf post) av.toArray s mc ms A) (F0 m 0 ls [])) :
    MetI l y wds rm av D tys ws sz wf post mc ms :=
  iv_mk (Qc := fun A => iv_Qi D A wf post) hy hw hlen body
theorem iv_mkV {l : Launch} {y : MethodName} {wds wds' : List Cond} {rm : Room} {cc : ByteArray} {maxL : Nat} {rt : Option FieldType} {av : List Value} {D : va_G} {tys : List (ClassId × FieldType)} {ws : va_W} {sz mc ms : Nat} {S : Type} {wf : S → va_W} {post : S → Prop}
    (hy : plainName y.cls = true) (hw : wds = Cond.code y cc maxL rt :: wds') (hlen : (lg_sl av).length ≤ maxL)
    (body : ∀ (p : Program) (e : Env) (s : State) (m : MethodId) (below : List Frame) (meth : Method) (c : Code) (A : Nat → Prop) (H : Heap) (ls : Array Slot), p.tables.exec = Jvm.exec → c.code = cc → meth.sig.returnType = rt → (∀ w ∈ wds, w.before av.toArray s = true) → s.vm.findClass y.cls = some m.cls → meth.locks = false → meth.name = y.name → c.maxLocals = maxL →
      iv_N s → (∀ q : Nat, s.heap.size ≤ q → A q) → va_K D vwCl tys s → va_P D vwCl ws H → va_D A ws → va_S A s.heap H [] → lv_has ls maxL (lv_args 0 av) →
      W p l e rm s m av.toArray below meth c H [] 0 0 (MQ below (iv_Qv D A wf post) av.toArray s mc ms A) (F0 m 0 ls [])) :
    MetV l y wds rm av D tys ws sz wf post mc ms :=
  iv_mk (Qc := fun A => iv_Qv D A wf post) hy hw hlen body
theorem iv_mkR {l : Launch} {y : MethodName} {wds wds' : List Cond} {rm : Room} {cc : ByteArray} {maxL : Nat} {rt : Option FieldType} {av : List Value} {D : va_G} {tys : List (ClassId × FieldType)} {ws : va_W} {sz mc ms : Nat} {S : Type} {wf : S → va_W} {rf : S → Nat} {post : S → Prop}
    (hy : plainName y.cls = true) (hw : wds = Cond.code y cc maxL rt :: wds') (hlen : (lg_sl av).length ≤ maxL)
    (body : ∀ (p : Program) (e : Env) (s : State) (m : MethodId) (below : List Frame) (meth : Method) (c : Code) (A : Nat → Prop) (H : Heap) (ls : Array Slot), p.tables.exec = Jvm.exec → c.code = cc → meth.sig.returnType = rt → (∀ w ∈ wds, w.before av.toArray s = true) → s.vm.findClass y.cls = some m.cls → meth.locks = false → meth.name = y.name → c.maxLocals = maxL →
      iv_N s → (∀ q : Nat, s.heap.size ≤ q → A q) → va_K D vwCl tys s → va_P D vwCl ws H → va_D A ws → va_S A s.heap H [] → lv_has ls maxL (lv_args 0 av) →
      W p l e rm s m av.toArray below meth c H [] 0 0 (MQ below (iv_Qr D A wf rf post) av.toArray s mc ms A) (F0 m 0 ls [])) :
    MetR l y wds rm av D tys ws sz wf rf post mc ms :=
  iv_mk (Qc := fun A => iv_Qr D A wf rf post) hy hw hlen body
