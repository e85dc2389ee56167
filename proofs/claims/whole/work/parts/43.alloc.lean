section IVG
variable {p : Program} {l : Launch} {e : Env} {R : Room} {s : State} {m : MethodId} {args : Array Value} {below : List Frame} {meth : Method} {c : Code} {H : Heap} {locs : List Loc} {cells slots : Nat} {Q : State → Prop}
variable {cc : ByteArray} {pc : Nat} {ls : Array Slot} {rest : List Value} {D : va_G} {cl : List vw_C} {A : Nat → Prop} {a : Nat} {tys : List (ClassId × FieldType)} {ws : va_W} {H0 : Heap}
theorem iv_same {cI cA : ClassId} {ty : FieldType} (hK : va_K D cl tys s) {t0 : Nat} (ht : tys[t0]? = some (cI, ty)) (hK2 : va_K D cl (tys ++ [(cA, ty)]) s) (hp : ∀ C, ty ≠ .object C) : cA = cI := by
  have h1 := (hK.2 t0 _ ht).2
  have h2 := (hK2.2 tys.length (cA, ty) (by simp)).2
  cases ty with
  | object C => exact absurd rfl (hp C)
  | _ => exact (Option.some.inj (Eq.trans (Eq.symm h2) h1))
theorem iv_newaI (hx : p.tables.exec = Jvm.exec) (hb : c.code = cc) (harr : (Cond.arrayClass FieldType.int).before args s = true) {cI : ClassId} (hK : va_K D cl tys s) (t0 : Nat) (ht : tys[t0]? = some (cI, .int)) (hP : va_P D cl ws H) (hD : va_D A ws) (hS : va_S A H0 H locs) (hA : ∀ q, H0.size ≤ q → A q)
    {n : Int} {N' : Nat} (hn : n = (N' : Int)) (hN : N' ≤ 1000000) (hcells : cells + 1 ≤ R.cells) (hslots : slots + N' ≤ R.slots) (hdg : decode cc pc = .ok (.newarray .int, 2))
    (kk : ∀ (q : Nat) (H1 : Heap), va_P D cl (ws ++ [(q, .inl (cI, N', .inl (ar fun _ => 0)))]) H1 → va_D A (ws ++ [(q, .inl (cI, N', .inl (ar fun _ => 0)))]) → va_S A H0 H1 locs → W p l e R s m args below meth c H1 locs (cells + 1) (slots + N') Q (F0 m (pc + 2) ls (.ref q :: rest))) :
    W p l e R s m args below meth c H locs cells slots Q (F0 m pc ls (.int (iN n) :: rest)) := by
  refine va_newa (atype := .int) (ty := .int) (N' := N') (a0 := (N', .inl (ar fun _ => 0))) hx hb harr rfl hK hP hD hS hA (fun cA => rfl) (fun h => by have := (iN_lt (a := n) (b := 0) (by omega) (by omega)).mp h; omega) (by rw [iN_cl (by omega)]; omega) (by show N' * 4 ≤ 536870912; omega) hcells hslots hdg (fun q cA H1 hK1 hP1 hD1 hS1 => ?_)
  have e := iv_same hK ht hK1 (fun C h => by cases h)
  subst e
  exact kk q H1 hP1 hD1 hS1
end IVG
/-- the room that the row of V takes when it must grow -/
def grw (nV : Nat) (hp : Int) : Nat := if (nV : Int) < hp then (min 20000 (max hp (2 * (nV : Int)))).toNat else 0
