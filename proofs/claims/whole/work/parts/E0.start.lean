/-! THE START: what the tables say of the classes, of the throws; the first invariant -/
theorem arr_known {args : Array Value} {s : State} {ty : FieldType} (h : (Cond.arrayClass ty).before args s = true) (hp : ty = .int ∨ ty = .boolean ∨ ty = .long) : ∃ cA : ClassId, ArrOfT s cA ty ∧ va_RA s cA ty := by
  obtain ⟨cA, kA, comp, h1, h2, h3⟩ := Cond.arrayClass_spec h
  refine ⟨cA, fun n z => ⟨fun k h => (by cases h), kA, h2, comp, h3⟩, ?_⟩
  rcases hp with rfl | rfl | rfl <;> exact h1
theorem xt_w : ∀ w ∈ [Cond.declares (Bundle.initS "java/lang/RuntimeException"), Cond.declares (Bundle.initS "java/lang/Exception"), Cond.declares (Bundle.initS Bundle.tN), Cond.castable "java/util/NoSuchElementException" "java/util/NoSuchElementException", Cond.castable "java/lang/IllegalStateException" "java/lang/IllegalStateException", Cond.stringRef RX5 120 "no such draw", Cond.stringRef RX5 215 "the heap is not told", Cond.laysStatic Bundle.tN "UNASSIGNED_STACK" Bundle.steD, Cond.laysStatic Bundle.tN "SUPPRESSED_SENTINEL" Bundle.listD, Cond.initialized Bundle.tN], w ∈ lw_tbl := by decide +kernel
theorem xt_g : ∀ w ∈ [Cond.isRef (.static Bundle.tN "UNASSIGNED_STACK" Bundle.steD), Cond.isRef (.static Bundle.tN "SUPPRESSED_SENTINEL" Bundle.listD), Cond.exactly (.string RX5 120) "java/lang/String", Cond.exactly (.string RX5 215) "java/lang/String"], w ∈ flatC (Jvm.Cond.and given_1 narrow_1) := by decide +kernel
theorem xE_start {args : Array Value} {s : State} (hts : ∀ w ∈ lw_tbl, w.before args s = true) (hgv : (Jvm.Cond.and given_1 narrow_1).before args s = true) : xE (fun q => s.heap.size ≤ q) s s.heap := by
  have h := fun w hw => hts w (xt_w w hw)
  have g := fun w hw => flat_of_before _ hgv w (xt_g w hw)
  obtain ⟨a1, -, -, -, e1, -⟩ := Cond.exactly_spec (args := args) (first := s) (o := none) (s := s) (idx := []) (g (Cond.exactly (.string RX5 120) "java/lang/String") (by simp))
  obtain ⟨a2, -, -, -, e2, -⟩ := Cond.exactly_spec (args := args) (first := s) (o := none) (s := s) (idx := []) (g (Cond.exactly (.string RX5 215) "java/lang/String") (by simp))
  have hA : ∀ a : Nat, a < s.heap.size → ¬ (fun q : Nat => s.heap.size ≤ q) a := fun a ha z => Nat.not_le.mpr ha z
  exact ⟨⟨va_Nw.of rfl (h _ (by simp)), va_Nw.of rfl (h (Cond.declares (Bundle.initS "java/lang/Exception")) (by simp)), va_Nw.of rfl (h (Cond.declares (Bundle.initS Bundle.tN)) (by simp)), va_Nw.of rfl (h (Cond.castable "java/util/NoSuchElementException" "java/util/NoSuchElementException") (by simp)), va_Nw.of rfl (h (Cond.castable "java/lang/IllegalStateException" "java/lang/IllegalStateException") (by simp)), ⟨a1, vk_R.of (h (Cond.stringRef RX5 120 "no such draw") (by simp)) e1⟩, a2, vk_R.of (h (Cond.stringRef RX5 215 "the heap is not told") (by simp)) e2⟩,
    vx_Zqof (h (Cond.laysStatic Bundle.tN "UNASSIGNED_STACK" Bundle.steD) (by simp)) (h (Cond.initialized Bundle.tN) (by simp)) (g (Cond.isRef (.static Bundle.tN "UNASSIGNED_STACK" Bundle.steD)) (by simp)) hA,
    vx_Zqof (h (Cond.laysStatic Bundle.tN "SUPPRESSED_SENTINEL" Bundle.listD) (by simp)) (h (Cond.initialized Bundle.tN) (by simp)) (g (Cond.isRef (.static Bundle.tN "SUPPRESSED_SENTINEL" Bundle.listD)) (by simp)) hA⟩
theorem mI_zero : mI 0 0 0 0 0 0 (fun _ => 0) (fun _ => 0) (fun _ => 0) (fun _ => 0) (fun _ => 0) (fun _ => 0) (fun _ => 0) (fun _ => 0) (fun _ => 0) (fun _ => 0) := by
  have h := mI_0 (tn := 0) (fa := fun _ => 0) (sb := fun _ => 0) (un := fun _ => 0) (ln := fun _ => 0) (dw := fun _ => 0) (sx := fun _ => 0) (sc := fun _ => 0) (oc := fun _ => 0) (ow := fun _ => 0) (od := fun _ => 0) (fun f _ _ => ⟨by show (0 : Int) ≤ 0; omega, by show (0 : Int) ≤ 4; omega⟩)
  rw [show uI (uI (fun _ : Int => (0 : Int)) 0 0) 1 0 = fun _ => 0 from by funext j; unfold uI; split; rfl; split <;> rfl] at h
  exact h
theorem wyI_zero : wyI (fun _ => 0) (fun _ => 0) 0 0 (fun _ => 0) (fun _ => 0) (fun _ => 0) (fun _ => (0 : Int64)) 1 := by
  have p0 : p2 0 = 1 := by decide
  have i0 : ∀ m : Int, inj (fun _ => (0 : Int)) 0 m := fun m => ⟨fun j a b => by omega, fun i j a b => by omega⟩
  refine ⟨by omega, i0 _, fun j a b => by omega, ⟨by omega, by omega⟩, by rw [p0]; omega, ?_⟩
  rw [p0]
  exact tbI_1 (i0 _) (by omega) (by decide)
theorem lwI_zero {aT aO aR : Nat} {cells slots : Nat} (h1 : cells ≤ 200) (h2 : slots ≤ 110000) : lwI 0 0 0 0 0 0 0 (fun _ => 0) (fun _ => 0) (fun _ => 0) (fun _ => 0) (fun _ => 0) (fun _ => 0) (fun _ => 0) (fun _ => 0) (fun _ => 0) (fun _ => 0) 0 0 0 (-1) (fun _ => 0) (fun _ => 0) (fun _ => 0) (fun _ => 0) (fun _ => 0) (fun _ => 0) (fun _ => 0) (fun _ => 0) 0 aT 1 (fun _ => 0) (fun _ => 0) (fun _ => 0) (fun _ => 0) 0 0 0 0 0 (-1) 0 0 0 0 aO 1 (fun _ => 0) (fun _ => 0) (fun _ => 0) (fun _ => 0) (fun _ => 0) (fun _ => 0) (fun _ => 0) 0 0 0 0 aR 1 (fun _ => 0) (fun _ => 0) (fun _ => 0) (fun _ => 0) (fun _ => 0) (fun _ => 0) (fun _ => 0) 0 0 0 0 0 0 0 0 0 (fun _ => 0) (fun _ => 0) (fun _ => 0) (fun _ => 0) (fun _ => 0) (fun _ => 0) (fun _ => 0) (fun _ => 0) (fun _ => 0) (fun _ => 0) (fun _ => 0) (fun _ => 0) (fun _ => 0) (fun _ => 0) (fun _ => 0) (fun _ => 0) (fun _ => 0) (fun _ => 0) (fun _ => 0) (fun _ => 0) (fun _ => 0) 0 0 0 0 cells slots := by
  unfold lwI
  exact ⟨mI_zero, by omega, ⟨by omega, fun e => by omega⟩, fun f _ _ => ⟨by show (0 : Int) ≤ 0; omega, by show (0 : Int) ≤ 4; omega⟩, wyI_zero, ⟨by omega, fun _ e => absurd e (by omega)⟩, Or.inl rfl, fun e => absurd e (by omega), ⟨by omega, by omega⟩, Or.inl rfl, fun e => absurd e (by omega), ⟨by omega, by omega⟩, hpS_0 (fun _ _ _ => rfl) (fun _ _ _ => ⟨rfl, rfl⟩), by omega, by omega, by omega, Or.inl ⟨by omega, by omega⟩, Or.inl ⟨by omega, by omega⟩⟩
