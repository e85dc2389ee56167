/-! LOOSE ONES: sides drawn as long as each closes a field; what stays is the same whatever the order -/
def sbs (ns : Int) (y x : Int → Int) : Prop := ∀ s : Int, 0 ≤ s → s < ns → y s = 1 → x s = 1
def sta (o1 o2 : Int → Int) (ns : Int) (y : Int → Int) : Prop := ∀ s : Int, 0 ≤ s → s < ns → y s = 1 → clF y o1 o2 ns s = 0
theorem osd_mono {x y o1 o2 : Int → Int} {ns f : Int} (h : sbs ns y x) : osd y o1 o2 f ns ≤ osd x o1 o2 f ns := su_le (fun s a b => by
  unfold inc
  by_cases k : y s = 1 ∧ (o1 s = f ∨ o2 s = f)
  · rw [if_pos k, if_pos ⟨h s a b k.1, k.2⟩]; omega
  · rw [if_neg k]; exact (inc_01 x o1 o2 f s).1)
/-- y is what stays of x0 when all that can be closed is closed -/
def pee (o1 o2 : Int → Int) (ns : Int) (x0 y : Int → Int) : Prop := sbs ns y x0 ∧ ∀ z : Int → Int, sta o1 o2 ns z → sbs ns z x0 → sbs ns z y
theorem pee_0 (o1 o2 : Int → Int) (ns : Int) (x : Int → Int) : pee o1 o2 ns x x := ⟨fun _ _ _ h => h, fun _ _ h => h⟩
theorem pee_s {o1 o2 : Int → Int} {ns s : Int} {x0 x : Int → Int} (h : pee o1 o2 ns x0 x) (s0 : 0 ≤ s) (s1 : s < ns) (hx : x s = 1) (hc : clF x o1 o2 ns s ≠ 0) : pee o1 o2 ns x0 (uI x s 0) := by
  refine ⟨fun t t0 t1 t2 => ?_, fun z hz hs t t0 t1 t2 => ?_⟩
  · by_cases k : t = s
    · rw [k, uI_eq] at t2; omega
    · rw [uI_ne k] at t2; exact h.1 t t0 t1 t2
  · have hzx := h.2 z hz hs
    by_cases k : t = s
    · exfalso
      rw [k] at t2
      have e := hz s s0 s1 t2
      apply hc
      have m1 := osd_mono (o1 := o1) (o2 := o2) (f := o1 s) hzx
      have m2 := osd_mono (o1 := o1) (o2 := o2) (f := o2 s) hzx
      have p1 := osd_pos (x := z) (o1 := o1) (o2 := o2) (f := o1 s) s0 s1 t2 (Or.inl rfl)
      have p2 := osd_pos (x := z) (o1 := o1) (o2 := o2) (f := o2 s) s0 s1 t2 (Or.inr rfl)
      unfold clF at e ⊢
      by_cases a : osd z o1 o2 (o1 s) ns = 1
      · rw [if_pos a] at e
        have := ite_bd (o2 s ≠ -1 ∧ osd z o1 o2 (o2 s) ns = 1)
        omega
      · rw [if_neg a] at e
        by_cases b : o2 s ≠ -1 ∧ osd z o1 o2 (o2 s) ns = 1
        · rw [if_pos b] at e; omega
        · rw [if_neg (show ¬ osd x o1 o2 (o1 s) ns = 1 by omega)]
          by_cases d : o2 s = -1
          · rw [if_neg (fun w => w.1 d)]; rfl
          · rw [if_neg (fun w => b ⟨d, by omega⟩)]; rfl
    · rw [uI_ne k]; exact hzx t t0 t1 t2
theorem pee_uniq {o1 o2 : Int → Int} {ns : Int} {x0 y y' : Int → Int} (h : pee o1 o2 ns x0 y) (hs : sta o1 o2 ns y) (h' : pee o1 o2 ns x0 y') (hs' : sta o1 o2 ns y') {s : Int} (s0 : 0 ≤ s) (s1 : s < ns) : y s = 1 ↔ y' s = 1 :=
  ⟨fun a => h'.2 y hs h.1 s s0 s1 a, fun a => h.2 y' hs' h'.1 s s0 s1 a⟩
/-- fields without open sides -/
def zer (x o1 o2 : Int → Int) (nf ns : Int) : Int := su (fun f => if osd x o1 o2 f ns = 0 then 1 else 0) nf
theorem osd_drop {x o1 o2 : Int → Int} {ns s f : Int} (s0 : 0 ≤ s) (s1 : s < ns) (hx : x s = 1) : osd (uI x s 0) o1 o2 f ns = osd x o1 o2 f ns - (if o1 s = f ∨ o2 s = f then 1 else 0) := by
  unfold osd
  rw [su_up (f := inc (uI x s 0) o1 o2 f) (g := inc x o1 o2 f) (k := s) (fun j hj => by unfold inc; rw [uI_ne hj]) s0 s1]
  unfold inc
  rw [uI_eq, if_neg (show ¬ ((0 : Int) = 1 ∧ (o1 s = f ∨ o2 s = f)) from fun z => by have := z.1; omega)]
  by_cases k : o1 s = f ∨ o2 s = f
  · rw [if_pos ⟨hx, k⟩, if_pos k]; omega
  · rw [if_neg (fun z => k z.2), if_neg k]; omega
theorem zer_drop {x o1 o2 : Int → Int} {nf ns s : Int} (s0 : 0 ≤ s) (s1 : s < ns) (hx : x s = 1) (h1 : 0 ≤ o1 s ∧ o1 s < nf) (h2 : -1 ≤ o2 s ∧ o2 s < nf) (hne : o1 s ≠ o2 s) : zer (uI x s 0) o1 o2 nf ns = zer x o1 o2 nf ns + clF x o1 o2 ns s := by
  have p1 := osd_pos (x := x) (o1 := o1) (o2 := o2) (f := o1 s) s0 s1 hx (Or.inl rfl)
  have p2 := osd_pos (x := x) (o1 := o1) (o2 := o2) (f := o2 s) s0 s1 hx (Or.inr rfl)
  have a : ∀ f : Int, 0 ≤ f → f < nf → (if osd (uI x s 0) o1 o2 f ns = 0 then (1 : Int) else 0) = (if osd x o1 o2 f ns = 0 then 1 else 0) + ((if o1 s = f then (if osd x o1 o2 f ns = 1 then 1 else 0) else 0) + (if o2 s = f then (if osd x o1 o2 f ns = 1 then 1 else 0) else 0)) := fun f f0 f1 => by
    rw [osd_drop s0 s1 hx]
    by_cases k : o1 s = f
    · rw [if_pos (show o1 s = f ∨ o2 s = f from Or.inl k), if_pos k, if_neg (show ¬ o2 s = f by omega)]
      rw [← k]
      by_cases m : osd x o1 o2 (o1 s) ns = 1
      · rw [if_pos m, if_pos (by omega), if_neg (by omega)]; rfl
      · rw [if_neg m, if_neg (by omega), if_neg (by omega)]; rfl
    · by_cases j : o2 s = f
      · rw [if_pos (show o1 s = f ∨ o2 s = f from Or.inr j), if_neg k, if_pos j]
        rw [← j]
        by_cases m : osd x o1 o2 (o2 s) ns = 1
        · rw [if_pos m, if_pos (by omega), if_neg (by omega)]; rfl
        · rw [if_neg m, if_neg (by omega), if_neg (by omega)]; rfl
      · rw [if_neg (show ¬ (o1 s = f ∨ o2 s = f) from fun z => z.elim k j), if_neg k, if_neg j]
        rw [show osd x o1 o2 f ns - 0 = osd x o1 o2 f ns by omega]; omega
  unfold zer
  rw [su_congr a, su_add, su_add, su_pick (f := fun f => if osd x o1 o2 f ns = 1 then 1 else 0) h1.1 h1.2]
  unfold clF
  by_cases k : o2 s = -1
  · rw [su_none (f := fun f => if osd x o1 o2 f ns = 1 then 1 else 0) (by omega), if_neg (show ¬ (o2 s ≠ -1 ∧ osd x o1 o2 (o2 s) ns = 1) from fun z => z.1 k)]
  · rw [su_pick (f := fun f => if osd x o1 o2 f ns = 1 then 1 else 0) (by omega) h2.2]
    by_cases m : osd x o1 o2 (o2 s) ns = 1
    · rw [if_pos m, if_pos (show o2 s ≠ -1 ∧ osd x o1 o2 (o2 s) ns = 1 from ⟨k, m⟩)]
    · rw [if_neg m, if_neg (show ¬ (o2 s ≠ -1 ∧ osd x o1 o2 (o2 s) ns = 1) from fun z => m z.2)]
theorem pee_congr {o1 o2 : Int → Int} {ns : Int} {x x' y : Int → Int} (e : ∀ s : Int, 0 ≤ s → s < ns → x s = x' s) (h : pee o1 o2 ns x y) : pee o1 o2 ns x' y :=
  ⟨fun s a b c => by rw [← e s a b]; exact h.1 s a b c, fun z hz hs => h.2 z hz (fun s a b c => by rw [e s a b]; exact hs s a b c)⟩
theorem zer_congr {x x' o1 o2 : Int → Int} {nf ns : Int} (e : ∀ s : Int, 0 ≤ s → s < ns → x s = x' s) : zer x o1 o2 nf ns = zer x' o1 o2 nf ns := su_congr (fun f _ _ => by rw [osd_congr e])
theorem nop_nn (x : Int → Int) (n : Int) : 0 ≤ nop x n := su_nn' (fun k => (ite_bd _).1) n
