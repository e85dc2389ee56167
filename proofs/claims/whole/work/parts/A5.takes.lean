/-! A DRAW, AND ONE TAKEN BACK -/
theorem osd_sc {nf ns f : Int} {fa sb sx sc x : Int → Int} (h : mdS nf ns fa sb sx sc) (f0 : 0 ≤ f) (f1 : f < nf) : osd x fa sb f ns ≤ 4 := by
  have en : su (fun _ => 1) (sc f) = su (fun s => if fa s = f ∨ sb s = f then 1 else 0) ns := h.2.2.2.2.2.2.2.2 f f0 f1 (fun _ => 1)
  have c0 := h.2.2.2.2.2.1 f f0 f1
  rw [su_const 1 c0.1] at en
  have e2 : osd x fa sb f ns ≤ su (fun s => if fa s = f ∨ sb s = f then 1 else 0) ns := su_le (fun s _ _ => by
    show inc x fa sb f s ≤ (if fa s = f ∨ sb s = f then (1 : Int) else 0)
    unfold inc
    by_cases k : fa s = f ∨ sb s = f
    · rw [if_pos k]; exact (ite_bd _).2
    · rw [if_neg k, if_neg (fun z => k z.2)]; omega)
  omega
theorem tkO_at {fa sb oc : Int → Int} {sd g : Int} (hne : fa sd ≠ sb sd) (g0 : 0 ≤ g) : tkO fa sb oc sd g = oc g - (if fa sd = g ∨ sb sd = g then 1 else 0) := by
  unfold tkO fcO
  by_cases e : sb sd = -1
  · rw [if_pos e]
    by_cases k : g = fa sd
    · rw [k, uI_eq, if_pos (Or.inl rfl)]
    · rw [uI_ne k, if_neg (show ¬ (fa sd = g ∨ sb sd = g) by omega)]; omega
  · rw [if_neg e]
    by_cases k : g = sb sd
    · rw [k, uI_eq, uI_ne (show sb sd ≠ fa sd from fun z => hne z.symm), if_pos (Or.inr rfl)]
    · rw [uI_ne k]
      by_cases j : g = fa sd
      · rw [j, uI_eq, if_pos (Or.inl rfl)]
      · rw [uI_ne j, if_neg (show ¬ (fa sd = g ∨ sb sd = g) by omega)]; omega
theorem tbO_at {fa sb oc : Int → Int} {sd g : Int} (hne : fa sd ≠ sb sd) (g0 : 0 ≤ g) : tbO fa sb oc sd g = oc g + (if fa sd = g ∨ sb sd = g then 1 else 0) := by
  unfold tbO roO
  by_cases e : sb sd = -1
  · rw [if_pos e]
    by_cases k : g = fa sd
    · rw [k, uI_eq, if_pos (Or.inl rfl)]
    · rw [uI_ne k, if_neg (show ¬ (fa sd = g ∨ sb sd = g) by omega)]; omega
  · rw [if_neg e]
    by_cases k : g = sb sd
    · rw [k, uI_eq, uI_ne (show sb sd ≠ fa sd from fun z => hne z.symm), if_pos (Or.inr rfl)]
    · rw [uI_ne k]
      by_cases j : g = fa sd
      · rw [j, uI_eq, if_pos (Or.inl rfl)]
      · rw [uI_ne j, if_neg (show ¬ (fa sd = g ∨ sb sd = g) by omega)]; omega
/-- the owners behind a draw, in the class's words -/
def owT (fa sb oc w : Int → Int) (sd t : Int) : Int → Int := if sb sd ≠ -1 ∧ oc (sb sd) = 1 then uI (if oc (fa sd) = 1 then uI w (fa sd) t else w) (sb sd) t else (if oc (fa sd) = 1 then uI w (fa sd) t else w)
theorem tkW_T {fa sb oc ow : Int → Int} {sd t : Int} (hne : fa sd ≠ sb sd) : tkW fa sb oc ow sd t = owT fa sb oc ow sd t := by
  unfold tkW owT fcW
  by_cases e : sb sd = -1
  · rw [if_pos e, if_neg (show ¬ (sb sd ≠ -1 ∧ oc (sb sd) = 1) from fun z => z.1 e)]
  · rw [if_neg e, show fcO oc (fa sd) (sb sd) = oc (sb sd) from uI_ne (fun z => hne z.symm)]
    by_cases k : oc (sb sd) = 1
    · rw [if_pos k, if_pos (show sb sd ≠ -1 ∧ oc (sb sd) = 1 from ⟨e, k⟩)]
    · rw [if_neg k, if_neg (show ¬ (sb sd ≠ -1 ∧ oc (sb sd) = 1) from fun z => k z.2)]
theorem owS_T {x y fa sb oc w : Int → Int} {nf ns sd t : Int} (h1 : 0 ≤ fa sd ∧ fa sd < nf) (h2 : -1 ≤ sb sd ∧ sb sd < nf) (ho : ∀ f : Int, 0 ≤ f → f < nf → oc f = osd x fa sb f ns) (hy : ∀ f : Int, osd y fa sb f ns = osd x fa sb f ns - (if fa sd = f ∨ sb sd = f then 1 else 0)) : owS x y fa sb w ns sd t = owT fa sb oc w sd t := by
  have c := clF_bd x fa sb ns sd
  have ea : (0 < clF x fa sb ns sd ∧ osd y fa sb (fa sd) ns = 0) ↔ oc (fa sd) = 1 := by
    rw [hy, if_pos (Or.inl rfl), ho _ h1.1 h1.2]
    refine ⟨fun z => by omega, fun z => ⟨?_, by omega⟩⟩
    unfold clF
    rw [if_pos z]
    have := ite_bd (sb sd ≠ -1 ∧ osd x fa sb (sb sd) ns = 1)
    omega
  have eb : (0 < clF x fa sb ns sd ∧ sb sd ≠ -1 ∧ osd y fa sb (sb sd) ns = 0) ↔ (sb sd ≠ -1 ∧ oc (sb sd) = 1) := by
    rw [hy, if_pos (Or.inr rfl)]
    by_cases e : sb sd = -1
    · exact ⟨fun z => absurd e z.2.1, fun z => absurd e z.1⟩
    · rw [ho _ (by omega) h2.2]
      refine ⟨fun z => ⟨z.2.1, by omega⟩, fun z => ⟨?_, z.1, by omega⟩⟩
      unfold clF
      rw [if_pos (show sb sd ≠ -1 ∧ osd x fa sb (sb sd) ns = 1 from z)]
      have := ite_bd (osd x fa sb (fa sd) ns = 1)
      omega
  unfold owS owT
  by_cases k1 : oc (fa sd) = 1
  · by_cases k2 : sb sd ≠ -1 ∧ oc (sb sd) = 1
    · rw [if_pos (eb.mpr k2), if_pos (ea.mpr k1), if_pos k2, if_pos k1]
    · rw [if_neg (fun z => k2 (eb.mp z)), if_pos (ea.mpr k1), if_neg k2, if_pos k1]
  · by_cases k2 : sb sd ≠ -1 ∧ oc (sb sd) = 1
    · rw [if_pos (eb.mpr k2), if_neg (fun z => k1 (ea.mp z)), if_pos k2, if_neg k1]
    · rw [if_neg (fun z => k2 (eb.mp z)), if_neg (fun z => k1 (ea.mp z)), if_neg k2, if_neg k1]
theorem owT_congr {fa sb oc w w' : Int → Int} {nf sd t : Int} (h : ∀ f : Int, 0 ≤ f → f < nf → w f = w' f) {f : Int} (f0 : 0 ≤ f) (f1 : f < nf) : owT fa sb oc w sd t f = owT fa sb oc w' sd t f := by
  unfold owT
  split
  · split
    · exact uI_congr (uI_congr h) f f0 f1
    · exact uI_congr h f f0 f1
  · split
    · exact uI_congr h f f0 f1
    · exact h f f0 f1
theorem tkD_at {fa sb oc od : Int → Int} {sd t : Int} (hne : fa sd ≠ sb sd) (v : Int) : tkD fa sb oc od sd t v = od v + (if v = t then (if oc (fa sd) = 1 then 1 else 0) + (if sb sd ≠ -1 ∧ oc (sb sd) = 1 then 1 else 0) else 0) := by
  have one : ∀ (q : Int → Int) (f : Int), fcD oc q f t v = q v + (if v = t then (if oc f = 1 then 1 else 0) else 0) := fun q f => by
    unfold fcD
    by_cases k : oc f = 1
    · rw [if_pos k, if_pos k]
      by_cases e : v = t
      · rw [if_pos e, e, uI_eq]
      · rw [if_neg e, uI_ne e]; omega
    · rw [if_neg k, if_neg k, ite_self]; omega
  unfold tkD
  by_cases e : sb sd = -1
  · rw [if_pos e, one, if_neg (show ¬ (sb sd ≠ -1 ∧ oc (sb sd) = 1) from fun z => z.1 e)]
    by_cases k : v = t
    · rw [if_pos k, if_pos k]; omega
    · rw [if_neg k, if_neg k]
  · rw [if_neg e]
    have two : fcD (fcO oc (fa sd)) (fcD oc od (fa sd) t) (sb sd) t v = fcD oc od (fa sd) t v + (if v = t then (if oc (sb sd) = 1 then 1 else 0) else 0) := by
      unfold fcD
      rw [show fcO oc (fa sd) (sb sd) = oc (sb sd) from uI_ne (fun z => hne z.symm)]
      by_cases k : oc (sb sd) = 1
      · rw [if_pos k, if_pos k]
        by_cases e : v = t
        · rw [if_pos e, e, uI_eq]
        · rw [if_neg e, uI_ne e]; omega
      · rw [if_neg k, if_neg k, ite_self]; omega
    rw [two, one]
    by_cases k : v = t
    · rw [if_pos k, if_pos k, if_pos k]
      by_cases j : oc (sb sd) = 1
      · rw [if_pos j, if_pos (show sb sd ≠ -1 ∧ oc (sb sd) = 1 from ⟨e, j⟩)]; omega
      · rw [if_neg j, if_neg (show ¬ (sb sd ≠ -1 ∧ oc (sb sd) = 1) from fun z => j z.2)]; omega
    · rw [if_neg k, if_neg k, if_neg k]; omega
/-- owners counted behind a draw -/
theorem cow_T {fa sb oc ow : Int → Int} {nf sd t w : Int} (hw : w = 8 ∨ w = 9) (ht : t = 0 ∨ t = 1) (h1 : 0 ≤ fa sd ∧ fa sd < nf) (h2 : -1 ≤ sb sd ∧ sb sd < nf) (hne : fa sd ≠ sb sd) (a : oc (fa sd) = 1 → ow (fa sd) = -1) (b : sb sd ≠ -1 ∧ oc (sb sd) = 1 → ow (sb sd) = -1) : cow (owT fa sb oc ow sd t) w nf = cow ow w nf + (if w - 8 = t then (if oc (fa sd) = 1 then 1 else 0) + (if sb sd ≠ -1 ∧ oc (sb sd) = 1 then 1 else 0) else 0) := by
  have one : ∀ (q : Int → Int) (f : Int), 0 ≤ f → f < nf → q f = -1 → cow (uI q f t) w nf = cow q w nf + (if w - 8 = t then 1 else 0) := fun q f f0 f1 e => by
    rw [cow_up f0 f1, if_neg (show ¬ w = 3 by omega), if_neg (show ¬ w = 3 by omega), e, if_neg (show ¬ (-1 : Int) = w - 8 by omega)]
    by_cases k : w - 8 = t
    · rw [if_pos k, if_pos k.symm]; omega
    · rw [if_neg k, if_neg (fun z => k z.symm)]; omega
  unfold owT
  by_cases k2 : sb sd ≠ -1 ∧ oc (sb sd) = 1
  · by_cases k1 : oc (fa sd) = 1
    · rw [if_pos k2, if_pos k1, one _ _ (by omega) h2.2 (by rw [uI_ne (fun z => hne z.symm)]; exact b k2), one _ _ h1.1 h1.2 (a k1), if_pos k1, if_pos k2]
      by_cases e : w - 8 = t
      · rw [if_pos e, if_pos e]; omega
      · rw [if_neg e, if_neg e]; omega
    · rw [if_pos k2, if_neg k1, one _ _ (by omega) h2.2 (b k2), if_neg k1, if_pos k2]
      by_cases e : w - 8 = t
      · rw [if_pos e, if_pos e]; omega
      · rw [if_neg e, if_neg e]
  · by_cases k1 : oc (fa sd) = 1
    · rw [if_neg k2, if_pos k1, one _ _ h1.1 h1.2 (a k1), if_pos k1, if_neg k2]
      by_cases e : w - 8 = t
      · rw [if_pos e, if_pos e]; omega
      · rw [if_neg e, if_neg e]
    · rw [if_neg k2, if_neg k1, if_neg k1, if_neg k2]
      by_cases e : w - 8 = t
      · rw [if_pos e]; omega
      · rw [if_neg e]; omega
theorem mI_take {nf ns no nd nk tn nk' sd : Int} {fa sb un ln dw sx sc oc ow od ln' : Int → Int} (h : mI nf ns no nd nk tn fa sb un ln dw sx sc oc ow od) (s0 : 0 ≤ sd) (s1 : sd < ns) (hu : un sd = 1) (el : ln' = uI ln nd sd) (hk : nd + 1 ≤ nk') (hd : dvd ln' ns nk') : mI nf ns (no - 1) (nd + 1) nk' (if clB fa sb oc sd = 0 then 1 - tn else tn) fa sb (uI un sd 0) ln' (uI dw nd tn) sx sc (tkO fa sb oc sd) (tkW fa sb oc ow sd tn) (tkD fa sb oc od sd tn) := by
  obtain ⟨h1, h2, h3, h4, h5, h6, h7, h8, h9, h10, h11, h12⟩ := h
  have n0 := h1.2.1
  have a1 := h1.2.2.1 sd s0 s1
  have a2 := h1.2.2.2.1 sd s0 s1
  have ne := h1.2.2.2.2.1 sd s0 s1
  have hx : ∀ s : Int, 0 ≤ s → s < ns → un s = opI ln nd s := h4
  have pre : opI ln' nd = opI ln nd := by rw [el]; exact opI_pre (Int.le_refl _) h2.1
  have at_ : ln' nd = sd := by rw [el, uI_eq]
  have op1 : opI ln' (nd + 1) = uI (opI ln nd) sd 0 := by rw [opI_s h2.1, pre, at_]
  have ecl : clB fa sb oc sd = clF (opI ln nd) fa sb ns sd := by rw [clB_F a1 a2 h6, clF_congr hx]
  have t01 := tnI_01 fa sb ln ns nd
  have dropx : ∀ f : Int, osd (opI ln' (nd + 1)) fa sb f ns = osd (opI ln nd) fa sb f ns - (if fa sd = f ∨ sb sd = f then 1 else 0) := fun f => by
    rw [op1]; exact osd_drop s0 s1 (by rw [← hx sd s0 s1]; exact hu)
  have ho : ∀ f : Int, 0 ≤ f → f < nf → oc f = osd (opI ln nd) fa sb f ns := fun f x y => by rw [h6 f x y]; exact osd_congr hx
  have noow : ∀ f : Int, 0 ≤ f → f < nf → oc f = 1 → ow f = -1 := fun f x y e => by
    rw [h10 f x y]; exact ow_openI n0.1 (by rw [← ho f x y]; omega)
  have ht : tn = 0 ∨ tn = 1 := by rw [h8]; exact t01
  refine ⟨h1, by omega, hd, fun s x y => ?_, ?_, fun f x y => ?_, fun f x y => ?_, ?_, fun i x y => ?_, fun f x y => ?_, ?_, ?_⟩
  · rw [op1]
    unfold uI
    split
    · rfl
    · exact hx s x y
  · rw [nop_up s0 s1 hu, h5]
  · rw [tkO_at ne x, osd_drop s0 s1 hu, h6 f x y]
  · rw [tkO_at ne x]
    have u := h7 f x y
    refine ⟨?_, by have := ite_bd (fa sd = f ∨ sb sd = f); omega⟩
    by_cases e : fa sd = f ∨ sb sd = f
    · have fn : f < nf := by omega
      have p := osd_pos (x := un) s0 s1 hu e
      rw [← h6 f x fn] at p
      rw [if_pos e]; omega
    · rw [if_neg e]; omega
  · rw [tnI_s h2.1, pre, at_, ecl, el, tnI_pre (Int.le_refl _) h2.1, h8]
  · by_cases e : i = nd
    · rw [e, uI_eq, el, tnI_pre (Int.le_refl _) h2.1]; exact h8
    · rw [uI_ne e, el, tnI_pre (by omega) h2.1]; exact h9 i x (by omega)
  · rw [tkW_T ne, owI_s h2.1, pre, at_]
    rw [owS_T a1 a2 ho dropx, el, owI_pre (Int.le_refl _) h2.1, tnI_pre (Int.le_refl _) h2.1, ← h8]
    exact owT_congr h10 x y
  · rw [tkW_T ne, cow_T (Or.inl rfl) ht a1 a2 ne (noow _ a1.1 a1.2) (fun z => noow _ (by omega) a2.2 z.2), tkD_at ne, h11]
    rfl
  · rw [tkW_T ne, cow_T (Or.inr rfl) ht a1 a2 ne (noow _ a1.1 a1.2) (fun z => noow _ (by omega) a2.2 z.2), tkD_at ne, h12]
    rfl
/-- a new draw can be drawn -/
theorem dvd_new {ln : Int → Int} {ns nd nk sd : Int} (h : dvd ln ns nk) (h0 : 0 ≤ nd) (hk : nd ≤ nk) (s0 : 0 ≤ sd) (s1 : sd < ns) (hu : opI ln nd sd = 1) : dvd (uI ln nd sd) ns (nd + 1) := fun k a b => by
  by_cases e : k = nd
  · rw [e, uI_eq, opI_pre (Int.le_refl _) h0]; exact ⟨s0, s1, hu⟩
  · rw [uI_ne e, opI_pre (by omega) h0]; exact h k a (by omega)
theorem osd_add {x o1 o2 : Int → Int} {ns s f : Int} (s0 : 0 ≤ s) (s1 : s < ns) (hx : x s = 0) : osd (uI x s 1) o1 o2 f ns = osd x o1 o2 f ns + (if o1 s = f ∨ o2 s = f then 1 else 0) := by
  unfold osd
  rw [su_up (f := inc (uI x s 1) o1 o2 f) (g := inc x o1 o2 f) (k := s) (fun j hj => by unfold inc; rw [uI_ne hj]) s0 s1]
  unfold inc
  rw [uI_eq, if_neg (show ¬ (x s = 1 ∧ (o1 s = f ∨ o2 s = f)) from fun z => by have := z.1; omega)]
  by_cases k : o1 s = f ∨ o2 s = f
  · rw [if_pos ⟨rfl, k⟩, if_pos k]; omega
  · rw [if_neg (fun z => k z.2), if_neg k]; omega
theorem tbD_at {fa sb oc od : Int → Int} {sd t : Int} (hne : fa sd ≠ sb sd) (v : Int) : tbD fa sb oc od sd t v = od v - (if v = t then (if oc (fa sd) = 0 then 1 else 0) + (if sb sd ≠ -1 ∧ oc (sb sd) = 0 then 1 else 0) else 0) := by
  have one : ∀ (q : Int → Int) (f : Int), roD oc q f t v = q v - (if v = t then (if oc f = 0 then 1 else 0) else 0) := fun q f => by
    unfold roD
    by_cases k : oc f = 0
    · rw [if_pos k, if_pos k]
      by_cases e : v = t
      · rw [if_pos e, e, uI_eq]
      · rw [if_neg e, uI_ne e]; omega
    · rw [if_neg k, if_neg k, ite_self]; omega
  unfold tbD
  by_cases e : sb sd = -1
  · rw [if_pos e, one, if_neg (show ¬ (sb sd ≠ -1 ∧ oc (sb sd) = 0) from fun z => z.1 e)]
    by_cases k : v = t
    · rw [if_pos k, if_pos k]; omega
    · rw [if_neg k, if_neg k]
  · rw [if_neg e]
    have two : roD (roO oc (fa sd)) (roD oc od (fa sd) t) (sb sd) t v = roD oc od (fa sd) t v - (if v = t then (if oc (sb sd) = 0 then 1 else 0) else 0) := by
      unfold roD
      rw [show roO oc (fa sd) (sb sd) = oc (sb sd) from uI_ne (fun z => hne z.symm)]
      by_cases k : oc (sb sd) = 0
      · rw [if_pos k, if_pos k]
        by_cases e : v = t
        · rw [if_pos e, e, uI_eq]
        · rw [if_neg e, uI_ne e]; omega
      · rw [if_neg k, if_neg k, ite_self]; omega
    rw [two, one]
    by_cases k : v = t
    · rw [if_pos k, if_pos k, if_pos k]
      by_cases j : oc (sb sd) = 0
      · rw [if_pos j, if_pos (show sb sd ≠ -1 ∧ oc (sb sd) = 0 from ⟨e, j⟩)]; omega
      · rw [if_neg j, if_neg (show ¬ (sb sd ≠ -1 ∧ oc (sb sd) = 0) from fun z => j z.2)]; omega
    · rw [if_neg k, if_neg k, if_neg k]; omega
/-- the owners when a draw is taken back: of its fields none has one -/
def owB (fa sb oc w : Int → Int) (sd : Int) : Int → Int := if sb sd ≠ -1 ∧ oc (sb sd) = 0 then uI (if oc (fa sd) = 0 then uI w (fa sd) (-1) else w) (sb sd) (-1) else (if oc (fa sd) = 0 then uI w (fa sd) (-1) else w)
theorem tbW_B {fa sb oc ow : Int → Int} {sd : Int} (hne : fa sd ≠ sb sd) : tbW fa sb oc ow sd = owB fa sb oc ow sd := by
  unfold tbW owB roW
  by_cases e : sb sd = -1
  · rw [if_pos e, if_neg (show ¬ (sb sd ≠ -1 ∧ oc (sb sd) = 0) from fun z => z.1 e)]
  · rw [if_neg e, show roO oc (fa sd) (sb sd) = oc (sb sd) from uI_ne (fun z => hne z.symm)]
    by_cases k : oc (sb sd) = 0
    · rw [if_pos k, if_pos (show sb sd ≠ -1 ∧ oc (sb sd) = 0 from ⟨e, k⟩)]
    · rw [if_neg k, if_neg (show ¬ (sb sd ≠ -1 ∧ oc (sb sd) = 0) from fun z => k z.2)]
theorem cow_B {fa sb oc ow : Int → Int} {nf sd t w : Int} (hw : w = 8 ∨ w = 9) (h1 : 0 ≤ fa sd ∧ fa sd < nf) (h2 : -1 ≤ sb sd ∧ sb sd < nf) (hne : fa sd ≠ sb sd) (a : oc (fa sd) = 0 → ow (fa sd) = t) (b : sb sd ≠ -1 ∧ oc (sb sd) = 0 → ow (sb sd) = t) : cow (owB fa sb oc ow sd) w nf = cow ow w nf - (if w - 8 = t then (if oc (fa sd) = 0 then 1 else 0) + (if sb sd ≠ -1 ∧ oc (sb sd) = 0 then 1 else 0) else 0) := by
  have one : ∀ (q : Int → Int) (f : Int), 0 ≤ f → f < nf → q f = t → cow (uI q f (-1)) w nf = cow q w nf - (if w - 8 = t then 1 else 0) := fun q f f0 f1 e => by
    rw [cow_up f0 f1, if_neg (show ¬ w = 3 by omega), if_neg (show ¬ w = 3 by omega), e, if_neg (show ¬ (-1 : Int) = w - 8 by omega)]
    by_cases k : w - 8 = t
    · rw [if_pos k, if_pos k.symm]; omega
    · rw [if_neg k, if_neg (fun z => k z.symm)]; omega
  unfold owB
  by_cases k2 : sb sd ≠ -1 ∧ oc (sb sd) = 0
  · by_cases k1 : oc (fa sd) = 0
    · rw [if_pos k2, if_pos k1, one _ _ (by omega) h2.2 (by rw [uI_ne (fun z => hne z.symm)]; exact b k2), one _ _ h1.1 h1.2 (a k1), if_pos k1, if_pos k2]
      by_cases e : w - 8 = t
      · rw [if_pos e, if_pos e]; omega
      · rw [if_neg e, if_neg e]; omega
    · rw [if_pos k2, if_neg k1, one _ _ (by omega) h2.2 (b k2), if_neg k1, if_pos k2]
      by_cases e : w - 8 = t
      · rw [if_pos e, if_pos e]; omega
      · rw [if_neg e, if_neg e]
  · by_cases k1 : oc (fa sd) = 0
    · rw [if_neg k2, if_pos k1, one _ _ h1.1 h1.2 (a k1), if_pos k1, if_neg k2]
      by_cases e : w - 8 = t
      · rw [if_pos e, if_pos e]; omega
      · rw [if_neg e, if_neg e]
    · rw [if_neg k2, if_neg k1, if_neg k1, if_neg k2]
      by_cases e : w - 8 = t
      · rw [if_pos e]; omega
      · rw [if_neg e]; omega
theorem owB_at {fa sb oc w : Int → Int} {sd f : Int} (hne : fa sd ≠ sb sd) (f0 : 0 ≤ f) : owB fa sb oc w sd f = if (fa sd = f ∨ sb sd = f) ∧ oc f = 0 then -1 else w f := by
  have inn : ∀ g : Int, (if oc (fa sd) = 0 then uI w (fa sd) (-1) else w) g = if fa sd = g ∧ oc g = 0 then -1 else w g := fun g => by
    by_cases k : oc (fa sd) = 0
    · rw [if_pos k]
      by_cases e : g = fa sd
      · rw [e, uI_eq, if_pos ⟨rfl, k⟩]
      · rw [uI_ne e, if_neg (fun z => e z.1.symm)]
    · rw [if_neg k]
      by_cases e : fa sd = g
      · rw [if_neg (fun z => k (by rw [e]; exact z.2))]
      · rw [if_neg (fun z => e z.1)]
  unfold owB
  by_cases k2 : sb sd ≠ -1 ∧ oc (sb sd) = 0
  · rw [if_pos k2]
    by_cases e : f = sb sd
    · rw [e, uI_eq, if_pos ⟨Or.inr rfl, k2.2⟩]
    · rw [uI_ne e, inn]
      by_cases j : fa sd = f ∧ oc f = 0
      · rw [if_pos j, if_pos ⟨Or.inl j.1, j.2⟩]
      · rw [if_neg j, if_neg (fun z => j ⟨z.1.resolve_right (fun y => e y.symm), z.2⟩)]
  · rw [if_neg k2, inn]
    by_cases j : fa sd = f ∧ oc f = 0
    · rw [if_pos j, if_pos ⟨Or.inl j.1, j.2⟩]
    · rw [if_neg j, if_neg (fun z => by
        rcases z.1 with y | y
        · exact j ⟨y, z.2⟩
        · exact k2 ⟨by omega, by rw [y]; exact z.2⟩)]
theorem mI_back {nf ns no nd nk tn : Int} {fa sb un ln dw sx sc oc ow od : Int → Int} (h : mI nf ns no nd nk tn fa sb un ln dw sx sc oc ow od) (hp : 0 < nd) : mI nf ns (no + 1) (nd - 1) nk (dw (nd - 1)) fa sb (uI un (ln (nd - 1)) 1) ln dw sx sc (tbO fa sb oc (ln (nd - 1))) (tbW fa sb oc ow (ln (nd - 1))) (tbD fa sb oc od (ln (nd - 1)) (dw (nd - 1))) := by
  obtain ⟨h1, h2, h3, h4, h5, h6, h7, h8, h9, h10, h11, h12⟩ := h
  obtain ⟨s0, s1, hu⟩ := h3 (nd - 1) (by omega) (by omega)
  have edw := h9 (nd - 1) (by omega) (by omega)
  rw [edw]
  have n0 := h1.2.1
  generalize esd : ln (nd - 1) = sd at s0 s1 hu ⊢
  have a1 := h1.2.2.1 sd s0 s1
  have a2 := h1.2.2.2.1 sd s0 s1
  have ne := h1.2.2.2.2.1 sd s0 s1
  have op1 : opI ln nd = uI (opI ln (nd - 1)) sd 0 := by
    have := opI_s (ds := ln) (k := nd - 1) (by omega)
    rw [show nd - 1 + 1 = nd by omega, esd] at this
    exact this
  have un0 : un sd = 0 := by rw [h4 sd s0 s1, op1, uI_eq]
  have hx' : ∀ s : Int, 0 ≤ s → s < ns → uI un sd 1 s = opI ln (nd - 1) s := fun s x y => by
    by_cases e : s = sd
    · rw [e, uI_eq, hu]
    · rw [uI_ne e, h4 s x y, op1, uI_ne e]
  have ocy : ∀ f : Int, 0 ≤ f → f < nf → oc f = osd (opI ln nd) fa sb f ns := fun f x y => by rw [h6 f x y]; exact osd_congr h4
  have dropx : ∀ f : Int, osd (opI ln nd) fa sb f ns = osd (opI ln (nd - 1)) fa sb f ns - (if fa sd = f ∨ sb sd = f then 1 else 0) := fun f => by
    rw [op1]; exact osd_drop s0 s1 hu
  have posx : ∀ f : Int, (fa sd = f ∨ sb sd = f) → osd (opI ln (nd - 1)) fa sb f ns ≠ 0 := fun f e => by
    have := osd_pos (x := opI ln (nd - 1)) s0 s1 hu e
    omega
  -- the owners before the draw, where it touches
  have wB : ∀ f : Int, (fa sd = f ∨ sb sd = f) → owI fa sb ln ns (nd - 1) f = -1 := fun f e => ow_openI n0.1 (posx f e)
  have stp : owI fa sb ln ns nd = owT fa sb (dgF (opI ln (nd - 1)) fa sb ns) (owI fa sb ln ns (nd - 1)) sd (tnI fa sb ln ns (nd - 1)) := by
    have := owI_s (o1 := fa) (o2 := sb) (ds := ln) (ns := ns) (k := nd - 1) (by omega)
    rw [show nd - 1 + 1 = nd by omega, esd] at this
    rw [this]
    exact owS_T (oc := dgF (opI ln (nd - 1)) fa sb ns) a1 a2 (fun f _ _ => rfl) dropx
  have own : ∀ f : Int, 0 ≤ f → f < nf → (fa sd = f ∨ sb sd = f) → oc f = 0 → ow f = tnI fa sb ln ns (nd - 1) := fun f x y e z => by
    rw [h10 f x y, stp]
    have one : dgF (opI ln (nd - 1)) fa sb ns f = 1 := by
      show osd (opI ln (nd - 1)) fa sb f ns = 1
      have d := dropx f
      rw [if_pos e, ← ocy f x y] at d
      omega
    unfold owT
    by_cases k2 : sb sd ≠ -1 ∧ dgF (opI ln (nd - 1)) fa sb ns (sb sd) = 1
    · rw [if_pos k2]
      by_cases j : f = sb sd
      · rw [j, uI_eq]
      · rw [uI_ne j]
        have j2 : fa sd = f := e.resolve_right (fun y => j y.symm)
        rw [j2, if_pos one, uI_eq]
    · rw [if_neg k2]
      by_cases j : fa sd = f
      · rw [j, if_pos one, uI_eq]
      · have j2 : sb sd = f := e.resolve_left j
        exact absurd ⟨by omega, by rw [j2]; exact one⟩ k2
  refine ⟨h1, by omega, h3, hx', ?_, fun f x y => ?_, fun f x y => ?_, rfl, fun i x y => h9 i x (by omega), fun f x y => ?_, ?_, ?_⟩
  · have u : nop (uI un sd 1) ns = nop un ns + 1 := by
      unfold nop
      rw [su_up (f := fun t => if uI un sd 1 t = 1 then 1 else 0) (g := fun t => if un t = 1 then 1 else 0) (k := sd) (fun j hj => by rw [uI_ne hj]) s0 s1]
      rw [uI_eq, if_pos rfl, un0, if_neg (by omega)]
      omega
    rw [u, h5]
  · rw [tbO_at ne x, osd_add s0 s1 un0, h6 f x y]
  · rw [tbO_at ne x]
    have u := h7 f x y
    have v := ite_bd (fa sd = f ∨ sb sd = f)
    refine ⟨by omega, ?_⟩
    by_cases e : fa sd = f ∨ sb sd = f
    · have fn : f < nf := by omega
      have q := osd_sc (x := uI un sd 1) h1 x fn
      rw [osd_add s0 s1 un0, ← h6 f x fn] at q
      exact q
    · rw [if_neg e]; omega
  · rw [tbW_B ne, owB_at ne x]
    by_cases e : fa sd = f ∨ sb sd = f
    · rw [wB f e]
      by_cases z : oc f = 0
      · rw [if_pos ⟨e, z⟩]
      · rw [if_neg (fun w => z w.2), h10 f x y]
        exact ow_openI n0.1 (by rw [← ocy f x y]; exact z)
    · rw [if_neg (fun w => e w.1), h10 f x y, stp]
      unfold owT
      have e1 : f ≠ fa sd := fun z => e (Or.inl z.symm)
      have e2 : f ≠ sb sd := fun z => e (Or.inr z.symm)
      split
      · rw [uI_ne e2]; split
        · rw [uI_ne e1]
        · rfl
      · split
        · rw [uI_ne e1]
        · rfl
  · rw [tbW_B ne, cow_B (t := tnI fa sb ln ns (nd - 1)) (Or.inl rfl) a1 a2 ne (own _ a1.1 a1.2 (Or.inl rfl)) (fun z => own _ (by omega) a2.2 (Or.inr rfl) z.2), tbD_at ne, h11]
    rfl
  · rw [tbW_B ne, cow_B (t := tnI fa sb ln ns (nd - 1)) (Or.inr rfl) a1 a2 ne (own _ a1.1 a1.2 (Or.inl rfl)) (fun z => own _ (by omega) a2.2 (Or.inr rfl) z.2), tbD_at ne, h12]
    rfl
theorem mI_grid {nf cl k ns no : Int} {fa0 sb0 sc0 oc0 fa sb un ln dw sx sc oc ow0 od : Int → Int} (h : gdI nf cl fa0 sb0 sc0 oc0 k ns no fa sb un sx sc oc) (hn : 0 ≤ nf ∧ nf ≤ 200) (k0 : 0 ≤ k) (ho : rg oc0 200 0 4) : mI nf ns no 0 0 0 fa sb un ln dw sx sc oc (lay (fun _ => -1) ow0 nf) (uI (uI od 0 0) 1 0) := by
  obtain ⟨h1, h2, h3, h4, h5, h6, h7, h8, h9⟩ := h
  rw [h1]
  have z : ∀ w : Int, w = 8 ∨ w = 9 → cow (lay (fun _ => -1) ow0 nf) w nf = 0 := fun w hw => by
    have : cow (lay (fun _ => -1) ow0 nf) w nf = su (fun _ => 0) nf := su_congr (fun f a b => by
      show (if w = 3 then (if lay (fun _ => -1) ow0 nf f ≠ -1 then (1 : Int) else 0) else (if lay (fun _ => -1) ow0 nf f = w - 8 then 1 else 0)) = 0
      rw [show lay (fun _ => -1) ow0 nf f = -1 from if_pos ⟨a, b⟩, if_neg (by omega), if_neg (by omega)])
    rw [this, su_const 0 hn.1]; omega
  refine ⟨h7, by omega, fun q a b => by omega, fun s a b => h5 s a b, ?_, h8, fun f a b => ?_, rfl, fun i a b => by omega, fun f a b => if_pos ⟨a, b⟩, by rw [uI_ne (by omega), uI_eq, z 8 (Or.inl rfl)], by rw [uI_eq, z 9 (Or.inr rfl)]⟩
  · have : nop un k = su (fun _ => 1) k := su_congr (fun s a b => by
      show (if un s = 1 then (1 : Int) else 0) = 1
      rw [if_pos (h5 s a b)])
    rw [this, su_const 1 k0, h2]; omega
  · by_cases e : f < nf
    · rw [h8 f a e]
      exact ⟨(osd_bd un fa sb f k0).1, osd_sc h7 a e⟩
    · rw [h9 f (by omega)]; exact ho f a b
