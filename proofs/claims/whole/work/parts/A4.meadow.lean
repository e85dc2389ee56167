/-! THE MEADOW AND ITS DRAWS, between calls -/
theorem opN_pre {ds : Int → Int} {n v : Int} : ∀ k : Nat, (k : Int) ≤ n → opN (uI ds n v) k = opN ds k
  | 0, _ => rfl
  | k + 1, h => by
    show uI (opN (uI ds n v) k) (uI ds n v (k : Int)) 0 = uI (opN ds k) (ds (k : Int)) 0
    rw [opN_pre k (by omega), uI_ne (by omega)]
theorem opI_pre {ds : Int → Int} {n v k : Int} (h : k ≤ n) (h0 : 0 ≤ n) : opI (uI ds n v) k = opI ds k := opN_pre k.toNat (by omega)
theorem tnN_pre {o1 o2 ds : Int → Int} {ns n v : Int} : ∀ k : Nat, (k : Int) ≤ n → tnN o1 o2 (uI ds n v) ns k = tnN o1 o2 ds ns k
  | 0, _ => rfl
  | k + 1, h => by
    show (if clF (opN (uI ds n v) k) o1 o2 ns (uI ds n v (k : Int)) = 0 then 1 - tnN o1 o2 (uI ds n v) ns k else tnN o1 o2 (uI ds n v) ns k) = _
    rw [opN_pre k (by omega), uI_ne (by omega), tnN_pre k (by omega)]
    rfl
theorem tnI_pre {o1 o2 ds : Int → Int} {ns n v k : Int} (h : k ≤ n) (h0 : 0 ≤ n) : tnI o1 o2 (uI ds n v) ns k = tnI o1 o2 ds ns k := tnN_pre k.toNat (by omega)
theorem owN_pre {o1 o2 ds : Int → Int} {ns n v : Int} : ∀ k : Nat, (k : Int) ≤ n → owN o1 o2 (uI ds n v) ns k = owN o1 o2 ds ns k
  | 0, _ => rfl
  | k + 1, h => by
    show owS (opN (uI ds n v) k) (opN (uI ds n v) (k + 1)) o1 o2 (owN o1 o2 (uI ds n v) ns k) ns (uI ds n v (k : Int)) (tnN o1 o2 (uI ds n v) ns k) = _
    rw [opN_pre k (by omega), opN_pre (k + 1) h, owN_pre k (by omega), tnN_pre k (by omega), uI_ne (by omega)]
    rfl
theorem owI_pre {o1 o2 ds : Int → Int} {ns n v k : Int} (h : k ≤ n) (h0 : 0 ≤ n) : owI o1 o2 (uI ds n v) ns k = owI o1 o2 ds ns k := owN_pre k.toNat (by omega)
theorem uI_self (f : Int → Int) (i : Int) : uI f i (f i) = f := funext fun j => by
  unfold uI
  split
  · rename_i e; rw [e]
  · rfl
theorem cow_up {ow : Int → Int} {w n f v : Int} (f0 : 0 ≤ f) (f1 : f < n) : cow (uI ow f v) w n = cow ow w n + ((if w = 3 then (if v ≠ -1 then 1 else 0) else (if v = w - 8 then 1 else 0)) - (if w = 3 then (if ow f ≠ -1 then 1 else 0) else (if ow f = w - 8 then 1 else 0))) := by
  unfold cow
  rw [su_up (f := fun g => if w = 3 then (if uI ow f v g ≠ -1 then 1 else 0) else (if uI ow f v g = w - 8 then 1 else 0)) (g := fun g => if w = 3 then (if ow g ≠ -1 then 1 else 0) else (if ow g = w - 8 then 1 else 0)) (k := f) (fun j hj => by rw [uI_ne hj]) f0 f1]
  rw [uI_eq]
theorem cow_congr {ow ow' : Int → Int} {w n : Int} (h : ∀ f : Int, 0 ≤ f → f < n → ow f = ow' f) : cow ow w n = cow ow' w n := su_congr (fun f a b => by
  show (if w = 3 then (if ow f ≠ -1 then (1 : Int) else 0) else (if ow f = w - 8 then 1 else 0)) = _
  rw [h f a b])
theorem clB_F {fa sb oc un : Int → Int} {nf ns sd : Int} (h1 : 0 ≤ fa sd ∧ fa sd < nf) (h2 : -1 ≤ sb sd ∧ sb sd < nf) (ho : ∀ f : Int, 0 ≤ f → f < nf → oc f = osd un fa sb f ns) : clB fa sb oc sd = clF un fa sb ns sd := by
  unfold clB clF
  rw [ho _ h1.1 h1.2]
  by_cases e : sb sd = -1
  · rw [if_neg (show ¬ (sb sd ≠ -1 ∧ oc (sb sd) = 1) from fun z => z.1 e), if_neg (show ¬ (sb sd ≠ -1 ∧ osd un fa sb (sb sd) ns = 1) from fun z => z.1 e)]
  · rw [ho _ (by omega) h2.2]
/-- a field with an open side has no owner -/
theorem ow_open {o1 o2 ds : Int → Int} {ns : Int} (hns : 0 ≤ ns) (f : Int) : ∀ k : Nat, osd (opN ds k) o1 o2 f ns ≠ 0 → owN o1 o2 ds ns k f = -1
  | 0, _ => rfl
  | k + 1, h => by
    have mono : osd (opN ds (k + 1)) o1 o2 f ns ≤ osd (opN ds k) o1 o2 f ns := osd_mono (fun s a b e => by
      have e : uI (opN ds k) (ds (k : Int)) 0 s = 1 := e
      unfold uI at e
      split at e
      · omega
      · exact e)
    have b0 := (osd_bd (opN ds (k + 1)) o1 o2 f hns).1
    have ih := ow_open (o1 := o1) (o2 := o2) (ds := ds) hns f k (by omega)
    show owS (opN ds k) (opN ds (k + 1)) o1 o2 (owN o1 o2 ds ns k) ns (ds (k : Int)) (tnN o1 o2 ds ns k) f = -1
    unfold owS
    have u1 : ∀ (w : Int → Int) (i v : Int), (i = f → osd (opN ds (k + 1)) o1 o2 i ns ≠ 0) → w f = -1 → osd (opN ds (k + 1)) o1 o2 i ns = 0 → uI w i v f = -1 := fun w i v hi hw hz => by
      by_cases e : f = i
      · exact absurd hz (hi e.symm)
      · rw [uI_ne e]; exact hw
    split
    · rename_i c1
      split
      · rename_i c2
        exact u1 _ _ _ (fun e => by rw [e]; exact h) (u1 _ _ _ (fun e => by rw [e]; exact h) ih c2.2) c1.2.2
      · exact u1 _ _ _ (fun e => by rw [e]; exact h) ih c1.2.2
    · split
      · rename_i c2
        exact u1 _ _ _ (fun e => by rw [e]; exact h) ih c2.2
      · exact ih
theorem ow_openI {o1 o2 ds : Int → Int} {ns k f : Int} (hns : 0 ≤ ns) (h : osd (opI ds k) o1 o2 f ns ≠ 0) : owI o1 o2 ds ns k f = -1 := ow_open hns f k.toNat h
/-- the class's meadow -/
def mI (nf ns no nd nk tn : Int) (fa sb un ln dw sx sc oc ow od : Int → Int) : Prop := mdS nf ns fa sb sx sc ∧ (0 ≤ nd ∧ nd ≤ nk) ∧ dvd ln ns nk ∧ (∀ s : Int, 0 ≤ s → s < ns → un s = opI ln nd s) ∧ no = nop un ns ∧ (∀ f : Int, 0 ≤ f → f < nf → oc f = osd un fa sb f ns) ∧ rg oc 200 0 4 ∧ tn = tnI fa sb ln ns nd ∧ (∀ i : Int, 0 ≤ i → i < nd → dw i = tnI fa sb ln ns i) ∧ (∀ f : Int, 0 ≤ f → f < nf → ow f = owI fa sb ln ns nd f) ∧ od 0 = cow ow 8 nf ∧ od 1 = cow ow 9 nf
theorem mI_0 {tn : Int} {fa sb un ln dw sx sc oc ow od : Int → Int} (ho : rg oc 200 0 4) : mI 0 0 0 0 0 0 fa sb un ln dw sx sc oc ow (uI (uI od 0 0) 1 0) :=
  ⟨mdS_0, by omega, fun k a b => by omega, fun s a b => by omega, rfl, fun f a b => by omega, ho, rfl, fun i a b => by omega, fun f a b => by omega, by rw [uI_ne (by omega), uI_eq]; rfl, by rw [uI_eq]; rfl⟩
theorem mI_field {nf ns no nd nk tn : Int} {fa sb un ln dw sx sc oc ow od : Int → Int} (h : mI nf ns no nd nk tn fa sb un ln dw sx sc oc ow od) (hk : nk = 0) (hn : nf < 200) : mI (nf + 1) ns no nd nk tn fa sb un ln dw sx (uI sc nf 0) (uI oc nf 0) (uI ow nf (-1)) od := by
  obtain ⟨h1, h2, h3, h4, h5, h6, h7, h8, h9, h10, h11, h12⟩ := h
  have hf := h1.1
  have d0 : nd = 0 := by omega
  have no' : ∀ s : Int, 0 ≤ s → s < ns → ¬ (fa s = nf ∨ sb s = nf) := fun s a b => by
    have := h1.2.2.1 s a b
    have := h1.2.2.2.1 s a b
    omega
  have c : ∀ w : Int, w = 8 ∨ w = 9 → cow (uI ow nf (-1)) w (nf + 1) = cow ow w nf := fun w hw => by
    rw [cow_s hf.1, cow_congr (ow' := ow) (fun f a b => uI_ne (by omega)), uI_eq, if_neg (by omega), if_neg (by omega)]; omega
  refine ⟨mdS_field h1 hn, h2, h3, h4, h5, fun f a b => ?_, fun f a b => ?_, h8, h9, fun f a b => ?_, by rw [c 8 (Or.inl rfl)]; exact h11, by rw [c 9 (Or.inr rfl)]; exact h12⟩
  · by_cases e : f = nf
    · rw [e, uI_eq]
      have : osd un fa sb nf ns = su (fun _ => 0) ns := su_congr (fun s a b => by
        unfold inc
        rw [if_neg (fun z => no' s a b z.2)])
      rw [this, su_const 0 h1.2.1.1]; omega
    · rw [uI_ne e]; exact h6 f a (by omega)
  · unfold uI; split
    · omega
    · exact h7 f a b
  · by_cases e : f = nf
    · rw [e, uI_eq, d0]; rfl
    · rw [uI_ne e]; exact h10 f a (by omega)
theorem mI_side {nf ns no nd nk tn a b : Int} {fa sb un ln dw sx sc oc ow od : Int → Int} (h : mI nf ns no nd nk tn fa sb un ln dw sx sc oc ow od) (hs : sdOK nk ns nf sc a b) : mI nf (ns + 1) (no + 1) nd nk tn (uI fa ns a) (uI sb ns b) (uI un ns 1) ln dw (asX sx sc ns a b) (asC sc a b) (asC oc a b) ow od := by
  obtain ⟨h1, h2, h3, h4, h5, h6, h7, h8, h9, h10, h11, h12⟩ := h
  have k0 : nk = 0 := hs.1
  have d0 : nd = 0 := by omega
  have hs0 : sdOK 0 ns nf sc a b := ⟨rfl, hs.2⟩
  obtain ⟨-, s1, s2, s3, s4⟩ := hs
  have n0 := h1.2.1
  have e0 : ∀ g : Int, 0 ≤ g → asC oc a b g = oc g + (if a = g ∨ b = g then 1 else 0) := fun g g0 => asC_at (nf := nf) (by omega) s2 g0
  have so := mdS_side h1 hs0
  -- as many open sides as sides
  have un1 : ∀ s : Int, 0 ≤ s → s < ns → un s = 1 := fun s x y => by rw [h4 s x y, d0]; rfl
  have o4 : ∀ g : Int, 0 ≤ g → g < nf → oc g ≤ 4 := fun g x y => (h7 g x (by have := h1.1; omega)).2
  refine ⟨so, h2, by rw [k0]; exact fun k x y => by omega, fun s x y => ?_, ?_, fun f x y => ?_, fun f x y => ?_, ?_, fun i x y => by omega, fun f x y => ?_, h11, h12⟩
  · rw [d0]
    by_cases e : s = ns
    · rw [e, uI_eq]; rfl
    · rw [uI_ne e]; exact un1 s x (by omega)
  · rw [nop_s n0.1, uI_eq, if_pos rfl, nop_congr (y := un) (fun s x y => uI_ne (by omega)), h5]
  · rw [e0 f x, osd_new n0.1, h6 f x y]
  · rw [e0 f x]
    have u := h7 f x y
    have v := ite_bd (a = f ∨ b = f)
    refine ⟨by omega, ?_⟩
    by_cases e : a = f ∨ b = f
    · have fn : f < nf := by omega
      -- the number of open sides of a field is that of its sides
      have q : oc f ≤ sc f := by
        rw [h6 f x fn]
        have en : su (fun _ => 1) (sc f) = su (fun s => if fa s = f ∨ sb s = f then 1 else 0) ns := h1.2.2.2.2.2.2.2.2 f x fn (fun _ => 1)
        have c0 := (h1.2.2.2.2.2.1 f x fn).1
        rw [su_const 1 c0] at en
        have e2 : osd un fa sb f ns ≤ su (fun s => if fa s = f ∨ sb s = f then 1 else 0) ns := su_le (fun s _ _ => by
          show inc un fa sb f s ≤ (if fa s = f ∨ sb s = f then (1 : Int) else 0)
          unfold inc
          by_cases k : fa s = f ∨ sb s = f
          · rw [if_pos k]; exact (ite_bd _).2
          · rw [if_neg k, if_neg (fun z => k z.2)]; omega)
        omega
      have sf : sc f < 4 := by
        rcases e with e | e
        · rw [← e]; exact s3.2.2
        · rcases s4 with k | k
          · omega
          · rw [← e]; exact k.2.2
      rw [if_pos e]; omega
    · rw [if_neg e]; omega
  · rw [h8, d0]; rfl
  · rw [h10 f x y, d0]; rfl
