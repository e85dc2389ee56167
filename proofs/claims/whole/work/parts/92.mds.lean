/-! THE MEADOW'S SHAPE: fields, sides, and each field's row of sides -/
def mdS (nf ns : Int) (fa sb sx sc : Int → Int) : Prop := (0 ≤ nf ∧ nf ≤ 200) ∧ (0 ≤ ns ∧ ns ≤ 500) ∧ (∀ j : Int, 0 ≤ j → j < ns → 0 ≤ fa j ∧ fa j < nf) ∧ (∀ j : Int, 0 ≤ j → j < ns → -1 ≤ sb j ∧ sb j < nf) ∧ (∀ j : Int, 0 ≤ j → j < ns → fa j ≠ sb j) ∧
  (∀ g : Int, 0 ≤ g → g < nf → 0 ≤ sc g ∧ sc g ≤ 4) ∧ (∀ g j : Int, 0 ≤ g → g < nf → 0 ≤ j → j < sc g → 0 ≤ sx (g * 4 + j) ∧ sx (g * 4 + j) < ns ∧ (fa (sx (g * 4 + j)) = g ∨ sb (sx (g * 4 + j)) = g)) ∧ (∀ g s : Int, 0 ≤ g → g < nf → 0 ≤ s → s < ns → (fa s = g ∨ sb s = g) → ∃ j : Int, 0 ≤ j ∧ j < sc g ∧ sx (g * 4 + j) = s) ∧ enu fa sb sx sc nf ns
theorem mdS_0 {fa sb sx sc : Int → Int} : mdS 0 0 fa sb sx sc := ⟨by omega, by omega, fun j a b => by omega, fun j a b => by omega, fun j a b => by omega, fun g a b => by omega, fun g j a b => by omega, fun g s a b => by omega, fun g a b => by omega⟩
theorem mdS_field {nf ns : Int} {fa sb sx sc : Int → Int} (h : mdS nf ns fa sb sx sc) (hn : nf < 200) : mdS (nf + 1) ns fa sb sx (uI sc nf 0) := by
  obtain ⟨h1, h2, h3, h4, h5, h6, h7, h8, h9⟩ := h
  have no : ∀ s : Int, 0 ≤ s → s < ns → ¬ (fa s = nf ∨ sb s = nf) := fun s a b => by
    have := h3 s a b
    have := h4 s a b
    omega
  refine ⟨by omega, h2, fun j a b => by have := h3 j a b; omega, fun j a b => by have := h4 j a b; omega, h5, fun g a b => ?_, fun g j a b c d => ?_, fun g s a b c d e => ?_, fun g a b f => ?_⟩
  · by_cases e : g = nf
    · rw [e, uI_eq]; omega
    · rw [uI_ne e]; exact h6 g a (by omega)
  · by_cases e : g = nf
    · rw [e, uI_eq] at d; omega
    · rw [uI_ne e] at d; exact h7 g j a (by omega) c d
  · by_cases k : g = nf
    · rw [k] at e; exact absurd e (no s c d)
    · rw [uI_ne k]; exact h8 g s a (by omega) c d e
  · by_cases e : g = nf
    · rw [e, uI_eq, su_0, su_congr (g := fun _ => 0) (n := ns) (fun s s0 s1 => if_neg (no s s0 s1)), su_const 0 h2.1]
      omega
    · rw [uI_ne e]; exact h9 g a (by omega) f
/-- one entry more in the row of a field -/
theorem su_row {f : Int → Int} {sx : Int → Int} {g k n v : Int} (hk : n ≤ k) : su (fun j => f (uI sx (g * 4 + k) v (g * 4 + j))) n = su (fun j => f (sx (g * 4 + j))) n := su_congr (fun j a b => by
  show f (uI sx (g * 4 + k) v (g * 4 + j)) = f (sx (g * 4 + j))
  rw [uI_ne (by omega)])
theorem mdS_side {nf ns a b : Int} {fa sb sx sc : Int → Int} (h : mdS nf ns fa sb sx sc) (hs : sdOK 0 ns nf sc a b) : mdS nf (ns + 1) (uI fa ns a) (uI sb ns b) (asX sx sc ns a b) (asC sc a b) := by
  obtain ⟨h1, h2, h3, h4, h5, h6, h7, h8, h9⟩ := h
  obtain ⟨-, s1, s2, s3, s4⟩ := hs
  have hb : -1 ≤ b ∧ b < nf := by omega
  -- the rows of all fields behind it
  have rowA : ∀ g : Int, 0 ≤ g → g < nf → asC sc a b g = sc g + (if a = g ∨ b = g then 1 else 0) := fun g g0 g1 => by
    unfold asC
    by_cases eb : b = -1
    · rw [if_pos eb]
      by_cases e : g = a
      · rw [e, uI_eq, if_pos (Or.inl rfl)]
      · rw [uI_ne e, if_neg (show ¬ (a = g ∨ b = g) by omega)]; omega
    · rw [if_neg eb]
      by_cases e : g = b
      · rw [e, uI_eq, uI_ne (show b ≠ a by omega), if_pos (Or.inr rfl)]
      · rw [uI_ne e]
        by_cases k : g = a
        · rw [k, uI_eq, if_pos (Or.inl rfl)]
        · rw [uI_ne k, if_neg (show ¬ (a = g ∨ b = g) by omega)]; omega
  have a6 := h6 a s3.1 s3.2.1
  have xin : ∀ g j : Int, 0 ≤ g → g < nf → 0 ≤ j → j < sc g → asX sx sc ns a b (g * 4 + j) = sx (g * 4 + j) := fun g j g0 g1 j0 j1 => by
    have g6 := h6 g g0 g1
    unfold asX
    by_cases eb : b = -1
    · rw [if_pos eb]
      by_cases e : g = a
      · rw [uI_ne (by rw [e] at j1 ⊢; omega)]
      · rw [uI_ne (by omega)]
    · have b6 := h6 b (by omega) hb.2
      rw [if_neg eb, uI_ne (show b ≠ a by omega)]
      by_cases e : g = b
      · rw [uI_ne (by rw [e] at j1 ⊢; omega)]
        rw [uI_ne (by omega)]
      · rw [uI_ne (by omega)]
        by_cases k : g = a
        · rw [uI_ne (by rw [k] at j1 ⊢; omega)]
        · rw [uI_ne (by omega)]
  have xnew : ∀ g : Int, 0 ≤ g → g < nf → (a = g ∨ b = g) → asX sx sc ns a b (g * 4 + sc g) = ns := fun g g0 g1 e => by
    unfold asX
    by_cases eb : b = -1
    · rw [if_pos eb, show g = a by omega, uI_eq]
    · have b6 := h6 b (by omega) hb.2
      rw [if_neg eb, uI_ne (show b ≠ a by omega)]
      by_cases k : g = b
      · rw [k, uI_eq]
      · have k2 : g = a := by omega
        rw [k2, uI_ne (by omega), uI_eq]
  have fs : ∀ s : Int, s < ns → uI fa ns a s = fa s ∧ uI sb ns b s = sb s := fun s e => ⟨uI_ne (by omega), uI_ne (by omega)⟩
  refine ⟨h1, by omega, fun j j0 j1 => ?_, fun j j0 j1 => ?_, fun j j0 j1 => ?_, fun g g0 g1 => ?_, fun g j g0 g1 j0 j1 => ?_, fun g s g0 g1 t0 t1 e => ?_, fun g g0 g1 f => ?_⟩
  · by_cases e : j = ns
    · rw [e, uI_eq]; omega
    · rw [uI_ne e]; exact h3 j j0 (by omega)
  · by_cases e : j = ns
    · rw [e, uI_eq]; omega
    · rw [uI_ne e]; exact h4 j j0 (by omega)
  · by_cases e : j = ns
    · rw [e, uI_eq, uI_eq]; exact s2
    · rw [uI_ne e, uI_ne e]; exact h5 j j0 (by omega)
  · rw [rowA g g0 g1]
    have := h6 g g0 g1
    have u := ite_bd (a = g ∨ b = g)
    refine ⟨by omega, ?_⟩
    by_cases e : a = g ∨ b = g
    · rw [if_pos e]
      have q : sc g < 4 := by
        rcases e with e | e
        · rw [← e]; exact s3.2.2
        · rcases s4 with k | k
          · omega
          · rw [← e]; exact k.2.2
      omega
    · rw [if_neg e]; omega
  · rw [rowA g g0 g1] at j1
    by_cases e : j < sc g
    · rw [xin g j g0 g1 j0 e]
      obtain ⟨k1, k2, k3⟩ := h7 g j g0 g1 j0 e
      rw [(fs _ k2).1, (fs _ k2).2]
      exact ⟨k1, by omega, k3⟩
    · by_cases k : a = g ∨ b = g
      · rw [if_pos k] at j1
        rw [show j = sc g by omega, xnew g g0 g1 k, uI_eq, uI_eq]
        exact ⟨by omega, by omega, k⟩
      · rw [if_neg k] at j1; omega
  · rw [rowA g g0 g1]
    have u := ite_bd (a = g ∨ b = g)
    by_cases k : s = ns
    · rw [k, uI_eq, uI_eq] at e
      refine ⟨sc g, (h6 g g0 g1).1, by rw [if_pos e]; omega, ?_⟩
      rw [xnew g g0 g1 e, k]
    · rw [(fs s (by omega)).1, (fs s (by omega)).2] at e
      obtain ⟨j, j0, j1, j2⟩ := h8 g s g0 g1 t0 (by omega) e
      exact ⟨j, j0, by omega, by rw [xin g j g0 g1 j0 j1]; exact j2⟩
  · have e0 := h9 g g0 g1 f
    have c6 := h6 g g0 g1
    rw [rowA g g0 g1, su_s h2.1, uI_eq, uI_eq]
    rw [su_congr (f := fun s => if uI fa ns a s = g ∨ uI sb ns b s = g then f s else 0) (g := fun s => if fa s = g ∨ sb s = g then f s else 0) (n := ns) (fun s t0 t1 => by
      show (if uI fa ns a s = g ∨ uI sb ns b s = g then f s else 0) = _
      rw [(fs s t1).1, (fs s t1).2]), ← e0]
    have ei : su (fun j => f (asX sx sc ns a b (g * 4 + j))) (sc g) = su (fun j => f (sx (g * 4 + j))) (sc g) := su_congr (fun j j0 j1 => by
      show f (asX sx sc ns a b (g * 4 + j)) = _
      rw [xin g j g0 g1 j0 j1])
    by_cases k : a = g ∨ b = g
    · rw [if_pos k, if_pos k, su_s c6.1, ei, xnew g g0 g1 k]
    · rw [if_neg k, if_neg k, show sc g + 0 = sc g by omega, ei]; omega
/-- the numbers of open sides, when a side comes -/
theorem osd_new {un fa sb : Int → Int} {ns a b f : Int} (h : 0 ≤ ns) : osd (uI un ns 1) (uI fa ns a) (uI sb ns b) f (ns + 1) = osd un fa sb f ns + (if a = f ∨ b = f then 1 else 0) := by
  rw [osd_s h]
  have e : osd (uI un ns 1) (uI fa ns a) (uI sb ns b) f ns = osd un fa sb f ns := su_congr (fun s a0 a1 => by
    unfold inc
    rw [uI_ne (show s ≠ ns by omega), uI_ne (show s ≠ ns by omega), uI_ne (show s ≠ ns by omega)])
  rw [e]
  unfold inc
  rw [uI_eq, uI_eq, uI_eq]
  by_cases k : a = f ∨ b = f
  · rw [if_pos k, if_pos ⟨rfl, k⟩]
  · rw [if_neg k, if_neg (fun z => k z.2)]
theorem asC_at {sc : Int → Int} {a b g nf : Int} (hb : b = -1 ∨ 0 ≤ b) (hab : a ≠ b) (g0 : 0 ≤ g) : asC sc a b g = sc g + (if a = g ∨ b = g then 1 else 0) := by
  unfold asC
  by_cases eb : b = -1
  · rw [if_pos eb]
    by_cases e : g = a
    · rw [e, uI_eq, if_pos (Or.inl rfl)]
    · rw [uI_ne e, if_neg (show ¬ (a = g ∨ b = g) by omega)]; omega
  · rw [if_neg eb]
    by_cases e : g = b
    · rw [e, uI_eq, uI_ne (show b ≠ a by omega), if_pos (Or.inr rfl)]
    · rw [uI_ne e]
      by_cases k : g = a
      · rw [k, uI_eq, if_pos (Or.inl rfl)]
      · rw [uI_ne k, if_neg (show ¬ (a = g ∨ b = g) by omega)]; omega
