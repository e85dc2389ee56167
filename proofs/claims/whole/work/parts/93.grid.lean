/-! GRIDS: the k-th side by its number alone; nf fields in rows of cl -/
def gA (nf cl k : Int) : Int := if k < nf + cl then (if k < cl then k else k - cl) else (if (k - nf - cl) % (cl + 1) = 0 then (k - nf - cl) - (k - nf - cl) / (cl + 1) else (k - nf - cl) - (k - nf - cl) / (cl + 1) - 1)
def gN (nf cl k : Int) : Int := if k < nf + cl then (if k < cl ∨ nf ≤ k then -1 else k) else (if (k - nf - cl) % (cl + 1) = 0 ∨ (k - nf - cl) % (cl + 1) = cl then -1 else (k - nf - cl) - (k - nf - cl) / (cl + 1))
def lay (g f : Int → Int) (k : Int) : Int → Int := fun s => if 0 ≤ s ∧ s < k then g s else f s
theorem lay_0 (g f : Int → Int) : lay g f 0 = f := funext fun s => if_neg (by omega)
theorem lay_s {g f : Int → Int} {k : Int} (h : 0 ≤ k) : uI (lay g f k) k (g k) = lay g f (k + 1) := funext fun s => by
  unfold uI lay
  by_cases e : s = k
  · rw [if_pos e, if_pos (show 0 ≤ s ∧ s < k + 1 by omega), e]
  · rw [if_neg e]
    by_cases c : 0 ≤ s ∧ s < k
    · rw [if_pos c, if_pos (show 0 ≤ s ∧ s < k + 1 by omega)]
    · rw [if_neg c, if_neg (show ¬ (0 ≤ s ∧ s < k + 1) by omega)]
/-- how many of the first k sides a field has -/
def cnG (nf cl k f : Int) : Int := (if f < k then 1 else 0) + (if f + cl < k then 1 else 0) + (if nf + cl + f + f / cl < k then 1 else 0) + (if nf + cl + f + f / cl + 1 < k then 1 else 0)
def scG (nf cl : Int) (sc : Int → Int) (k : Int) : Int → Int := fun f => if 0 ≤ f ∧ f < nf then cnG nf cl k f else sc f
theorem scG_0 {nf cl : Int} {sc : Int → Int} (hc : 1 ≤ cl) (hn : 0 ≤ nf) : scG nf cl sc 0 = lay (fun _ => 0) sc nf := funext fun f => by
  unfold scG lay
  by_cases c : 0 ≤ f ∧ f < nf
  · rw [if_pos c, if_pos c]
    have q := Int.ediv_nonneg c.1 (show 0 ≤ cl by omega)
    unfold cnG
    rw [if_neg (by omega), if_neg (by omega), if_neg (by omega), if_neg (by omega)]
    rfl
  · rw [if_neg c, if_neg c]
theorem asC_out {sc : Int → Int} {a b f : Int} (ha : f ≠ a) (hb : b = -1 ∨ f ≠ b) : asC sc a b f = sc f := by
  unfold asC
  by_cases e : b = -1
  · rw [if_pos e, uI_ne ha]
  · rw [if_neg e, uI_ne (hb.resolve_left e), uI_ne ha]
/-- what the k-th side needs and does -/
def gOK (nf cl k : Int) : Prop := (0 ≤ gA nf cl k ∧ gA nf cl k < nf) ∧ gA nf cl k ≠ gN nf cl k ∧ (gN nf cl k = -1 ∨ (0 ≤ gN nf cl k ∧ gN nf cl k < nf)) ∧ cnG nf cl k (gA nf cl k) < 4 ∧ (gN nf cl k ≠ -1 → cnG nf cl k (gN nf cl k) < 4) ∧ ∀ f : Int, 0 ≤ f → f < nf → cnG nf cl (k + 1) f = cnG nf cl k f + (if gA nf cl k = f ∨ gN nf cl k = f then 1 else 0)
theorem scG_s {nf cl k : Int} {sc : Int → Int} (h : gOK nf cl k) : asC (scG nf cl sc k) (gA nf cl k) (gN nf cl k) = scG nf cl sc (k + 1) := funext fun f => by
  obtain ⟨h1, h2, h3, h4, h5, h6⟩ := h
  by_cases c : 0 ≤ f ∧ f < nf
  · rw [asC_at (nf := nf) (by omega) h2 c.1]
    unfold scG
    rw [if_pos c, if_pos c, h6 f c.1 c.2]
  · rw [asC_out (by omega) (by omega)]
    unfold scG
    rw [if_neg c, if_neg c]
theorem cnG_bd (nf cl k f : Int) : 0 ≤ cnG nf cl k f ∧ cnG nf cl k f ≤ 4 := by
  unfold cnG
  have a := ite_bd (f < k)
  have b := ite_bd (f + cl < k)
  have c := ite_bd (nf + cl + f + f / cl < k)
  have d := ite_bd (nf + cl + f + f / cl + 1 < k)
  omega
theorem gOK_h {nf cl k : Int} (hc : 1 ≤ cl) (hn : cl ≤ nf) (k0 : 0 ≤ k) (k1 : k < nf + cl) : gOK nf cl k := by
  have ea : gA nf cl k = if k < cl then k else k - cl := if_pos k1
  have en : gN nf cl k = if k < cl ∨ nf ≤ k then -1 else k := if_pos k1
  have cn : ∀ f m : Int, 0 ≤ f → m ≤ nf + cl → cnG nf cl m f = (if f < m then 1 else 0) + (if f + cl < m then 1 else 0) := fun f m f0 hm => by
    have q := Int.ediv_nonneg f0 (show 0 ≤ cl by omega)
    unfold cnG
    rw [if_neg (show ¬ nf + cl + f + f / cl < m by omega), if_neg (show ¬ nf + cl + f + f / cl + 1 < m by omega)]
    omega
  have step : ∀ f : Int, 0 ≤ f → f < nf → cnG nf cl (k + 1) f = cnG nf cl k f + (if f = k then 1 else 0) + (if f + cl = k then 1 else 0) := fun f f0 f1 => by
    rw [cn f (k + 1) f0 (by omega), cn f k f0 (by omega)]
    by_cases a : f < k
    · rw [if_pos a, if_pos (show f < k + 1 by omega), if_neg (show ¬ f = k by omega)]
      by_cases b : f + cl < k
      · rw [if_pos b, if_pos (show f + cl < k + 1 by omega), if_neg (show ¬ f + cl = k by omega)]; omega
      · rw [if_neg b]
        by_cases c : f + cl = k
        · rw [if_pos c, if_pos (show f + cl < k + 1 by omega)]; omega
        · rw [if_neg c, if_neg (show ¬ f + cl < k + 1 by omega)]; omega
    · rw [if_neg a, if_neg (show ¬ f + cl < k by omega), if_neg (show ¬ f + cl < k + 1 by omega), if_neg (show ¬ f + cl = k by omega)]
      by_cases c : f = k
      · rw [if_pos c, if_pos (show f < k + 1 by omega)]; omega
      · rw [if_neg c, if_neg (show ¬ f < k + 1 by omega)]; omega
  have b4 : ∀ f : Int, 0 ≤ f → cnG nf cl k f < 4 := fun f f0 => by
    rw [cn f k f0 (by omega)]
    have a := ite_bd (f < k)
    have b := ite_bd (f + cl < k)
    omega
  by_cases c1 : k < cl
  · rw [if_pos c1] at ea
    rw [if_pos (Or.inl c1)] at en
    unfold gOK
    rw [ea, en]
    refine ⟨by omega, by omega, Or.inl rfl, b4 k k0, fun g => absurd rfl g, fun f f0 f1 => ?_⟩
    rw [step f f0 f1, if_neg (show ¬ f + cl = k by omega)]
    by_cases e : f = k
    · rw [if_pos e, if_pos (Or.inl e.symm)]; omega
    · rw [if_neg e, if_neg (show ¬ (k = f ∨ -1 = f) by omega)]; omega
  · rw [if_neg c1] at ea
    by_cases c2 : nf ≤ k
    · rw [if_pos (Or.inr c2)] at en
      unfold gOK
      rw [ea, en]
      refine ⟨by omega, by omega, Or.inl rfl, b4 _ (by omega), fun g => absurd rfl g, fun f f0 f1 => ?_⟩
      rw [step f f0 f1, if_neg (show ¬ f = k by omega)]
      by_cases e : f + cl = k
      · rw [if_pos e, if_pos (show k - cl = f ∨ -1 = f by omega)]; omega
      · rw [if_neg e, if_neg (show ¬ (k - cl = f ∨ -1 = f) by omega)]; omega
    · rw [if_neg (fun z => z.elim c1 c2)] at en
      unfold gOK
      rw [ea, en]
      refine ⟨by omega, by omega, Or.inr (by omega), b4 _ (by omega), fun g => b4 k k0, fun f f0 f1 => ?_⟩
      rw [step f f0 f1]
      by_cases e : f + cl = k
      · rw [if_pos e, if_neg (show ¬ f = k by omega), if_pos (show k - cl = f ∨ k = f by omega)]; omega
      · rw [if_neg e]
        by_cases g : f = k
        · rw [if_pos g, if_pos (show k - cl = f ∨ k = f by omega)]; omega
        · rw [if_neg g, if_neg (show ¬ (k - cl = f ∨ k = f) by omega)]; omega
theorem dm_u {n r c : Int} (h0 : 0 ≤ c) (h1 : c < n) : (n * r + c) / n = r ∧ (n * r + c) % n = c := by
  constructor
  · rw [Int.add_comm, Int.add_mul_ediv_left _ _ (by omega), Int.ediv_eq_zero_of_lt h0 h1]; omega
  · rw [Int.mul_add_emod_self_left, Int.emod_eq_of_lt h0 h1]
/-- upright sides: t of them before it, in row r at place c -/
theorem gOK_v {nf cl k r c : Int} (hc : 1 ≤ cl) (r0 : 0 ≤ r) (hr : cl * r + cl ≤ nf) (c0 : 0 ≤ c) (c1 : c ≤ cl) (hk : k = nf + cl + (cl * r + r + c)) : gOK nf cl k ∧ gA nf cl k = (if c = 0 then cl * r + c else cl * r + c - 1) ∧ gN nf cl k = (if c = 0 ∨ c = cl then -1 else cl * r + c) := by
  have pr : 0 ≤ cl * r := Int.mul_nonneg (by omega) r0
  have e1 : (cl + 1) * r = cl * r + r := by rw [Int.add_mul]; omega
  have u := dm_u (n := cl + 1) (r := r) (c := c) c0 (by omega)
  have kt : k - nf - cl = (cl + 1) * r + c := by omega
  have ea : gA nf cl k = if c = 0 then cl * r + c else cl * r + c - 1 := by
    unfold gA
    rw [if_neg (show ¬ k < nf + cl by omega), kt, u.1, u.2, e1]
    by_cases z : c = 0
    · rw [if_pos z, if_pos z]; omega
    · rw [if_neg z, if_neg z]; omega
  have en : gN nf cl k = if c = 0 ∨ c = cl then -1 else cl * r + c := by
    unfold gN
    rw [if_neg (show ¬ k < nf + cl by omega), kt, u.1, u.2, e1]
    by_cases z : c = 0 ∨ c = cl
    · rw [if_pos z, if_pos z]
    · rw [if_neg z, if_neg z]; omega
  refine ⟨?_, ea, en⟩
  have key : ∀ f : Int, 0 ≤ f → (f + f / cl = cl * r + r + c ↔ (c < cl ∧ f = cl * r + c)) ∧ (f + f / cl + 1 = cl * r + r + c ↔ (0 < c ∧ f = cl * r + c - 1)) := fun f f0 => by
    have hf := Int.mul_ediv_add_emod f cl
    have m0 := Int.emod_nonneg f (show cl ≠ 0 by omega)
    have m1 := Int.emod_lt_of_pos f (show 0 < cl by omega)
    have q0 := Int.ediv_nonneg f0 (show 0 ≤ cl by omega)
    have tri : f / cl < r → cl * (f / cl) + cl ≤ cl * r := fun g => by
      have := Int.mul_le_mul_of_nonneg_left (show f / cl + 1 ≤ r by omega) (show 0 ≤ cl by omega)
      rw [Int.mul_add] at this
      omega
    have tri2 : r < f / cl → cl * r + cl ≤ cl * (f / cl) := fun g => by
      have := Int.mul_le_mul_of_nonneg_left (show r + 1 ≤ f / cl by omega) (show 0 ≤ cl by omega)
      rw [Int.mul_add] at this
      omega
    refine ⟨⟨fun e => ?_, fun e => ?_⟩, ⟨fun e => ?_, fun e => ?_⟩⟩
    · rcases Int.lt_trichotomy (f / cl) r with g | g | g
      · have := tri g; omega
      · rw [g] at hf e; omega
      · have := tri2 g; omega
    · have v := (dm_u (n := cl) (r := r) (c := c) c0 e.1).1
      rw [← e.2] at v
      rw [v]; omega
    · rcases Int.lt_trichotomy (f / cl) r with g | g | g
      · have := tri g; omega
      · rw [g] at hf e; omega
      · have := tri2 g; omega
    · have v := (dm_u (n := cl) (r := r) (c := c - 1) (by omega) (by omega)).1
      rw [show cl * r + (c - 1) = cl * r + c - 1 by omega, ← e.2] at v
      rw [v]; omega
  have cn : ∀ f m : Int, f < nf → nf + cl ≤ m → cnG nf cl m f = 2 + (if nf + cl + f + f / cl < m then 1 else 0) + (if nf + cl + f + f / cl + 1 < m then 1 else 0) := fun f m f1 hm => by
    unfold cnG
    rw [if_pos (show f < m by omega), if_pos (show f + cl < m by omega)]
    omega
  have step : ∀ f : Int, 0 ≤ f → f < nf → cnG nf cl (k + 1) f = cnG nf cl k f + (if c < cl ∧ f = cl * r + c then 1 else 0) + (if 0 < c ∧ f = cl * r + c - 1 then 1 else 0) := fun f f0 f1 => by
    rw [cn f (k + 1) f1 (by omega), cn f k f1 (by omega)]
    obtain ⟨k1, k2⟩ := key f f0
    by_cases a : f + f / cl = cl * r + r + c
    · rw [if_pos (k1.mp a), if_neg (show ¬ (0 < c ∧ f = cl * r + c - 1) from fun z => by have := k2.mpr z; omega), if_pos (show nf + cl + f + f / cl < k + 1 by omega), if_neg (show ¬ nf + cl + f + f / cl < k by omega), if_neg (show ¬ nf + cl + f + f / cl + 1 < k + 1 by omega), if_neg (show ¬ nf + cl + f + f / cl + 1 < k by omega)]
      omega
    · rw [if_neg (fun z => a (k1.mpr z))]
      by_cases b : f + f / cl + 1 = cl * r + r + c
      · rw [if_pos (k2.mp b), if_pos (show nf + cl + f + f / cl < k + 1 by omega), if_pos (show nf + cl + f + f / cl < k by omega), if_pos (show nf + cl + f + f / cl + 1 < k + 1 by omega), if_neg (show ¬ nf + cl + f + f / cl + 1 < k by omega)]
        omega
      · rw [if_neg (fun z => b (k2.mpr z))]
        by_cases d : nf + cl + f + f / cl + 1 < k
        · rw [if_pos (show nf + cl + f + f / cl < k + 1 by omega), if_pos (show nf + cl + f + f / cl < k by omega), if_pos (show nf + cl + f + f / cl + 1 < k + 1 by omega), if_pos d]; omega
        · rw [if_neg (show ¬ nf + cl + f + f / cl < k + 1 by omega), if_neg (show ¬ nf + cl + f + f / cl < k by omega), if_neg (show ¬ nf + cl + f + f / cl + 1 < k + 1 by omega), if_neg d]; omega
  have b4 : ∀ f : Int, 0 ≤ f → f < nf → (c < cl ∧ f = cl * r + c) ∨ (0 < c ∧ f = cl * r + c - 1) → cnG nf cl k f < 4 := fun f f0 f1 e => by
    rw [cn f k f1 (by omega)]
    have a := ite_bd (nf + cl + f + f / cl < k)
    rcases e with e | e
    · have := (key f f0).1.mpr e
      rw [if_neg (show ¬ nf + cl + f + f / cl + 1 < k by omega)]; omega
    · have := (key f f0).2.mpr e
      rw [if_neg (show ¬ nf + cl + f + f / cl + 1 < k by omega)]; omega
  unfold gOK
  rw [ea, en]
  by_cases z : c = 0
  · rw [if_pos z, if_pos (Or.inl z)]
    refine ⟨by omega, by omega, Or.inl rfl, b4 _ (by omega) (by omega) (Or.inl ⟨by omega, rfl⟩), fun g => absurd rfl g, fun f f0 f1 => ?_⟩
    rw [step f f0 f1, if_neg (show ¬ (0 < c ∧ f = cl * r + c - 1) by omega)]
    by_cases e : f = cl * r + c
    · rw [if_pos (show c < cl ∧ f = cl * r + c by omega), if_pos (Or.inl e.symm)]; omega
    · rw [if_neg (fun w => e w.2), if_neg (show ¬ (cl * r + c = f ∨ -1 = f) by omega)]; omega
  · rw [if_neg z]
    by_cases w : c = cl
    · rw [if_pos (Or.inr w)]
      refine ⟨by omega, by omega, Or.inl rfl, b4 _ (by omega) (by omega) (Or.inr ⟨by omega, rfl⟩), fun g => absurd rfl g, fun f f0 f1 => ?_⟩
      rw [step f f0 f1, if_neg (show ¬ (c < cl ∧ f = cl * r + c) by omega)]
      by_cases e : f = cl * r + c - 1
      · rw [if_pos (show 0 < c ∧ f = cl * r + c - 1 by omega), if_pos (Or.inl e.symm)]; omega
      · rw [if_neg (fun v => e v.2), if_neg (show ¬ (cl * r + c - 1 = f ∨ -1 = f) by omega)]; omega
    · rw [if_neg (show ¬ (c = 0 ∨ c = cl) from fun v => v.elim z w)]
      refine ⟨by omega, by omega, Or.inr (by omega), b4 _ (by omega) (by omega) (Or.inr ⟨by omega, rfl⟩), fun g => b4 _ (by omega) (by omega) (Or.inl ⟨by omega, rfl⟩), fun f f0 f1 => ?_⟩
      rw [step f f0 f1]
      by_cases e : f = cl * r + c
      · rw [if_pos (show c < cl ∧ f = cl * r + c by omega), if_neg (show ¬ (0 < c ∧ f = cl * r + c - 1) by omega), if_pos (Or.inr e.symm)]; omega
      · rw [if_neg (fun v => e v.2)]
        by_cases g : f = cl * r + c - 1
        · rw [if_pos (show 0 < c ∧ f = cl * r + c - 1 by omega), if_pos (Or.inl g.symm)]; omega
        · rw [if_neg (fun v => g v.2), if_neg (show ¬ (cl * r + c - 1 = f ∨ cl * r + c = f) by omega)]; omega
