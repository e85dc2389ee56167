/-! SUMS over a part's fields as sums over sides -/
/-- the sides of each field stand in its row, each once -/
def enu (fa sb sx sc : Int → Int) (nf ns : Int) : Prop := ∀ g : Int, 0 ≤ g → g < nf → ∀ h : Int → Int, su (fun j => h (sx (g * 4 + j))) (sc g) = su (fun s => if fa s = g ∨ sb s = g then h s else 0) ns
theorem su_pick {n a : Int} {f : Int → Int} (a0 : 0 ≤ a) (a1 : a < n) : su (fun g => if a = g then f g else 0) n = f a := by
  rw [su_up (f := fun g => if a = g then f g else 0) (g := fun _ => 0) (k := a) (fun j hj => if_neg (fun e => hj e.symm)) a0 a1, su_const 0 (by omega), if_pos rfl]
  omega
theorem su_none {n a : Int} {f : Int → Int} (h : a < 0 ∨ n ≤ a) : su (fun g => if a = g then f g else 0) n = 0 := by
  by_cases hn : 0 ≤ n
  · rw [su_congr (g := fun _ => 0) (n := n) (fun j x y => if_neg (by omega)), su_const 0 hn]; omega
  · exact su_neg (by omega)
theorem enu_out {fa sb un sx sc pO : Int → Int} {nf ns ct : Int} (hnf : 0 ≤ nf) (he : enu fa sb sx sc nf ns) (ho1 : ∀ j : Int, 0 ≤ j → j < ns → 0 ≤ fa j ∧ fa j < nf) : su (fun g => if pO g = ct then ooS un sb sx g (sc g) else 0) nf = cU un fa sb pO ct ns := by
  have a : ∀ g : Int, 0 ≤ g → g < nf → (if pO g = ct then ooS un sb sx g (sc g) else 0) = su (fun s => if fa s = g then (if un s = 1 ∧ sb s = -1 ∧ pO g = ct then 1 else 0) else 0) ns := fun g g0 g1 => by
    have e : ooS un sb sx g (sc g) = su (fun s => if fa s = g ∨ sb s = g then (if un s = 1 ∧ sb s = -1 then 1 else 0) else 0) ns := he g g0 g1 (fun s => if un s = 1 ∧ sb s = -1 then 1 else 0)
    by_cases c : pO g = ct
    · rw [if_pos c, e]
      refine su_congr (fun s _ _ => ?_)
      by_cases d : fa s = g
      · rw [if_pos (Or.inl d), if_pos d]
        by_cases k : un s = 1 ∧ sb s = -1
        · rw [if_pos k, if_pos ⟨k.1, k.2, c⟩]
        · rw [if_neg k, if_neg (fun z => k ⟨z.1, z.2.1⟩)]
      · rw [if_neg d]
        by_cases k : sb s = g
        · rw [if_pos (Or.inr k), if_neg (fun z => by have := z.2; omega)]
        · rw [if_neg (fun z => z.elim d k)]
    · rw [if_neg c]
      by_cases n0 : 0 ≤ ns
      · rw [su_congr (g := fun _ => 0) (n := ns) (fun s _ _ => by
          show (if fa s = g then (if un s = 1 ∧ sb s = -1 ∧ pO g = ct then (1 : Int) else 0) else 0) = 0
          rw [if_neg (show ¬ (un s = 1 ∧ sb s = -1 ∧ pO g = ct) from fun z => c z.2.2), ite_self]), su_const 0 n0]; omega
      · rw [su_neg (by omega)]
  rw [su_congr a, su_swap (fun g s => if fa s = g then (if un s = 1 ∧ sb s = -1 ∧ pO g = ct then 1 else 0) else 0) nf ns]
  refine su_congr (fun s s0 s1 => ?_)
  have o := ho1 s s0 s1
  rw [su_pick (f := fun g => if un s = 1 ∧ sb s = -1 ∧ pO g = ct then 1 else 0) o.1 o.2]
  by_cases k : un s = 1 ∧ pO (fa s) = ct ∧ sb s = -1
  · rw [if_pos k, if_pos ⟨k.1, k.2.2, k.2.1⟩]
  · rw [if_neg k, if_neg (fun z => k ⟨z.1, z.2.2, z.2.1⟩)]
theorem su_sub (f g : Int → Int) (n : Int) : su (fun j => f j - g j) n = su f n - su g n := by
  have := su_add (fun j => f j - g j) g n
  rw [su_congr (g := f) (n := n) (fun j _ _ => by show f j - g j + g j = f j; omega)] at this
  omega
theorem enu_deg {fa sb un oc pO : Int → Int} {nf ns ct : Int} (hnf : 0 ≤ nf) (ho : ∀ g : Int, 0 ≤ g → g < nf → oc g = osd un fa sb g ns) (ho1 : ∀ j : Int, 0 ≤ j → j < ns → 0 ≤ fa j ∧ fa j < nf) (ho2 : ∀ j : Int, 0 ≤ j → j < ns → -1 ≤ sb j ∧ sb j < nf) (hne : ∀ j : Int, 0 ≤ j → j < ns → fa j ≠ sb j) (hp : ∀ s : Int, 0 ≤ s → s < ns → un s = 1 → sb s ≠ -1 → (pO (fa s) = ct ↔ pO (sb s) = ct)) : su (fun g => if pO g = ct then oc g else 0) nf = 2 * cS un fa pO ct ns - cU un fa sb pO ct ns := by
  have a : ∀ g : Int, 0 ≤ g → g < nf → (if pO g = ct then oc g else 0) = su (fun s => (if fa s = g then (if un s = 1 ∧ pO g = ct then 1 else 0) else 0) + (if sb s = g then (if un s = 1 ∧ pO g = ct then 1 else 0) else 0)) ns := fun g g0 g1 => by
    rw [ho g g0 g1]
    by_cases c : pO g = ct
    · rw [if_pos c]
      refine su_congr (fun s s0 s1 => ?_)
      have n1 := hne s s0 s1
      unfold inc
      by_cases u : un s = 1
      · by_cases d : fa s = g
        · rw [if_pos ⟨u, Or.inl d⟩, if_pos d, if_pos ⟨u, c⟩, if_neg (by omega)]; rfl
        · by_cases k : sb s = g
          · rw [if_pos ⟨u, Or.inr k⟩, if_neg d, if_pos k, if_pos ⟨u, c⟩]; rfl
          · rw [if_neg (fun z => z.2.elim d k), if_neg d, if_neg k]; rfl
      · rw [if_neg (fun z => u z.1), if_neg (show ¬ (un s = 1 ∧ pO g = ct) from fun z => u z.1), ite_self, ite_self]; rfl
    · rw [if_neg c]
      by_cases n0 : 0 ≤ ns
      · rw [su_congr (g := fun _ => 0) (n := ns) (fun s _ _ => by
          rw [if_neg (show ¬ (un s = 1 ∧ pO g = ct) from fun z => c z.2), ite_self, ite_self]; rfl), su_const 0 n0]; omega
      · rw [su_neg (by omega)]
  rw [su_congr a, su_swap (fun g s => (if fa s = g then (if un s = 1 ∧ pO g = ct then 1 else 0) else 0) + (if sb s = g then (if un s = 1 ∧ pO g = ct then 1 else 0) else 0)) nf ns]
  have b : ∀ s : Int, 0 ≤ s → s < ns → su (fun g => (if fa s = g then (if un s = 1 ∧ pO g = ct then 1 else 0) else 0) + (if sb s = g then (if un s = 1 ∧ pO g = ct then 1 else 0) else 0)) nf = 2 * (if un s = 1 ∧ pO (fa s) = ct then 1 else 0) - (if un s = 1 ∧ pO (fa s) = ct ∧ sb s = -1 then 1 else 0) := fun s s0 s1 => by
    have o := ho1 s s0 s1
    have q := ho2 s s0 s1
    rw [su_add, su_pick (f := fun g => if un s = 1 ∧ pO g = ct then 1 else 0) o.1 o.2]
    by_cases k : sb s = -1
    · rw [su_none (f := fun g => if un s = 1 ∧ pO g = ct then 1 else 0) (by omega)]
      by_cases u : un s = 1 ∧ pO (fa s) = ct
      · rw [if_pos u, if_pos ⟨u.1, u.2, k⟩]; omega
      · rw [if_neg u, if_neg (fun z => u ⟨z.1, z.2.1⟩)]; omega
    · rw [su_pick (f := fun g => if un s = 1 ∧ pO g = ct then 1 else 0) (by omega) q.2]
      rw [if_neg (show ¬ (un s = 1 ∧ pO (fa s) = ct ∧ sb s = -1) from fun z => k z.2.2)]
      by_cases u : un s = 1
      · have h := hp s s0 s1 u k
        by_cases v : pO (fa s) = ct
        · rw [if_pos ⟨u, v⟩, if_pos ⟨u, h.mp v⟩]; omega
        · rw [if_neg (fun z => v z.2), if_neg (fun z => v (h.mpr z.2))]; omega
      · rw [if_neg (fun z => u z.1), if_neg (fun z => u z.1)]; omega
  rw [su_congr b, su_sub, su_mul]
  rfl
