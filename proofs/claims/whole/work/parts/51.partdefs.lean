/-! PARTS: counting over the sides of a field, and over parts -/
def acr (fa sb : Int → Int) (s fd : Int) : Int := if fa s = fd then sb s else fa s
/-- open sides to the outside among the first n of a field -/
def ooS (un sb sx : Int → Int) (fd n : Int) : Int := su (fun j => if un (sx (fd * 4 + j)) = 1 ∧ sb (sx (fd * 4 + j)) = -1 then 1 else 0) n
theorem ooS_s {un sb sx : Int → Int} {fd n : Int} (h : 0 ≤ n) : ooS un sb sx fd (n + 1) = ooS un sb sx fd n + (if un (sx (fd * 4 + n)) = 1 ∧ sb (sx (fd * 4 + n)) = -1 then 1 else 0) := su_s h
/-- long chains and rings among the first n parts -/
def lng (kd fl lo : Int → Int) (n : Int) : Int := su (fun p => if kd p = 1 ∨ (kd p = 0 ∧ 3 ≤ fl p ∧ lo p = 0) then 1 else 0) n
theorem lng_s {kd fl lo : Int → Int} {n : Int} (h : 0 ≤ n) : lng kd fl lo (n + 1) = lng kd fl lo n + (if kd n = 1 ∨ (kd n = 0 ∧ 3 ≤ fl n ∧ lo n = 0) then 1 else 0) := su_s h
theorem lng_congr {kd fl lo kd' fl' lo' : Int → Int} {n : Int} (h : ∀ p : Int, 0 ≤ p → p < n → kd p = kd' p ∧ fl p = fl' p ∧ lo p = lo' p) : lng kd fl lo n = lng kd' fl' lo' n :=
  su_congr (fun p a b => by obtain ⟨e1, e2, e3⟩ := h p a b; rw [e1, e2, e3])
/-- a neighbour across an open side that is not closed yet -/
def nbL (fa sb un sx lt : Int → Int) (fd j : Int) : Prop := un (sx (fd * 4 + j)) = 1 ∧ acr fa sb (sx (fd * 4 + j)) fd ≠ -1 ∧ 0 < lt (acr fa sb (sx (fd * 4 + j)) fd)
