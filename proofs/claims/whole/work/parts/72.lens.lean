/-! chains and rings of a meadow by their lengths -/
def chN (pK pF pL : Int → Int) (n k : Int) : Int := su (fun p => if pK p ≠ 1 ∧ pL p = 0 ∧ pF p = k then 1 else 0) n
def rnN (pK pF : Int → Int) (n k : Int) : Int := su (fun p => if pK p = 1 ∧ pF p = k then 1 else 0) n
def lfN (pK pF pL : Int → Int) (n : Int) : Int := su (fun p => if pK p ≠ 1 ∧ pL p ≠ 0 then pF p else 0) n
def ltN (pK pF pL : Int → Int) (a b n : Int) : Int := su (fun p => if pK p ≠ 1 ∧ pL p = a ∧ b ≤ pF p then 1 else 0) n
theorem chN_s {pK pF pL : Int → Int} {n k : Int} (h : 0 ≤ n) : chN pK pF pL (n + 1) k = chN pK pF pL n k + (if pK n ≠ 1 ∧ pL n = 0 ∧ pF n = k then 1 else 0) := su_s h
theorem rnN_s {pK pF : Int → Int} {n k : Int} (h : 0 ≤ n) : rnN pK pF (n + 1) k = rnN pK pF n k + (if pK n = 1 ∧ pF n = k then 1 else 0) := su_s h
theorem lfN_s {pK pF pL : Int → Int} {n : Int} (h : 0 ≤ n) : lfN pK pF pL (n + 1) = lfN pK pF pL n + (if pK n ≠ 1 ∧ pL n ≠ 0 then pF n else 0) := su_s h
theorem ltN_s {pK pF pL : Int → Int} {a b n : Int} (h : 0 ≤ n) : ltN pK pF pL a b (n + 1) = ltN pK pF pL a b n + (if pK n ≠ 1 ∧ pL n = a ∧ b ≤ pF n then 1 else 0) := su_s h
theorem chN_bd (pK pF pL : Int → Int) {n : Int} (k : Int) (h : 0 ≤ n) : 0 ≤ chN pK pF pL n k ∧ chN pK pF pL n k ≤ n := ⟨su_nn (fun j _ _ => (ite_bd _).1), su_ub h (fun j _ _ => (ite_bd _).2)⟩
theorem rnN_bd (pK pF : Int → Int) {n : Int} (k : Int) (h : 0 ≤ n) : 0 ≤ rnN pK pF n k ∧ rnN pK pF n k ≤ n := ⟨su_nn (fun j _ _ => (ite_bd _).1), su_ub h (fun j _ _ => (ite_bd _).2)⟩
theorem ltN_nn (pK pF pL : Int → Int) (a b n : Int) : 0 ≤ ltN pK pF pL a b n := su_nn' (fun k => (ite_bd _).1) n
