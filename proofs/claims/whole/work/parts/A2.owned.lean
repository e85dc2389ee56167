/-! who owns how many fields -/
theorem owN_bd (o1 o2 ds : Int → Int) (ns : Int) (f : Int) : ∀ k : Nat, -1 ≤ owN o1 o2 ds ns k f ∧ owN o1 o2 ds ns k f ≤ 1
  | 0 => by show -1 ≤ (-1 : Int) ∧ (-1 : Int) ≤ 1; omega
  | k + 1 => by
    have h := owN_bd o1 o2 ds ns f k
    have t := tnN_01 o1 o2 ds ns k
    have u1 : ∀ (w : Int → Int) (i v : Int), (v = 0 ∨ v = 1) → -1 ≤ w f ∧ w f ≤ 1 → -1 ≤ uI w i v f ∧ uI w i v f ≤ 1 := fun w i v hv hw => by
      unfold uI
      split <;> omega
    show -1 ≤ owS _ _ o1 o2 _ ns _ _ f ∧ owS _ _ o1 o2 _ ns _ _ f ≤ 1
    unfold owS
    split
    · split
      · exact u1 _ _ _ t (u1 _ _ _ t h)
      · exact u1 _ _ _ t h
    · split
      · exact u1 _ _ _ t h
      · exact h
theorem owI_bd (o1 o2 ds : Int → Int) (ns k f : Int) : -1 ≤ owI o1 o2 ds ns k f ∧ owI o1 o2 ds ns k f ≤ 1 := owN_bd o1 o2 ds ns f k.toNat
/-- how many fields have the owner w; any, where w is 3 -/
def cow (ow : Int → Int) (w n : Int) : Int := su (fun f => if w = 3 then (if ow f ≠ -1 then 1 else 0) else (if ow f = w - 8 then 1 else 0)) n
theorem cow_s {ow : Int → Int} {w n : Int} (h : 0 ≤ n) : cow ow w (n + 1) = cow ow w n + (if w = 3 then (if ow n ≠ -1 then 1 else 0) else (if ow n = w - 8 then 1 else 0)) := su_s h
def cntR (nf ns no nd na np sm wt : Int) (ow : Int → Int) : Int := if wt = 0 then nf else if wt = 1 then ns else if wt = 2 then no else if wt = 3 then cow ow 3 nf else if wt = 4 then nd else if wt = 5 then na - nd else if wt = 6 then np else if wt = 7 then sm else if wt = 8 then cow ow 8 nf else if wt = 9 then cow ow 9 nf else -1
