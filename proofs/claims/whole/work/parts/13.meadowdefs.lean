/-! the class's MEADOW: what a call does to its rows, in words of their own -/
/-- every place of f below n lies in a .. b -/
def rg (f : Int → Int) (n a b : Int) : Prop := ∀ j : Int, 0 ≤ j → j < n → a ≤ f j ∧ f j ≤ b
def bo (f : Int → Int) (n : Int) : Prop := ∀ j : Int, 0 ≤ j → j < n → f j = 0 ∨ f j = 1
/-- how many fields a side closes, by the numbers of open sides -/
def clB (fa sb oc : Int → Int) (sd : Int) : Int := (if oc (fa sd) = 1 then 1 else 0) + (if sb sd ≠ -1 ∧ oc (sb sd) = 1 then 1 else 0)
def fcO (oc : Int → Int) (fd : Int) : Int → Int := uI oc fd (oc fd - 1)
def fcW (oc ow : Int → Int) (fd tn : Int) : Int → Int := if oc fd = 1 then uI ow fd tn else ow
def fcD (oc od : Int → Int) (fd tn : Int) : Int → Int := if oc fd = 1 then uI od tn (od tn + 1) else od
def roO (oc : Int → Int) (fd : Int) : Int → Int := uI oc fd (oc fd + 1)
def roW (oc ow : Int → Int) (fd : Int) : Int → Int := if oc fd = 0 then uI ow fd (-1) else ow
def roD (oc od : Int → Int) (fd tn : Int) : Int → Int := if oc fd = 0 then uI od tn (od tn - 1) else od
def tkO (fa sb oc : Int → Int) (sd : Int) : Int → Int := if sb sd = -1 then fcO oc (fa sd) else fcO (fcO oc (fa sd)) (sb sd)
def tkW (fa sb oc ow : Int → Int) (sd tn : Int) : Int → Int := if sb sd = -1 then fcW oc ow (fa sd) tn else fcW (fcO oc (fa sd)) (fcW oc ow (fa sd) tn) (sb sd) tn
def tkD (fa sb oc od : Int → Int) (sd tn : Int) : Int → Int := if sb sd = -1 then fcD oc od (fa sd) tn else fcD (fcO oc (fa sd)) (fcD oc od (fa sd) tn) (sb sd) tn
def tbO (fa sb oc : Int → Int) (sd : Int) : Int → Int := if sb sd = -1 then roO oc (fa sd) else roO (roO oc (fa sd)) (sb sd)
def tbW (fa sb oc ow : Int → Int) (sd : Int) : Int → Int := if sb sd = -1 then roW oc ow (fa sd) else roW (roO oc (fa sd)) (roW oc ow (fa sd)) (sb sd)
def tbD (fa sb oc od : Int → Int) (sd tn : Int) : Int → Int := if sb sd = -1 then roD oc od (fa sd) tn else roD (roO oc (fa sd)) (roD oc od (fa sd) tn) (sb sd) tn
theorem clB_bd (fa sb oc : Int → Int) (sd : Int) : 0 ≤ clB fa sb oc sd ∧ clB fa sb oc sd ≤ 2 := by
  unfold clB
  split <;> split <;> omega
def asX (sx sc : Int → Int) (ns a b : Int) : Int → Int := if b = -1 then uI sx (a * 4 + sc a) ns else uI (uI sx (a * 4 + sc a) ns) (b * 4 + (uI sc a (sc a + 1)) b) ns
def asC (sc : Int → Int) (a b : Int) : Int → Int := if b = -1 then uI sc a (sc a + 1) else uI (uI sc a (sc a + 1)) b ((uI sc a (sc a + 1)) b + 1)
/-- a side can be added -/
def sdOK (nk ns nf : Int) (sc : Int → Int) (a b : Int) : Prop := nk = 0 ∧ ns < 500 ∧ a ≠ b ∧ (0 ≤ a ∧ a < nf ∧ sc a < 4) ∧ (b = -1 ∨ (0 ≤ b ∧ b < nf ∧ sc b < 4))
