/-! DESCRIBING a part out of its queue -/
def kdG (oc x o1 o2 pO : Int → Int) (nf ns p : Int) : Int := if 0 < cC pO oc p nf then 2 else if cO pO oc p nf = 0 ∧ cU x o1 o2 pO p ns = 0 then 1 else 0
def loG (oc x o1 o2 pO : Int → Int) (nf ns p : Int) : Int := if kdG oc x o1 o2 pO nf ns p = 0 then cO pO oc p nf else 0
def q1 (oc qu : Int → Int) (n : Int) : Int := su (fun i => if oc (qu i) = 1 then 1 else 0) n
def q2 (oc qu : Int → Int) (n : Int) : Int := su (fun i => if 2 < oc (qu i) then 1 else 0) n
def q3 (un sb sx sc qu : Int → Int) (n : Int) : Int := su (fun i => ooS un sb sx (qu i) (sc (qu i))) n
def q4 (oc qu : Int → Int) (n : Int) : Int := su (fun i => oc (qu i)) n
theorem q1_s {oc qu : Int → Int} {n : Int} (h : 0 ≤ n) : q1 oc qu (n + 1) = q1 oc qu n + (if oc (qu n) = 1 then 1 else 0) := su_s h
theorem q2_s {oc qu : Int → Int} {n : Int} (h : 0 ≤ n) : q2 oc qu (n + 1) = q2 oc qu n + (if 2 < oc (qu n) then 1 else 0) := su_s h
theorem q3_s {un sb sx sc qu : Int → Int} {n : Int} (h : 0 ≤ n) : q3 un sb sx sc qu (n + 1) = q3 un sb sx sc qu n + ooS un sb sx (qu n) (sc (qu n)) := su_s h
theorem q4_s {oc qu : Int → Int} {n : Int} (h : 0 ≤ n) : q4 oc qu (n + 1) = q4 oc qu n + oc (qu n) := su_s h
theorem q1_e {oc qu pO : Int → Int} {nf ct nq : Int} (h : qen nf ct nq pO qu) : q1 oc qu nq = cO pO oc ct nf := by
  have := h (fun g => if oc g = 1 then 1 else 0)
  refine Eq.trans this (su_congr (fun j _ _ => ?_))
  by_cases a : pO j = ct
  · by_cases b : oc j = 1
    · rw [if_pos a, if_pos b, if_pos ⟨a, b⟩]
    · rw [if_pos a, if_neg b, if_neg (fun g => b g.2)]
  · rw [if_neg a, if_neg (fun g => a g.1)]
theorem q2_e {oc qu pO : Int → Int} {nf ct nq : Int} (h : qen nf ct nq pO qu) : q2 oc qu nq = cC pO oc ct nf := by
  have := h (fun g => if 2 < oc g then 1 else 0)
  refine Eq.trans this (su_congr (fun j _ _ => ?_))
  by_cases a : pO j = ct
  · by_cases b : 2 < oc j
    · rw [if_pos a, if_pos b, if_pos ⟨a, b⟩]
    · rw [if_pos a, if_neg b, if_neg (fun g => b g.2)]
  · rw [if_neg a, if_neg (fun g => a g.1)]
theorem q3_e {un sb sx sc qu pO : Int → Int} {nf ct nq : Int} (h : qen nf ct nq pO qu) : q3 un sb sx sc qu nq = su (fun g => if pO g = ct then ooS un sb sx g (sc g) else 0) nf := h (fun g => ooS un sb sx g (sc g))
theorem q4_e {oc qu pO : Int → Int} {nf ct nq : Int} (h : qen nf ct nq pO qu) : q4 oc qu nq = su (fun g => if pO g = ct then oc g else 0) nf := h (fun g => oc g)
theorem ooS_bd (un sb sx : Int → Int) (fd : Int) {n : Int} (h : 0 ≤ n) : 0 ≤ ooS un sb sx fd n ∧ ooS un sb sx fd n ≤ n :=
  ⟨su_nn (fun j _ _ => (ite_bd _).1), su_ub h (fun j _ _ => (ite_bd _).2)⟩
theorem cS_ub {x o1 pO : Int → Int} {p n : Int} (h : 0 ≤ n) : cS x o1 pO p n ≤ n := su_ub h (fun j _ _ => (ite_bd _).2)
theorem cU_le {x o1 o2 pO : Int → Int} {p n : Int} : cU x o1 o2 pO p n ≤ cS x o1 pO p n := su_le (fun j _ _ => by
  show (if x j = 1 ∧ pO (o1 j) = p ∧ o2 j = -1 then (1 : Int) else 0) ≤ (if x j = 1 ∧ pO (o1 j) = p then 1 else 0)
  by_cases a : x j = 1 ∧ pO (o1 j) = p
  · rw [if_pos a]; exact (ite_bd _).2
  · rw [if_neg a, if_neg (fun g => a ⟨g.1, g.2.1⟩)]; omega)
