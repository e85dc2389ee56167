/-- the class's heap as it stands behind isTold -/
def lnT (nb : Int → Int) (nk hp : Int) (pl lg co sp va : Int → Int) (nV : Nat) : Prop := (prI (nb1 nb) (nb2 nb) 402 ≤ 20000 ∧ hp = prI (nb1 nb) (nb2 nb) 402 ∧ layC nb 402 nk pl lg co sp ∧ vTab lg (fun k => nb (pl k)) (fun k => riP (pl k)) sp nk (-1000000000) va hp ∧ hp ≤ (nV : Int)) ∨ (¬ prI (nb1 nb) (nb2 nb) 402 ≤ 20000 ∧ 20000 < hp ∧ hp < 2147483648)
def tgr (nb : Int → Int) (fr : Int) (nV : Nat) : Nat := if fr = 0 ∧ prI (nb1 nb) (nb2 nb) 402 ≤ 20000 then grw nV (prI (nb1 nb) (nb2 nb) 402) else 0
/-- how long the row of V is then -/
def tln (nb : Int → Int) (fr : Int) (nV nV1 : Nat) : Prop := nV1 ≤ 20000 ∧ nV ≤ nV1 ∧ ((nV1 = nV ∧ tgr nb fr nV = 0) ∨ (tgr nb fr nV = nV1 ∧ (2 * nV ≤ nV1 ∨ nV1 = 20000) ∧ nV < nV1))
theorem tln_same {nb : Int → Int} {fr : Int} {nV : Nat} (h : nV ≤ 20000) (h0 : ¬ (fr = 0 ∧ prI (nb1 nb) (nb2 nb) 402 ≤ 20000)) : tln nb fr nV nV := ⟨h, Nat.le_refl _, Or.inl ⟨rfl, if_neg h0⟩⟩
theorem tln_fill {nb : Int → Int} {fr : Int} {nV nV1 : Nat} (h : 1 ≤ nV ∧ nV ≤ 20000) (h0 : fr = 0) (h1 : prI (nb1 nb) (nb2 nb) 402 ≤ 20000) (h2 : (nV1 : Int) = (if (nV : Int) < prI (nb1 nb) (nb2 nb) 402 then min 20000 (max (prI (nb1 nb) (nb2 nb) 402) (2 * (nV : Int))) else nV)) : tln nb fr nV nV1 := by
  have e : tgr nb fr nV = grw nV (prI (nb1 nb) (nb2 nb) 402) := if_pos ⟨h0, h1⟩
  unfold tln
  rw [e]
  unfold grw
  by_cases g : (nV : Int) < prI (nb1 nb) (nb2 nb) 402
  · rw [if_pos g] at h2 ⊢
    exact ⟨by omega, by omega, Or.inr ⟨by omega, by omega, by omega⟩⟩
  · rw [if_neg g] at h2 ⊢
    exact ⟨by omega, by omega, Or.inl ⟨by omega, rfl⟩⟩
