/-! the class's Ways as they stand between calls -/
def tgw (nT : Nat) (wz : Int) : Nat := if (nT : Int) < (p2 wz + 7) / 8 then ((p2 wz + 7) / 8).toNat else 0
/-- how long the table is behind it -/
def tgl (nT nT1 : Nat) (wz : Int) : Prop := (nT1 : Int) = if (nT : Int) < (p2 wz + 7) / 8 then (p2 wz + 7) / 8 else nT
def wyI (fa sb : Int → Int) (ns wz : Int) (ba ff sf : Int → Int) (tT : Int → Int64) (nT : Nat) : Prop := (0 ≤ wz ∧ wz ≤ 16) ∧ inj ba wz ns ∧ mkA ba fa sb wz wz ff sf ∧ (1 ≤ nT ∧ nT ≤ 8192) ∧ p2 wz ≤ 8 * (nT : Int) ∧ tbI fa sb ba wz (tbv tT) (p2 wz)
theorem tbI_eq {o1 o2 b tb tb' : Int → Int} {n a : Int} (h : tbI o1 o2 b n tb a) (a0 : 0 < a) (e : ∀ t : Int, 0 ≤ t → t < a → tb t = tb' t) : tbI o1 o2 b n tb' a :=
  ⟨by rw [← e 0 (by omega) a0]; exact h.1, fun t t0 t1 => by
    have r := h.2 t t0 t1
    unfold tW at r ⊢
    rw [← e t t0 t1]
    exact r⟩
/-- the base holds all that is open, and just it, where the set has as many -/
theorem all_in {un ba : Int → Int} {ns wz z : Int} (h : inj ba wz ns) (hw : 0 ≤ wz ∧ wz ≤ 16) (hz : mkB (opB un ba ns) wz z) (e : bcn z = nop un ns) : ∀ s : Int, 0 ≤ s → s < ns → un s = 1 → ∃ j : Int, 0 ≤ j ∧ j < wz ∧ ba j = s := fun s a b c => by
  rw [bcn_xs h hw hz.1] at e
  have q := nop_all (x := xs ba wz z) (y := un) (fun t t0 t1 g => by
    obtain ⟨j, j0, j1, j2, j3⟩ := xs_ex g
    rw [← j2]
    exact ((hz.2 j j0 j1).mp j3).2.2) e a b c
  obtain ⟨j, j0, j1, j2, j3⟩ := xs_ex q
  exact ⟨j, j0, j1, j2⟩
theorem set_opX {un ba : Int → Int} {ns wz z : Int} (h : inj ba wz ns) (hw : 0 ≤ wz) (hz : mkB (opB un ba ns) wz z) (ha : ∀ s : Int, 0 ≤ s → s < ns → un s = 1 → ∃ j : Int, 0 ≤ j ∧ j < wz ∧ ba j = s) : xs ba wz z = opX un ns := xs_opX h hw hz.2 ha
/-- all open sides listed once: as many as there are -/
theorem wd_n {un ba : Int → Int} {ns wz : Int} (h : inj ba wz ns) (hw : 0 ≤ wz) (ho : ∀ j : Int, 0 ≤ j → j < wz → un (ba j) = 1) (ha : ∀ s : Int, 0 ≤ s → s < ns → un s = 1 → ∃ j : Int, 0 ≤ j ∧ j < wz ∧ ba j = s) : wz = nop un ns := by
  have a := xs_all h hw
  have l := inj_le h hw ho
  have g := nop_sub (x := un) (y := xs ba wz (p2 wz - 1)) (n := ns) (fun s s0 s1 e => by
    obtain ⟨j, j0, j1, j2⟩ := ha s s0 s1 e
    rw [← j2, xs_at h j0 j1]
    exact bt_full j0 j1)
  omega
theorem tgw_0 {nT : Nat} {no wz : Int} (h : no ≤ wz) (h2 : p2 wz ≤ 8 * (nT : Int)) : tgw nT no = 0 := by
  have := p2_mono h
  unfold tgw
  rw [if_neg (by omega)]
theorem tgl_0 {nT : Nat} {no wz : Int} (h : no ≤ wz) (h2 : p2 wz ≤ 8 * (nT : Int)) : tgl nT nT no := by
  have := p2_mono h
  unfold tgl
  rw [if_neg (by omega)]
theorem tW_wo {fa sb un ba tb : Int → Int} {ns wz z : Int} (e : xs ba wz z = opX un ns) (h : tW fa sb ba N5 wz tb z) : isWo fa sb (opX un ns) (tb z) := by
  unfold tW at h
  rw [e] at h
  exact h
theorem dv_isD {fa sb un ba tb : Int → Int} {ns wz z j : Int} (h : inj ba wz N5) (hw : 0 ≤ wz) (hz : 0 ≤ z ∧ z < p2 wz) (e : xs ba wz z = opX un ns) (j0 : 0 ≤ j) (j1 : j < wz) (hb : bt z j = 1) (ht : tbI fa sb ba wz tb (p2 wz)) : isD fa sb (opX un ns) (ba j) (dvb fa sb ba N5 wz tb z j) := by
  have c := (bt_clear hz.1 j0 j0 hb).1
  have pj := p2_pos j
  have r := dvb_isD (o1 := fa) (o2 := sb) (tb := tb) h hw hz.1 j0 j1 hb (ht.2 _ (by omega) (by omega))
  rw [e] at r
  exact r
