/-! a grid while it is laid: k sides lie -/
def gdI (nf cl : Int) (fa0 sb0 sc0 oc0 : Int → Int) (k ns no : Int) (fa sb un sx sc oc : Int → Int) : Prop := ns = k ∧ no = k ∧ fa = lay (gA nf cl) fa0 k ∧ sb = lay (gN nf cl) sb0 k ∧ (∀ s : Int, 0 ≤ s → s < k → un s = 1) ∧ sc = scG nf cl sc0 k ∧ mdS nf k fa sb sx sc ∧ (∀ f : Int, 0 ≤ f → f < nf → oc f = osd un fa sb f k) ∧ (∀ f : Int, nf ≤ f → oc f = oc0 f)
theorem mdS_n0 {nf : Int} {fa sb sx sc : Int → Int} (h : 0 ≤ nf ∧ nf ≤ 200) (hz : ∀ g : Int, 0 ≤ g → g < nf → sc g = 0) : mdS nf 0 fa sb sx sc :=
  ⟨h, by omega, fun j a b => by omega, fun j a b => by omega, fun j a b => by omega, fun g a b => by rw [hz g a b]; omega, fun g j a b c d => by rw [hz g a b] at d; omega, fun g s a b c d => by omega, fun g a b f => by rw [hz g a b]; rfl⟩
theorem gdI_0 {nf cl : Int} {fa sb sx sc0 oc0 un oc sc : Int → Int} (hn : 0 ≤ nf ∧ nf ≤ 200) (hc : 1 ≤ cl) (hs : sc = lay (fun _ => 0) sc0 nf) (ho : ∀ f : Int, 0 ≤ f → f < nf → oc f = 0) (ho2 : ∀ f : Int, nf ≤ f → oc f = oc0 f) : gdI nf cl fa sb sc0 oc0 0 0 0 fa sb un sx sc oc :=
  ⟨rfl, rfl, (lay_0 _ _).symm, (lay_0 _ _).symm, fun s a b => by omega, by rw [hs, scG_0 hc hn.1], mdS_n0 hn (fun g a b => by rw [hs]; exact if_pos ⟨a, b⟩), fun f a b => by rw [ho f a b]; rfl, ho2⟩
theorem gd_ok {nf cl k : Int} {sc0 : Int → Int} (h : gOK nf cl k) (k1 : k < 500) : sdOK 0 k nf (scG nf cl sc0 k) (gA nf cl k) (gN nf cl k) := by
  obtain ⟨h1, h2, h3, h4, h5, h6⟩ := h
  refine ⟨rfl, k1, h2, ⟨h1.1, h1.2, ?_⟩, ?_⟩
  · show (if 0 ≤ gA nf cl k ∧ gA nf cl k < nf then cnG nf cl k (gA nf cl k) else sc0 (gA nf cl k)) < 4
    rw [if_pos h1]; exact h4
  · rcases h3 with e | e
    · exact Or.inl e
    · refine Or.inr ⟨e.1, e.2, ?_⟩
      show (if 0 ≤ gN nf cl k ∧ gN nf cl k < nf then cnG nf cl k (gN nf cl k) else sc0 (gN nf cl k)) < 4
      rw [if_pos e]; exact h5 (by omega)
theorem gdI_s {nf cl k ns no : Int} {fa0 sb0 sc0 oc0 fa sb un sx sc oc : Int → Int} (h : gdI nf cl fa0 sb0 sc0 oc0 k ns no fa sb un sx sc oc) (k0 : 0 ≤ k) (k1 : k < 500) (hg : gOK nf cl k) : gdI nf cl fa0 sb0 sc0 oc0 (k + 1) (ns + 1) (no + 1) (uI fa ns (gA nf cl k)) (uI sb ns (gN nf cl k)) (uI un ns 1) (asX sx sc ns (gA nf cl k) (gN nf cl k)) (asC sc (gA nf cl k) (gN nf cl k)) (asC oc (gA nf cl k) (gN nf cl k)) := by
  obtain ⟨h1, h2, h3, h4, h5, h6, h7, h8, h9⟩ := h
  have ok := gd_ok (sc0 := sc0) hg k1
  rw [← h6] at ok
  rw [h1]
  refine ⟨rfl, by omega, by rw [h3, lay_s k0], by rw [h4, lay_s k0], fun s a b => ?_, by rw [h6, scG_s hg], mdS_side h7 ok, fun f a b => ?_, fun f a => ?_⟩
  · by_cases e : s = k
    · rw [e, uI_eq]
    · rw [uI_ne e]; exact h5 s a (by omega)
  · obtain ⟨g1, g2, g3, g4, g5, g6⟩ := hg
    rw [asC_at (nf := nf) (by omega) g2 a, osd_new k0, h8 f a b]
  · obtain ⟨g1, g2, g3, g4, g5, g6⟩ := hg
    rw [asC_out (by omega) (by omega)]; exact h9 f a
/-- the reference's rows while a grid is laid -/
def grI (nf cl : Int) (o10 o20 my0 : Int → Int) (k ns : Int) (o1 o2 my : Int → Int) : Prop := ns = k ∧ o1 = lay (gA nf cl) o10 k ∧ o2 = lay (gN nf cl) o20 k ∧ my = scG nf cl my0 k
theorem grI_0 {nf cl : Int} {o1 o2 my my0 : Int → Int} (hn : 0 ≤ nf) (hc : 1 ≤ cl) (hs : my = lay (fun _ => 0) my0 nf) : grI nf cl o1 o2 my0 0 0 o1 o2 my := ⟨rfl, (lay_0 _ _).symm, (lay_0 _ _).symm, by rw [hs, scG_0 hc hn]⟩
theorem grI_s {nf cl k ns : Int} {o10 o20 my0 o1 o2 my : Int → Int} (h : grI nf cl o10 o20 my0 k ns o1 o2 my) (k0 : 0 ≤ k) (hg : gOK nf cl k) : grI nf cl o10 o20 my0 (k + 1) (ns + 1) (uI o1 ns (gA nf cl k)) (uI o2 ns (gN nf cl k)) (asC my (gA nf cl k) (gN nf cl k)) := by
  obtain ⟨h1, h2, h3, h4⟩ := h
  rw [h1]
  exact ⟨rfl, by rw [h2, lay_s k0], by rw [h3, lay_s k0], by rw [h4, scG_s hg]⟩
/-- level sides: in row r at place c -/
theorem g_h {nf cl rw r c k : Int} (hc : 1 ≤ cl) (hw : 1 ≤ rw) (en : nf = rw * cl) (r0 : 0 ≤ r) (r1 : r ≤ rw) (c0 : 0 ≤ c) (c1 : c < cl) (hk : k = r * cl + c) : (0 ≤ k ∧ k < nf + cl) ∧ gOK nf cl k ∧ gA nf cl k = (if 0 < r then k - cl else k) ∧ gN nf cl k = (if 0 < r ∧ r < rw then k else -1) := by
  have p0 : 0 ≤ r * cl := Int.mul_nonneg r0 (by omega)
  have pw : cl ≤ rw * cl := by
    have := Int.mul_le_mul_of_nonneg_right hw (show 0 ≤ cl by omega)
    omega
  have p1 : r * cl ≤ rw * cl := Int.mul_le_mul_of_nonneg_right r1 (by omega)
  have p2' : 0 < r → cl ≤ r * cl := fun g => by
    have := Int.mul_le_mul_of_nonneg_right (show 1 ≤ r by omega) (show 0 ≤ cl by omega)
    omega
  have p3 : r < rw → r * cl + cl ≤ rw * cl := fun g => by
    have := Int.mul_le_mul_of_nonneg_right (show r + 1 ≤ rw by omega) (show 0 ≤ cl by omega)
    rw [Int.add_mul] at this
    omega
  have kb : k < nf + cl := by omega
  refine ⟨by omega, gOK_h hc (by omega) (by omega) kb, ?_, ?_⟩
  · unfold gA
    rw [if_pos kb]
    by_cases g : 0 < r
    · have := p2' g
      rw [if_pos g, if_neg (by omega)]
    · have : r = 0 := by omega
      rw [this] at hk
      rw [if_neg g, if_pos (by omega)]
  · unfold gN
    rw [if_pos kb]
    by_cases g : 0 < r
    · have u := p2' g
      by_cases f : r < rw
      · have := p3 f
        rw [if_pos (show 0 < r ∧ r < rw from ⟨g, f⟩), if_neg (show ¬ (k < cl ∨ nf ≤ k) by omega)]
      · have : r = rw := by omega
        rw [this] at hk
        rw [if_neg (show ¬ (0 < r ∧ r < rw) from fun z => f z.2), if_pos (show k < cl ∨ nf ≤ k by omega)]
    · have : r = 0 := by omega
      rw [this] at hk
      rw [if_neg (show ¬ (0 < r ∧ r < rw) from fun z => g z.1), if_pos (show k < cl ∨ nf ≤ k by omega)]
/-- upright sides: in row r at place c -/
theorem g_v {nf cl rw r c k : Int} (hc : 1 ≤ cl) (en : nf = rw * cl) (r0 : 0 ≤ r) (r1 : r < rw) (c0 : 0 ≤ c) (c1 : c ≤ cl) (hk : k = nf + cl + (r * cl + r + c)) : (0 ≤ k ∧ k < nf + cl + nf + rw) ∧ gOK nf cl k ∧ gA nf cl k = (if 0 < c then r * cl + c - 1 else r * cl + c) ∧ gN nf cl k = (if 0 < c ∧ c < cl then r * cl + c else -1) := by
  have e : r * cl = cl * r := Int.mul_comm _ _
  have p0 : 0 ≤ cl * r := Int.mul_nonneg (by omega) r0
  have p3 : cl * r + cl ≤ nf := by
    have := Int.mul_le_mul_of_nonneg_right (show r + 1 ≤ rw by omega) (show 0 ≤ cl by omega)
    rw [Int.add_mul] at this
    omega
  have q := gOK_v (nf := nf) (k := k) hc r0 p3 c0 c1 (by omega)
  refine ⟨by omega, q.1, ?_, ?_⟩
  · rw [q.2.1, e]
    by_cases z : c = 0
    · rw [if_pos z, if_neg (by omega)]
    · rw [if_neg z, if_pos (by omega)]
  · rw [q.2.2, e]
    by_cases z : c = 0 ∨ c = cl
    · rw [if_pos z, if_neg (by omega)]
    · rw [if_neg z, if_pos (by omega)]
theorem grI_t {nf cl k ns pA pB : Int} {o10 o20 my0 o1 o2 my : Int → Int} (h : grI nf cl o10 o20 my0 k ns o1 o2 my) (k0 : 0 ≤ k) (hg : gOK nf cl k) (ea : pA = gA nf cl k) (eb : pB = gN nf cl k) : grI nf cl o10 o20 my0 (k + 1) (ns + 1) (uI o1 ns pA) (uI o2 ns pB) (asC my pA pB) := by
  rw [ea, eb]; exact grI_s h k0 hg
theorem gdI_t {nf cl k ns no pA pB : Int} {fa0 sb0 sc0 oc0 fa sb un sx sc oc : Int → Int} (h : gdI nf cl fa0 sb0 sc0 oc0 k ns no fa sb un sx sc oc) (k0 : 0 ≤ k) (k1 : k < 500) (hg : gOK nf cl k) (ea : pA = gA nf cl k) (eb : pB = gN nf cl k) : gdI nf cl fa0 sb0 sc0 oc0 (k + 1) (ns + 1) (no + 1) (uI fa ns pA) (uI sb ns pB) (uI un ns 1) (asX sx sc ns pA pB) (asC sc pA pB) (asC oc pA pB) := by
  rw [ea, eb]; exact gdI_s h k0 k1 hg
theorem gd_t {nf cl k ns no pA pB : Int} {fa0 sb0 sc0 oc0 fa sb un sx sc oc : Int → Int} (h : gdI nf cl fa0 sb0 sc0 oc0 k ns no fa sb un sx sc oc) (k1 : k < 500) (hg : gOK nf cl k) (ea : pA = gA nf cl k) (eb : pB = gN nf cl k) : sdOK 0 ns nf sc pA pB := by
  rw [ea, eb, h.2.2.2.2.2.1, h.1]; exact gd_ok hg k1
theorem gd_rg {nf cl k ns no : Int} {fa0 sb0 sc0 oc0 fa sb un sx sc oc : Int → Int} (h : gdI nf cl fa0 sb0 sc0 oc0 k ns no fa sb un sx sc oc) : rg sc nf 0 4 := fun g a b => h.2.2.2.2.2.2.1.2.2.2.2.2.1 g a b
theorem gmul {r c : Int} (hr : 1 ≤ r ∧ r ≤ 12) (hc : 1 ≤ c ∧ c ≤ 12) : 1 ≤ r * c ∧ r * c ≤ 144 := by
  have a := Int.mul_le_mul_of_nonneg_right hr.2 (show 0 ≤ c by omega)
  have b := Int.mul_le_mul_of_nonneg_right hr.1 (show 0 ≤ c by omega)
  omega
