/-! CLOSING IN ONE GO: the class's queue of fields with one side left -/
theorem qen_in {nf ct nq : Int} {p q : Int → Int} (h5 : qen nf ct nq p q) (h0 : 0 ≤ nq) {u : Int} (u0 : 0 ≤ u) (u1 : u < nf) (u2 : p u = ct) : ∃ i : Int, 0 ≤ i ∧ i < nq ∧ q i = u := by
  apply Classical.byContradiction
  intro z
  have e := h5 (fun v => if v = u then 1 else 0)
  rw [su_congr (g := fun _ => 0) (n := nq) (fun j a b => by
    show (if q j = u then (1 : Int) else 0) = 0
    rw [if_neg (fun w => z ⟨j, a, b, w⟩)]), su_const 0 (by omega)] at e
  rw [su_congr (g := fun v => if v = u then 1 else 0) (n := nf) (fun j a b => by
    show (if p j = ct then (if j = u then (1 : Int) else 0) else 0) = (if j = u then 1 else 0)
    by_cases k : j = u
    · rw [k, if_pos u2]
    · rw [if_neg k, ite_self]), su_one u0 u1] at e
  omega
/-- a field with one open side has one that it is -/
theorem osd_one {x o1 o2 : Int → Int} {ns f : Int} (h : osd x o1 o2 f ns = 1) : ∃ t : Int, 0 ≤ t ∧ t < ns ∧ x t = 1 ∧ (o1 t = f ∨ o2 t = f) := by
  obtain ⟨t, t0, t1, t2⟩ := su_ex (f := inc x o1 o2 f) (n := ns) (show 0 < osd x o1 o2 f ns by omega)
  refine ⟨t, t0, t1, ?_⟩
  apply Classical.byContradiction
  intro g
  unfold inc at t2
  rw [if_neg g] at t2
  omega
theorem acr_two {fa sb : Int → Int} {t fd : Int} (hi : fa t = fd ∨ sb t = fd) (f : Int) : (fa t = f ∨ sb t = f) ↔ (f = fd ∨ f = acr fa sb t fd) := by
  unfold acr
  by_cases e : fa t = fd
  · rw [if_pos e]; constructor <;> intro g <;> omega
  · rw [if_neg e]; constructor <;> intro g <;> omega
theorem clF_nb {x o1 o2 : Int → Int} {ns t fd : Int} (h0 : 0 ≤ o1 t) (hi : o1 t = fd ∨ o2 t = fd) (f0 : 0 ≤ fd) (h1 : osd x o1 o2 fd ns = 1) : clF x o1 o2 ns t = 1 + (if acr o1 o2 t fd ≠ -1 ∧ osd x o1 o2 (acr o1 o2 t fd) ns = 1 then 1 else 0) := by
  unfold clF
  by_cases e : o1 t = fd
  · rw [show acr o1 o2 t fd = o2 t from if_pos e, if_pos (show osd x o1 o2 (o1 t) ns = 1 by rw [e]; exact h1)]
  · have e2 : o2 t = fd := hi.resolve_left e
    rw [show acr o1 o2 t fd = o1 t from if_neg e, if_pos (show o2 t ≠ -1 ∧ osd x o1 o2 (o2 t) ns = 1 from ⟨by omega, by rw [e2]; exact h1⟩)]
    by_cases k : osd x o1 o2 (o1 t) ns = 1
    · rw [if_pos k, if_pos (show o1 t ≠ -1 ∧ osd x o1 o2 (o1 t) ns = 1 from ⟨by omega, k⟩)]
    · rw [if_neg k, if_neg (show ¬ (o1 t ≠ -1 ∧ osd x o1 o2 (o1 t) ns = 1) from fun z => k z.2)]; rfl
/-- x: the sides that are left; lt: how many each field has; a side that is gone has a field that is closed -/
def cx (un fa sb : Int → Int) (nf ns : Int) (x lt : Int → Int) : Prop := bo x ns ∧ sbs ns x un ∧ (∀ f : Int, 0 ≤ f → f < nf → lt f = osd x fa sb f ns) ∧ (∀ s : Int, 0 ≤ s → s < ns → un s = 1 → x s = 1 ∨ osd x fa sb (fa s) ns = 0 ∨ (sb s ≠ -1 ∧ osd x fa sb (sb s) ns = 0))
/-- the queue: its fields are those with the mark 1 -/
def cq (nf : Int) (lt mk : Int → Int) (nq : Int) (q : Int → Int) : Prop := (0 ≤ nq ∧ nq ≤ nf) ∧ qen nf 1 nq mk q ∧ (∀ j : Int, 0 ≤ j → j < nq → 0 ≤ q j ∧ q j < nf ∧ mk (q j) = 1) ∧ (∀ g : Int, 0 ≤ g → g < nf → mk g = 1 → lt g ≤ 1) ∧ (∀ g : Int, 0 ≤ g → g < nf → lt g = 1 → mk g = 1)
theorem cx_drop {un fa sb x lt lt1 : Int → Int} {nf ns t fd : Int} (h : cx un fa sb nf ns x lt) (hns : 0 ≤ ns) (t0 : 0 ≤ t) (t1 : t < ns) (ht : x t = 1) (f0 : 0 ≤ fd) (hi : fa t = fd ∨ sb t = fd) (h1 : osd x fa sb fd ns = 1) (hl : ∀ f : Int, 0 ≤ f → f < nf → lt1 f = osd (uI x t 0) fa sb f ns) : cx un fa sb nf ns (uI x t 0) lt1 := by
  have hd : ∀ f : Int, osd (uI x t 0) fa sb f ns ≤ osd x fa sb f ns := fun f => by rw [osd_drop t0 t1 ht]; have := ite_bd (fa t = f ∨ sb t = f); omega
  have hz : ∀ f : Int, osd x fa sb f ns = 0 → osd (uI x t 0) fa sb f ns = 0 := fun f e => by have a := hd f; have b := (osd_bd (uI x t 0) fa sb f hns).1; omega
  have hz2 : osd (uI x t 0) fa sb fd ns = 0 := by rw [osd_drop t0 t1 ht, if_pos hi]; omega
  refine ⟨fun s a b => ?_, fun s a b e => ?_, hl, fun s a b e => ?_⟩
  · unfold uI; split; exact Or.inl rfl; exact h.1 s a b
  · by_cases k : s = t
    · rw [k, uI_eq] at e; omega
    · rw [uI_ne k] at e; exact h.2.1 s a b e
  · by_cases k : s = t
    · rcases hi with g | g
      · exact Or.inr (Or.inl (by rw [k, g]; exact hz2))
      · exact Or.inr (Or.inr (by rw [k, g]; exact ⟨by omega, hz2⟩))
    · rw [uI_ne k]
      rcases h.2.2.2 s a b e with g | g | g
      · exact Or.inl g
      · exact Or.inr (Or.inl (hz _ g))
      · exact Or.inr (Or.inr ⟨g.1, hz _ g.2⟩)
theorem cq_up {nf nq : Int} {lt lt1 mk q : Int → Int} (h : cq nf lt mk nq q) (hl : ∀ f : Int, 0 ≤ f → f < nf → lt1 f ≤ lt f) (hm : ∀ g : Int, 0 ≤ g → g < nf → lt1 g = 1 → mk g = 1) : cq nf lt1 mk nq q :=
  ⟨h.1, h.2.1, h.2.2.1, fun g a b e => by have u := h.2.2.2.1 g a b e; have v := hl g a b; omega, hm⟩
theorem cq_add {nf nq a : Int} {lt lt1 mk q : Int → Int} (h : cq nf lt mk nq q) (hl : ∀ f : Int, 0 ≤ f → f < nf → lt1 f ≤ lt f) (a0 : 0 ≤ a) (a1 : a < nf) (ha : lt1 a = 1) (hb : 1 < lt a) (hm : ∀ g : Int, 0 ≤ g → g < nf → g ≠ a → lt1 g = 1 → mk g = 1) : nq < nf ∧ cq nf lt1 (uI mk a 1) (nq + 1) (uI q nq a) := by
  have hk : mk a ≠ 1 := fun e => by have := h.2.2.2.1 a a0 a1 e; omega
  have h0 := h.1
  have e := qen_n h.2.1 h0.1
  have f := cF_lt a0 a1 hk
  refine ⟨by omega, by omega, qen_add h.2.1 h0.1 a0 a1 hk, fun j j0 j1 => ?_, fun g g0 g1 e => ?_, fun g g0 g1 e => ?_⟩
  · by_cases k : j = nq
    · rw [k, uI_eq, uI_eq]; exact ⟨a0, a1, rfl⟩
    · rw [uI_ne k]
      obtain ⟨b1, b2, b3⟩ := h.2.2.1 j j0 (by omega)
      refine ⟨b1, b2, ?_⟩
      unfold uI
      split
      · rfl
      · exact b3
  · by_cases k : g = a
    · rw [k, ha]; omega
    · rw [uI_ne k] at e
      have u := h.2.2.2.1 g g0 g1 e
      have v := hl g g0 g1
      omega
  · by_cases k : g = a
    · rw [k, uI_eq]
    · rw [uI_ne k]; exact hm g g0 g1 k e
/-- what closing one has done -/
def clP (un fa sb : Int → Int) (nf ns : Int) (x lt : Int → Int) (nq : Int) (q : Int → Int) (fd : Int) (lt1 : Int → Int) (nq1 : Int) (q1 : Int → Int) (z : Int) : Prop := ∃ x1 mk1 : Int → Int, cx un fa sb nf ns x1 lt1 ∧ cq nf lt1 mk1 nq1 q1 ∧ lt1 fd = 0 ∧ (∀ f : Int, 0 ≤ f → f < nf → lt1 f ≤ lt f) ∧ z = zer x1 fa sb nf ns - zer x fa sb nf ns ∧ (∀ x0 : Int → Int, pee fa sb ns x0 x → pee fa sb ns x0 x1) ∧ nq ≤ nq1 ∧ (∀ j : Int, j < nq → q1 j = q j) ∧ (∀ f : Int, 0 ≤ f → f < 200 → 0 ≤ lt1 f ∧ lt1 f ≤ 4)
theorem clP_none {un fa sb x lt mk q : Int → Int} {nf ns nq fd : Int} (h : cx un fa sb nf ns x lt) (h2 : cq nf lt mk nq q) (hlt : ∀ f : Int, 0 ≤ f → f < 200 → 0 ≤ lt f ∧ lt f ≤ 4) (e : lt fd = 0) : clP un fa sb nf ns x lt nq q fd lt nq q 0 :=
  ⟨x, mk, h, h2, e, fun _ _ _ => Int.le_refl _, by omega, fun _ g => g, Int.le_refl _, fun _ _ => rfl, hlt⟩
/-- the last side of a field, as the class finds it -/
theorem nb_side {un fa sb sx sc x lt : Int → Int} {nf ns fd z : Int} (h : cx un fa sb nf ns x lt) (f0 : 0 ≤ fd) (f1 : fd < nf) (h1 : lt fd = 1) (ho1 : ∀ j : Int, 0 ≤ j → j < ns → 0 ≤ fa j ∧ fa j < nf) (ho2 : ∀ j : Int, 0 ≤ j → j < ns → -1 ≤ sb j ∧ sb j < nf)
    (hsx : ∀ g j : Int, 0 ≤ g → g < nf → 0 ≤ j → j < sc g → 0 ≤ sx (g * 4 + j) ∧ sx (g * 4 + j) < ns ∧ (fa (sx (g * 4 + j)) = g ∨ sb (sx (g * 4 + j)) = g)) (hinc : ∀ g s : Int, 0 ≤ g → g < nf → 0 ≤ s → s < ns → (fa s = g ∨ sb s = g) → ∃ j : Int, 0 ≤ j ∧ j < sc g ∧ sx (g * 4 + j) = s)
    (hz : (∃ j : Int, 0 ≤ j ∧ j < sc fd ∧ nbL fa sb un sx lt fd j ∧ z = acr fa sb (sx (fd * 4 + j)) fd) ∨ ((∀ j : Int, 0 ≤ j → j < sc fd → ¬ nbL fa sb un sx lt fd j) ∧ z = -1)) :
    osd x fa sb fd ns = 1 ∧ ∃ t : Int, 0 ≤ t ∧ t < ns ∧ x t = 1 ∧ (fa t = fd ∨ sb t = fd) ∧ z = acr fa sb t fd := by
  have ho : osd x fa sb fd ns = 1 := by rw [← h.2.2.1 fd f0 f1]; exact h1
  refine ⟨ho, ?_⟩
  rcases hz with ⟨j, j0, j1, ⟨k1, k2, k3⟩, k4⟩ | ⟨hn, hz⟩
  · obtain ⟨s0, s1, s2⟩ := hsx fd j f0 f1 j0 j1
    have a1 := ho1 _ s0 s1
    have a2 := ho2 _ s0 s1
    have tw := acr_two s2
    refine ⟨sx (fd * 4 + j), s0, s1, ?_, s2, k4⟩
    have key : ∀ f : Int, 0 ≤ f → f < nf → (fa (sx (fd * 4 + j)) = f ∨ sb (sx (fd * 4 + j)) = f) → osd x fa sb f ns ≠ 0 := fun f g0 g1 g2 => by
      rcases (tw f).mp g2 with e | e
      · rw [e]; omega
      · rw [← e, h.2.2.1 f g0 g1] at k3; omega
    rcases h.2.2.2 _ s0 s1 k1 with g | g | g
    · exact g
    · exact absurd g (key _ a1.1 a1.2 (Or.inl rfl))
    · exact absurd g.2 (key _ (by omega) a2.2 (Or.inr rfl))
  · obtain ⟨t, t0, t1, t2, t3⟩ := osd_one ho
    refine ⟨t, t0, t1, t2, t3, ?_⟩
    obtain ⟨j, j0, j1, j2⟩ := hinc fd t f0 f1 t0 t1 t3
    have hj := hn j j0 j1
    unfold nbL at hj
    rw [j2] at hj
    have a1 := ho1 t t0 t1
    have a2 := ho2 t t0 t1
    have tw := (acr_two t3 (acr fa sb t fd)).mpr (Or.inr rfl)
    apply Classical.byContradiction
    intro c
    have p := osd_pos (x := x) t0 t1 t2 tw
    have b : 0 ≤ acr fa sb t fd ∧ acr fa sb t fd < nf := by rcases tw with e | e <;> omega
    exact hj ⟨h.2.1 t t0 t1 t2, by omega, by rw [h.2.2.1 _ b.1 b.2]; exact p⟩
theorem clP_rim {un fa sb x lt mk q : Int → Int} {nf ns nq fd t : Int} (h : cx un fa sb nf ns x lt) (h2 : cq nf lt mk nq q) (hns : 0 ≤ ns) (hlt : ∀ f : Int, 0 ≤ f → f < 200 → 0 ≤ lt f ∧ lt f ≤ 4) (ho1 : ∀ j : Int, 0 ≤ j → j < ns → 0 ≤ fa j ∧ fa j < nf) (ho2 : ∀ j : Int, 0 ≤ j → j < ns → -1 ≤ sb j ∧ sb j < nf) (hne : ∀ j : Int, 0 ≤ j → j < ns → fa j ≠ sb j)
    (f0 : 0 ≤ fd) (f1 : fd < nf) (ho : osd x fa sb fd ns = 1) (t0 : 0 ≤ t) (t1 : t < ns) (t2 : x t = 1) (t3 : fa t = fd ∨ sb t = fd) (e : acr fa sb t fd = -1) : clP un fa sb nf ns x lt nq q fd (uI lt fd 0) nq q 1 := by
  have hl : ∀ f : Int, 0 ≤ f → f < nf → uI lt fd 0 f = osd (uI x t 0) fa sb f ns := fun f a b => by
    rw [osd_drop t0 t1 t2]
    by_cases k : f = fd
    · rw [k, uI_eq, if_pos t3]; omega
    · rw [uI_ne k, h.2.2.1 f a b, if_neg (fun z => ((acr_two t3 f).mp z).elim k (fun w => by omega))]; omega
  have hle : ∀ f : Int, 0 ≤ f → f < nf → uI lt fd 0 f ≤ lt f := fun f a b => by
    by_cases k : f = fd
    · rw [k, uI_eq, h.2.2.1 fd f0 f1]; omega
    · rw [uI_ne k]; exact Int.le_refl _
  have hc := clF_nb (ho1 t t0 t1).1 t3 f0 ho
  rw [if_neg (show ¬ (acr fa sb t fd ≠ -1 ∧ osd x fa sb (acr fa sb t fd) ns = 1) from fun z => z.1 e)] at hc
  refine ⟨uI x t 0, mk, cx_drop h hns t0 t1 t2 f0 t3 ho hl, cq_up h2 hle (fun g a b k => ?_), uI_eq _ _ _, hle, ?_, fun x0 hp => pee_s hp t0 t1 t2 (by omega), Int.le_refl _, fun _ _ => rfl, fun f a b => ?_⟩
  · by_cases j : g = fd
    · rw [j, uI_eq] at k; omega
    · rw [uI_ne j] at k; exact h2.2.2.2.2 g a b k
  · rw [zer_drop t0 t1 t2 (ho1 t t0 t1) (ho2 t t0 t1) (hne t t0 t1)]; omega
  · by_cases j : f = fd
    · rw [j, uI_eq]; omega
    · rw [uI_ne j]; exact hlt f a b
theorem clP_nb {un fa sb x lt mk q q1 : Int → Int} {nf ns nq nq1 fd t a : Int} (h : cx un fa sb nf ns x lt) (h2 : cq nf lt mk nq q) (hns : 0 ≤ ns) (hnf : nf ≤ 200) (hlt : ∀ f : Int, 0 ≤ f → f < 200 → 0 ≤ lt f ∧ lt f ≤ 4) (ho1 : ∀ j : Int, 0 ≤ j → j < ns → 0 ≤ fa j ∧ fa j < nf) (ho2 : ∀ j : Int, 0 ≤ j → j < ns → -1 ≤ sb j ∧ sb j < nf) (hne : ∀ j : Int, 0 ≤ j → j < ns → fa j ≠ sb j)
    (f0 : 0 ≤ fd) (f1 : fd < nf) (ho : osd x fa sb fd ns = 1) (t0 : 0 ≤ t) (t1 : t < ns) (t2 : x t = 1) (t3 : fa t = fd ∨ sb t = fd) (ea : a = acr fa sb t fd) (e : a ≠ -1)
    (hq : (lt a - 1 = 1 ∧ nq < 200 ∧ nq1 = nq + 1 ∧ q1 = uI q nq a) ∨ (¬ (lt a - 1 = 1 ∧ nq < 200) ∧ nq1 = nq ∧ q1 = q)) : clP un fa sb nf ns x lt nq q fd (uI (uI lt fd 0) a (lt a - 1)) nq1 q1 (if lt a - 1 = 0 then 2 else 1) := by
  have tw := acr_two t3
  have n1 := hne t t0 t1
  have o1 := ho1 t t0 t1
  have o2 := ho2 t t0 t1
  have ta := (tw a).mpr (Or.inr ea)
  have ab : 0 ≤ a ∧ a < nf := by rcases ta with g | g <;> omega
  have af : a ≠ fd := by
    rw [ea]
    unfold acr
    by_cases g : fa t = fd
    · rw [if_pos g]; omega
    · rw [if_neg g]; exact g
  have pa := osd_pos (x := x) t0 t1 t2 ta
  have la := h.2.2.1 a ab.1 ab.2
  have lf := h.2.2.1 fd f0 f1
  have h200 : lt a ≤ 4 := (hlt a ab.1 (by omega)).2
  have hl : ∀ f : Int, 0 ≤ f → f < nf → uI (uI lt fd 0) a (lt a - 1) f = osd (uI x t 0) fa sb f ns := fun f u v => by
    rw [osd_drop t0 t1 t2]
    by_cases k : f = a
    · rw [k, uI_eq, if_pos ta]; omega
    · rw [uI_ne k]
      by_cases j : f = fd
      · rw [j, uI_eq, if_pos t3]; omega
      · rw [uI_ne j, h.2.2.1 f u v, if_neg (fun z => ((tw f).mp z).elim j (fun w => k (by rw [ea]; exact w)))]; omega
  have hle : ∀ f : Int, 0 ≤ f → f < nf → uI (uI lt fd 0) a (lt a - 1) f ≤ lt f := fun f u v => by
    by_cases k : f = a
    · rw [k, uI_eq]; omega
    · rw [uI_ne k]
      by_cases j : f = fd
      · rw [j, uI_eq]; omega
      · rw [uI_ne j]; exact Int.le_refl _
  have hot : ∀ g : Int, 0 ≤ g → g < nf → g ≠ a → uI (uI lt fd 0) a (lt a - 1) g = 1 → mk g = 1 := fun g u v w k => by
    rw [uI_ne w] at k
    by_cases j : g = fd
    · rw [j, uI_eq] at k; omega
    · rw [uI_ne j] at k; exact h2.2.2.2.2 g u v k
  have hc := clF_nb o1.1 t3 f0 ho
  rw [← ea] at hc
  have hz : (if lt a - 1 = 0 then (2 : Int) else 1) = zer (uI x t 0) fa sb nf ns - zer x fa sb nf ns := by
    rw [zer_drop t0 t1 t2 o1 o2 n1, hc]
    by_cases k : lt a = 1
    · rw [if_pos (by omega), if_pos (show a ≠ -1 ∧ osd x fa sb a ns = 1 from ⟨e, by omega⟩)]; omega
    · rw [if_neg (by omega), if_neg (show ¬ (a ≠ -1 ∧ osd x fa sb a ns = 1) from fun z => k (by omega))]; omega
  have hpe : ∀ x0 : Int → Int, pee fa sb ns x0 x → pee fa sb ns x0 (uI x t 0) := fun x0 hp => pee_s hp t0 t1 t2 (by have := ite_bd (a ≠ -1 ∧ osd x fa sb a ns = 1); omega)
  have hfd : uI (uI lt fd 0) a (lt a - 1) fd = 0 := by rw [uI_ne (fun z => af z.symm), uI_eq]
  have h4 : ∀ f : Int, 0 ≤ f → f < 200 → 0 ≤ uI (uI lt fd 0) a (lt a - 1) f ∧ uI (uI lt fd 0) a (lt a - 1) f ≤ 4 := fun f u v => by
    by_cases k : f = a
    · rw [k, uI_eq]; omega
    · rw [uI_ne k]
      by_cases j : f = fd
      · rw [j, uI_eq]; omega
      · rw [uI_ne j]; exact hlt f u v
  have hcx := cx_drop h hns t0 t1 t2 f0 t3 ho hl
  rcases hq with ⟨b1, b2, b3, b4⟩ | ⟨b1, b3, b4⟩
  · obtain ⟨c1, c2⟩ := cq_add h2 hle ab.1 ab.2 (by rw [uI_eq]; exact b1) (by omega) hot
    rw [b3, b4]
    exact ⟨uI x t 0, uI mk a 1, hcx, c2, hfd, hle, hz, hpe, by omega, fun j jn => uI_ne (by omega), h4⟩
  · rw [b3, b4]
    refine ⟨uI x t 0, mk, hcx, cq_up h2 hle (fun g u v k => ?_), hfd, hle, hz, hpe, by omega, fun _ _ => rfl, h4⟩
    by_cases j : g = a
    · exfalso
      rw [j, uI_eq] at k
      have l0 : 1 < lt a := by omega
      have hk : mk a ≠ 1 := fun w => by have := h2.2.2.2.1 a ab.1 ab.2 w; omega
      have e5 := qen_n h2.2.1 h2.1.1
      have f5 := cF_lt ab.1 ab.2 hk
      exact b1 ⟨k, by omega⟩
    · exact hot g u v j k
/-! the queue at first -/
def mkI (lt : Int → Int) (i : Int) : Int → Int := fun g => if g < i ∧ lt g = 1 then 1 else 0
def cqi (nf : Int) (lt : Int → Int) (i nq : Int) (q : Int → Int) : Prop := (0 ≤ nq ∧ nq ≤ i) ∧ qen nf 1 nq (mkI lt i) q ∧ (∀ j : Int, 0 ≤ j → j < nq → 0 ≤ q j ∧ q j < nf ∧ mkI lt i (q j) = 1)
theorem cqi_0 {nf : Int} {lt q : Int → Int} (hn : 0 ≤ nf) : cqi nf lt 0 0 q :=
  ⟨by omega, qen_0 hn (fun g a b => by unfold mkI; rw [if_neg (fun z => by omega)]; omega), fun j a b => by omega⟩
theorem cqi_add {nf i nq : Int} {lt q : Int → Int} (h : cqi nf lt i nq q) (i0 : 0 ≤ i) (i1 : i < nf) (e : lt i = 1) : cqi nf lt (i + 1) (nq + 1) (uI q nq i) := by
  have em : mkI lt (i + 1) = uI (mkI lt i) i 1 := funext fun g => by
    by_cases k : g = i
    · rw [k, uI_eq]; exact if_pos ⟨by omega, e⟩
    · rw [uI_ne k]
      unfold mkI
      by_cases j : g < i ∧ lt g = 1
      · rw [if_pos j, if_pos ⟨by omega, j.2⟩]
      · rw [if_neg j, if_neg (fun z => j ⟨by omega, z.2⟩)]
  have h0 := h.1
  refine ⟨by omega, ?_, fun j a b => ?_⟩
  · rw [em]
    exact qen_add h.2.1 h0.1 i0 i1 (by unfold mkI; rw [if_neg (fun z => by omega)]; omega)
  · rw [em]
    by_cases k : j = nq
    · rw [k, uI_eq, uI_eq]; exact ⟨i0, i1, rfl⟩
    · rw [uI_ne k]
      obtain ⟨b1, b2, b3⟩ := h.2.2 j a (by omega)
      refine ⟨b1, b2, ?_⟩
      unfold uI
      split
      · rfl
      · exact b3
theorem cqi_skip {nf i nq : Int} {lt q : Int → Int} (h : cqi nf lt i nq q) (e : lt i ≠ 1) : cqi nf lt (i + 1) nq q := by
  have em : mkI lt (i + 1) = mkI lt i := funext fun g => by
    unfold mkI
    by_cases j : g < i ∧ lt g = 1
    · rw [if_pos j, if_pos ⟨by omega, j.2⟩]
    · rw [if_neg j, if_neg (fun z => j ⟨by
        by_cases k : g = i
        · exact absurd (by rw [← k]; exact z.2) e
        · omega, z.2⟩)]
  have h0 := h.1
  exact ⟨by omega, by rw [em]; exact h.2.1, by rw [em]; exact h.2.2⟩
theorem cqi_end {nf nq : Int} {lt q : Int → Int} (h : cqi nf lt nf nq q) : cq nf lt (mkI lt nf) nq q :=
  ⟨h.1, h.2.1, h.2.2, fun g a b e => by
    unfold mkI at e
    by_cases k : g < nf ∧ lt g = 1
    · rw [k.2]; omega
    · rw [if_neg k] at e; omega, fun g a b e => if_pos ⟨b, e⟩⟩
/-- the state of the closing behind k of the queue -/
def cls (un fa sb : Int → Int) (nf ns k n nq : Int) (q lt : Int → Int) : Prop := ∃ x mk : Int → Int, cx un fa sb nf ns x lt ∧ cq nf lt mk nq q ∧ (∀ j : Int, 0 ≤ j → j < k → lt (q j) = 0) ∧ pee fa sb ns un x ∧ n = zer x fa sb nf ns - zer un fa sb nf ns
theorem cls_0 {un fa sb q lt : Int → Int} {nf ns nq : Int} (hb : bo un ns) (hl : ∀ f : Int, 0 ≤ f → f < nf → lt f = osd un fa sb f ns) (h : cqi nf lt nf nq q) : cls un fa sb nf ns 0 0 nq q lt :=
  ⟨un, mkI lt nf, ⟨hb, fun _ _ _ g => g, hl, fun s _ _ g => Or.inl g⟩, cqi_end h, fun j a b => by omega, pee_0 _ _ _ _, by omega⟩
theorem cls_s {un fa sb x mk q lt q1 lt1 : Int → Int} {nf ns k n nq nq1 z fd : Int} (hns : 0 ≤ ns) (hk : k < nq) (hcq : cq nf lt mk nq q) (hj : ∀ j : Int, 0 ≤ j → j < k → lt (q j) = 0) (hp : pee fa sb ns un x) (hn : n = zer x fa sb nf ns - zer un fa sb nf ns) (ef : fd = q k) (h : clP un fa sb nf ns x lt nq q fd lt1 nq1 q1 z) : cls un fa sb nf ns (k + 1) (n + z) nq1 q1 lt1 := by
  obtain ⟨x1, mk1, c1, c2, c3, c4, c5, c6, c7, c8, c9⟩ := h
  refine ⟨x1, mk1, c1, c2, fun j a b => ?_, c6 un hp, by omega⟩
  rw [c8 j (by omega)]
  by_cases e : j = k
  · rw [e, ← ef]; exact c3
  · have u := hj j a (by omega)
    have v := hcq.2.2.1 j a (by omega)
    have w := c4 (q j) v.1 v.2.1
    have r := (osd_bd x1 fa sb (q j) hns).1
    rw [← c1.2.2.1 (q j) v.1 v.2.1] at r
    omega
/-- at the end nothing can be closed -/
theorem cls_end {un fa sb q lt : Int → Int} {nf ns k n nq : Int} (ho1 : ∀ j : Int, 0 ≤ j → j < ns → 0 ≤ fa j ∧ fa j < nf) (ho2 : ∀ j : Int, 0 ≤ j → j < ns → -1 ≤ sb j ∧ sb j < nf) (hk : nq ≤ k) (h : cls un fa sb nf ns k n nq q lt) : ∃ y : Int → Int, pee fa sb ns un y ∧ sta fa sb ns y ∧ n = zer y fa sb nf ns - zer un fa sb nf ns := by
  obtain ⟨x, mk, c1, c2, c3, c4, c5⟩ := h
  refine ⟨x, c4, fun s a b e => ?_, c5⟩
  have no1 : ∀ f : Int, 0 ≤ f → f < nf → osd x fa sb f ns ≠ 1 := fun f f0 f1 g => by
    rw [← c1.2.2.1 f f0 f1] at g
    obtain ⟨i, i0, i1, i2⟩ := qen_in c2.2.1 c2.1.1 f0 f1 (c2.2.2.2.2 f f0 f1 g)
    have := c3 i i0 (by omega)
    rw [i2] at this
    omega
  have u := ho1 s a b
  have v := ho2 s a b
  unfold clF
  rw [if_neg (no1 _ u.1 u.2), if_neg (show ¬ (sb s ≠ -1 ∧ osd x fa sb (sb s) ns = 1) from fun w => no1 _ (by omega) v.2 w.2)]
  rfl
section IVCP
variable {p : Program} {l : Launch} {e : Env} {R : Room} {s : State} {m : MethodId} {args : Array Value} {below : List Frame} {meth : Method} {c : Code} {H : Heap} {locs : List Loc} {cells slots : Nat} {Q : State → Prop}
variable {cc : ByteArray} {pc : Nat} {ls : Array Slot} {rest : List Value} {D : va_G} {cl : List vw_C} {A : Nat → Prop} {a : Nat} {tys : List (ClassId × FieldType)} {ws : va_W} {H0 : Heap}
def cpI (f g : Int → Int) (n : Int) : Int → Int := fun j => if 0 ≤ j ∧ j < n then f j else g j
theorem cpI_ar {f g : Int → Int} {n : Int} (h : 0 ≤ n ∧ n < 2147483648) : va_cpy (ar f) (ar g) (iN 0).toNatClampNeg (iN 0).toNatClampNeg (iN n).toNatClampNeg = ar (cpI f g n) := by
  rw [iN_cl (by omega), iN_cl h]
  funext k
  show (if (0 : Int).toNat ≤ k ∧ k < (0 : Int).toNat + n.toNat then iN (f (((0 : Int).toNat + (k - (0 : Int).toNat) : Nat) : Int)) else iN (g k)) = iN (if 0 ≤ (k : Int) ∧ (k : Int) < n then f k else g k)
  by_cases e : (k : Int) < n
  · rw [if_pos (show (0 : Int).toNat ≤ k ∧ k < (0 : Int).toNat + n.toNat by omega), if_pos (show 0 ≤ (k : Int) ∧ (k : Int) < n by omega), show (0 : Int).toNat + (k - (0 : Int).toNat) = k by omega]
  · rw [if_neg (show ¬ ((0 : Int).toNat ≤ k ∧ k < (0 : Int).toNat + n.toNat) by omega), if_neg (show ¬ (0 ≤ (k : Int) ∧ (k : Int) < n) by omega)]
theorem iv_copyi (hx : p.tables.exec = Jvm.exec) (hb : c.code = cc) (hml : c.maxLocals = ls.size) {own : String} {index : Nat} (hown : s.vm.findClass own = some m.cls) (hlink : (Cond.methodLink own index ⟨"java/lang/System", "arraycopy", "(Ljava/lang/Object;ILjava/lang/Object;II)V"⟩).before args s = true) (hnat : (Cond.native ⟨"java/lang/System", "arraycopy", "(Ljava/lang/Object;ILjava/lang/Object;II)V"⟩).before args s = true) (hstat : (Cond.static ⟨"java/lang/System", "arraycopy", "(Ljava/lang/Object;ILjava/lang/Object;II)V"⟩).before args s = true) (hini : (Cond.initialized "java/lang/System").before args s = true)
    (hK : va_K D cl tys s) (hP : va_P D cl ws H) (hD : va_D A ws) (hS : va_S A H0 H locs) (q0 q1 t0 t1 : Nat) {a0 : Nat} {c0 c1 : ClassId} {n0 n1 : Nat} {f g : Int → Int} (ha0 : ws[q0]? = some (a0, .inl (c0, n0, .inl (ar f)))) (ha1 : ws[q1]? = some (a, .inl (c1, n1, .inl (ar g)))) (ht0 : tys[t0]? = some (c0, .int)) (ht1 : tys[t1]? = some (c1, .int))
    {n : Int} (hn : 0 ≤ n ∧ n ≤ n0 ∧ n ≤ n1) (hn0 : n0 < 2147483648) (hframes : 1 ≤ R.frames) (hlocals : (rest.map fun v => v.category).sum + (nativeFrameWords "java/lang/System" "arraycopy" 5 + 11) ≤ R.locals) (hdg : decode cc pc = .ok (.invokestatic index, 3))
    (kk : ∀ (H1 : Heap) (locs1 : List Loc), va_P D cl (ws.set q1 (a, .inl (c1, n1, .inl (ar (cpI f g n))))) H1 → va_D A (ws.set q1 (a, .inl (c1, n1, .inl (ar (cpI f g n))))) → va_S A H0 H1 locs1 → W p l e R s m args below meth c H1 locs1 cells slots Q (F0 m (pc + 3) ls rest)) : W p l e R s m args below meth c H locs cells slots Q (F0 m pc ls (.int (iN n) :: .int (iN 0) :: .ref a :: .int (iN 0) :: .ref a0 :: rest)) := by
  have z0 : (iN 0).toNatClampNeg = 0 := by rw [iN_cl (by omega)]; rfl
  have zn : (iN n).toNatClampNeg = n.toNat := iN_cl (by omega)
  have n0' : ¬ iN 0 < 0 := fun h => by have := (iN_lt (a := 0) (b := 0) (by omega) (by omega)).mp h; omega
  have n1' : ¬ iN n < 0 := fun h => by have := (iN_lt (a := n) (b := 0) (by omega) (by omega)).mp h; omega
  refine va_copyi (ty := .int) hx hb hml hown hlink hnat hstat hini hK hP hD hS q0 q1 t0 t1 ha0 ha1 ht0 ht1 rfl n0' n0' n1' (by rw [z0, zn]; omega) (by rw [z0, zn]; omega) (fun i _ => rfl) hframes hlocals hdg ?_
  rw [cpI_ar (by omega)]
  exact kk
end IVCP
