/-! sets made bit by bit; the base of the class's table -/
def mkB (P : Int → Prop) (n z : Int) : Prop := (0 ≤ z ∧ z < p2 n) ∧ ∀ j : Int, 0 ≤ j → j < n → (bt z j = 1 ↔ P j)
theorem mkB_0 {P : Int → Prop} : mkB P 0 0 := ⟨⟨by omega, by have := p2_pos 0; omega⟩, fun j a b => by omega⟩
theorem mkB_in {P : Int → Prop} {n z : Int} (hn : 0 ≤ n) (h : mkB P n z) (hi : P n) : mkB P (n + 1) (bO z (p2 n)) := by
  have pn := p2_pos n
  have o0 : 0 ≤ bO z (p2 n) := by unfold bO; omega
  refine ⟨⟨o0, bt_lt o0 (by omega) (fun j hj => ?_)⟩, fun j j0 j1 => ?_⟩
  · have y := bt_hi h.1.1 h.1.2 hn (show n ≤ j by omega)
    rw [Ne, bt_or h.1.1 (by omega) (by omega), bt_p2 hn (by omega)]
    omega
  · rw [bt_or h.1.1 (by omega) j0, bt_p2 hn j0]
    by_cases e : j = n
    · rw [e]; exact ⟨fun _ => hi, fun _ => Or.inr rfl⟩
    · rw [← h.2 j j0 (by omega)]
      exact ⟨fun g => g.resolve_right e, Or.inl⟩
theorem mkB_out {P : Int → Prop} {n z : Int} (hn : 0 ≤ n) (h : mkB P n z) (hi : ¬ P n) : mkB P (n + 1) z := by
  have pn := p2_lt hn (show n < n + 1 by omega)
  refine ⟨⟨h.1.1, by have := h.1.2; omega⟩, fun j j0 j1 => ?_⟩
  by_cases e : j = n
  · rw [e]
    have y := bt_hi h.1.1 h.1.2 hn (Int.le_refl n)
    exact ⟨fun g => by omega, fun g => absurd g hi⟩
  · exact h.2 j j0 (by omega)
theorem msk_mkB {b o1 o2 : Int → Int} {n f z : Int} (h : mkB (fun j => o1 (b j) = f ∨ o2 (b j) = f) n z) : msk b o1 o2 n f z := h
/-- which of the base are open -/
def opB (un ba : Int → Int) (ns : Int) : Int → Prop := fun j => 0 ≤ ba j ∧ ba j < ns ∧ un (ba j) = 1
theorem nop_sub {x y : Int → Int} {n : Int} (h : ∀ s : Int, 0 ≤ s → s < n → x s = 1 → y s = 1) : nop x n ≤ nop y n := su_le (fun s a b => by
  show (if x s = 1 then (1 : Int) else 0) ≤ (if y s = 1 then 1 else 0)
  by_cases e : x s = 1
  · rw [if_pos e, if_pos (h s a b e)]; omega
  · rw [if_neg e]; exact (ite_bd _).1)
theorem xs_all {b : Int → Int} {n ns : Int} (h : inj b n ns) (hn : 0 ≤ n) : nop (xs b n (p2 n - 1)) ns = n := by
  rw [xs_nop h hn, su_congr (g := fun _ => 1) (n := n) (fun j a b => by
    show (if bt (p2 n - 1) j = 1 then (1 : Int) else 0) = 1
    rw [if_pos (bt_full a b)]), su_const 1 hn]
  omega
/-- open sides listed once each, and one more that is not among them -/
theorem inj_lt {b un : Int → Int} {n ns s : Int} (h : inj b n ns) (hn : 0 ≤ n) (ho : ∀ j : Int, 0 ≤ j → j < n → un (b j) = 1) (s0 : 0 ≤ s) (s1 : s < ns) (hs : un s = 1) (hx : ∀ j : Int, 0 ≤ j → j < n → b j ≠ s) : n < nop un ns := by
  have a := xs_all h hn
  have z : xs b n (p2 n - 1) s = 0 := xs_no hn hx
  have u : nop (uI (xs b n (p2 n - 1)) s 1) ns = nop (xs b n (p2 n - 1)) ns + 1 := by
    unfold nop
    rw [su_up (f := fun t => if uI (xs b n (p2 n - 1)) s 1 t = 1 then 1 else 0) (g := fun t => if xs b n (p2 n - 1) t = 1 then 1 else 0) (k := s) (fun j hj => by rw [uI_ne hj]) s0 s1]
    rw [uI_eq, if_pos rfl, z, if_neg (by omega)]
    omega
  have v := nop_sub (x := uI (xs b n (p2 n - 1)) s 1) (y := un) (n := ns) (fun t t0 t1 e => by
    by_cases c : t = s
    · rw [c]; exact hs
    · rw [uI_ne c] at e
      obtain ⟨j, j0, j1, j2, j3⟩ := xs_ex e
      rw [← j2]; exact ho j j0 j1)
  omega
theorem inj_le {b un : Int → Int} {n ns : Int} (h : inj b n ns) (hn : 0 ≤ n) (ho : ∀ j : Int, 0 ≤ j → j < n → un (b j) = 1) : n ≤ nop un ns := by
  have a := xs_all h hn
  have v := nop_sub (x := xs b n (p2 n - 1)) (y := un) (n := ns) (fun t t0 t1 e => by
    obtain ⟨j, j0, j1, j2, j3⟩ := xs_ex e
    rw [← j2]; exact ho j j0 j1)
  omega
theorem inj_mono {b : Int → Int} {n m ns ns' : Int} (h : inj b n ns) (hm : m ≤ n) (hs : ns ≤ ns') : inj b m ns' :=
  ⟨fun j a c => by have := h.1 j a (by omega); omega, fun i j a c d e f => h.2 i j a (by omega) d (by omega) f⟩
theorem inj_add {b : Int → Int} {n ns s : Int} (h : inj b n ns) (hn : 0 ≤ n) (s0 : 0 ≤ s) (s1 : s < ns) (hx : ∀ j : Int, 0 ≤ j → j < n → b j ≠ s) : inj (uI b n s) (n + 1) ns := by
  refine ⟨fun j a c => ?_, fun i j a c d e f => ?_⟩
  · by_cases g : j = n
    · rw [g, uI_eq]; exact ⟨s0, s1⟩
    · rw [uI_ne g]; exact h.1 j a (by omega)
  · by_cases g : i = n
    · by_cases k : j = n
      · omega
      · rw [g, uI_eq, uI_ne k] at f
        exact absurd f.symm (hx j d (by omega))
    · by_cases k : j = n
      · rw [k, uI_eq, uI_ne g] at f
        exact absurd f (hx i a (by omega))
      · rw [uI_ne g, uI_ne k] at f
        exact h.2 i j a (by omega) d (by omega) f
/-- the base while it is widened: sides below i are in it -/
def wdI (un ba : Int → Int) (ns kp i w : Int) (b : Int → Int) : Prop := (kp ≤ w ∧ w ≤ 16) ∧ (∀ j : Int, 0 ≤ j → j < kp → b j = ba j) ∧ inj b w ns ∧ (∀ j : Int, 0 ≤ j → j < w → un (b j) = 1) ∧ (∀ s : Int, 0 ≤ s → s < i → un s = 1 → ∃ j : Int, 0 ≤ j ∧ j < w ∧ b j = s) ∧ (∀ j : Int, kp ≤ j → j < w → b j < i)
theorem wdI_0 {un ba : Int → Int} {ns kp : Int} (h : inj ba kp ns) (hk : 0 ≤ kp ∧ kp ≤ 16) (ho : ∀ j : Int, 0 ≤ j → j < kp → un (ba j) = 1) : wdI un ba ns kp 0 kp ba :=
  ⟨by omega, fun _ _ _ => rfl, h, ho, fun s a b => by omega, fun j a b => by omega⟩
theorem wdI_skip {un ba b : Int → Int} {ns kp i w : Int} (h : wdI un ba ns kp i w b) (e : un i = 1 → ∃ j : Int, 0 ≤ j ∧ j < w ∧ b j = i) : wdI un ba ns kp (i + 1) w b := by
  obtain ⟨h1, h2, h3, h4, h5, h6⟩ := h
  refine ⟨h1, h2, h3, h4, fun s a c d => ?_, fun j a c => by have := h6 j a c; omega⟩
  by_cases g : s = i
  · rw [g] at d ⊢; exact e d
  · exact h5 s a (by omega) d
theorem wdI_no {un ba b : Int → Int} {ns kp i w : Int} (h : wdI un ba ns kp i w b) (e : ∀ j : Int, 0 ≤ j → j < kp → ba j ≠ i) : ∀ j : Int, 0 ≤ j → j < w → b j ≠ i := fun j a c => by
  by_cases g : j < kp
  · rw [h.2.1 j a g]; exact e j a g
  · have := h.2.2.2.2.2 j (by omega) c; omega
theorem wdI_new {un ba b : Int → Int} {ns kp i w : Int} (h : wdI un ba ns kp i w b) (k0 : 0 ≤ kp) (hw : w < 16) (i0 : 0 ≤ i) (i1 : i < ns) (hu : un i = 1) (e : ∀ j : Int, 0 ≤ j → j < kp → ba j ≠ i) : wdI un ba ns kp (i + 1) (w + 1) (uI b w i) := by
  have no := wdI_no h e
  obtain ⟨h1, h2, h3, h4, h5, h6⟩ := h
  refine ⟨by omega, fun j a c => by rw [uI_ne (by omega)]; exact h2 j a c, inj_add h3 (by omega) i0 i1 no, fun j a c => ?_, fun s a c d => ?_, fun j a c => ?_⟩
  · by_cases g : j = w
    · rw [g, uI_eq]; exact hu
    · rw [uI_ne g]; exact h4 j a (by omega)
  · by_cases g : s = i
    · exact ⟨w, by omega, by omega, by rw [uI_eq]; exact g.symm⟩
    · obtain ⟨j, j0, j1, j2⟩ := h5 s a (by omega) d
      exact ⟨j, j0, by omega, by rw [uI_ne (by omega)]; exact j2⟩
  · by_cases g : j = w
    · rw [g, uI_eq]; omega
    · rw [uI_ne g]; have := h6 j a (by omega); omega
/-- the masks of the first n of the base -/
def mkA (ba fa sb : Int → Int) (wz n : Int) (ff sf : Int → Int) : Prop := ∀ j : Int, 0 ≤ j → j < n → msk ba fa sb wz (fa (ba j)) (ff j) ∧ ((sb (ba j) = -1 → sf j = 0) ∧ (sb (ba j) ≠ -1 → msk ba fa sb wz (sb (ba j)) (sf j)))
theorem mkA_s {ba fa sb ff sf : Int → Int} {wz n u v : Int} (h : mkA ba fa sb wz n ff sf) (hu : msk ba fa sb wz (fa (ba n)) u) (hv : (sb (ba n) = -1 → v = 0) ∧ (sb (ba n) ≠ -1 → msk ba fa sb wz (sb (ba n)) v)) : mkA ba fa sb wz (n + 1) (uI ff n u) (uI sf n v) := fun j a b => by
  by_cases e : j = n
  · rw [e, uI_eq, uI_eq]; exact ⟨hu, hv⟩
  · rw [uI_ne e, uI_ne e]; exact h j a (by omega)
theorem mkA_b {ba fa sb ff sf : Int → Int} {wz n j : Int} (h : mkA ba fa sb wz n ff sf) (a : 0 ≤ j) (b : j < n) : (0 ≤ ff j ∧ ff j < p2 wz) ∧ (0 ≤ sf j ∧ sf j < p2 wz) := by
  obtain ⟨h1, h2, h3⟩ := h j a b
  refine ⟨h1.1, ?_⟩
  by_cases g : sb (ba j) = -1
  · rw [h2 g]; have := p2_pos wz; omega
  · exact (h3 g).1
