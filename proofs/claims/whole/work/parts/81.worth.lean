/-! WORTH BY ALL WAYS: sets of sides as numbers, bit by bit -/
def bt (a j : Int) : Int := a / p2 j % 2
theorem bt_01 (a j : Int) : bt a j = 0 ∨ bt a j = 1 := by unfold bt; omega
theorem bt_tb (a j : Nat) : bt (a : Int) (j : Int) = if a.testBit j then 1 else 0 := by
  have e : ((a : Int) / p2 (j : Int)) = ((a / 2 ^ j : Nat) : Int) := by unfold p2; simp
  unfold bt
  rw [e, Nat.testBit_eq_decide_div_mod_eq]
  generalize a / 2 ^ j = m
  by_cases h : m % 2 = 1
  · rw [if_pos (decide_eq_true h)]; omega
  · rw [if_neg (fun g => h (of_decide_eq_true g))]; omega
theorem bt_iff {a j : Int} (ha : 0 ≤ a) (hj : 0 ≤ j) : bt a j = 1 ↔ a.toNat.testBit j.toNat = true := by
  obtain ⟨x, rfl⟩ := Int.eq_ofNat_of_zero_le ha
  obtain ⟨y, rfl⟩ := Int.eq_ofNat_of_zero_le hj
  rw [bt_tb x y]
  show _ ↔ x.testBit y = true
  by_cases h : x.testBit y = true
  · rw [if_pos h]; exact ⟨fun _ => h, fun _ => rfl⟩
  · rw [if_neg h]; exact ⟨fun g => absurd g (by omega), fun g => absurd g h⟩
theorem bt_or {a b j : Int} (ha : 0 ≤ a) (hb : 0 ≤ b) (hj : 0 ≤ j) : bt (bO a b) j = 1 ↔ (bt a j = 1 ∨ bt b j = 1) := by
  rw [bt_iff (show 0 ≤ bO a b by unfold bO; omega) hj, bt_iff ha hj, bt_iff hb hj]
  show (a.toNat ||| b.toNat).testBit j.toNat = true ↔ _
  rw [Nat.testBit_or, Bool.or_eq_true]
theorem bt_and {a b j : Int} (ha : 0 ≤ a) (hb : 0 ≤ b) (hj : 0 ≤ j) : bt (bA a b) j = 1 ↔ (bt a j = 1 ∧ bt b j = 1) := by
  rw [bt_iff (show 0 ≤ bA a b by unfold bA; omega) hj, bt_iff ha hj, bt_iff hb hj]
  show (a.toNat &&& b.toNat).testBit j.toNat = true ↔ _
  rw [Nat.testBit_and, Bool.and_eq_true]
theorem bt_p2 {k j : Int} (hk : 0 ≤ k) (hj : 0 ≤ j) : bt (p2 k) j = 1 ↔ j = k := by
  rw [bt_iff (by have := p2_pos k; omega) hj]
  show (2 ^ k.toNat).testBit j.toNat = true ↔ _
  rw [Nat.testBit_two_pow, decide_eq_true_iff]
  omega
theorem p2_mono {j k : Int} (h : j ≤ k) : p2 j ≤ p2 k := by
  have := Nat.pow_le_pow_right (show 0 < 2 by decide) (show j.toNat ≤ k.toNat by omega)
  unfold p2
  omega
theorem p2_lt {j k : Int} (h0 : 0 ≤ j) (h : j < k) : p2 j < p2 k := by
  have a := p2_mono (show j + 1 ≤ k by omega)
  have b := p2_s h0
  have c := p2_pos j
  omega
theorem bt_hi {a n j : Int} (h0 : 0 ≤ a) (h1 : a < p2 n) (hn : 0 ≤ n) (hj : n ≤ j) : bt a j = 0 := by
  have h2 := p2_mono hj
  rcases bt_01 a j with e | e
  · exact e
  · rw [bt_iff h0 (by omega), Nat.testBit_lt_two_pow (show a.toNat < 2 ^ j.toNat by unfold p2 at h1 h2; omega)] at e
    exact absurd e (by decide)
theorem bt_lt {a n : Int} (h0 : 0 ≤ a) (hn : 0 ≤ n) (h : ∀ j : Int, n ≤ j → bt a j ≠ 1) : a < p2 n := by
  have := Nat.lt_pow_two_of_testBit (n := n.toNat) a.toNat (fun i hi => by
    have e := h (i : Int) (by omega)
    exact Bool.eq_false_iff.mpr (fun g => e ((bt_iff h0 (by omega)).mpr g)))
  unfold p2
  omega
theorem bt_ext {a b : Int} (ha : 0 ≤ a) (hb : 0 ≤ b) (h : ∀ j : Int, 0 ≤ j → (bt a j = 1 ↔ bt b j = 1)) : a = b := by
  have : a.toNat = b.toNat := Nat.eq_of_testBit_eq (fun i => by
    have e := h (i : Int) (by omega)
    rw [bt_iff ha (by omega), bt_iff hb (by omega)] at e
    exact Bool.eq_iff_iff.mpr e)
  omega
theorem nt_clear {a k : Nat} (h : a.testBit k = true) (j : Nat) : (2 ^ k ≤ a) ∧ ((a - 2 ^ k).testBit j = true ↔ (a.testBit j = true ∧ j ≠ k)) := by
  have r : a % 2 ^ k < 2 ^ k := Nat.mod_lt _ (Nat.two_pow_pos k)
  have e : 2 ^ k * (a / 2 ^ k) + a % 2 ^ k = a := Nat.div_add_mod a (2 ^ k)
  rw [Nat.testBit_eq_decide_div_mod_eq] at h
  have o := of_decide_eq_true h
  clear h
  generalize a / 2 ^ k = q at *
  generalize a % 2 ^ k = b at *
  obtain ⟨m, rfl⟩ : ∃ m, q = m + 1 := ⟨q - 1, by omega⟩
  have e1 : 2 ^ k * (m + 1) = 2 ^ k * m + 2 ^ k := Nat.mul_succ _ _
  have e2 : a - 2 ^ k = 2 ^ k * m + b := by omega
  refine ⟨by omega, ?_⟩
  rw [e2, ← e, Nat.testBit_two_pow_mul_add _ r, Nat.testBit_two_pow_mul_add _ r]
  by_cases c : j < k
  · rw [if_pos c, if_pos c]; exact ⟨fun g => ⟨g, by omega⟩, fun g => g.1⟩
  · rw [if_neg c, if_neg c]
    by_cases d : j = k
    · rw [d, Nat.sub_self, Nat.testBit_eq_decide_div_mod_eq]
      exact ⟨fun g => by have := of_decide_eq_true g; omega, fun g => absurd rfl g.2⟩
    · obtain ⟨i, hi⟩ : ∃ i, j - k = i + 1 := ⟨j - k - 1, by omega⟩
      rw [hi, Nat.testBit_succ, Nat.testBit_succ, show m / 2 = (m + 1) / 2 by omega]
      exact ⟨fun g => ⟨g, d⟩, fun g => g.1⟩
theorem bt_clear {a k j : Int} (ha : 0 ≤ a) (hk : 0 ≤ k) (hj : 0 ≤ j) (h : bt a k = 1) : p2 k ≤ a ∧ (bt (a - p2 k) j = 1 ↔ (bt a j = 1 ∧ j ≠ k)) := by
  have c := nt_clear ((bt_iff ha hk).mp h) j.toNat
  have l : p2 k ≤ a := by have := c.1; unfold p2; omega
  refine ⟨l, ?_⟩
  rw [bt_iff (by omega) hj, bt_iff ha hj, show (a - p2 k).toNat = a.toNat - 2 ^ k.toNat by unfold p2; omega, c.2]
  constructor
  · intro g; exact ⟨g.1, by omega⟩
  · intro g; exact ⟨g.1, by omega⟩
theorem bt_xor {a k : Int} (ha : 0 ≤ a) (hk : 0 ≤ k) (h : bt a k = 1) : bX a (p2 k) = a - p2 k := by
  have l := (bt_clear ha hk (j := 0) (by omega) h).1
  refine bt_ext (by unfold bX; omega) (by omega) (fun j hj => ?_)
  rw [(bt_clear ha hk hj h).2, bt_iff (show 0 ≤ bX a (p2 k) by unfold bX; omega) hj, bt_iff ha hj]
  show (a.toNat ^^^ 2 ^ k.toNat).testBit j.toNat = true ↔ _
  rw [Nat.testBit_xor, Nat.testBit_two_pow]
  have hk' := (bt_iff ha hk).mp h
  by_cases e : j = k
  · rw [e, hk']; simp
  · rw [decide_eq_false (show ¬ k.toNat = j.toNat by omega)]; simp [e]
theorem bt_full {n j : Int} (h0 : 0 ≤ j) (h1 : j < n) : bt (p2 n - 1) j = 1 := by
  have := p2_pos n
  rw [bt_iff (by omega) h0, show (p2 n - 1).toNat = 2 ^ n.toNat - 1 by unfold p2; omega, Nat.testBit_two_pow_sub_one]
  exact decide_eq_true (by omega)
theorem bt_0 (j : Int) : bt 0 j = 0 := by unfold bt; rw [Int.zero_ediv]; rfl
/-! the sides of a set: b lists n of them -/
def xs (b : Int → Int) (n a : Int) : Int → Int := fun s => su (fun j => if b j = s then bt a j else 0) n
def inj (b : Int → Int) (n ns : Int) : Prop := (∀ j : Int, 0 ≤ j → j < n → 0 ≤ b j ∧ b j < ns) ∧ (∀ i j : Int, 0 ≤ i → i < n → 0 ≤ j → j < n → b i = b j → i = j)
theorem xs_at {b : Int → Int} {n ns a j : Int} (h : inj b n ns) (j0 : 0 ≤ j) (j1 : j < n) : xs b n a (b j) = bt a j := by
  unfold xs
  rw [su_congr (g := fun i => if j = i then bt a i else 0) (fun i i0 i1 => by
    show (if b i = b j then bt a i else 0) = (if j = i then bt a i else 0)
    by_cases e : j = i
    · rw [if_pos e, e, if_pos rfl]
    · rw [if_neg e, if_neg (fun g => e (h.2 i j i0 i1 j0 j1 g).symm)])]
  exact su_pick j0 j1
theorem xs_no {b : Int → Int} {n a s : Int} (hn : 0 ≤ n) (h : ∀ j : Int, 0 ≤ j → j < n → b j ≠ s) : xs b n a s = 0 := by
  unfold xs
  rw [su_congr (g := fun _ => 0) (fun i i0 i1 => if_neg (h i i0 i1)), su_const 0 hn]
  omega
theorem xs_ex {b : Int → Int} {n a s : Int} (h : xs b n a s = 1) : ∃ j : Int, 0 ≤ j ∧ j < n ∧ b j = s ∧ bt a j = 1 := by
  obtain ⟨j, j0, j1, j2⟩ := su_ex (f := fun j => if b j = s then bt a j else 0) (n := n) (show 0 < xs b n a s by omega)
  refine ⟨j, j0, j1, ?_⟩
  have j2 : 0 < (if b j = s then bt a j else 0) := j2
  by_cases e : b j = s
  · rw [if_pos e] at j2
    have := bt_01 a j
    exact ⟨e, by omega⟩
  · rw [if_neg e] at j2; omega
theorem xs_01 {b : Int → Int} {n ns a : Int} (h : inj b n ns) (hn : 0 ≤ n) (s : Int) : xs b n a s = 0 ∨ xs b n a s = 1 := by
  by_cases g : ∃ j : Int, 0 ≤ j ∧ j < n ∧ b j = s
  · obtain ⟨j, j0, j1, j2⟩ := g
    rw [← j2, xs_at h j0 j1]
    exact bt_01 a j
  · exact Or.inl (xs_no hn (fun j a0 a1 a2 => g ⟨j, a0, a1, a2⟩))
/-- a sum over the sides of a set -/
theorem xs_sum {b g : Int → Int} {n ns a : Int} (h : inj b n ns) (hn : 0 ≤ n) : su (fun s => if xs b n a s = 1 then g s else 0) ns = su (fun j => if bt a j = 1 then g (b j) else 0) n := by
  have e : ∀ s : Int, 0 ≤ s → s < ns → (if xs b n a s = 1 then g s else 0) = su (fun j => if b j = s then (if bt a j = 1 then g s else 0) else 0) n := fun s _ _ => by
    by_cases c : ∃ j : Int, 0 ≤ j ∧ j < n ∧ b j = s
    · obtain ⟨j, j0, j1, j2⟩ := c
      rw [su_congr (g := fun i => if j = i then (if bt a i = 1 then g s else 0) else 0) (n := n) (fun i i0 i1 => by
        show (if b i = s then (if bt a i = 1 then g s else 0) else 0) = _
        by_cases f : j = i
        · rw [if_pos f, ← f, if_pos j2]
        · rw [if_neg f, if_neg (fun k => f (h.2 i j i0 i1 j0 j1 (by rw [k, j2])).symm)]), su_pick (f := fun i => if bt a i = 1 then g s else 0) j0 j1, ← j2, xs_at h j0 j1]
    · rw [xs_no hn (fun j a0 a1 a2 => c ⟨j, a0, a1, a2⟩), if_neg (by omega), su_congr (g := fun _ => 0) (fun i i0 i1 => if_neg (fun k => c ⟨i, i0, i1, k⟩)), su_const 0 hn]
      omega
  rw [su_congr e, su_swap (fun s j => if b j = s then (if bt a j = 1 then g s else 0) else 0) ns n]
  refine su_congr (fun j j0 j1 => ?_)
  have r := h.1 j j0 j1
  exact su_pick (f := fun s => if bt a j = 1 then g s else 0) r.1 r.2
theorem xs_osd {b o1 o2 : Int → Int} {n ns a f : Int} (h : inj b n ns) (hn : 0 ≤ n) : osd (xs b n a) o1 o2 f ns = su (fun j => if bt a j = 1 ∧ (o1 (b j) = f ∨ o2 (b j) = f) then 1 else 0) n := by
  have e := xs_sum (a := a) (g := fun s => if o1 s = f ∨ o2 s = f then 1 else 0) h hn
  have e1 : osd (xs b n a) o1 o2 f ns = su (fun s => if xs b n a s = 1 then (if o1 s = f ∨ o2 s = f then 1 else 0) else 0) ns := su_congr (fun s _ _ => by
    unfold inc
    by_cases c : xs b n a s = 1
    · rw [if_pos c]
      by_cases d : o1 s = f ∨ o2 s = f
      · rw [if_pos ⟨c, d⟩, if_pos d]
      · rw [if_neg (fun z => d z.2), if_neg d]
    · rw [if_neg c, if_neg (fun z => c z.1)])
  rw [e1, e]
  refine su_congr (fun j _ _ => ?_)
  show (if bt a j = 1 then (if o1 (b j) = f ∨ o2 (b j) = f then (1 : Int) else 0) else 0) = _
  by_cases c : bt a j = 1
  · rw [if_pos c]
    by_cases d : o1 (b j) = f ∨ o2 (b j) = f
    · rw [if_pos d, if_pos ⟨c, d⟩]
    · rw [if_neg d, if_neg (fun z => d z.2)]
  · rw [if_neg c, if_neg (fun z => c z.1)]
theorem xs_nop {b : Int → Int} {n ns a : Int} (h : inj b n ns) (hn : 0 ≤ n) : nop (xs b n a) ns = su (fun j => if bt a j = 1 then 1 else 0) n := xs_sum (g := fun _ => 1) h hn
theorem xs_drop {b : Int → Int} {n ns a k : Int} (h : inj b n ns) (hn : 0 ≤ n) (ha : 0 ≤ a) (k0 : 0 ≤ k) (k1 : k < n) (hk : bt a k = 1) : xs b n (a - p2 k) = uI (xs b n a) (b k) 0 := funext fun s => by
  by_cases c : ∃ j : Int, 0 ≤ j ∧ j < n ∧ b j = s
  · obtain ⟨j, j0, j1, j2⟩ := c
    rw [← j2, xs_at h j0 j1]
    have q := (bt_clear ha k0 j0 hk).2
    by_cases e : j = k
    · rw [e, uI_eq]
      rw [e] at q
      have := bt_01 (a - p2 k) k
      omega
    · rw [uI_ne (fun g => e (h.2 j k j0 j1 k0 k1 g)), xs_at h j0 j1]
      have := bt_01 (a - p2 k) j
      have := bt_01 a j
      omega
  · rw [xs_no hn (fun j a0 a1 a2 => c ⟨j, a0, a1, a2⟩), uI_ne (fun g => c ⟨k, k0, k1, g.symm⟩), xs_no hn (fun j a0 a1 a2 => c ⟨j, a0, a1, a2⟩)]
/-- a mask: which of the n sides lie at a field -/
def msk (b o1 o2 : Int → Int) (n f hh : Int) : Prop := (0 ≤ hh ∧ hh < p2 n) ∧ ∀ j : Int, 0 ≤ j → j < n → (bt hh j = 1 ↔ (o1 (b j) = f ∨ o2 (b j) = f))
theorem msk_one {b o1 o2 : Int → Int} {n ns a f hh k : Int} (h : inj b n ns) (hn : 0 ≤ n) (ha : 0 ≤ a ∧ a < p2 n) (hm : msk b o1 o2 n f hh) (k0 : 0 ≤ k) (k1 : k < n) (hk : bt a k = 1) (hf : o1 (b k) = f ∨ o2 (b k) = f) : bA hh a = p2 k ↔ osd (xs b n a) o1 o2 f ns = 1 := by
  rw [xs_osd h hn]
  have up : su (fun j => if bt a j = 1 ∧ (o1 (b j) = f ∨ o2 (b j) = f) then 1 else 0) n = su (fun j => if bt a j = 1 ∧ (o1 (b j) = f ∨ o2 (b j) = f) ∧ j ≠ k then 1 else 0) n + 1 := by
    have u := su_up (f := fun j => if bt a j = 1 ∧ (o1 (b j) = f ∨ o2 (b j) = f) then (1 : Int) else 0) (g := fun j => if bt a j = 1 ∧ (o1 (b j) = f ∨ o2 (b j) = f) ∧ j ≠ k then 1 else 0) (k := k) (n := n) (fun j hj => by
      show (if bt a j = 1 ∧ (o1 (b j) = f ∨ o2 (b j) = f) then (1 : Int) else 0) = (if bt a j = 1 ∧ (o1 (b j) = f ∨ o2 (b j) = f) ∧ j ≠ k then 1 else 0)
      by_cases c : bt a j = 1 ∧ (o1 (b j) = f ∨ o2 (b j) = f)
      · rw [if_pos c, if_pos ⟨c.1, c.2, hj⟩]
      · rw [if_neg c, if_neg (fun z => c ⟨z.1, z.2.1⟩)]) k0 k1
    rw [u]
    show _ + ((if bt a k = 1 ∧ (o1 (b k) = f ∨ o2 (b k) = f) then (1 : Int) else 0) - (if bt a k = 1 ∧ (o1 (b k) = f ∨ o2 (b k) = f) ∧ k ≠ k then 1 else 0)) = _
    rw [if_pos ⟨hk, hf⟩, if_neg (fun z => z.2.2 rfl)]
    omega
  rw [up]
  constructor
  · intro e
    have z : su (fun j => if bt a j = 1 ∧ (o1 (b j) = f ∨ o2 (b j) = f) ∧ j ≠ k then 1 else 0) n = su (fun _ => 0) n := su_congr (fun j j0 j1 => by
      show (if bt a j = 1 ∧ (o1 (b j) = f ∨ o2 (b j) = f) ∧ j ≠ k then (1 : Int) else 0) = 0
      refine if_neg (fun z => ?_)
      have q := (bt_and hm.1.1 ha.1 j0).mpr ⟨(hm.2 j j0 j1).mpr z.2.1, z.1⟩
      rw [e, bt_p2 k0 j0] at q
      exact z.2.2 q)
    rw [z, su_const 0 hn]
    omega
  · intro e
    have z : su (fun j => if bt a j = 1 ∧ (o1 (b j) = f ∨ o2 (b j) = f) ∧ j ≠ k then 1 else 0) n ≤ 0 := by omega
    refine bt_ext (by unfold bA; omega) (by have := p2_pos k; omega) (fun j j0 => ?_)
    rw [bt_and hm.1.1 ha.1 j0, bt_p2 k0 j0]
    constructor
    · intro g
      by_cases j1 : j < n
      · have y := su_z (f := fun j => if bt a j = 1 ∧ (o1 (b j) = f ∨ o2 (b j) = f) ∧ j ≠ k then 1 else 0) (n := n) (fun j _ _ => (ite_bd _).1) z j0 j1
        have y : (if bt a j = 1 ∧ (o1 (b j) = f ∨ o2 (b j) = f) ∧ j ≠ k then (1 : Int) else 0) = 0 := y
        apply Classical.byContradiction
        intro w
        rw [if_pos ⟨g.2, (hm.2 j j0 j1).mp g.1, w⟩] at y
        omega
      · have := bt_hi ha.1 ha.2 hn (show n ≤ j by omega)
        omega
    · intro g
      rw [g]
      exact ⟨(hm.2 k k0 k1).mpr hf, hk⟩
/-- what a draw is worth: v the worth behind it, c the fields that it closes -/
def dvl (v c : Int) : Int := if 0 < c then c + v else -v
/-- v is the WORTH of a meadow with n open sides, x -/
def isW (o1 o2 : Int → Int) (ns : Int) : Nat → (Int → Int) → Int → Prop
  | 0, _, v => v = 0
  | n + 1, x, v => ∃ w : Int → Int, (∀ s : Int, 0 ≤ s → s < ns → x s = 1 → isW o1 o2 ns n (uI x s 0) (w s)) ∧ (∃ s : Int, 0 ≤ s ∧ s < ns ∧ x s = 1 ∧ v = dvl (w s) (clF x o1 o2 ns s)) ∧ (∀ s : Int, 0 ≤ s → s < ns → x s = 1 → dvl (w s) (clF x o1 o2 ns s) ≤ v)
theorem isW_uniq {o1 o2 : Int → Int} {ns : Int} : ∀ (n : Nat) {x : Int → Int} {v v' : Int}, isW o1 o2 ns n x v → isW o1 o2 ns n x v' → v = v'
  | 0, x, v, v', h, h' => by
    have h : v = 0 := h
    have h' : v' = 0 := h'
    omega
  | n + 1, x, v, v', h, h' => by
    obtain ⟨w, a1, ⟨s, s0, s1, s2, s3⟩, a3⟩ := h
    obtain ⟨w', b1, ⟨t, t0, t1, t2, t3⟩, b3⟩ := h'
    have e1 := isW_uniq n (a1 s s0 s1 s2) (b1 s s0 s1 s2)
    have e2 := isW_uniq n (a1 t t0 t1 t2) (b1 t t0 t1 t2)
    have c1 := b3 s s0 s1 s2
    have c2 := a3 t t0 t1 t2
    rw [← e1] at c1
    rw [e2] at c2
    omega
theorem dvl_bd {v c B : Int} (hc : 0 ≤ c ∧ c ≤ 2) (hv : -B ≤ v ∧ v ≤ B) : -(B + 2) ≤ dvl v c ∧ dvl v c ≤ B + 2 := by
  unfold dvl
  split <;> omega
theorem isW_bd {o1 o2 : Int → Int} {ns : Int} : ∀ (n : Nat) {x : Int → Int} {v : Int}, isW o1 o2 ns n x v → -(2 * n) ≤ v ∧ v ≤ 2 * n
  | 0, x, v, h => by
    have h : v = 0 := h
    omega
  | n + 1, x, v, h => by
    obtain ⟨w, a1, ⟨s, s0, s1, s2, s3⟩, a3⟩ := h
    have b := isW_bd n (a1 s s0 s1 s2)
    have d := dvl_bd (clF_bd x o1 o2 ns s) b
    rw [s3]
    omega
/-- the sides' fields count only where the side is in the set -/
theorem isW_congr {o1 o2 p1 p2_ : Int → Int} {ns : Int} : ∀ (n : Nat) {x : Int → Int} {v : Int}, (∀ s : Int, 0 ≤ s → s < ns → x s = 1 → o1 s = p1 s ∧ o2 s = p2_ s) → isW o1 o2 ns n x v → isW p1 p2_ ns n x v
  | 0, x, v, _, h => h
  | n + 1, x, v, e, h => by
    obtain ⟨w, a1, ⟨s, s0, s1, s2, s3⟩, a3⟩ := h
    have eo : ∀ f : Int, osd x o1 o2 f ns = osd x p1 p2_ f ns := fun f => su_congr (fun t t0 t1 => by
      unfold inc
      by_cases c : x t = 1
      · rw [(e t t0 t1 c).1, (e t t0 t1 c).2]
      · rw [if_neg (fun z => c z.1), if_neg (fun z => c z.1)])
    have ec : ∀ t : Int, 0 ≤ t → t < ns → x t = 1 → clF x o1 o2 ns t = clF x p1 p2_ ns t := fun t t0 t1 t2 => by
      unfold clF
      rw [eo, eo, (e t t0 t1 t2).1, (e t t0 t1 t2).2]
    refine ⟨w, fun t t0 t1 t2 => isW_congr n (fun r r0 r1 r2 => ?_) (a1 t t0 t1 t2), ⟨s, s0, s1, s2, by rw [← ec s s0 s1 s2]; exact s3⟩, fun t t0 t1 t2 => by rw [← ec t t0 t1 t2]; exact a3 t t0 t1 t2⟩
    unfold uI at r2
    split at r2
    · exact absurd r2 (by omega)
    · exact e r r0 r1 r2
/-- tb holds the worth of the set a -/
def tW (o1 o2 b : Int → Int) (ns n : Int) (tb : Int → Int) (a : Int) : Prop := isW o1 o2 ns (nop (xs b n a) ns).toNat (xs b n a) (tb a)
def dvb (o1 o2 b : Int → Int) (ns n : Int) (tb : Int → Int) (a j : Int) : Int := dvl (tb (a - p2 j)) (clF (xs b n a) o1 o2 ns (b j))
theorem tW_0 {o1 o2 b tb : Int → Int} {ns n : Int} (h : inj b n ns) (hn : 0 ≤ n) (h0 : tb 0 = 0) : tW o1 o2 b ns n tb 0 := by
  unfold tW
  rw [xs_nop h hn, su_congr (g := fun _ => 0) (n := n) (fun j _ _ => by
    show (if bt 0 j = 1 then (1 : Int) else 0) = 0
    rw [bt_0]; rfl), su_const 0 hn, show ((0 : Int) * n).toNat = 0 by omega]
  exact h0
/-- some bit of a set that is not empty -/
theorem bt_some {a n : Int} (h : 0 < a) (h1 : a < p2 n) (hn : 0 ≤ n) : ∃ j : Int, 0 ≤ j ∧ j < n ∧ bt a j = 1 := by
  apply Classical.byContradiction
  intro c
  have : a = 0 := bt_ext (by omega) (by omega) (fun j j0 => by
    rw [bt_0]
    constructor
    · intro g
      by_cases j1 : j < n
      · exact absurd ⟨j, j0, j1, g⟩ c
      · have := bt_hi (by omega) h1 hn (show n ≤ j by omega)
        omega
    · intro g; omega)
  omega
theorem tW_s {o1 o2 b tb : Int → Int} {ns n a v : Int} (h : inj b n ns) (hn : 0 ≤ n) (ha : 0 < a ∧ a < p2 n) (ih : ∀ t : Int, 0 ≤ t → t < a → tW o1 o2 b ns n tb t) (ht : ∃ j : Int, 0 ≤ j ∧ j < n ∧ bt a j = 1 ∧ v = dvb o1 o2 b ns n tb a j) (hx : ∀ j : Int, 0 ≤ j → j < n → bt a j = 1 → dvb o1 o2 b ns n tb a j ≤ v) : isW o1 o2 ns (nop (xs b n a) ns).toNat (xs b n a) v := by
  obtain ⟨k, k0, k1, k2, k3⟩ := ht
  have rk := h.1 k k0 k1
  have up := nop_up (x := xs b n a) rk.1 rk.2 (by rw [xs_at h k0 k1]; exact k2)
  have nn := nop_nn (uI (xs b n a) (b k) 0) ns
  obtain ⟨m, hm⟩ : ∃ m : Nat, (nop (xs b n a) ns).toNat = m + 1 := ⟨(nop (xs b n a) ns).toNat - 1, by omega⟩
  rw [hm]
  have pick : ∀ j : Int, 0 ≤ j → j < n → su (fun i => if b i = b j then tb (a - p2 i) else 0) n = tb (a - p2 j) := fun j j0 j1 => by
    rw [su_congr (g := fun i => if j = i then tb (a - p2 i) else 0) (fun i i0 i1 => by
      show (if b i = b j then tb (a - p2 i) else 0) = (if j = i then tb (a - p2 i) else 0)
      by_cases e : j = i
      · rw [if_pos e, e, if_pos rfl]
      · rw [if_neg e, if_neg (fun g => e (h.2 i j i0 i1 j0 j1 g).symm)])]
    exact su_pick j0 j1
  refine ⟨fun s => su (fun i => if b i = s then tb (a - p2 i) else 0) n, fun s s0 s1 s2 => ?_, ⟨b k, rk.1, rk.2, by rw [xs_at h k0 k1]; exact k2, ?_⟩, fun s s0 s1 s2 => ?_⟩
  · obtain ⟨j, j0, j1, j2, j3⟩ := xs_ex s2
    show isW o1 o2 ns m _ (su (fun i => if b i = s then tb (a - p2 i) else 0) n)
    rw [← j2, pick j j0 j1, ← xs_drop h hn (by omega) j0 j1 j3]
    have c := bt_clear (by omega) j0 j0 j3
    have p := p2_pos j
    have t := ih (a - p2 j) (by omega) (by omega)
    unfold tW at t
    have u := nop_up (x := xs b n a) (h.1 j j0 j1).1 (h.1 j j0 j1).2 (by rw [xs_at h j0 j1]; exact j3)
    rw [← xs_drop h hn (by omega) j0 j1 j3] at u
    rw [show (nop (xs b n (a - p2 j)) ns).toNat = m by omega] at t
    exact t
  · show v = dvl (su (fun i => if b i = b k then tb (a - p2 i) else 0) n) _
    rw [pick k k0 k1]
    exact k3
  · obtain ⟨j, j0, j1, j2, j3⟩ := xs_ex s2
    show dvl (su (fun i => if b i = s then tb (a - p2 i) else 0) n) _ ≤ v
    rw [← j2, pick j j0 j1]
    exact hx j j0 j1 j3
/-- how far the greatest of the draws is found: those of the first i -/
def mxS (o1 o2 b : Int → Int) (ns n : Int) (tb : Int → Int) (a lo i m : Int) : Prop := (∀ j : Int, 0 ≤ j → j < i → bt a j = 1 → dvb o1 o2 b ns n tb a j ≤ m) ∧ ((m = lo ∧ ∀ j : Int, 0 ≤ j → j < i → bt a j ≠ 1) ∨ ∃ j : Int, 0 ≤ j ∧ j < i ∧ bt a j = 1 ∧ m = dvb o1 o2 b ns n tb a j)
theorem mxS_0 {o1 o2 b tb : Int → Int} {ns n a lo : Int} : mxS o1 o2 b ns n tb a lo 0 lo := ⟨fun j j0 j1 => by omega, Or.inl ⟨rfl, fun j j0 j1 => by omega⟩⟩
theorem mxS_skip {o1 o2 b tb : Int → Int} {ns n a lo i m : Int} (h : mxS o1 o2 b ns n tb a lo i m) (e : bt a i ≠ 1) : mxS o1 o2 b ns n tb a lo (i + 1) m := by
  refine ⟨fun j j0 j1 j2 => ?_, ?_⟩
  · by_cases c : j = i
    · rw [c] at j2; exact absurd j2 e
    · exact h.1 j j0 (by omega) j2
  · rcases h.2 with g | ⟨j, j0, j1, j2, j3⟩
    · refine Or.inl ⟨g.1, fun j j0 j1 => ?_⟩
      by_cases c : j = i
      · rw [c]; exact e
      · exact g.2 j j0 (by omega)
    · exact Or.inr ⟨j, j0, by omega, j2, j3⟩
theorem mxS_new {o1 o2 b tb : Int → Int} {ns n a lo i m : Int} (h : mxS o1 o2 b ns n tb a lo i m) (i0 : 0 ≤ i) (e : bt a i = 1) (hl : lo ≤ dvb o1 o2 b ns n tb a i) : mxS o1 o2 b ns n tb a lo (i + 1) (max m (dvb o1 o2 b ns n tb a i)) := by
  refine ⟨fun j j0 j1 j2 => ?_, ?_⟩
  · by_cases c : j = i
    · rw [c]; omega
    · have := h.1 j j0 (by omega) j2; omega
  · rcases h.2 with g | ⟨j, j0, j1, j2, j3⟩
    · exact Or.inr ⟨i, i0, by omega, e, by omega⟩
    · by_cases c : dvb o1 o2 b ns n tb a i ≤ m
      · exact Or.inr ⟨j, j0, by omega, j2, by omega⟩
      · exact Or.inr ⟨i, i0, by omega, e, by omega⟩
theorem mxS_end {o1 o2 b tb : Int → Int} {ns n a lo m : Int} (h : inj b n ns) (hn : 0 ≤ n) (ha : 0 < a ∧ a < p2 n) (ih : ∀ t : Int, 0 ≤ t → t < a → tW o1 o2 b ns n tb t) (hm : mxS o1 o2 b ns n tb a lo n m) : isW o1 o2 ns (nop (xs b n a) ns).toNat (xs b n a) m := by
  refine tW_s h hn ha ih ?_ hm.1
  rcases hm.2 with g | g
  · obtain ⟨j, j0, j1, j2⟩ := bt_some ha.1 ha.2 hn
    exact absurd j2 (g.2 j j0 j1)
  · exact g
theorem xs_n {b : Int → Int} {n ns a : Int} (h : inj b n ns) (hn : 0 ≤ n) : 0 ≤ nop (xs b n a) ns ∧ nop (xs b n a) ns ≤ n := by
  rw [xs_nop h hn]
  exact ⟨su_nn (fun j _ _ => (ite_bd _).1), su_ub hn (fun j _ _ => (ite_bd _).2)⟩
theorem tW_bd {o1 o2 b tb : Int → Int} {ns n a : Int} (h : inj b n ns) (hn : 0 ≤ n ∧ n ≤ 16) (ht : tW o1 o2 b ns n tb a) : -32 ≤ tb a ∧ tb a ≤ 32 := by
  have := isW_bd _ ht
  have := xs_n (a := a) h hn.1
  omega
theorem dvb_bd {o1 o2 b tb : Int → Int} {ns n a j : Int} (h : inj b n ns) (hn : 0 ≤ n ∧ n ≤ 16) (ht : tW o1 o2 b ns n tb (a - p2 j)) : -34 ≤ dvb o1 o2 b ns n tb a j ∧ dvb o1 o2 b ns n tb a j ≤ 34 :=
  dvl_bd (B := 32) (clF_bd _ _ _ _ _) (by have := tW_bd h hn ht; omega)
/-- how many fields a draw closes, by the masks of its two fields -/
theorem clF_msk {b o1 o2 : Int → Int} {n ns a h1 h2 k : Int} (h : inj b n ns) (hn : 0 ≤ n) (ha : 0 ≤ a ∧ a < p2 n) (k0 : 0 ≤ k) (k1 : k < n) (hk : bt a k = 1) (m1 : msk b o1 o2 n (o1 (b k)) h1) (m2 : o2 (b k) ≠ -1 → msk b o1 o2 n (o2 (b k)) h2) : clF (xs b n a) o1 o2 ns (b k) = (if bA h1 a = p2 k then 1 else 0) + (if o2 (b k) ≠ -1 ∧ bA h2 a = p2 k then 1 else 0) := by
  unfold clF
  have e1 := msk_one h hn ha m1 k0 k1 hk (Or.inl rfl)
  have c1 : (if osd (xs b n a) o1 o2 (o1 (b k)) ns = 1 then (1 : Int) else 0) = (if bA h1 a = p2 k then 1 else 0) := by
    by_cases g : bA h1 a = p2 k
    · rw [if_pos g, if_pos (e1.mp g)]
    · rw [if_neg g, if_neg (fun z => g (e1.mpr z))]
  rw [c1]
  by_cases d : o2 (b k) = -1
  · rw [if_neg (show ¬ (o2 (b k) ≠ -1 ∧ osd (xs b n a) o1 o2 (o2 (b k)) ns = 1) from fun z => z.1 d), if_neg (show ¬ (o2 (b k) ≠ -1 ∧ bA h2 a = p2 k) from fun z => z.1 d)]
  · have e2 := msk_one h hn ha (m2 d) k0 k1 hk (Or.inr rfl)
    by_cases g : bA h2 a = p2 k
    · rw [if_pos (show o2 (b k) ≠ -1 ∧ bA h2 a = p2 k from ⟨d, g⟩), if_pos (show o2 (b k) ≠ -1 ∧ osd (xs b n a) o1 o2 (o2 (b k)) ns = 1 from ⟨d, e2.mp g⟩)]
    · rw [if_neg (show ¬ (o2 (b k) ≠ -1 ∧ bA h2 a = p2 k) from fun z => g z.2), if_neg (show ¬ (o2 (b k) ≠ -1 ∧ osd (xs b n a) o1 o2 (o2 (b k)) ns = 1) from fun z => g (e2.mpr z.2))]
/-- the open sides as they stand, wherever -/
def opX (io : Int → Int) (ns : Int) : Int → Int := fun s => if 0 ≤ s ∧ s < ns ∧ io s = 1 then 1 else 0
theorem xs_opX {b io : Int → Int} {n m ns a : Int} (h : inj b n m) (hn : 0 ≤ n) (h1 : ∀ j : Int, 0 ≤ j → j < n → (bt a j = 1 ↔ (0 ≤ b j ∧ b j < ns ∧ io (b j) = 1))) (h2 : ∀ s : Int, 0 ≤ s → s < ns → io s = 1 → ∃ j : Int, 0 ≤ j ∧ j < n ∧ b j = s) : xs b n a = opX io ns := funext fun s => by
  unfold opX
  by_cases c : 0 ≤ s ∧ s < ns ∧ io s = 1
  · obtain ⟨j, j0, j1, j2⟩ := h2 s c.1 c.2.1 c.2.2
    rw [if_pos c, ← j2, xs_at h j0 j1]
    exact (h1 j j0 j1).mpr (by rw [j2]; exact c)
  · rw [if_neg c]
    rcases xs_01 (a := a) h hn s with e | e
    · exact e
    · obtain ⟨j, j0, j1, j2, j3⟩ := xs_ex e
      exact absurd (by have := (h1 j j0 j1).mp j3; rw [j2] at this; exact this) c
