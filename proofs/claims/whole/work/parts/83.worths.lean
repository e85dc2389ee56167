/-! what each open side is worth, and the best of them in their order -/
theorem p2_div {a k : Int} (h : 0 ≤ a) : 0 ≤ a / p2 k ∧ a / p2 k ≤ a := ⟨Int.ediv_nonneg h (by have := p2_pos k; omega), Int.ediv_le_self _ h⟩
theorem nop_le (x : Int → Int) {a b : Int} (h : a ≤ b) : nop x a ≤ nop x b := su_mono (g := fun s => if x s = 1 then 1 else 0) (fun k => (ite_bd _).1) h
/-- z is what the side s is worth -/
def isD (o1 o2 x : Int → Int) (s z : Int) : Prop := ∃ v : Int, isW o1 o2 N5 (nop (uI x s 0) N5).toNat (uI x s 0) v ∧ z = dvl v (clF x o1 o2 N5 s)
theorem isD_uniq {o1 o2 x : Int → Int} {s z z' : Int} (h : isD o1 o2 x s z) (h' : isD o1 o2 x s z') : z = z' := by
  obtain ⟨v, a, b⟩ := h
  obtain ⟨v', a', b'⟩ := h'
  rw [b, b', isW_uniq _ a a']
theorem dvb_isD {o1 o2 b tb : Int → Int} {n a j : Int} (h : inj b n N5) (hn : 0 ≤ n) (ha : 0 ≤ a) (j0 : 0 ≤ j) (j1 : j < n) (hj : bt a j = 1) (ht : tW o1 o2 b N5 n tb (a - p2 j)) : isD o1 o2 (xs b n a) (b j) (dvb o1 o2 b N5 n tb a j) := by
  refine ⟨tb (a - p2 j), ?_, rfl⟩
  rw [← xs_drop h hn ha j0 j1 hj]
  exact ht
/-- z is the WORTH of what is open -/
def isWo (o1 o2 x : Int → Int) (z : Int) : Prop := isW o1 o2 N5 (nop x N5).toNat x z
theorem isWo_uniq {o1 o2 x : Int → Int} {z z' : Int} (h : isWo o1 o2 x z) (h' : isWo o1 o2 x z') : z = z' := isW_uniq _ h h'
def dvS (o1 o2 b : Int → Int) (n : Int) (tb : Int → Int) (a : Int) : Int → Int := fun s => su (fun j => if b j = s then dvb o1 o2 b N5 n tb a j else 0) n
theorem dvS_at {o1 o2 b tb : Int → Int} {n a j : Int} (h : inj b n N5) (j0 : 0 ≤ j) (j1 : j < n) : dvS o1 o2 b n tb a (b j) = dvb o1 o2 b N5 n tb a j := by
  unfold dvS
  rw [su_congr (g := fun i => if j = i then dvb o1 o2 b N5 n tb a i else 0) (fun i i0 i1 => by
    show (if b i = b j then dvb o1 o2 b N5 n tb a i else 0) = (if j = i then dvb o1 o2 b N5 n tb a i else 0)
    by_cases e : j = i
    · rw [if_pos e, e, if_pos rfl]
    · rw [if_neg e, if_neg (fun g => e (h.2 i j i0 i1 j0 j1 g).symm)])]
  exact su_pick j0 j1
/-- the sides that are best -/
def gB (x d : Int → Int) (v : Int) : Int → Int := fun s => if x s = 1 ∧ d s = v then 1 else 0
theorem gB_01 (x d : Int → Int) (v s : Int) : 0 ≤ gB x d v s ∧ gB x d v s ≤ 1 := ite_bd _
theorem gB_1 {x d : Int → Int} {v s : Int} (h : gB x d v s = 1) : x s = 1 ∧ d s = v := by
  apply Classical.byContradiction
  intro g
  have : gB x d v s = 0 := if_neg g
  omega
/-- z is the i-th best side -/
def isB (o1 o2 x : Int → Int) (ns i z : Int) : Prop := ∃ (d : Int → Int) (v : Int), (∀ s : Int, 0 ≤ s → s < ns → x s = 1 → isD o1 o2 x s (d s)) ∧ isWo o1 o2 x v ∧ isI (gB x d v) ns i (fun s => s) z
theorem isB_uniq {o1 o2 x : Int → Int} {ns i z z' : Int} (h : isB o1 o2 x ns i z) (h' : isB o1 o2 x ns i z') : z = z' := by
  obtain ⟨d, v, a, b, c⟩ := h
  obtain ⟨d', v', a', b', c'⟩ := h'
  have ev := isWo_uniq b b'
  have eg : ∀ s : Int, 0 ≤ s → s < ns → gB x d v s = gB x d' v' s := fun s s0 s1 => by
    unfold gB
    by_cases e : x s = 1
    · rw [isD_uniq (a s s0 s1 e) (a' s s0 s1 e), ev]
    · rw [if_neg (fun g => e g.1), if_neg (fun g => e g.1)]
  have es : ∀ s : Int, s ≤ ns → su (gB x d v) s = su (gB x d' v') s := fun s hs => su_congr (fun t t0 t1 => eg t t0 (by omega))
  rcases c with ⟨k, k0, k1, k2, k3, k4⟩ | ⟨k1, k2⟩
  · rcases c' with ⟨j, j0, j1, j2, j3, j4⟩ | ⟨j1, j2⟩
    · have k4 : z = k := k4
      have j4 : z' = j := j4
      rw [k4, j4]
      rw [es k (by omega)] at k3
      rw [eg k k0 k1] at k2
      rcases Int.lt_trichotomy k j with g | g | g
      · have m := su_mono (g := gB x d' v') (fun k => (gB_01 x d' v' k).1) (show k + 1 ≤ j by omega)
        rw [su_s k0, k2] at m
        omega
      · exact g
      · have m := su_mono (g := gB x d' v') (fun k => (gB_01 x d' v' k).1) (show j + 1 ≤ k by omega)
        rw [su_s j0, j2] at m
        omega
    · exact absurd (by rw [← es k (by omega)]; exact k3) (j1 k k0 k1 (by rw [← eg k k0 k1]; exact k2))
  · rcases c' with ⟨j, j0, j1, j2, j3, j4⟩ | ⟨j1, j2⟩
    · exact absurd (by rw [es j (by omega)]; exact j3) (k1 j j0 j1 (by rw [eg j j0 j1]; exact j2))
    · omega
/-- the reference's tables say the worths of what is open -/
theorem tr_W {io o1 o2 oa hd wo : Int → Int} {nf ns w : Int} (h : trI io o1 o2 nf ns w oa hd) (ht : tbI o1 o2 oa w wo (p2 w)) : isWo o1 o2 (opX io ns) (wo (p2 w - 1)) := by
  have t := ht.2 (p2 w - 1) (by have := p2_pos w; omega) (by omega)
  unfold tW at t
  rw [trI_all h] at t
  exact t
theorem tr_D {io o1 o2 oa hd wo : Int → Int} {nf ns w j : Int} (h : trI io o1 o2 nf ns w oa hd) (hns : ns ≤ N5) (ht : tbI o1 o2 oa w wo (p2 w)) (j0 : 0 ≤ j) (j1 : j < w) : isD o1 o2 (opX io ns) (oa j) (dvb o1 o2 oa N5 w wo (p2 w - 1) j) := by
  have pw := p2_pos w
  have b := bt_full j0 j1
  have c := (bt_clear (by omega) j0 j0 b).1
  have pj := p2_pos j
  have r := dvb_isD (o1 := o1) (o2 := o2) (tb := wo) (trI_inj h hns) h.2.1 (by omega) j0 j1 b (ht.2 _ (by omega) (by omega))
  rw [trI_all h] at r
  exact r
/-- the place of the k-th open side, or the end -/
def pos (oa : Int → Int) (w ns k : Int) : Int := if k < w then oa k else ns
theorem pos_gap {io o1 o2 oa hd : Int → Int} {nf ns w k s : Int} (h : trI io o1 o2 nf ns w oa hd) (k0 : -1 ≤ k) (k1 : k < w) (a : 0 ≤ s) (b : 0 ≤ k → oa k < s) (c : s < pos oa w ns (k + 1)) (hs : s < ns) : opX io ns s ≠ 1 := fun e => by
  have e2 : io s = 1 := by
    unfold opX at e
    apply Classical.byContradiction
    intro g
    rw [if_neg (fun z => g z.2.2)] at e
    omega
  obtain ⟨j, j0, j1, j2⟩ := h.2.2.2.2.1 s a hs e2
  unfold pos at c
  have kj : k < j := by
    apply Classical.byContradiction
    intro g
    by_cases f : j = k
    · rw [f] at j2
      have := b (by omega)
      omega
    · have := h.2.2.2.1 j k j0 (by omega) k1
      have := b (by omega)
      omega
  rw [if_pos (show k + 1 < w by omega)] at c
  by_cases f : j = k + 1
  · rw [f] at j2; omega
  · have := h.2.2.2.1 (k + 1) j (by omega) (by omega) j1
    omega
theorem su_flat {g : Int → Int} {a b : Int} (a0 : 0 ≤ a) (ab : a ≤ b) (h : ∀ t : Int, a ≤ t → t < b → g t = 0) : su g b = su g a := by
  obtain ⟨n, hn⟩ := Int.eq_ofNat_of_zero_le (show 0 ≤ b - a by omega)
  have : ∀ m : Nat, (m : Int) ≤ b - a → su g (a + m) = su g a := fun m => by
    induction m with
    | zero => intro _; rw [show a + ((0 : Nat) : Int) = a by omega]
    | succ m ih =>
      intro hm
      rw [show a + ((m + 1 : Nat) : Int) = (a + m) + 1 by omega, su_s (by omega), ih (by omega), h (a + m) (by omega) (by omega)]
      omega
  have r := this n (by omega)
  rw [← hn, show a + (b - a) = b by omega] at r
  exact r
/-- the count of best sides, as the reference's loop goes -/
def bsC (x d : Int → Int) (v ii ns p n : Int) : Prop := n = su (gB x d v) p ∧ ∀ s : Int, 0 ≤ s → s < p → gB x d v s = 1 → su (gB x d v) s ≠ ii
theorem bsC_0 {io o1 o2 oa hd d : Int → Int} {nf ns w v ii : Int} (hns : 0 ≤ ns) (h : trI io o1 o2 nf ns w oa hd) : bsC (opX io ns) d v ii ns (pos oa w ns 0) 0 := by
  have pn : pos oa w ns 0 ≤ ns ∧ 0 ≤ pos oa w ns 0 := by
    unfold pos
    by_cases c : 0 < w
    · rw [if_pos c]; have := h.2.2.1 0 (by omega) c; omega
    · rw [if_neg c]; omega
  have z : ∀ t : Int, 0 ≤ t → t < pos oa w ns 0 → gB (opX io ns) d v t = 0 := fun t a b => if_neg (fun g => pos_gap h (k := -1) (by omega) (by have := h.2.1; omega) a (by omega) (by rw [show (-1 : Int) + 1 = 0 by omega]; exact b) (by omega) g.1)
  refine ⟨?_, fun s a b c => ?_⟩
  · rw [su_flat (a := 0) (by omega) pn.2 (fun t a b => z t a b)]; rfl
  · rw [z s a b] at c; omega
theorem bsC_s {io o1 o2 oa hd d : Int → Int} {nf ns w v ii k n : Int} (h : trI io o1 o2 nf ns w oa hd) (k0 : 0 ≤ k) (k1 : k < w) (hc : bsC (opX io ns) d v ii ns (oa k) n) (hg : gB (opX io ns) d v (oa k) = 1 → n ≠ ii) : bsC (opX io ns) d v ii ns (pos oa w ns (k + 1)) (n + gB (opX io ns) d v (oa k)) := by
  have ok := h.2.2.1 k k0 k1
  have pn : pos oa w ns (k + 1) ≤ ns ∧ oa k + 1 ≤ pos oa w ns (k + 1) := by
    unfold pos
    by_cases c : k + 1 < w
    · rw [if_pos c]
      have := h.2.2.1 (k + 1) (by omega) c
      have := h.2.2.2.1 k (k + 1) k0 (by omega) c
      omega
    · rw [if_neg c]; omega
  have z : ∀ t : Int, oa k + 1 ≤ t → t < pos oa w ns (k + 1) → gB (opX io ns) d v t = 0 := fun t a b => if_neg (fun g => pos_gap h (k := k) (by omega) k1 (by omega) (fun _ => by omega) b (by omega) g.1)
  refine ⟨?_, fun s a b c => ?_⟩
  · rw [su_flat (a := oa k + 1) (by omega) pn.2 z, su_s (by omega), ← hc.1]
  · by_cases e : s < oa k
    · exact hc.2 s a e c
    · by_cases f : s = oa k
      · rw [f, ← hc.1]; exact hg (by rw [← f]; exact c)
      · rw [z s (by omega) b] at c; omega
theorem pos_at {oa : Int → Int} {w ns k : Int} (h : k < w) : pos oa w ns k = oa k := if_pos h
theorem pos_end {oa : Int → Int} {w ns k : Int} (h : ¬ k < w) : pos oa w ns k = ns := if_neg h
theorem opX_1 {io : Int → Int} {ns s : Int} (a : 0 ≤ s) (b : s < ns) (h : io s = 1) : opX io ns s = 1 := if_pos ⟨a, b, h⟩
theorem opX_d {io : Int → Int} {ns s : Int} (h : opX io ns s = 1) : 0 ≤ s ∧ s < ns ∧ io s = 1 := by
  apply Classical.byContradiction
  intro g
  unfold opX at h
  rw [if_neg g] at h
  omega
