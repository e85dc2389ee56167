/-! THE DRAWS PLAYED AGAIN: which sides are open, who owns what, whose turn it is, after so many draws -/
def inc (io o1 o2 : Int → Int) (fd s : Int) : Int := if io s = 1 ∧ (o1 s = fd ∨ o2 s = fd) then 1 else 0
/-- open sides of a field, among the first n -/
def osd (io o1 o2 : Int → Int) (fd n : Int) : Int := su (inc io o1 o2 fd) n
theorem osd_s {io o1 o2 : Int → Int} {fd n : Int} (h : 0 ≤ n) : osd io o1 o2 fd (n + 1) = osd io o1 o2 fd n + inc io o1 o2 fd n := su_s h
theorem inc_01 (io o1 o2 : Int → Int) (fd s : Int) : 0 ≤ inc io o1 o2 fd s ∧ inc io o1 o2 fd s ≤ 1 := by
  unfold inc
  split <;> omega
theorem osd_bd (io o1 o2 : Int → Int) (fd : Int) {n : Int} (h : 0 ≤ n) : 0 ≤ osd io o1 o2 fd n ∧ osd io o1 o2 fd n ≤ n :=
  ⟨su_nn (fun j _ _ => (inc_01 io o1 o2 fd j).1), su_ub h (fun j _ _ => (inc_01 io o1 o2 fd j).2)⟩
theorem osd_congr {x y o1 o2 : Int → Int} {fd n : Int} (h : ∀ s : Int, 0 ≤ s → s < n → x s = y s) : osd x o1 o2 fd n = osd y o1 o2 fd n :=
  su_congr (fun j a b => by unfold inc; rw [h j a b])
/-- how many fields a side closes -/
def clF (io o1 o2 : Int → Int) (ns sd : Int) : Int := (if osd io o1 o2 (o1 sd) ns = 1 then 1 else 0) + (if o2 sd ≠ -1 ∧ osd io o1 o2 (o2 sd) ns = 1 then 1 else 0)
theorem clF_bd (io o1 o2 : Int → Int) (ns sd : Int) : 0 ≤ clF io o1 o2 ns sd ∧ clF io o1 o2 ns sd ≤ 2 := by
  unfold clF
  split <;> split <;> omega
theorem clF_congr {x y o1 o2 : Int → Int} {ns sd : Int} (h : ∀ s : Int, 0 ≤ s → s < ns → x s = y s) : clF x o1 o2 ns sd = clF y o1 o2 ns sd := by
  unfold clF
  rw [osd_congr h, osd_congr h]
theorem ite_bd (p : Prop) [Decidable p] : 0 ≤ (if p then (1 : Int) else 0) ∧ (if p then (1 : Int) else 0) ≤ 1 := by
  split <;> omega
def nop (io : Int → Int) (n : Int) : Int := su (fun s => if io s = 1 then 1 else 0) n
theorem nop_s {io : Int → Int} {n : Int} (h : 0 ≤ n) : nop io (n + 1) = nop io n + (if io n = 1 then 1 else 0) := su_s h
theorem nop_bd (io : Int → Int) {n : Int} (h : 0 ≤ n) : 0 ≤ nop io n ∧ nop io n ≤ n :=
  ⟨su_nn (fun j _ _ => (ite_bd (io j = 1)).1), su_ub h (fun j _ _ => (ite_bd (io j = 1)).2)⟩
theorem nop_congr {x y : Int → Int} {n : Int} (h : ∀ s : Int, 0 ≤ s → s < n → x s = y s) : nop x n = nop y n :=
  su_congr (fun j a b => by rw [h j a b])
def opN (ds : Int → Int) : Nat → Int → Int
  | 0 => fun _ => 1
  | k + 1 => uI (opN ds k) (ds (k : Int)) 0
def opI (ds : Int → Int) (k : Int) : Int → Int := opN ds k.toNat
theorem opI_0 (ds : Int → Int) (s : Int) : opI ds 0 s = 1 := rfl
theorem opI_s {ds : Int → Int} {k : Int} (h : 0 ≤ k) : opI ds (k + 1) = uI (opI ds k) (ds k) 0 := by
  unfold opI
  rw [show (k + 1).toNat = k.toNat + 1 by omega]
  show uI (opN ds k.toNat) (ds ((k.toNat : Nat) : Int)) 0 = _
  rw [Int.toNat_of_nonneg h]
theorem opN_01 (ds : Int → Int) (s : Int) : ∀ k : Nat, opN ds k s = 0 ∨ opN ds k s = 1
  | 0 => Or.inr rfl
  | k + 1 => by
    show uI _ _ _ s = 0 ∨ uI _ _ _ s = 1
    unfold uI
    split
    · exact Or.inl rfl
    · exact opN_01 ds s k
theorem opI_01 (ds : Int → Int) (k s : Int) : opI ds k s = 0 ∨ opI ds k s = 1 := opN_01 ds s k.toNat
def tnN (o1 o2 ds : Int → Int) (ns : Int) : Nat → Int
  | 0 => 0
  | k + 1 => if clF (opN ds k) o1 o2 ns (ds (k : Int)) = 0 then 1 - tnN o1 o2 ds ns k else tnN o1 o2 ds ns k
def tnI (o1 o2 ds : Int → Int) (ns k : Int) : Int := tnN o1 o2 ds ns k.toNat
theorem tnI_s {o1 o2 ds : Int → Int} {ns k : Int} (h : 0 ≤ k) : tnI o1 o2 ds ns (k + 1) = if clF (opI ds k) o1 o2 ns (ds k) = 0 then 1 - tnI o1 o2 ds ns k else tnI o1 o2 ds ns k := by
  unfold tnI opI
  rw [show (k + 1).toNat = k.toNat + 1 by omega]
  show (if clF (opN ds k.toNat) o1 o2 ns (ds ((k.toNat : Nat) : Int)) = 0 then _ else _) = _
  rw [Int.toNat_of_nonneg h]
theorem tnN_01 (o1 o2 ds : Int → Int) (ns : Int) : ∀ k : Nat, tnN o1 o2 ds ns k = 0 ∨ tnN o1 o2 ds ns k = 1
  | 0 => Or.inl rfl
  | k + 1 => by
    have h := tnN_01 o1 o2 ds ns k
    unfold tnN
    split <;> omega
theorem tnI_01 (o1 o2 ds : Int → Int) (ns k : Int) : tnI o1 o2 ds ns k = 0 ∨ tnI o1 o2 ds ns k = 1 := tnN_01 o1 o2 ds ns k.toNat
/-- the owners behind one draw: x the open sides before it, y behind it -/
def owS (x y o1 o2 w : Int → Int) (ns s t : Int) : Int → Int :=
  if 0 < clF x o1 o2 ns s ∧ o2 s ≠ -1 ∧ osd y o1 o2 (o2 s) ns = 0 then uI (if 0 < clF x o1 o2 ns s ∧ osd y o1 o2 (o1 s) ns = 0 then uI w (o1 s) t else w) (o2 s) t else (if 0 < clF x o1 o2 ns s ∧ osd y o1 o2 (o1 s) ns = 0 then uI w (o1 s) t else w)
def owN (o1 o2 ds : Int → Int) (ns : Int) : Nat → Int → Int
  | 0 => fun _ => -1
  | k + 1 => owS (opN ds k) (opN ds (k + 1)) o1 o2 (owN o1 o2 ds ns k) ns (ds (k : Int)) (tnN o1 o2 ds ns k)
def owI (o1 o2 ds : Int → Int) (ns k : Int) : Int → Int := owN o1 o2 ds ns k.toNat
theorem owI_s {o1 o2 ds : Int → Int} {ns k : Int} (h : 0 ≤ k) : owI o1 o2 ds ns (k + 1) = owS (opI ds k) (opI ds (k + 1)) o1 o2 (owI o1 o2 ds ns k) ns (ds k) (tnI o1 o2 ds ns k) := by
  unfold owI tnI opI
  rw [show (k + 1).toNat = k.toNat + 1 by omega]
  show owS (opN ds k.toNat) _ o1 o2 _ ns (ds ((k.toNat : Nat) : Int)) _ = _
  rw [Int.toNat_of_nonneg h]
theorem uI_congr {x x' : Int → Int} {n i v : Int} (h : ∀ j : Int, 0 ≤ j → j < n → x j = x' j) : ∀ j : Int, 0 ≤ j → j < n → uI x i v j = uI x' i v j := fun j a b => by
  unfold uI
  split
  · rfl
  · exact h j a b
theorem owS_congr {x x' y y' o1 o2 w w' : Int → Int} {ns nf s t : Int} (hx : ∀ j : Int, 0 ≤ j → j < ns → x j = x' j) (hy : ∀ j : Int, 0 ≤ j → j < ns → y j = y' j) (hw : ∀ f : Int, 0 ≤ f → f < nf → w f = w' f) {f : Int} (h0 : 0 ≤ f) (h1 : f < nf) : owS x y o1 o2 w ns s t f = owS x' y' o1 o2 w' ns s t f := by
  unfold owS
  rw [clF_congr hx, osd_congr hy, osd_congr hy]
  split
  · split
    · exact uI_congr (uI_congr hw) f h0 h1
    · exact uI_congr hw f h0 h1
  · split
    · exact uI_congr hw f h0 h1
    · exact hw f h0 h1
