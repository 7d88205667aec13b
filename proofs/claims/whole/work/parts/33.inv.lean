/-! what is kept between the calls -/
def zb (x : Int64) (p : Nat) : Bool := x.toBitVec.getLsbD p
/-- the union of the first so many -/
def orU (f : Nat → Int64) : Nat → Int64
  | 0 => 0
  | n + 1 => orU f n ||| f n
def b1 (p : Nat) : Int64 := (1 : Int64) <<< (Int32.toInt64 (nI p) &&& 63)
/-- a table of 256 bits in four words, the e-th of its row -/
def ful (T : Nat → Int64) (e v : Nat) : Bool := zb (T (4 * e + v / 64)) (v % 64)
/-- the class: which positions a tick can be; where one comes by it -/
def cOpen (n : Nat) (T P : Nat → Int64) (U : Int64) (v : Nat) : Int64 := orU (fun e => if ful T e v = true then P e else 0) n &&& U
def cTo (n : Nat) (F : Nat → Int64) (s : Int64) : Int64 := orU (fun q => if zb s q = true then F q else 0) (n + 1)
def cWalk (F : Nat → Int64) (pos : Nat) (O : Nat → Int64) : List Nat → Int64 → Int64
  | [], s => s
  | v :: u, s => cWalk F pos O u (cTo pos F s &&& O v)
/-- the reference: places that a tick fulfils; places that may come next -/
def mFul (n : Nat) (C : Nat → Nat) (T : Nat → Int64) (v : Nat) : Int64 := orU (fun p => if ful T (C p) v = true then b1 p else 0) n
def mNext (n : Nat) (B : Nat → Int64) (s : Int64) : Int64 := orU (fun p => if zb s p = true then B p else 0) n
def mWalk (B : Nat → Int64) (n : Nat) (G : Nat → Int64) : List Nat → Int64 → Int64
  | [], s => s
  | v :: u, s => mWalk B n G u (mNext n B (s &&& G v))
/-- a sequence as it is seen from outside -/
abbrev Sq : Type := Nat × Nat × Nat × Nat × (List Nat → Prop) × (List Nat → Prop)
def Sq.cond (A : Sq) : Nat := A.1
def Sq.long (A : Sq) : Nat := A.2.1
def Sq.few (A : Sq) : Nat := A.2.2.1
def Sq.most (A : Sq) : Nat := A.2.2.2.1
def Sq.acc (A : Sq) : List Nat → Prop := A.2.2.2.2.1
def Sq.liv (A : Sq) : List Nat → Prop := A.2.2.2.2.2
noncomputable def cif {α : Type} (c : Prop) (x y : α) : α := @ite α c (Classical.propDecidable c) x y
theorem cif_t {α : Type} {c : Prop} {x y : α} (h : c) : cif c x y = x := if_pos h
theorem cif_f {α : Type} {c : Prop} {x y : α} (h : ¬ c) : cif c x y = y := if_neg h
def bts (w : List Nat) : Prop := ∀ v, v ∈ w → v < 256
/-- the class's sequence at s -/
def SeqC (A : Sq) (M : zM) (s : Nat) : Prop :=
  A.cond ≤ 40 ∧ A.long ≤ 40 ∧ A.few ≤ 1000 ∧ A.most ≤ 1000 ∧ zI M s 6 = nI A.cond ∧ zI M s 7 = nI A.long ∧ zI M s 8 = nI A.few ∧ zI M s 9 = nI A.most ∧
  ∀ w, bts w → ((cWalk (zL M (s + 1)) A.long (cOpen A.cond (zL M (s + 3)) (zL M (s + 2)) (zL M s 4)) w 1 &&& zL M s 3 ≠ 0 ↔ A.acc w) ∧ (cWalk (zL M (s + 1)) A.long (cOpen A.cond (zL M (s + 3)) (zL M (s + 2)) (zL M s 4)) w 1 &&& zL M s 5 ≠ 0 ↔ A.liv w))
/-- the reference's side i -/
def SeqM (A : Sq) (M : zM) (i : Nat) : Prop :=
  ∃ n C, n ≤ 40 ∧ zI M 147 (45 * i) = nI n ∧ (∀ p, p < n → C p < 40 ∧ zI M 147 (45 * i + 5 + p) = nI (C p)) ∧
  zI M 147 (45 * i + 1) = nI A.cond ∧ zI M 147 (45 * i + 2) = nI A.long ∧ zI M 147 (45 * i + 3) = nI A.few ∧ zI M 147 (45 * i + 4) = nI A.most ∧
  ∀ w, bts w → (zL M 149 (203 * i + 2) &&& mWalk (fun p => zL M 149 (203 * i + 3 + p)) n (mFul n C (fun k => zL M 149 (203 * i + 43 + k))) w (zL M 149 (203 * i)) ≠ 0 ↔ A.liv w) ∧
    ∀ v, v < 256 → (zL M 149 (203 * i + 1) &&& (mWalk (fun p => zL M 149 (203 * i + 3 + p)) n (mFul n C (fun k => zL M 149 (203 * i + 43 + k))) w (zL M 149 (203 * i)) &&& mFul n C (fun k => zL M 149 (203 * i + 43 + k)) v) ≠ 0 ↔ A.acc (w ++ [v]))
/-- one promise: the class's pledge at g, the reference's p -/
def iPled (A B : Sq) (ki ho : Nat) (M : zM) (g p : Nat) : Prop :=
  SeqC A M (g + 1) ∧ SeqM A M (2 * p) ∧ SeqC B M (g + 5) ∧ SeqM B M (2 * p + 1) ∧ ¬ A.acc [] ∧ ¬ B.acc [] ∧ ki < 2 ∧ ho < 2 ∧ zI M g 4 = nI ki ∧ zI M g 3 = nI ho ∧ zI M 151 (2 * p) = nI ki ∧ zI M 151 (2 * p + 1) = nI ho ∧
  (∀ e q, e < A.cond → q < 4 → zL M (g + 4) (4 * e + q) = zL M 149 (203 * (2 * p) + 43 + (4 * e + q))) ∧
  (∀ e q, e < B.cond → q < 4 → zL M (g + 8) (4 * e + q) = zL M 149 (203 * (2 * p + 1) + 43 + (4 * e + q))) ∧
  (ho = 1 → ∀ q, q < 4 → zL M (g + 9) q = zL M 153 (4 * p + q))
/-- the ticks a to b - 1 -/
def seg (tr : Nat → Nat) (a b : Nat) : List Nat := (List.range (b - a)).map (fun i => tr (a + i))
/-- a duty behind the tick u, by so many ticks more: 0 not yet, 1 met, 2 broken; and by which tick -/
noncomputable def dst (B : Sq) (ki : Nat) (tr : Nat → Nat) (u : Nat) : Nat → Nat × Nat
  | 0 => cif (ki = 0 ∧ B.acc (seg tr u (u + 1))) (1, u) (cif (B.liv (seg tr (u + ki) (u + 1))) (0, 0) (2, u))
  | j + 1 => cif ((dst B ki tr u j).1 = 0) (cif (B.acc (seg tr (u + ki) (u + j + 2))) (1, u + j + 1) (cif (B.liv (seg tr (u + ki) (u + j + 2))) (0, 0) (2, u + j + 1))) (dst B ki tr u j)
/-- the verdict of the try t, by so many ticks more: 0 not yet, 1 passed, 2 failed, 3 empty, 4 off; and by which tick -/
noncomputable def vstep (A B : Sq) (ki : Nat) (off : Nat → Prop) (tr : Nat → Nat) (t n : Nat) : Nat :=
  cif (off (tr n)) 4
  (cif (∃ u, t ≤ u ∧ u ≤ n ∧ A.acc (seg tr t (u + 1)) ∧ (dst B ki tr u (n - u)).1 = 2) 2
  (cif ((∃ u, t ≤ u ∧ u ≤ n ∧ A.acc (seg tr t (u + 1)) ∧ (dst B ki tr u (n - u)).1 = 0) ∨ A.liv (seg tr t (n + 1))) 0
  (cif (∃ u, t ≤ u ∧ u ≤ n ∧ A.acc (seg tr t (u + 1))) 1 3)))
noncomputable def vd (A B : Sq) (ki : Nat) (off : Nat → Prop) (tr : Nat → Nat) (t : Nat) : Nat → Nat × Nat
  | 0 => (vstep A B ki off tr t t, t)
  | j + 1 => cif ((vd A B ki off tr t j).1 = 0) (vstep A B ki off tr t (t + j + 1), t + j + 1) (vd A B ki off tr t j)
def pOff (ho : Nat) (T : Nat → Int64) (v : Nat) : Prop := ho = 1 ∧ ful T 0 v = true
/-- there is a duty behind u -/
def isd (A : Sq) (tr : Nat → Nat) (u : Nat) : Prop := ∃ t, t ≤ u ∧ A.acc (seg tr t (u + 1))
/-- the class's watch at a, having taken in k ticks, with the pledge at g -/
def iWat (A B : Sq) (ki ho : Nat) (tr : Nat → Nat) (M : zM) (a g k : Nat) : Prop :=
  zI M a 8 = nI k ∧
  (∀ t, t < k → zL M (a + 1) t = cWalk (zL M (g + 2)) A.long (cOpen A.cond (zL M (g + 4)) (zL M (g + 3)) (zL M (g + 1) 4)) (seg tr t k) 1) ∧
  (∀ t u, t < k → u < 64 → (zb (zL M (a + 4) t) u = true ↔ t ≤ u ∧ u < k ∧ A.acc (seg tr t (u + 1)))) ∧
  (∀ u, u < 64 → (zb (zL M a 6) u = true ↔ u < k ∧ isd A tr u ∧ (dst B ki tr u (k - 1 - u)).1 = 1)) ∧
  (∀ u, u < 64 → (zb (zL M a 7) u = true ↔ u < k ∧ isd A tr u ∧ (dst B ki tr u (k - 1 - u)).1 = 2)) ∧
  (∀ u, u < k → (isd A tr u ∧ (dst B ki tr u (k - 1 - u)).1 = 0 → zL M (a + 2) u = cWalk (zL M (g + 6)) B.long (cOpen B.cond (zL M (g + 8)) (zL M (g + 7)) (zL M (g + 5) 4)) (seg tr (u + ki) k) 1) ∧
    (¬ (isd A tr u ∧ (dst B ki tr u (k - 1 - u)).1 = 0) → zL M (a + 2) u = 0) ∧
    (isd A tr u → (dst B ki tr u (k - 1 - u)).1 ≠ 0 → zI M (a + 3) u = nI (dst B ki tr u (k - 1 - u)).2)) ∧
  (∀ t, t < k → zI M (a + 5) t = nI (vd A B ki (pOff ho (zL M (g + 9))) tr t (k - 1 - t)).1 ∧
    ((vd A B ki (pOff ho (zL M (g + 9))) tr t (k - 1 - t)).1 ≠ 0 → zI M (a + 6) t = nI (vd A B ki (pOff ho (zL M (g + 9))) tr t (k - 1 - t)).2))
def iProm (w t P : Nat) (tr : Nat → Nat) (M : zM) : Prop :=
  P ≤ 4 ∧ zI M 2 9 = nI P ∧ zI M 146 8 = nI P ∧
  ∀ p, p < P → ∃ A B ki ho k, k ≤ t ∧ iPled A B ki ho M (26 + 10 * w + 27 * p) p ∧ iWat A B ki ho tr M (46 + 27 * p) (26 + 10 * w + 27 * p) k
def iTape (n : Nat) (M : zM) : Prop := n ≤ 200 ∧ zI M 4 1 = nI n ∧ zI M 146 13 = nI n ∧ ∀ i, i < n → zI M 5 i = zI M 158 i ∧ 0 ≤ (zI M 5 i).toInt ∧ (zI M 5 i).toInt ≤ 127
def iTrace (t : Nat) (tr : Nat → Nat) (M : zM) : Prop := t ≤ 48 ∧ zI M 19 1 = nI t ∧ zI M 155 0 = nI t ∧ ∀ i, i < t → tr i < 256 ∧ zI M 20 i = nI (tr i) ∧ zI M 155 (1 + i) = nI (tr i)
def iImage (M : zM) (k : Nat) : Prop := (zI M 22 k = nI 0 ∧ zI M 157 k = nI 0) ∨ (zI M 22 k = nI 1 ∧ zI M 157 k = nI 1 ∧ ∃ (t : Nat) (tr : Nat → Nat), t ≤ 48 ∧ zI M (134 + 2 * k) 1 = nI t ∧ zI M 156 (49 * k) = nI t ∧ ∀ i, i < t → tr i < 256 ∧ zI M (135 + 2 * k) i = nI (tr i) ∧ zI M 156 (49 * k + 1 + i) = nI (tr i))
def iSheet (M : zM) (k : Nat) : Prop := (zI M (138 + 2 * k) 2 = -1 ∧ zI M 179 k = -4) ∨ (∃ l n, l < 3 ∧ n ≤ 40 ∧ zI M (138 + 2 * k) 1 = nI l ∧ zI M 179 k = nI l ∧ zI M (138 + 2 * k) 2 = nI n ∧ zI M 180 k = nI n ∧ ∀ i, i < 40 → zI M (139 + 2 * k) i = zI M 181 (40 * k + i))
/-- the wires' patterns of both are the same -/
def pat (M : zM) : Prop := ∀ k, k < 6 → zL M 0 k = zL M 165 k
def Inv (L : Nat) (M : zM) : Prop := ∃ w n t P tr, zSh L w M ∧ iTape n M ∧ zI M 2 10 = zI M 146 18 ∧ (zI M 2 11 = zI M 146 51 ∧ pat M) ∧ iTrace t tr M ∧ (∀ k, k < 2 → iImage M k) ∧ (∀ k, k < 4 → iSheet M k) ∧ iProm w t P tr M
/-- one call: both answer the same -/
def Cal (d nc nm L : Nat) (as : List Value) (M : zM) : Prop := ∃ r M1 M2, zV d nc (.ref 2 :: as) M = some (some (.int r), M1) ∧ zV d nm (.ref 146 :: as) M1 = some (some (.int r), M2) ∧ Inv L M2
theorem seg_congr {tr tr' : Nat → Nat} {m a b : Nat} (h : ∀ i, i < m → tr' i = tr i) (hb : b ≤ m) : seg tr' a b = seg tr a b := by
  unfold seg
  apply List.map_congr_left
  intro i hi
  rw [List.mem_range] at hi
  exact h _ (by omega)
theorem dst_congr {B : Sq} {ki m u : Nat} {tr tr' : Nat → Nat} (h : ∀ i, i < m → tr' i = tr i) : ∀ {j : Nat}, u + j < m → dst B ki tr' u j = dst B ki tr u j
  | 0, hj => by
    unfold dst
    rw [seg_congr h (by omega), seg_congr h (by omega)]
  | j + 1, hj => by
    unfold dst
    rw [seg_congr h (by omega), dst_congr h (j := j) (by omega)]
theorem vstep_congr {A B : Sq} {ki m t n : Nat} {off : Nat → Prop} {tr tr' : Nat → Nat} (h : ∀ i, i < m → tr' i = tr i) (hn : n < m) : vstep A B ki off tr' t n = vstep A B ki off tr t n := by
  have e1 : ∀ c : Nat, (∃ u, t ≤ u ∧ u ≤ n ∧ A.acc (seg tr' t (u + 1)) ∧ (dst B ki tr' u (n - u)).1 = c) = (∃ u, t ≤ u ∧ u ≤ n ∧ A.acc (seg tr t (u + 1)) ∧ (dst B ki tr u (n - u)).1 = c) := by
    intro c
    apply propext
    constructor
    · rintro ⟨u, a1, a2, a3, a4⟩
      exact ⟨u, a1, a2, by rw [← seg_congr h (by omega)]; exact a3, by rw [← dst_congr h (by omega)]; exact a4⟩
    · rintro ⟨u, a1, a2, a3, a4⟩
      exact ⟨u, a1, a2, by rw [seg_congr h (by omega)]; exact a3, by rw [dst_congr h (by omega)]; exact a4⟩
  have e2 : (∃ u, t ≤ u ∧ u ≤ n ∧ A.acc (seg tr' t (u + 1))) = (∃ u, t ≤ u ∧ u ≤ n ∧ A.acc (seg tr t (u + 1))) := by
    apply propext
    constructor
    · rintro ⟨u, a1, a2, a3⟩
      exact ⟨u, a1, a2, by rw [← seg_congr h (by omega)]; exact a3⟩
    · rintro ⟨u, a1, a2, a3⟩
      exact ⟨u, a1, a2, by rw [seg_congr h (by omega)]; exact a3⟩
  unfold vstep
  rw [e1, e1, e2, h n hn, seg_congr h (by omega)]
theorem vd_congr {A B : Sq} {ki m t : Nat} {off : Nat → Prop} {tr tr' : Nat → Nat} (h : ∀ i, i < m → tr' i = tr i) : ∀ {j : Nat}, t + j < m → vd A B ki off tr' t j = vd A B ki off tr t j
  | 0, hj => by unfold vd; rw [vstep_congr h (by omega)]
  | j + 1, hj => by unfold vd; rw [vstep_congr h (by omega), vd_congr h (j := j) (by omega)]
theorem isd_congr {A : Sq} {m u : Nat} {tr tr' : Nat → Nat} (h : ∀ i, i < m → tr' i = tr i) (hu : u < m) : isd A tr' u = isd A tr u := by
  unfold isd
  rw [show (fun t => t ≤ u ∧ A.acc (seg tr' t (u + 1))) = (fun t => t ≤ u ∧ A.acc (seg tr t (u + 1))) from funext fun t => by rw [seg_congr h (by omega)]]
theorem iWat_congr {A B : Sq} {ki ho a g k m : Nat} {tr tr' : Nat → Nat} {M : zM} (h : ∀ i, i < m → tr' i = tr i) (hk : k ≤ m) (hw : iWat A B ki ho tr M a g k) : iWat A B ki ho tr' M a g k := by
  obtain ⟨h1, h2, h3, h4, h5, h6, h7⟩ := hw
  refine ⟨h1, ?_, ?_, ?_, ?_, ?_, ?_⟩
  · intro t ht
    rw [seg_congr h hk]; exact h2 t ht
  · intro t u ht hu
    rw [h3 t u ht hu]
    constructor
    · rintro ⟨a1, a2, a3⟩; exact ⟨a1, a2, by rw [seg_congr h (by omega)]; exact a3⟩
    · rintro ⟨a1, a2, a3⟩; exact ⟨a1, a2, by rw [← seg_congr h (by omega)]; exact a3⟩
  · intro u hu
    rw [h4 u hu]
    constructor
    · rintro ⟨a1, a2, a3⟩; exact ⟨a1, by rw [isd_congr h (by omega)]; exact a2, by rw [dst_congr h (by omega)]; exact a3⟩
    · rintro ⟨a1, a2, a3⟩; exact ⟨a1, by rw [← isd_congr h (by omega)]; exact a2, by rw [← dst_congr h (by omega)]; exact a3⟩
  · intro u hu
    rw [h5 u hu]
    constructor
    · rintro ⟨a1, a2, a3⟩; exact ⟨a1, by rw [isd_congr h (by omega)]; exact a2, by rw [dst_congr h (by omega)]; exact a3⟩
    · rintro ⟨a1, a2, a3⟩; exact ⟨a1, by rw [← isd_congr h (by omega)]; exact a2, by rw [← dst_congr h (by omega)]; exact a3⟩
  · intro u hu
    rw [isd_congr h (by omega), dst_congr h (by omega), seg_congr h hk]; exact h6 u hu
  · intro t ht
    rw [vd_congr h (by omega)]; exact h7 t ht
/-- the rows of promises and watches are as they were -/
def fP (M M' : zM) : Prop := (∀ b, 26 ≤ b → b < 134 → zI M' b = zI M b ∧ zL M' b = zL M b) ∧ zI M' 2 9 = zI M 2 9 ∧ zI M' 146 8 = zI M 146 8 ∧ zI M' 147 = zI M 147 ∧ zI M' 151 = zI M 151 ∧ zL M' 149 = zL M 149 ∧ zL M' 153 = zL M 153
theorem SeqC_fr {A : Sq} {M M' : zM} {s : Nat} (h : SeqC A M s) (h0 : zI M' s = zI M s) (h1 : ∀ b, s ≤ b → b ≤ s + 3 → zL M' b = zL M b) : SeqC A M' s := by
  unfold SeqC
  rw [h0, h1 s (by omega) (by omega), h1 (s + 1) (by omega) (by omega), h1 (s + 2) (by omega) (by omega), h1 (s + 3) (by omega) (by omega)]
  exact h
theorem SeqM_fr {A : Sq} {M M' : zM} {i : Nat} (h : SeqM A M i) (h0 : zI M' 147 = zI M 147) (h1 : zL M' 149 = zL M 149) : SeqM A M' i := by
  unfold SeqM
  rw [h0, h1]
  exact h
theorem iPled_fr {A B : Sq} {ki ho g p : Nat} {M M' : zM} (h : iPled A B ki ho M g p) (hg : 26 ≤ g) (hg2 : g < 124) (hf : fP M M') : iPled A B ki ho M' g p := by
  obtain ⟨f1, f2, f3, f4, f5, f6, f7⟩ := hf
  obtain ⟨a1, a2, a3, a4, a5⟩ := h
  refine ⟨SeqC_fr a1 (f1 _ (by omega) (by omega)).1 (fun b _ _ => (f1 b (by omega) (by omega)).2), SeqM_fr a2 f4 f6, SeqC_fr a3 (f1 _ (by omega) (by omega)).1 (fun b _ _ => (f1 b (by omega) (by omega)).2), SeqM_fr a4 f4 f6, ?_⟩
  rw [(f1 g (by omega) (by omega)).1, f5, (f1 (g + 4) (by omega) (by omega)).2, (f1 (g + 8) (by omega) (by omega)).2, (f1 (g + 9) (by omega) (by omega)).2, f6, f7]
  exact a5
theorem iWat_fr {A B : Sq} {ki ho a g k : Nat} {tr : Nat → Nat} {M M' : zM} (h : iWat A B ki ho tr M a g k) (hg : 26 ≤ g) (hg2 : g < 124) (ha : 26 ≤ a) (ha2 : a < 128) (hf : ∀ b, 26 ≤ b → b < 134 → zI M' b = zI M b ∧ zL M' b = zL M b) : iWat A B ki ho tr M' a g k := by
  unfold iWat
  rw [(hf a (by omega) (by omega)).1, (hf a (by omega) (by omega)).2, (hf (a + 1) (by omega) (by omega)).2, (hf (a + 2) (by omega) (by omega)).2, (hf (a + 3) (by omega) (by omega)).1, (hf (a + 4) (by omega) (by omega)).2, (hf (a + 5) (by omega) (by omega)).1, (hf (a + 6) (by omega) (by omega)).1, (hf (g + 1) (by omega) (by omega)).2, (hf (g + 2) (by omega) (by omega)).2, (hf (g + 3) (by omega) (by omega)).2, (hf (g + 4) (by omega) (by omega)).2, (hf (g + 5) (by omega) (by omega)).2, (hf (g + 6) (by omega) (by omega)).2, (hf (g + 7) (by omega) (by omega)).2, (hf (g + 8) (by omega) (by omega)).2, (hf (g + 9) (by omega) (by omega)).2]
  exact h
theorem iProm_fr {w t t' P : Nat} {tr tr' : Nat → Nat} {M M' : zM} (hw : w < 2) (h : iProm w t P tr M) (hf : fP M M') (ht : t ≤ t') (htr : ∀ i, i < t → tr' i = tr i) : iProm w t' P tr' M' := by
  obtain ⟨h1, h2, h3, h4⟩ := h
  have hf2 := hf
  obtain ⟨f1, f2, f3, -⟩ := hf
  refine ⟨h1, f2.trans h2, f3.trans h3, fun p hp => ?_⟩
  obtain ⟨A, B, ki, ho, k, hk, b1, b2⟩ := h4 p hp
  exact ⟨A, B, ki, ho, k, by omega, iPled_fr b1 (by omega) (by omega) hf2, iWat_congr htr hk (iWat_fr b2 (by omega) (by omega) (by omega) (by omega) f1)⟩
