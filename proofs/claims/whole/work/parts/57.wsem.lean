/-! a watch takes in a tick: what that means -/
theorem dst_lt3 {B : Sq} {ki u : Nat} {tr : Nat → Nat} : ∀ j, (dst B ki tr u j).1 = 0 ∨ (dst B ki tr u j).1 = 1 ∨ (dst B ki tr u j).1 = 2
  | 0 => by
    unfold dst
    by_cases h1 : ki = 0 ∧ B.acc (seg tr u (u + 1))
    · rw [cif_t h1]; exact Or.inr (Or.inl rfl)
    · rw [cif_f h1]
      by_cases h2 : B.liv (seg tr (u + ki) (u + 1))
      · rw [cif_t h2]; exact Or.inl rfl
      · rw [cif_f h2]; exact Or.inr (Or.inr rfl)
  | j + 1 => by
    unfold dst
    by_cases h0 : (dst B ki tr u j).1 = 0
    · rw [cif_t h0]
      by_cases h1 : B.acc (seg tr (u + ki) (u + j + 2))
      · rw [cif_t h1]; exact Or.inr (Or.inl rfl)
      · rw [cif_f h1]
        by_cases h2 : B.liv (seg tr (u + ki) (u + j + 2))
        · rw [cif_t h2]; exact Or.inl rfl
        · rw [cif_f h2]; exact Or.inr (Or.inr rfl)
    · rw [cif_f h0]; exact dst_lt3 j
theorem dst_liv {B : Sq} {ki u : Nat} {tr : Nat → Nat} : ∀ j, (dst B ki tr u j).1 = 0 → B.liv (seg tr (u + ki) (u + j + 1))
  | 0 => by
    unfold dst
    intro h
    by_cases h1 : ki = 0 ∧ B.acc (seg tr u (u + 1))
    · rw [cif_t h1] at h; exact absurd h (Nat.succ_ne_zero 0)
    · rw [cif_f h1] at h
      by_cases h2 : B.liv (seg tr (u + ki) (u + 1))
      · exact h2
      · rw [cif_f h2] at h; exact absurd h (Nat.succ_ne_zero 1)
  | j + 1 => by
    unfold dst
    intro h
    by_cases h0 : (dst B ki tr u j).1 = 0
    · rw [cif_t h0] at h
      by_cases h1 : B.acc (seg tr (u + ki) (u + j + 2))
      · rw [cif_t h1] at h; exact absurd h (Nat.succ_ne_zero 0)
      · rw [cif_f h1] at h
        by_cases h2 : B.liv (seg tr (u + ki) (u + j + 2))
        · exact h2
        · rw [cif_f h2] at h; exact absurd h (Nat.succ_ne_zero 1)
    · rw [cif_f h0] at h; exact absurd h h0
theorem vstep_le {A B : Sq} {ki t n : Nat} {off : Nat → Prop} {tr : Nat → Nat} : vstep A B ki off tr t n ≤ 4 := by
  unfold vstep cif
  repeat' split
  all_goals omega
theorem vd_le {A B : Sq} {ki t : Nat} {off : Nat → Prop} {tr : Nat → Nat} : ∀ j, (vd A B ki off tr t j).1 ≤ 4
  | 0 => by unfold vd; exact vstep_le
  | j + 1 => by
    unfold vd
    by_cases h : (vd A B ki off tr t j).1 = 0
    · rw [cif_t h]; exact vstep_le
    · rw [cif_f h]; exact vd_le j
/-- what is held of a duty that there is -/
def DS (x : Dr) (st : Nat × Nat) (wk : Int64) : Prop := (st.1 = 0 → x.1 = wk ∧ x.2.2.1 = false ∧ x.2.2.2 = false) ∧ (st.1 = 1 → x.1 = 0 ∧ x.2.1 = nI st.2 ∧ x.2.2.1 = true ∧ x.2.2.2 = false) ∧ (st.1 = 2 → x.1 = 0 ∧ x.2.1 = nI st.2 ∧ x.2.2.1 = false ∧ x.2.2.2 = true)
/-- the class's walk -/
abbrev wB (B : Sq) (M : zM) (s : Nat) (w : List Nat) : Int64 := cWalk (zL M (s + 1)) B.long (cOpen B.cond (zL M (s + 3)) (zL M (s + 2)) (zL M s 4)) w 1
theorem DS_of {A B : Sq} {ki ho a g k u : Nat} {tr : Nat → Nat} {M : zM} (hW : iWat A B ki ho tr M a g k) (hk : k < 48) (hu : u < k) : (isd A tr u → DS (Du a M u) (dst B ki tr u (k - 1 - u)) (wB B M (g + 5) (seg tr (u + ki) k))) ∧ (¬ isd A tr u → (Du a M u).1 = 0 ∧ (Du a M u).2.2.1 = false ∧ (Du a M u).2.2.2 = false) := by
  obtain ⟨-, -, -, h4, h5, h6, -⟩ := hW
  have m4 := h4 u (by omega)
  have m5 := h5 u (by omega)
  obtain ⟨m6, m7, m8⟩ := h6 u hu
  constructor
  · intro hd
    refine ⟨fun h => ⟨m6 ⟨hd, h⟩, ?_, ?_⟩, fun h => ⟨m7 (fun q => by omega), m8 hd (by omega), m4.mpr ⟨hu, hd, h⟩, ?_⟩, fun h => ⟨m7 (fun q => by omega), m8 hd (by omega), ?_, m5.mpr ⟨hu, hd, h⟩⟩⟩
    · show zb (zL M a 6) u = false
      rw [← Bool.not_eq_true, m4]; intro q; omega
    · show zb (zL M a 7) u = false
      rw [← Bool.not_eq_true, m5]; intro q; omega
    · show zb (zL M a 7) u = false
      rw [← Bool.not_eq_true, m5]; intro q; omega
    · show zb (zL M a 6) u = false
      rw [← Bool.not_eq_true, m4]; intro q; omega
  · intro hd
    refine ⟨m7 (fun q => hd q.1), ?_, ?_⟩
    · show zb (zL M a 6) u = false
      rw [← Bool.not_eq_true, m4]; exact fun q => hd q.2.1
    · show zb (zL M a 7) u = false
      rw [← Bool.not_eq_true, m5]; exact fun q => hd q.2.1
theorem SeqC_acc {A : Sq} {M : zM} {s : Nat} (h : SeqC A M s) {w : List Nat} (hw : bts w) : (wB A M s w &&& zL M s 3 = 0 ↔ ¬ A.acc w) ∧ (wB A M s w &&& zL M s 5 = 0 ↔ ¬ A.liv w) := by
  obtain ⟨h1, h2⟩ := h.2.2.2.2.2.2.2.2 w hw
  exact ⟨⟨fun q p => h1.mpr p q, fun q => Classical.byContradiction fun p => q (h1.mp p)⟩, ⟨fun q p => h2.mpr p q, fun q => Classical.byContradiction fun p => q (h2.mp p)⟩⟩
theorem wB_snoc {A : Sq} {M : zM} {s i k : Nat} {tr : Nat → Nat} (h : i ≤ k) : wB A M s (seg tr i (k + 1)) = cTo A.long (zL M (s + 1)) (wB A M s (seg tr i k)) &&& cOpen A.cond (zL M (s + 3)) (zL M (s + 2)) (zL M s 4) (tr k) := by
  unfold wB
  rw [seg_snoc h, cWalk_app]
  rfl
theorem wB_nil {A : Sq} {M : zM} {s i : Nat} {tr : Nat → Nat} : wB A M s (seg tr i i) = 1 := by
  unfold wB
  rw [seg_nil (Nat.le_refl i)]
  rfl
/-- a duty goes on by one tick -/
theorem DS_step {B : Sq} {ki k u : Nat} {tr : Nat → Nat} {M : zM} {s : Nat} {x : Dr} (hB : SeqC B M s) (hbt : ∀ i, i ≤ k → tr i < 256) (hki : ki < 2) (hu : u < k) (h : DS x (dst B ki tr u (k - 1 - u)) (wB B M s (seg tr (u + ki) k))) : DS (mvd (zL M s 3) (zL M s 5) (cOpen B.cond (zL M (s + 3)) (zL M (s + 2)) (zL M s 4) (tr k)) B.long (zL M (s + 1)) k x) (dst B ki tr u (k - u)) (wB B M s (seg tr (u + ki) (k + 1))) := by
  have e1 : dst B ki tr u (k - u) = cif ((dst B ki tr u (k - 1 - u)).1 = 0) (cif (B.acc (seg tr (u + ki) (k + 1))) (1, k) (cif (B.liv (seg tr (u + ki) (k + 1))) (0, 0) (2, k))) (dst B ki tr u (k - 1 - u)) := by
    rw [show k - u = (k - 1 - u) + 1 by omega]
    show cif _ (cif (B.acc (seg tr (u + ki) (u + (k - 1 - u) + 2))) (1, u + (k - 1 - u) + 1) (cif (B.liv (seg tr (u + ki) (u + (k - 1 - u) + 2))) (0, 0) (2, u + (k - 1 - u) + 1))) _ = _
    rw [show u + (k - 1 - u) + 2 = k + 1 by omega, show u + (k - 1 - u) + 1 = k by omega]
  obtain ⟨h0, h1, h2⟩ := h
  have hb1 : bts (seg tr (u + ki) (k + 1)) := bts_seg (t := k + 1) (fun i hi => hbt i (by omega)) (Nat.le_refl _)
  have hb0 : bts (seg tr (u + ki) k) := bts_seg (t := k + 1) (fun i hi => hbt i (by omega)) (by omega)
  obtain ⟨q1, q2⟩ := SeqC_acc hB hb1
  rcases dst_lt3 (B := B) (ki := ki) (u := u) (tr := tr) (k - 1 - u) with d0 | d0 | d0
  · obtain ⟨x1, x2, x3⟩ := h0 d0
    have hl := dst_liv _ d0
    rw [show u + (k - 1 - u) + 1 = k by omega] at hl
    have hne : ¬ x.1 = 0 := by
      intro q
      have q3 := (SeqC_acc hB hb0).2
      rw [← x1, q, z_0and] at q3
      exact q3.mp rfl hl
    rw [e1, cif_t d0]
    unfold mvd
    rw [if_neg hne, x1, ← wB_snoc (by omega)]
    unfold sett
    by_cases hacc : B.acc (seg tr (u + ki) (k + 1))
    · rw [cif_t hacc, if_neg (fun q => q1.mp q hacc)]
      exact ⟨fun q => absurd q (Nat.succ_ne_zero 0), fun _ => ⟨rfl, rfl, rfl, x3⟩, fun q => absurd q (show ¬ 1 = 2 by decide)⟩
    · rw [cif_f hacc, if_pos (q1.mpr hacc)]
      by_cases hliv : B.liv (seg tr (u + ki) (k + 1))
      · rw [cif_t hliv, if_neg (fun q => q2.mp q hliv)]
        exact ⟨fun _ => ⟨rfl, x2, x3⟩, fun q => absurd q (by decide), fun q => absurd q (by decide)⟩
      · rw [cif_f hliv, if_pos (q2.mpr hliv)]
        exact ⟨fun q => absurd q (Nat.succ_ne_zero 1), fun q => absurd q (show ¬ 2 = 1 by decide), fun _ => ⟨rfl, rfl, x2, rfl⟩⟩
  · rw [e1, cif_f (by omega)]
    obtain ⟨x1, x2, x3, x4⟩ := h1 d0
    unfold mvd
    rw [if_pos x1]
    exact ⟨fun q => by omega, fun _ => ⟨x1, x2, x3, x4⟩, fun q => by omega⟩
  · rw [e1, cif_f (by omega)]
    obtain ⟨x1, x2, x3, x4⟩ := h2 d0
    unfold mvd
    rw [if_pos x1]
    exact ⟨fun q => by omega, fun q => by omega, fun _ => ⟨x1, x2, x3, x4⟩⟩
/-- a duty begins -/
theorem DS_begin {B : Sq} {ki k : Nat} {tr : Nat → Nat} {M : zM} {s : Nat} {y : Int32} (hB : SeqC B M s) (nB : ¬ B.acc []) (hbt : ∀ i, i ≤ k → tr i < 256) (hki : ki < 2) : DS (sett (zL M s 3) (zL M s 5) k (if ki = 1 then 1 else cTo B.long (zL M (s + 1)) 1 &&& cOpen B.cond (zL M (s + 3)) (zL M (s + 2)) (zL M s 4) (tr k), y, false, false)) (dst B ki tr k 0) (wB B M s (seg tr (k + ki) (k + 1))) := by
  have hb1 : bts (seg tr (k + ki) (k + 1)) := bts_seg (t := k + 1) (fun i hi => hbt i (by omega)) (Nat.le_refl _)
  obtain ⟨q1, q2⟩ := SeqC_acc hB hb1
  have hy : (if ki = 1 then 1 else cTo B.long (zL M (s + 1)) 1 &&& cOpen B.cond (zL M (s + 3)) (zL M (s + 2)) (zL M s 4) (tr k)) = wB B M s (seg tr (k + ki) (k + 1)) := by
    have : ki = 0 ∨ ki = 1 := by omega
    rcases this with rfl | rfl
    · rw [if_neg (by decide)]
      show _ = wB B M s (seg tr k (k + 1))
      rw [wB_snoc (Nat.le_refl k), wB_nil]
    · rw [if_pos rfl, wB_nil]
  rw [hy]
  have hacc : (ki = 0 ∧ B.acc (seg tr k (k + 1))) ↔ B.acc (seg tr (k + ki) (k + 1)) := by
    have : ki = 0 ∨ ki = 1 := by omega
    rcases this with rfl | rfl
    · exact ⟨fun h => h.2, fun h => ⟨rfl, h⟩⟩
    · rw [seg_nil (Nat.le_refl _)]
      exact ⟨fun h => absurd h.1 (by decide), fun h => absurd h nB⟩
  unfold sett dst
  by_cases h1 : ki = 0 ∧ B.acc (seg tr k (k + 1))
  · rw [cif_t h1, if_neg (fun q => q1.mp q (hacc.mp h1))]
    exact ⟨fun q => absurd q (Nat.succ_ne_zero 0), fun _ => ⟨rfl, rfl, rfl, rfl⟩, fun q => absurd q (show ¬ 1 = 2 by decide)⟩
  · rw [cif_f h1, if_pos (q1.mpr (fun q => h1 (hacc.mpr q)))]
    by_cases h2 : B.liv (seg tr (k + ki) (k + 1))
    · rw [cif_t h2, if_neg (fun q => q2.mp q h2)]
      exact ⟨fun _ => ⟨rfl, rfl, rfl⟩, fun q => absurd q (show ¬ 0 = 1 by decide), fun q => absurd q (show ¬ 0 = 2 by decide)⟩
    · rw [cif_f h2, if_pos (q2.mpr h2)]
      exact ⟨fun q => absurd q (Nat.succ_ne_zero 1), fun q => absurd q (show ¬ 2 = 1 by decide), fun _ => ⟨rfl, rfl, rfl, rfl⟩⟩
/-- the judgement -/
theorem jdg_vstep {A B : Sq} {ki k t : Nat} {tr : Nat → Nat} {off : Nat → Prop} {X m b st O : Int64} (hk : k < 48) (hoff : ¬ off (tr k))
    (hX : ∀ u, u < 64 → (zb X u = true ↔ t ≤ u ∧ u < k + 1 ∧ A.acc (seg tr t (u + 1))))
    (hm : ∀ u, u < 64 → (zb m u = true ↔ u < k + 1 ∧ isd A tr u ∧ (dst B ki tr u (k - u)).1 = 1))
    (hb : ∀ u, u < 64 → (zb b u = true ↔ u < k + 1 ∧ isd A tr u ∧ (dst B ki tr u (k - u)).1 = 2))
    (hst : st &&& O = 0 ↔ ¬ A.liv (seg tr t (k + 1))) : jdg X m b st O = vstep A B ki off tr t k := by
  have c2 : X &&& b = 0 ↔ ¬ ∃ u, t ≤ u ∧ u ≤ k ∧ A.acc (seg tr t (u + 1)) ∧ (dst B ki tr u (k - u)).1 = 2 := by
    constructor
    · rintro h ⟨u, h1, h2, h3, h4⟩
      have : zb (X &&& b) u = true := by
        rw [zb_and, (hX u (by omega)).mpr ⟨h1, by omega, h3⟩, (hb u (by omega)).mpr ⟨by omega, ⟨t, h1, h3⟩, h4⟩]; rfl
      rw [h, zb_0] at this
      exact absurd this (by decide)
    · intro h
      apply Classical.byContradiction
      intro q
      obtain ⟨u, h1, h2⟩ := z_ne0.mp q
      rw [zb_and, Bool.and_eq_true] at h2
      obtain ⟨a1, a2, a3⟩ := (hX u h1).mp h2.1
      exact h ⟨u, a1, by omega, a3, ((hb u h1).mp h2.2).2.2⟩
  have c0 : (¬ ∃ u, t ≤ u ∧ u ≤ k ∧ A.acc (seg tr t (u + 1)) ∧ (dst B ki tr u (k - u)).1 = 2) → (X &&& (m ^^^ (-1)) = 0 ↔ ¬ ∃ u, t ≤ u ∧ u ≤ k ∧ A.acc (seg tr t (u + 1)) ∧ (dst B ki tr u (k - u)).1 = 0) := by
    intro hno
    constructor
    · rintro h ⟨u, h1, h2, h3, h4⟩
      have hmf : zb m u = false := by
        rw [← Bool.not_eq_true, hm u (by omega)]; intro q; omega
      have : zb (X &&& (m ^^^ (-1))) u = true := by
        rw [zb_and, zb_xor, hmf, zb_m1 u (by omega), (hX u (by omega)).mpr ⟨h1, by omega, h3⟩]; rfl
      rw [h, zb_0] at this
      exact absurd this (by decide)
    · intro h
      apply Classical.byContradiction
      intro q
      obtain ⟨u, h1, h2⟩ := z_ne0.mp q
      rw [zb_and, Bool.and_eq_true] at h2
      obtain ⟨a1, a2, a3⟩ := (hX u h1).mp h2.1
      rcases dst_lt3 (B := B) (ki := ki) (u := u) (tr := tr) (k - u) with d0 | d0 | d0
      · exact h ⟨u, a1, by omega, a3, d0⟩
      · have := (hm u h1).mpr ⟨by omega, ⟨t, a1, a3⟩, d0⟩
        rw [zb_xor, this, zb_m1 u h1] at h2
        exact absurd h2.2 (by decide)
      · exact hno ⟨u, a1, by omega, a3, d0⟩
  have c1 : X = 0 ↔ ¬ ∃ u, t ≤ u ∧ u ≤ k ∧ A.acc (seg tr t (u + 1)) := by
    constructor
    · rintro h ⟨u, h1, h2, h3⟩
      have := (hX u (by omega)).mpr ⟨h1, by omega, h3⟩
      rw [h, zb_0] at this
      exact absurd this (by decide)
    · intro h
      apply Classical.byContradiction
      intro q
      obtain ⟨u, h1, h2⟩ := z_ne0.mp q
      obtain ⟨a1, a2, a3⟩ := (hX u h1).mp h2
      exact h ⟨u, a1, by omega, a3⟩
  unfold jdg vstep
  rw [cif_f hoff]
  by_cases h2 : ∃ u, t ≤ u ∧ u ≤ k ∧ A.acc (seg tr t (u + 1)) ∧ (dst B ki tr u (k - u)).1 = 2
  · rw [cif_t h2, if_neg (fun q => c2.mp q h2)]
  · rw [cif_f h2, if_pos (c2.mpr h2)]
    have c0 := c0 h2
    by_cases h0 : (∃ u, t ≤ u ∧ u ≤ k ∧ A.acc (seg tr t (u + 1)) ∧ (dst B ki tr u (k - u)).1 = 0) ∨ A.liv (seg tr t (k + 1))
    · rw [cif_t h0, if_neg]
      rintro ⟨q1, q2⟩
      exact h0.elim (c0.mp q1) (hst.mp q2)
    · rw [cif_f h0, if_pos ⟨c0.mpr (fun q => h0 (Or.inl q)), hst.mpr (fun q => h0 (Or.inr q))⟩]
      by_cases h1 : ∃ u, t ≤ u ∧ u ≤ k ∧ A.acc (seg tr t (u + 1))
      · rw [cif_t h1, if_neg (fun q => c1.mp q h1)]
      · rw [cif_f h1, if_pos (c1.mpr h1)]
