/-! repeats -/
def lne (Lg : List Nat → Prop) (w : List Nat) : Prop := w ≠ [] ∧ Lg w
def lopt (Lg : List Nat → Prop) (o : Prop) (w : List Nat) : Prop := (w ≠ [] ∧ Lg w) ∨ (w = [] ∧ o)
theorem lopt_nil {Lg : List Nat → Prop} {o : Prop} : lopt Lg o [] ↔ o := ⟨fun h => h.elim (fun z => absurd rfl z.1) (fun z => z.2), fun h => Or.inr ⟨rfl, h⟩⟩
theorem lopt_ne {Lg : List Nat → Prop} {o : Prop} {w : List Nat} (hw : w ≠ []) : lopt Lg o w ↔ Lg w := ⟨fun h => h.elim (fun z => z.2) (fun z => absurd z.1 hw), fun h => Or.inl ⟨hw, h⟩⟩
theorem lpow_snoc {Lg : List Nat → Prop} : ∀ {k : Nat} {w : List Nat}, lpow Lg (k + 1) w ↔ ∃ a b, w = a ++ b ∧ lpow Lg k a ∧ Lg b
  | 0, w => by
    constructor
    · rintro ⟨a, b, rfl, ha, hb⟩
      have hb : b = [] := hb
      subst hb
      exact ⟨[], a, by simp, rfl, ha⟩
    · rintro ⟨a, b, rfl, ha, hb⟩
      have ha : a = [] := ha
      subst ha
      exact ⟨b, [], by simp, hb, rfl⟩
  | k + 1, w => by
    constructor
    · rintro ⟨a, b, rfl, ha, hb⟩
      obtain ⟨c, e, rfl, hc, he⟩ := lpow_snoc.mp hb
      exact ⟨a ++ c, e, by simp, ⟨a, c, rfl, ha, hc⟩, he⟩
    · rintro ⟨a, b, rfl, ⟨c, e, rfl, hc, he⟩, hb⟩
      exact ⟨c, e ++ b, by simp, hc, lpow_snoc.mpr ⟨e, b, rfl, he, hb⟩⟩
/-- the reference's repeats: one behind another, some may be left out -/
def lco (Lg : List Nat → Prop) (o : Nat → Prop) : Nat → List Nat → Prop
  | 0 => fun w => w = []
  | k + 1 => lch (lco Lg o k) (lopt Lg (o k))
theorem lco_nil {Lg : List Nat → Prop} {o : Nat → Prop} : ∀ {k : Nat}, lco Lg o k [] ↔ ∀ i, i < k → o i
  | 0 => ⟨fun _ i h => absurd h (Nat.not_lt_zero i), fun _ => rfl⟩
  | k + 1 => by
    constructor
    · rintro ⟨a, b, e, ha, hb⟩
      obtain ⟨rfl, rfl⟩ := List.append_eq_nil_iff.mp e.symm
      intro i hi
      by_cases h : i = k
      · subst h; exact lopt_nil.mp hb
      · exact lco_nil.mp ha i (by omega)
    · intro h
      exact ⟨[], [], rfl, lco_nil.mpr fun i hi => h i (by omega), lopt_nil.mpr (h k (by omega))⟩
theorem lco_rep {Lg : List Nat → Prop} {o : Nat → Prop} {m n : Nat} (ho : ∀ k, o k ↔ (Lg [] ∨ m ≤ k)) (hmn : m ≤ n) (w : List Nat) : lco Lg o n w ↔ lrep Lg m n w := by
  constructor
  · intro h
    have key : ∀ k w, lco Lg o k w → (Lg [] → lpow Lg k w) ∧ ∃ j, j ≤ k ∧ (¬ Lg [] → min m k ≤ j) ∧ lpow Lg j w := by
      intro k
      induction k with
      | zero => intro w hw; exact ⟨fun _ => hw, 0, Nat.le_refl 0, fun _ => Nat.min_le_right _ _, hw⟩
      | succ k ih =>
        rintro w ⟨a, b, rfl, ha, hb⟩
        obtain ⟨i1, j, hj, hm, hp⟩ := ih a ha
        rcases hb with ⟨hb, hL⟩ | ⟨rfl, hob⟩
        · exact ⟨fun h0 => lpow_snoc.mpr ⟨a, b, rfl, i1 h0, hL⟩, j + 1, by omega, fun h0 => by have := hm h0; omega, lpow_snoc.mpr ⟨a, b, rfl, hp, hL⟩⟩
        · refine ⟨fun h0 => lpow_snoc.mpr ⟨a, [], rfl, i1 h0, h0⟩, j, by omega, fun h0 => ?_, by rw [List.append_nil]; exact hp⟩
          have h1 := hm h0
          have h2 : m ≤ k := ((ho k).mp hob).resolve_left h0
          omega
    obtain ⟨h1, j, hj, hm, hp⟩ := key n w h
    by_cases h0 : Lg []
    · exact ⟨n, hmn, Nat.le_refl n, h1 h0⟩
    · exact ⟨j, by have := hm h0; omega, hj, hp⟩
  · rintro ⟨k, hmk, hkn, hp⟩
    have h1 : ∀ k w, lpow Lg k w → lco Lg o k w := by
      intro k
      induction k with
      | zero => intro w hw; exact hw
      | succ k ih =>
        intro w hw
        obtain ⟨a, b, rfl, ha, hb⟩ := lpow_snoc.mp hw
        refine ⟨a, b, rfl, ih a ha, ?_⟩
        by_cases hb0 : b = []
        · subst hb0
          exact Or.inr ⟨rfl, (ho k).mpr (Or.inl hb)⟩
        · exact Or.inl ⟨hb0, hb⟩
    have h2 : ∀ e, lco Lg o (k + e) w := by
      intro e
      induction e with
      | zero => exact h1 k w hp
      | succ e ih => exact ⟨w, [], by simp, ih, Or.inr ⟨rfl, (ho _).mpr (Or.inr (show m ≤ k + e by omega))⟩⟩
    have := h2 (n - k)
    rwa [show k + (n - k) = n by omega] at this
/-- the class's repeats: the copies one behind another from the first on -/
theorem lne_pow {Lg : List Nat → Prop} : ∀ {k : Nat} {w : List Nat}, lpow Lg k w → ∃ j, j ≤ k ∧ lpow (lne Lg) j w ∧ (¬ Lg [] → j = k)
  | 0, w, h => ⟨0, Nat.le_refl 0, h, fun _ => rfl⟩
  | k + 1, w, h => by
    obtain ⟨a, b, rfl, ha, hb⟩ := h
    obtain ⟨j, hj, hp, hn⟩ := lne_pow hb
    by_cases ha0 : a = []
    · subst ha0
      exact ⟨j, by omega, hp, fun h0 => absurd ha h0⟩
    · exact ⟨j + 1, by omega, ⟨a, b, rfl, ⟨ha0, ha⟩, hp⟩, fun h0 => by rw [hn h0]⟩
theorem lne_up {Lg : List Nat → Prop} : ∀ {k : Nat} {w : List Nat}, lpow (lne Lg) k w → lpow Lg k w
  | 0, _, h => h
  | _ + 1, _, ⟨a, b, e, ha, hb⟩ => ⟨a, b, e, ha.2, lne_up hb⟩
theorem lpow_pad {Lg : List Nat → Prop} (h0 : Lg []) {k : Nat} {w : List Nat} (h : lpow Lg k w) : ∀ e, lpow Lg (k + e) w
  | 0 => h
  | e + 1 => lpow_snoc.mpr ⟨w, [], by simp, lpow_pad h0 h e, h0⟩
theorem lne_rep {Lg : List Nat → Prop} {m n least : Nat} (hn : 1 ≤ n) (hmn : m ≤ n) (h1 : Lg [] → least = 1) (h2 : ¬ Lg [] → least = max 1 m) {w : List Nat} (hw : w ≠ []) : (∃ j, least ≤ j ∧ j ≤ n ∧ lpow (lne Lg) j w) ↔ lrep Lg m n w := by
  constructor
  · rintro ⟨j, hl, hj, hp⟩
    by_cases h0 : Lg []
    · have := lpow_pad h0 (lne_up hp) (n - j)
      rw [show j + (n - j) = n by omega] at this
      exact ⟨n, hmn, Nat.le_refl n, this⟩
    · exact ⟨j, by have := h2 h0; omega, hj, lne_up hp⟩
  · rintro ⟨k, hm, hk, hp⟩
    obtain ⟨j, hj, hp2, hne⟩ := lne_pow hp
    have hj1 : 1 ≤ j := by
      cases j with
      | zero => exact absurd hp2 hw
      | succ j => omega
    by_cases h0 : Lg []
    · exact ⟨j, by rw [h1 h0]; exact hj1, by omega, hp2⟩
    · exact ⟨j, by rw [h2 h0]; have := hne h0; omega, by omega, hp2⟩
/-- what is read from the i-th copy on (n copies, an end from the least-th on) -/
def lfr (Lg : List Nat → Prop) (least : Nat) : Nat → Nat → List Nat → Prop
  | 0, _ => fun _ => False
  | k + 1, i => lch (lne Lg) (lopt (lfr Lg least k (i + 1)) (least ≤ i + 1))
theorem lfr_pow {Lg : List Nat → Prop} {least : Nat} : ∀ {k i : Nat} {w : List Nat}, lfr Lg least k i w ↔ ∃ j, 1 ≤ j ∧ j ≤ k ∧ least ≤ i + j ∧ lpow (lne Lg) j w
  | 0, i, w => ⟨fun h => h.elim, fun ⟨j, h1, h2, _⟩ => by omega⟩
  | k + 1, i, w => by
    constructor
    · rintro ⟨a, b, rfl, ha, hb⟩
      rcases hb with ⟨hb0, hb⟩ | ⟨rfl, hl⟩
      · obtain ⟨j, h1, h2, h3, h4⟩ := lfr_pow.mp hb
        exact ⟨j + 1, by omega, by omega, by omega, a, b, rfl, ha, h4⟩
      · exact ⟨1, by omega, by omega, hl, a, [], rfl, ha, rfl⟩
    · rintro ⟨j, h1, h2, h3, hp⟩
      cases j with
      | zero => omega
      | succ j =>
        obtain ⟨a, b, rfl, ha, hb⟩ := hp
        refine ⟨a, b, rfl, ha, ?_⟩
        cases j with
        | zero => exact Or.inr ⟨hb, h3⟩
        | succ j =>
          have hb0 : b ≠ [] := by
            rintro rfl
            obtain ⟨c, e, he, hc, -⟩ := hb
            exact hc.1 (List.append_eq_nil_iff.mp he.symm).1
          exact Or.inl ⟨hb0, lfr_pow.mpr ⟨j + 1, by omega, by omega, by omega, hb⟩⟩
theorem Fr_copies {F F0 T : Nat → Nat → Prop} {lo len n least : Nat} {Lg : List Nat → Prop} {B E : Nat → Nat → Prop}
    (hc : ∀ i, i < n → Fr F0 T (lo + i * len) len (B i) (E i) Lg)
    (hF : ∀ i, i < n → ∀ q r, lo + i * len ≤ q → q < lo + (i + 1) * len → (F q r ↔ F0 q r ∨ (i + 1 < n ∧ E i q ∧ B (i + 1) r))) :
    ∀ k i, i + k = n → Fr F T (lo + i * len) (k * len) (fun q => 0 < k ∧ B i q) (fun q => ∃ j, i ≤ j ∧ j < n ∧ least ≤ j + 1 ∧ E j q) (lfr Lg least k i) := by
  intro k
  induction k with
  | zero =>
    intro i hi
    refine ⟨fun q h => absurd h.1 (by omega), fun q ⟨j, h1, h2, _⟩ => by omega, fun q r h1 h2 => by omega, fun w hw => ⟨fun h => h.elim, fun ⟨q, h, _⟩ => absurd h.1 (by omega)⟩⟩
  | succ k ih =>
    intro i hi
    have f2 := ih (i + 1) (by omega)
    have f1 := hc i (by omega)
    have hmul : (i + 1) * len = i * len + len := by rw [Nat.add_mul, Nat.one_mul]
    have hk : (k + 1) * len = len + k * len := by rw [Nat.add_mul, Nat.one_mul, Nat.add_comm]
    rw [hmul, ← Nat.add_assoc] at f2
    rw [hk]
    -- the rows of this copy as they were, those behind as they are
    have g1 : Fr (fun q r => (q < lo + i * len + len ∧ F0 q r) ∨ (lo + i * len + len ≤ q ∧ F q r)) T (lo + i * len) len (B i) (E i) (lne Lg) :=
      (f1.congr (fun q r a b => ⟨fun h => Or.inl ⟨b, h⟩, fun h => h.elim (fun z => z.2) (fun z => by omega)⟩) (fun _ _ _ _ => Iff.rfl) (fun _ => Iff.rfl) (fun _ => Iff.rfl)).lang (fun w hw => ⟨fun h => ⟨hw, h⟩, fun h => h.2⟩)
    have g2 : Fr (fun q r => (q < lo + i * len + len ∧ F0 q r) ∨ (lo + i * len + len ≤ q ∧ F q r)) T (lo + i * len + len) (k * len) (fun q => 0 < k ∧ B (i + 1) q) (fun q => ∃ j, i + 1 ≤ j ∧ j < n ∧ least ≤ j + 1 ∧ E j q) (lopt (lfr Lg least k (i + 1)) (least ≤ i + 1)) :=
      (f2.congr (fun q r a b => ⟨fun h => Or.inr ⟨a, h⟩, fun h => h.elim (fun z => by omega) (fun z => z.2)⟩) (fun _ _ _ _ => Iff.rfl) (fun _ => Iff.rfl) (fun _ => Iff.rfl)).lang (fun w hw => (lopt_ne hw).symm)
    refine g1.chain (F' := F) (N1 := False) (N2 := least ≤ i + 1) g2 ⟨fun h => h.1 rfl, fun h => h.elim⟩ lopt_nil ?_ ?_ ?_ ?_
    · intro q r a b
      rw [hF i (by omega) q r a (by rw [hmul]; omega)]
      constructor
      · rintro (h | ⟨h1, h2, h3⟩)
        · exact Or.inl (Or.inl ⟨b, h⟩)
        · exact Or.inr ⟨h2, by omega, h3⟩
      · rintro (h | ⟨h1, h2, h3⟩)
        · exact h.elim (fun z => Or.inl z.2) (fun z => by omega)
        · exact Or.inr ⟨by omega, h1, h3⟩
    · intro q r a b
      exact ⟨fun h => Or.inr ⟨a, h⟩, fun h => h.elim (fun z => by omega) (fun z => z.2)⟩
    · intro q
      exact ⟨fun h => Or.inl h.2, fun h => h.elim (fun z => ⟨by omega, z⟩) (fun z => z.1.elim)⟩
    · intro q
      constructor
      · rintro ⟨j, h1, h2, h3, h4⟩
        by_cases hj : j = i
        · subst hj; exact Or.inr ⟨h3, h4⟩
        · exact Or.inl ⟨j, by omega, h2, h3, h4⟩
      · rintro (⟨j, h1, h2, h3, h4⟩ | ⟨h3, h4⟩)
        · exact ⟨j, by omega, h2, h3, h4⟩
        · exact ⟨i, Nat.le_refl i, by omega, h3, h4⟩
/-- the class's repeat, whole -/
theorem Fr_repC {F F0 T : Nat → Nat → Prop} {lo len m n least : Nat} {Lg : List Nat → Prop} {B E : Nat → Nat → Prop} (hn : 1 ≤ n) (hmn : m ≤ n) (hl : 1 ≤ least) (h1 : Lg [] → least = 1) (h2 : ¬ Lg [] → least = max 1 m)
    (hc : ∀ i, i < n → Fr F0 T (lo + i * len) len (B i) (E i) Lg)
    (hF : ∀ i, i < n → ∀ q r, lo + i * len ≤ q → q < lo + (i + 1) * len → (F q r ↔ F0 q r ∨ (i + 1 < n ∧ E i q ∧ B (i + 1) r))) :
    Fr F T lo (n * len) (B 0) (fun q => ∃ j, j < n ∧ least ≤ j + 1 ∧ E j q) (lrep Lg m n) := by
  have h := Fr_copies (least := least) hc hF n 0 (by omega)
  rw [Nat.zero_mul, Nat.add_zero] at h
  refine (h.congr (fun _ _ _ _ => Iff.rfl) (fun _ _ _ _ => Iff.rfl) (fun q => ⟨fun z => z.2, fun z => ⟨by omega, z⟩⟩) (fun q => ⟨fun ⟨j, _, z⟩ => ⟨j, z⟩, fun ⟨j, z⟩ => ⟨j, Nat.zero_le _, z⟩⟩)).lang fun w hw => ?_
  rw [lfr_pow, ← lne_rep hn hmn h1 h2 hw]
  constructor
  · rintro ⟨j, a, b, c, e⟩
    exact ⟨j, by omega, b, e⟩
  · rintro ⟨j, a, b, e⟩
    exact ⟨j, by omega, b, by omega, e⟩
