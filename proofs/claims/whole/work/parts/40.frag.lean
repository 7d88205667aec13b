/-! languages, and pieces of machines that have them -/
/-- from the position q on, w can be read, ending in E -/
def pa (F T : Nat → Nat → Prop) (E : Nat → Prop) : List Nat → Nat → Prop
  | [], _ => False
  | v :: w, q => T q v ∧ ((w = [] ∧ E q) ∨ ∃ r, F q r ∧ pa F T E w r)
def Fr (F T : Nat → Nat → Prop) (lo len : Nat) (B E : Nat → Prop) (Lg : List Nat → Prop) : Prop :=
  (∀ q, B q → lo ≤ q ∧ q < lo + len) ∧ (∀ q, E q → lo ≤ q ∧ q < lo + len) ∧ (∀ q r, lo ≤ q → q < lo + len → F q r → q < r ∧ r < lo + len) ∧ ∀ w, w ≠ [] → (Lg w ↔ ∃ q, B q ∧ pa F T E w q)
def lch (L1 L2 : List Nat → Prop) (w : List Nat) : Prop := ∃ a b, w = a ++ b ∧ L1 a ∧ L2 b
def lor2 (L1 L2 : List Nat → Prop) (w : List Nat) : Prop := L1 w ∨ L2 w
def lpow (Lg : List Nat → Prop) : Nat → List Nat → Prop
  | 0, w => w = []
  | k + 1, w => ∃ a b, w = a ++ b ∧ Lg a ∧ lpow Lg k b
def lrep (Lg : List Nat → Prop) (m n : Nat) (w : List Nat) : Prop := ∃ k, m ≤ k ∧ k ≤ n ∧ lpow Lg k w
theorem pa_congr {F F' T T' : Nat → Nat → Prop} {E E' : Nat → Prop} {lo hi : Nat} (hF : ∀ q r, lo ≤ q → q < hi → (F q r ↔ F' q r)) (hT : ∀ q v, lo ≤ q → q < hi → (T q v ↔ T' q v)) (hE : ∀ q, lo ≤ q → q < hi → (E q ↔ E' q)) (hin : ∀ q r, lo ≤ q → q < hi → F q r → lo ≤ r ∧ r < hi) : ∀ (w : List Nat) (q : Nat), lo ≤ q → q < hi → (pa F T E w q ↔ pa F' T' E' w q)
  | [], _, _, _ => Iff.rfl
  | v :: w, q, h1, h2 => by
    unfold pa
    rw [hT q v h1 h2, hE q h1 h2]
    refine and_congr Iff.rfl (or_congr Iff.rfl ⟨fun ⟨r, a, b⟩ => ?_, fun ⟨r, a, b⟩ => ?_⟩)
    · obtain ⟨g1, g2⟩ := hin q r h1 h2 a
      exact ⟨r, (hF q r h1 h2).mp a, (pa_congr hF hT hE hin w r g1 g2).mp b⟩
    · have a' := (hF q r h1 h2).mpr a
      obtain ⟨g1, g2⟩ := hin q r h1 h2 a'
      exact ⟨r, a', (pa_congr hF hT hE hin w r g1 g2).mpr b⟩
theorem Fr.lang {F T : Nat → Nat → Prop} {lo len : Nat} {B E : Nat → Prop} {Lg Lg' : List Nat → Prop} (h : Fr F T lo len B E Lg) (hL : ∀ w, w ≠ [] → (Lg w ↔ Lg' w)) : Fr F T lo len B E Lg' :=
  ⟨h.1, h.2.1, h.2.2.1, fun w hw => (hL w hw).symm.trans (h.2.2.2 w hw)⟩
theorem Fr.congr {F F' T T' : Nat → Nat → Prop} {lo len : Nat} {B B' E E' : Nat → Prop} {Lg : List Nat → Prop} (h : Fr F T lo len B E Lg) (hF : ∀ q r, lo ≤ q → q < lo + len → (F q r ↔ F' q r)) (hT : ∀ q v, lo ≤ q → q < lo + len → (T q v ↔ T' q v)) (hB : ∀ q, B q ↔ B' q) (hE : ∀ q, E q ↔ E' q) : Fr F' T' lo len B' E' Lg := by
  obtain ⟨h1, h2, h3, h4⟩ := h
  have hin : ∀ q r, lo ≤ q → q < lo + len → F q r → lo ≤ r ∧ r < lo + len := fun q r a b c => by
    have := h3 q r a b c
    omega
  refine ⟨fun q hq => h1 q ((hB q).mpr hq), fun q hq => h2 q ((hE q).mpr hq), fun q r a b c => h3 q r a b ((hF q r a b).mpr c), fun w hw => (h4 w hw).trans ⟨fun ⟨q, a, b⟩ => ?_, fun ⟨q, a, b⟩ => ?_⟩⟩
  · obtain ⟨g1, g2⟩ := h1 q a
    exact ⟨q, (hB q).mp a, (pa_congr hF hT (fun q _ _ => hE q) hin w q g1 g2).mp b⟩
  · have a' := (hB q).mpr a
    obtain ⟨g1, g2⟩ := h1 q a'
    exact ⟨q, a', (pa_congr hF hT (fun q _ _ => hE q) hin w q g1 g2).mpr b⟩
theorem app_ne {a b : List Nat} (h : a ≠ []) : a ++ b ≠ [] := by
  cases a with
  | nil => exact absurd rfl h
  | cons x a => simp
/-- in the first piece of a chain -/
theorem pa_chain {F F' T : Nat → Nat → Prop} {lo l1 l2 : Nat} {B2 E1 E2 E' : Nat → Prop} {N2 : Prop}
    (hF1 : ∀ q r, lo ≤ q → q < lo + l1 → (F' q r ↔ F q r ∨ (E1 q ∧ B2 r))) (hF2 : ∀ q r, lo + l1 ≤ q → q < lo + l1 + l2 → (F' q r ↔ F q r))
    (hE1 : ∀ q, lo ≤ q → q < lo + l1 → (E' q ↔ N2 ∧ E1 q)) (hE2 : ∀ q, lo + l1 ≤ q → q < lo + l1 + l2 → (E' q ↔ E2 q))
    (i1 : ∀ q r, lo ≤ q → q < lo + l1 → F q r → q < r ∧ r < lo + l1) (i2 : ∀ q r, lo + l1 ≤ q → q < lo + l1 + l2 → F q r → q < r ∧ r < lo + l1 + l2) (b2 : ∀ q, B2 q → lo + l1 ≤ q ∧ q < lo + l1 + l2) :
    ∀ (w : List Nat) (q : Nat), lo ≤ q → q < lo + l1 → (pa F' T E' w q ↔ (N2 ∧ pa F T E1 w q) ∨ ∃ a b, w = a ++ b ∧ pa F T E1 a q ∧ ∃ r, B2 r ∧ pa F T E2 b r) := by
  have hsec : ∀ (w : List Nat) (q : Nat), lo + l1 ≤ q → q < lo + l1 + l2 → (pa F' T E' w q ↔ pa F T E2 w q) := fun w q a b =>
    pa_congr (lo := lo + l1) (hi := lo + l1 + l2) hF2 (fun _ _ _ _ => Iff.rfl) hE2 (fun q r a b c => by
      have := i2 q r a b ((hF2 q r a b).mp c)
      omega) w q a b
  intro w
  induction w with
  | nil =>
    intro q h1 h2
    constructor
    · intro h; exact h.elim
    · rintro (⟨-, h⟩ | ⟨a, b, e, h, -⟩)
      · exact h.elim
      · have : a = [] := (List.append_eq_nil_iff.mp e.symm).1
        subst this
        exact h.elim
  | cons v w ih =>
    intro q h1 h2
    constructor
    · intro h
      obtain ⟨hT, h⟩ := h
      rcases h with ⟨hw, hE⟩ | ⟨r, hF, h⟩
      · obtain ⟨n2, e1⟩ := (hE1 q h1 h2).mp hE
        exact Or.inl ⟨n2, hT, Or.inl ⟨hw, e1⟩⟩
      · rcases (hF1 q r h1 h2).mp hF with hF | ⟨e1, br⟩
        · have hr := i1 q r h1 h2 hF
          rcases (ih r (by omega) hr.2).mp h with ⟨n2, h⟩ | ⟨a, b, e, ha, hb⟩
          · exact Or.inl ⟨n2, hT, Or.inr ⟨r, hF, h⟩⟩
          · exact Or.inr ⟨v :: a, b, by rw [e]; rfl, ⟨hT, Or.inr ⟨r, hF, ha⟩⟩, hb⟩
        · have hr := b2 r br
          exact Or.inr ⟨[v], w, rfl, ⟨hT, Or.inl ⟨rfl, e1⟩⟩, r, br, (hsec w r hr.1 hr.2).mp h⟩
    · rintro (⟨n2, hT, h⟩ | ⟨a, b, e, ha, r, br, hb⟩)
      · refine ⟨hT, ?_⟩
        rcases h with ⟨hw, hE⟩ | ⟨r, hF, h⟩
        · exact Or.inl ⟨hw, (hE1 q h1 h2).mpr ⟨n2, hE⟩⟩
        · have hr := i1 q r h1 h2 hF
          exact Or.inr ⟨r, (hF1 q r h1 h2).mpr (Or.inl hF), (ih r (by omega) hr.2).mpr (Or.inl ⟨n2, h⟩)⟩
      · cases a with
        | nil => exact ha.elim
        | cons x a =>
          simp only [List.cons_append, List.cons.injEq] at e
          obtain ⟨rfl, e⟩ := e
          obtain ⟨hT, h⟩ := ha
          refine ⟨hT, Or.inr ?_⟩
          rcases h with ⟨ha, hE⟩ | ⟨s, hF, h⟩
          · subst ha
            have hr := b2 r br
            rw [e]
            exact ⟨r, (hF1 q r h1 h2).mpr (Or.inr ⟨hE, br⟩), (hsec b r hr.1 hr.2).mpr hb⟩
          · have hs := i1 q s h1 h2 hF
            exact ⟨s, (hF1 q s h1 h2).mpr (Or.inl hF), (ih s (by omega) hs.2).mpr (Or.inr ⟨a, b, e, h, r, br, hb⟩)⟩
theorem Fr.chain {F F' T : Nat → Nat → Prop} {lo l1 l2 : Nat} {B1 B2 E1 E2 B' E' : Nat → Prop} {L1 L2 : List Nat → Prop} {N1 N2 : Prop} (f1 : Fr F T lo l1 B1 E1 L1) (f2 : Fr F T (lo + l1) l2 B2 E2 L2) (n1 : L1 [] ↔ N1) (n2 : L2 [] ↔ N2)
    (hF1 : ∀ q r, lo ≤ q → q < lo + l1 → (F' q r ↔ F q r ∨ (E1 q ∧ B2 r))) (hF2 : ∀ q r, lo + l1 ≤ q → q < lo + l1 + l2 → (F' q r ↔ F q r))
    (hB : ∀ q, B' q ↔ B1 q ∨ (N1 ∧ B2 q)) (hE : ∀ q, E' q ↔ E2 q ∨ (N2 ∧ E1 q)) : Fr F' T lo (l1 + l2) B' E' (lch L1 L2) := by
  obtain ⟨b1, e1, i1, g1⟩ := f1
  obtain ⟨b2, e2, i2, g2⟩ := f2
  have hE1 : ∀ q, lo ≤ q → q < lo + l1 → (E' q ↔ N2 ∧ E1 q) := fun q a b => (hE q).trans ⟨fun h => h.elim (fun z => by have := e2 q z; omega) id, Or.inr⟩
  have hE2 : ∀ q, lo + l1 ≤ q → q < lo + l1 + l2 → (E' q ↔ E2 q) := fun q a b => (hE q).trans ⟨fun h => h.elim id (fun z => by have := e1 q z.2; omega), Or.inl⟩
  have key := pa_chain (T := T) hF1 hF2 hE1 hE2 i1 i2 b2
  have hsec : ∀ (w : List Nat) (q : Nat), lo + l1 ≤ q → q < lo + l1 + l2 → (pa F' T E' w q ↔ pa F T E2 w q) := fun w q a b =>
    pa_congr (lo := lo + l1) (hi := lo + l1 + l2) hF2 (fun _ _ _ _ => Iff.rfl) hE2 (fun q r a b c => by
      have := i2 q r a b ((hF2 q r a b).mp c)
      omega) w q a b
  refine ⟨fun q hq => ?_, fun q hq => ?_, fun q r a b c => ?_, fun w hw => ?_⟩
  · rcases (hB q).mp hq with h | ⟨-, h⟩
    · have := b1 q h; omega
    · have := b2 q h; omega
  · rcases (hE q).mp hq with h | ⟨-, h⟩
    · have := e2 q h; omega
    · have := e1 q h; omega
  · by_cases hq : q < lo + l1
    · rcases (hF1 q r a hq).mp c with h | ⟨-, h⟩
      · have := i1 q r a hq h; omega
      · have := b2 r h; omega
    · have := i2 q r (by omega) (by omega) ((hF2 q r (by omega) (by omega)).mp c)
      omega
  · constructor
    · rintro ⟨a, b, rfl, ha, hb⟩
      by_cases ha0 : a = []
      · subst ha0
        have hb0 : b ≠ [] := hw
        obtain ⟨q, bq, hq⟩ := (g2 b hb0).mp hb
        have := b2 q bq
        exact ⟨q, (hB q).mpr (Or.inr ⟨n1.mp ha, bq⟩), (hsec _ q (by omega) (by omega)).mpr hq⟩
      · obtain ⟨q, bq, hq⟩ := (g1 a ha0).mp ha
        have := b1 q bq
        refine ⟨q, (hB q).mpr (Or.inl bq), (key _ q (by omega) (by omega)).mpr ?_⟩
        by_cases hb0 : b = []
        · subst hb0
          rw [List.append_nil]
          exact Or.inl ⟨n2.mp hb, hq⟩
        · obtain ⟨r, br, hr⟩ := (g2 b hb0).mp hb
          exact Or.inr ⟨a, b, rfl, hq, r, br, hr⟩
    · rintro ⟨q, bq, hq⟩
      rcases (hB q).mp bq with h | ⟨hn, h⟩
      · have := b1 q h
        rcases (key _ q (by omega) (by omega)).mp hq with ⟨m2, hp⟩ | ⟨a, b, rfl, ha, r, br, hb⟩
        · exact ⟨w, [], by simp, (g1 w hw).mpr ⟨q, h, hp⟩, n2.mpr m2⟩
        · have ha0 : a ≠ [] := by rintro rfl; exact ha
          have hb0 : b ≠ [] := by rintro rfl; exact hb
          exact ⟨a, b, rfl, (g1 a ha0).mpr ⟨q, h, ha⟩, (g2 b hb0).mpr ⟨r, br, hb⟩⟩
      · have := b2 q h
        exact ⟨[], w, rfl, n1.mpr hn, (g2 w hw).mpr ⟨q, h, (hsec _ q (by omega) (by omega)).mp hq⟩⟩
theorem Fr.choose {F T : Nat → Nat → Prop} {lo l1 l2 : Nat} {B1 B2 E1 E2 B' E' : Nat → Prop} {L1 L2 : List Nat → Prop} (f1 : Fr F T lo l1 B1 E1 L1) (f2 : Fr F T (lo + l1) l2 B2 E2 L2) (hB : ∀ q, B' q ↔ B1 q ∨ B2 q) (hE : ∀ q, E' q ↔ E1 q ∨ E2 q) : Fr F T lo (l1 + l2) B' E' (lor2 L1 L2) := by
  obtain ⟨b1, e1, i1, g1⟩ := f1
  obtain ⟨b2, e2, i2, g2⟩ := f2
  have h1 : ∀ (w : List Nat) (q : Nat), lo ≤ q → q < lo + l1 → (pa F T E' w q ↔ pa F T E1 w q) := fun w q a b =>
    pa_congr (lo := lo) (hi := lo + l1) (fun _ _ _ _ => Iff.rfl) (fun _ _ _ _ => Iff.rfl) (fun q a b => (hE q).trans ⟨fun h => h.elim id (fun z => by have := e2 q z; omega), Or.inl⟩) (fun q r a b c => by have := i1 q r a b c; omega) w q a b
  have h2 : ∀ (w : List Nat) (q : Nat), lo + l1 ≤ q → q < lo + l1 + l2 → (pa F T E' w q ↔ pa F T E2 w q) := fun w q a b =>
    pa_congr (lo := lo + l1) (hi := lo + l1 + l2) (fun _ _ _ _ => Iff.rfl) (fun _ _ _ _ => Iff.rfl) (fun q a b => (hE q).trans ⟨fun h => h.elim (fun z => by have := e1 q z; omega) id, Or.inr⟩) (fun q r a b c => by have := i2 q r a b c; omega) w q a b
  refine ⟨fun q hq => ?_, fun q hq => ?_, fun q r a b c => ?_, fun w hw => ?_⟩
  · rcases (hB q).mp hq with h | h
    · have := b1 q h; omega
    · have := b2 q h; omega
  · rcases (hE q).mp hq with h | h
    · have := e1 q h; omega
    · have := e2 q h; omega
  · by_cases hq : q < lo + l1
    · have := i1 q r a hq c; omega
    · have := i2 q r (by omega) (by omega) c; omega
  · constructor
    · rintro (h | h)
      · obtain ⟨q, bq, hq⟩ := (g1 w hw).mp h
        have := b1 q bq
        exact ⟨q, (hB q).mpr (Or.inl bq), (h1 w q (by omega) (by omega)).mpr hq⟩
      · obtain ⟨q, bq, hq⟩ := (g2 w hw).mp h
        have := b2 q bq
        exact ⟨q, (hB q).mpr (Or.inr bq), (h2 w q (by omega) (by omega)).mpr hq⟩
    · rintro ⟨q, bq, hq⟩
      rcases (hB q).mp bq with h | h
      · have := b1 q h
        exact Or.inl ((g1 w hw).mpr ⟨q, h, (h1 w q (by omega) (by omega)).mp hq⟩)
      · have := b2 q h
        exact Or.inr ((g2 w hw).mpr ⟨q, h, (h2 w q (by omega) (by omega)).mp hq⟩)
/-- a copy further on -/
theorem pa_shift {F F' T T' : Nat → Nat → Prop} {E E' : Nat → Prop} {lo len s : Nat} (hF : ∀ q r, lo ≤ q → q < lo + len → (F' (q + s) r ↔ ∃ r0, r = r0 + s ∧ F q r0)) (hT : ∀ q v, lo ≤ q → q < lo + len → (T' (q + s) v ↔ T q v)) (hE : ∀ q, lo ≤ q → q < lo + len → (E' (q + s) ↔ E q)) (hin : ∀ q r, lo ≤ q → q < lo + len → F q r → lo ≤ r ∧ r < lo + len) : ∀ (w : List Nat) (q : Nat), lo ≤ q → q < lo + len → (pa F' T' E' w (q + s) ↔ pa F T E w q)
  | [], _, _, _ => Iff.rfl
  | v :: w, q, h1, h2 => by
    unfold pa
    rw [hT q v h1 h2, hE q h1 h2]
    refine and_congr Iff.rfl (or_congr Iff.rfl ⟨fun ⟨r, a, b⟩ => ?_, fun ⟨r, a, b⟩ => ?_⟩)
    · obtain ⟨r0, rfl, a2⟩ := (hF q r h1 h2).mp a
      obtain ⟨g1, g2⟩ := hin q r0 h1 h2 a2
      exact ⟨r0, a2, (pa_shift hF hT hE hin w r0 g1 g2).mp b⟩
    · obtain ⟨g1, g2⟩ := hin q r h1 h2 a
      exact ⟨r + s, (hF q _ h1 h2).mpr ⟨r, rfl, a⟩, (pa_shift hF hT hE hin w r g1 g2).mpr b⟩
theorem Fr.shift {F F' T T' : Nat → Nat → Prop} {B B' E E' : Nat → Prop} {lo len s : Nat} {Lg : List Nat → Prop} (h : Fr F T lo len B E Lg) (hF : ∀ q r, lo ≤ q → q < lo + len → (F' (q + s) r ↔ ∃ r0, r = r0 + s ∧ F q r0)) (hT : ∀ q v, lo ≤ q → q < lo + len → (T' (q + s) v ↔ T q v)) (hB : ∀ q, B' q ↔ ∃ q0, q = q0 + s ∧ B q0) (hE : ∀ q, E' q ↔ ∃ q0, q = q0 + s ∧ E q0) : Fr F' T' (lo + s) len B' E' Lg := by
  obtain ⟨b, e, i, g⟩ := h
  have hin : ∀ q r, lo ≤ q → q < lo + len → F q r → lo ≤ r ∧ r < lo + len := fun q r x y c => by have := i q r x y c; omega
  have hE' : ∀ q, lo ≤ q → q < lo + len → (E' (q + s) ↔ E q) := by
    intro q _ _
    rw [hE]
    constructor
    · rintro ⟨q0, h1, h2⟩
      have : q = q0 := by omega
      rw [this]; exact h2
    · exact fun h => ⟨q, rfl, h⟩
  refine ⟨fun q hq => ?_, fun q hq => ?_, fun q r x y c => ?_, fun w hw => (g w hw).trans ⟨fun ⟨q, h1, h2⟩ => ?_, fun ⟨q, h1, h2⟩ => ?_⟩⟩
  · obtain ⟨q0, rfl, h⟩ := (hB q).mp hq
    have := b q0 h; omega
  · obtain ⟨q0, rfl, h⟩ := (hE q).mp hq
    have := e q0 h; omega
  · obtain ⟨r0, rfl, h⟩ := (hF (q - s) r (by omega) (by omega)).mp (by rwa [show q - s + s = q by omega])
    have := i _ r0 (by omega) (by omega) h
    omega
  · have := b q h1
    exact ⟨q + s, (hB _).mpr ⟨q, rfl, h1⟩, (pa_shift hF hT hE' hin w q (by omega) (by omega)).mpr h2⟩
  · obtain ⟨q0, rfl, h3⟩ := (hB q).mp h1
    have := b q0 h3
    exact ⟨q0, h3, (pa_shift hF hT hE' hin w q0 (by omega) (by omega)).mp h2⟩
