/-! runs of a machine over a word -/
/-- the class's: positions that have been taken, only such from which an end can be reached -/
def wk (F T : Nat → Nat → Prop) (U : Nat → Prop) : List Nat → (Nat → Prop) → Nat → Prop
  | [], X => X
  | v :: u, X => wk F T U u (fun r => ∃ q, X q ∧ F q r ∧ T r v ∧ U r)
/-- the reference's: positions that may come next -/
def nx (F T : Nat → Nat → Prop) : List Nat → (Nat → Prop) → Nat → Prop
  | [], X => X
  | v :: u, X => nx F T u (fun r => ∃ q, X q ∧ T q v ∧ F q r)
theorem wk_app {F T : Nat → Nat → Prop} {U : Nat → Prop} : ∀ (u w : List Nat) (X : Nat → Prop), wk F T U (u ++ w) X = wk F T U w (wk F T U u X)
  | [], _, _ => rfl
  | _ :: u, w, _ => wk_app u w _
theorem nx_app {F T : Nat → Nat → Prop} : ∀ (u w : List Nat) (X : Nat → Prop), nx F T (u ++ w) X = nx F T w (nx F T u X)
  | [], _, _ => rfl
  | _ :: u, w, _ => nx_app u w _
theorem wk_go {F T : Nat → Nat → Prop} {U E : Nat → Prop} (hU : ∀ r w, pa F T E w r → U r) {w : List Nat} (hw : w ≠ []) : ∀ (u : List Nat) (X : Nat → Prop), (∃ q, wk F T U u X q ∧ ∃ r, F q r ∧ pa F T E w r) ↔ ∃ q, X q ∧ ∃ r, F q r ∧ pa F T E (u ++ w) r
  | [], _ => Iff.rfl
  | v :: u, X => by
    show (∃ q, wk F T U u (fun r => ∃ q, X q ∧ F q r ∧ T r v ∧ U r) q ∧ ∃ r, F q r ∧ pa F T E w r) ↔ _
    rw [wk_go hU hw u]
    have hne : u ++ w ≠ [] := by
      intro h
      exact hw (List.append_eq_nil_iff.mp h).2
    constructor
    · rintro ⟨q, ⟨q0, h1, h2, h3, h4⟩, r, h5, h6⟩
      exact ⟨q0, h1, q, h2, h3, Or.inr ⟨r, h5, h6⟩⟩
    · rintro ⟨q0, h1, q, h2, h3⟩
      have hu := hU q _ h3
      obtain ⟨h3, h4⟩ := h3
      rcases h4 with ⟨h4, -⟩ | ⟨r, h5, h6⟩
      · exact absurd h4 hne
      · exact ⟨q, ⟨q0, h1, h2, h3, hu⟩, r, h5, h6⟩
theorem wk_end {F T : Nat → Nat → Prop} {U E : Nat → Prop} (hU : ∀ r w, pa F T E w r → U r) (u : List Nat) (v : Nat) (X : Nat → Prop) : (∃ q, wk F T U (u ++ [v]) X q ∧ E q) ↔ ∃ q, X q ∧ ∃ r, F q r ∧ pa F T E (u ++ [v]) r := by
  rw [← wk_go hU (by simp) u X, wk_app]
  constructor
  · rintro ⟨r, ⟨q, h1, h2, h3, h4⟩, h5⟩
    exact ⟨q, h1, r, h2, h3, Or.inl ⟨rfl, h5⟩⟩
  · rintro ⟨q, h1, r, h2, h3⟩
    have hu := hU r _ h3
    obtain ⟨h3, h4⟩ := h3
    rcases h4 with ⟨-, h4⟩ | ⟨s, -, h⟩
    · exact ⟨r, ⟨q, h1, h2, h3, hu⟩, h4⟩
    · exact h.elim
theorem nx_go {F T : Nat → Nat → Prop} {E : Nat → Prop} {w : List Nat} (hw : w ≠ []) : ∀ (u : List Nat) (X : Nat → Prop), (∃ q, nx F T u X q ∧ pa F T E w q) ↔ ∃ q, X q ∧ pa F T E (u ++ w) q
  | [], _ => Iff.rfl
  | v :: u, X => by
    show (∃ q, nx F T u (fun r => ∃ q, X q ∧ T q v ∧ F q r) q ∧ pa F T E w q) ↔ _
    rw [nx_go hw u]
    have hne : u ++ w ≠ [] := by
      intro h
      exact hw (List.append_eq_nil_iff.mp h).2
    constructor
    · rintro ⟨r, ⟨q, h1, h2, h3⟩, h4⟩
      exact ⟨q, h1, h2, Or.inr ⟨r, h3, h4⟩⟩
    · rintro ⟨q, h1, h2, h3⟩
      rcases h3 with ⟨h3, -⟩ | ⟨r, h3, h4⟩
      · exact absurd h3 hne
      · exact ⟨r, ⟨q, h1, h2, h3⟩, h4⟩
theorem nx_end {F T : Nat → Nat → Prop} {E : Nat → Prop} (u : List Nat) (v : Nat) (X : Nat → Prop) : (∃ q, nx F T u X q ∧ T q v ∧ E q) ↔ ∃ q, X q ∧ pa F T E (u ++ [v]) q := by
  rw [← nx_go (by simp) u X]
  constructor
  · rintro ⟨q, h1, h2, h3⟩
    exact ⟨q, h1, h2, Or.inl ⟨rfl, h3⟩⟩
  · rintro ⟨q, h1, h2, h3⟩
    rcases h3 with ⟨-, h3⟩ | ⟨s, -, h⟩
    · exact ⟨q, h1, h2, h3⟩
    · exact h.elim
theorem pa_ne {F T : Nat → Nat → Prop} {E : Nat → Prop} {w : List Nat} {q : Nat} (h : pa F T E w q) : w ≠ [] := by
  rintro rfl
  exact h
/-- positions from which an end can be reached -/
theorem live_iff {F T : Nat → Nat → Prop} {U E : Nat → Prop} {P : Nat} (hF : ∀ q r, q ≤ P → F q r → q < r ∧ r ≤ P) (hU : ∀ q, q ≤ P → (U q ↔ (∃ v, T q v) ∧ (E q ∨ ∃ r, F q r ∧ U r))) : ∀ q, q ≤ P → (U q ↔ ∃ w, pa F T E w q) := by
  have key : ∀ k q, q ≤ P → P - q ≤ k → (U q ↔ ∃ w, pa F T E w q) := by
    intro k
    induction k with
    | zero =>
      intro q h1 h2
      rw [hU q h1]
      constructor
      · rintro ⟨⟨v, hv⟩, h | ⟨r, h, -⟩⟩
        · exact ⟨[v], hv, Or.inl ⟨rfl, h⟩⟩
        · have := hF q r h1 h; omega
      · rintro ⟨w, h⟩
        cases w with
        | nil => exact h.elim
        | cons v w =>
          obtain ⟨h3, h4⟩ := h
          refine ⟨⟨v, h3⟩, ?_⟩
          rcases h4 with ⟨-, h4⟩ | ⟨r, h4, -⟩
          · exact Or.inl h4
          · have := hF q r h1 h4; omega
    | succ k ih =>
      intro q h1 h2
      rw [hU q h1]
      constructor
      · rintro ⟨⟨v, hv⟩, h | ⟨r, h, hr⟩⟩
        · exact ⟨[v], hv, Or.inl ⟨rfl, h⟩⟩
        · have := hF q r h1 h
          obtain ⟨w, hw⟩ := (ih r this.2 (by omega)).mp hr
          exact ⟨v :: w, hv, Or.inr ⟨r, h, hw⟩⟩
      · rintro ⟨w, h⟩
        cases w with
        | nil => exact h.elim
        | cons v w =>
          obtain ⟨h3, h4⟩ := h
          refine ⟨⟨v, h3⟩, ?_⟩
          rcases h4 with ⟨-, h4⟩ | ⟨r, h4, h5⟩
          · exact Or.inl h4
          · have := hF q r h1 h4
            exact Or.inr ⟨r, h4, (ih r this.2 (by omega)).mpr ⟨w, h5⟩⟩
  exact fun q h => key (P - q) q h (Nat.le_refl _)
