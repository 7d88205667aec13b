/-! what is read moves on -/
def Mono {α : Type} (N : Nat) (r : Nat → Rs α) : Prop := ∀ i v j, i ≤ N → r i = .inr (v, j) → i < j ∧ j ≤ N
theorem nxt_inr {α : Type} {X : Nat → Tk} {i : Nat} {f : Nat → Rs α} {y : α × Nat} (h : nxt X i f = .inr y) : f (X i).2.2.2 = .inr y := by
  unfold nxt at h
  by_cases hb : (X (X i).2.2.2).1 = 3
  · rw [if_pos hb] at h; exact absurd h (by simp)
  · rw [if_neg hb] at h; exact h
theorem rb_inr {α γ : Type} {r : Rs α} {f : α → Nat → Rs γ} {y : γ × Nat} (h : rb r f = .inr y) : ∃ v j, r = .inr (v, j) ∧ f v j = .inr y := by
  cases r with
  | inl e => unfold rb at h; exact absurd h (by simp)
  | inr x => exact ⟨x.1, x.2, rfl, h⟩
theorem sPl_mono {X : Nat → Tk} {N : Nat} {pt : Nat → Int64} {R : Option (Nat → Rs T4)} (hk : tkOk X N) (hR : ∀ r, R = some r → Mono N r) : Mono N (sPl X pt R) := by
  intro i v j hi h
  have hki := hk i hi
  unfold sPl at h
  by_cases h1 : (X i).1 = 1
  · rw [if_pos h1] at h
    have := nxt_inr h
    have e : (X i).2.2.2 = j := congrArg Prod.snd (Sum.inr.inj this)
    have := hki.2.2.1 (by omega)
    have := hki.1
    omega
  · rw [if_neg h1] at h
    by_cases h40 : (X i).1 = 40
    · rw [if_pos h40] at h
      cases R with
      | none => exact absurd h (by simp)
      | some r =>
        obtain ⟨t, j', e1, e2⟩ := rb_inr (nxt_inr h)
        have g1 := hki.2.2.1 (by omega)
        obtain ⟨g2, g3⟩ := hR r rfl _ _ _ hki.1 e1
        by_cases h41 : (X j').1 = 41
        · rw [if_pos h41] at e2
          have e : (X j').2.2.2 = j := congrArg Prod.snd (Sum.inr.inj (nxt_inr e2))
          have g4 := (hk j' g3).2.1
          have g5 := (hk j' g3).1
          omega
        · rw [if_neg h41] at e2; exact absurd e2 (by simp)
    · rw [if_neg h40] at h; exact absurd h (by simp)
theorem sNeg_mono {X : Nat → Tk} {N : Nat} {pt : Nat → Int64} {R : Option (Nat → Rs T4)} (hk : tkOk X N) (hR : ∀ r, R = some r → Mono N r) : ∀ f g, Mono N (sNeg X pt R f g) := by
  have hp := sPl_mono (pt := pt) hk hR
  intro f
  induction f with
  | zero =>
    intro g i v j hi h
    obtain ⟨t, j', e1, e2⟩ := rb_inr h
    have e : j' = j := congrArg Prod.snd (Sum.inr.inj e2)
    subst e
    exact hp i t j' hi e1
  | succ f ih =>
    intro g i v j hi h
    unfold sNeg at h
    by_cases h33 : (X i).1 = 33
    · rw [if_pos h33] at h
      have g1 := (hk i hi).2.2.1 (by omega)
      have := ih _ _ _ _ (hk i hi).1 (nxt_inr h)
      omega
    · rw [if_neg h33] at h
      obtain ⟨t, j', e1, e2⟩ := rb_inr h
      have e : j' = j := congrArg Prod.snd (Sum.inr.inj e2)
      subst e
      exact hp i t j' hi e1
theorem sAlL_mono {X : Nat → Tk} {N : Nat} {pt : Nat → Int64} {R : Option (Nat → Rs T4)} (hk : tkOk X N) (hR : ∀ r, R = some r → Mono N r) : ∀ f t i v j, i ≤ N → sAlL X pt R f t i = .inr (v, j) → i ≤ j ∧ j ≤ N := by
  intro f
  induction f with
  | zero =>
    intro t i v j hi h
    have e : i = j := congrArg Prod.snd (Sum.inr.inj h)
    omega
  | succ f ih =>
    intro t i v j hi h
    unfold sAlL at h
    by_cases hop : (X i).1 = 38
    · rw [if_pos hop] at h
      obtain ⟨u, k, e1, e2⟩ := rb_inr (nxt_inr h)
      have g1 := (hk i hi).2.1
      obtain ⟨g2, g3⟩ := sNeg_mono hk hR 200 false _ _ _ (hk i hi).1 e1
      have := ih _ _ _ _ g3 e2
      omega
    · rw [if_neg hop] at h
      have e : i = j := congrArg Prod.snd (Sum.inr.inj h)
      omega
theorem sAl_mono {X : Nat → Tk} {N : Nat} {pt : Nat → Int64} {R : Option (Nat → Rs T4)} (hk : tkOk X N) (hR : ∀ r, R = some r → Mono N r) : Mono N (sAl X pt R) := by
  intro i v j hi h
  obtain ⟨t, j', e1, e2⟩ := rb_inr h
  obtain ⟨g2, g3⟩ := sNeg_mono hk hR 200 false _ _ _ hi e1
  have := sAlL_mono hk hR 200 t j' v j g3 e2
  omega
theorem sAnL_mono {X : Nat → Tk} {N : Nat} {pt : Nat → Int64} {R : Option (Nat → Rs T4)} (hk : tkOk X N) (hR : ∀ r, R = some r → Mono N r) : ∀ f t i v j, i ≤ N → sAnL X pt R f t i = .inr (v, j) → i ≤ j ∧ j ≤ N := by
  intro f
  induction f with
  | zero =>
    intro t i v j hi h
    have e : i = j := congrArg Prod.snd (Sum.inr.inj h)
    omega
  | succ f ih =>
    intro t i v j hi h
    unfold sAnL at h
    by_cases hop : (X i).1 = 124
    · rw [if_pos hop] at h
      obtain ⟨u, k, e1, e2⟩ := rb_inr (nxt_inr h)
      have g1 := (hk i hi).2.1
      obtain ⟨g2, g3⟩ := sAl_mono hk hR _ _ _ (hk i hi).1 e1
      have := ih _ _ _ _ g3 e2
      omega
    · rw [if_neg hop] at h
      have e : i = j := congrArg Prod.snd (Sum.inr.inj h)
      omega
theorem sAnB_mono {X : Nat → Tk} {N : Nat} {pt : Nat → Int64} {R : Option (Nat → Rs T4)} (hk : tkOk X N) (hR : ∀ r, R = some r → Mono N r) : Mono N (sAnB X pt R) := by
  intro i v j hi h
  obtain ⟨t, j', e1, e2⟩ := rb_inr h
  obtain ⟨g2, g3⟩ := sAl_mono hk hR _ _ _ hi e1
  have := sAnL_mono hk hR 200 t j' v j g3 e2
  omega
theorem sAn_mono {X : Nat → Tk} {N : Nat} {pt : Nat → Int64} (hk : tkOk X N) : ∀ k, Mono N (sAn X pt k)
  | 0 => sAnB_mono hk (fun r h => absurd h (by simp))
  | k + 1 => sAnB_mono hk (fun r h => by
    have : sAn X pt k = r := Option.some.inj h
    rw [← this]
    exact sAn_mono hk k)
theorem rK_mono {X : Nat → Tk} {N : Nat} {pt : Nat → Int64} (hk : tkOk X N) : ∀ k r, rK X pt k = some r → Mono N r
  | 0, r, h => absurd h (by unfold rK; simp)
  | k + 1, r, h => by
    have : sAn X pt k = r := Option.some.inj h
    rw [← this]
    exact sAn_mono hk k
