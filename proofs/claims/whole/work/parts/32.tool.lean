/-! tools: numbers as nI, loops, rows -/
theorem il (n : Nat) : (@OfNat.ofNat Int32 n _) = nI (OfNat.ofNat n) := rfl
theorem nI_mul (a b : Nat) : nI a * nI b = nI (a * b) := (Int32.ofNat_mul a b).symm
theorem nI_sub {a b : Nat} (h : b ≤ a) : nI a - nI b = nI (a - b) := by
  have e : nI a = nI (a - b) + nI b := by rw [nI_add, Nat.sub_add_cancel h]
  rw [e, Int32.add_sub_cancel]
theorem nI_div {a b : Nat} (ha : a < 2 ^ 31) (h0 : 0 < b) (hb : b < 2 ^ 31) : nI a / nI b = nI (a / b) := by
  apply Int32.toInt_inj.mp
  rw [lg_idiv_nonneg (by rw [nI_toInt ha]; omega) (by rw [nI_toInt hb]; omega), nI_toInt ha, nI_toInt hb, nI_toInt (Nat.lt_of_le_of_lt (Nat.div_le_self a b) ha)]
  rfl
theorem nI_rem {a b : Nat} (h0 : 0 < b) : nI a - nI (a / b) * nI b = nI (a % b) := by
  rw [nI_mul, nI_sub (Nat.div_mul_le_self a b)]
  congr 1
  have := Nat.div_add_mod a b
  rw [Nat.mul_comm] at this
  omega
theorem nI_N {a b : Nat} (ha : a < 2 ^ 31) (hb : b < 2 ^ 31) : (nI a = nI b) = (a = b) := propext (nI_eq ha hb)
theorem nI_L {a b : Nat} (ha : a < 2 ^ 31) (hb : b < 2 ^ 31) : (nI a < nI b) = (a < b) := propext (nI_ltI ha hb)
theorem nI_E {a b : Nat} (ha : a < 2 ^ 31) (hb : b < 2 ^ 31) : (nI a ≤ nI b) = (a ≤ b) := propext (nI_leI ha hb)
theorem zinT {k n : Nat} (h : k < n) (hn : n < 2 ^ 31) : (zin (nI k) n = true) = True := eq_true (zin_n h hn)
theorem zifT {c : Prop} [Decidable c] {x : zO} (h : c) : zif c x = x := if_pos h
theorem iteT {α : Sort _} {c : Prop} [Decidable c] {x y : α} (h : c) : (if c then x else y) = x := if_pos h
theorem iteF {α : Sort _} {c : Prop} [Decidable c] {x y : α} (h : ¬ c) : (if c then x else y) = y := if_neg h
/-- an argument is a small number or not -/
theorem i_cases (x : Int32) (n : Nat) (hn : n < 2 ^ 31) : (∃ k, k < n ∧ x = nI k) ∨ (x.toInt < 0 ∨ (n : Int) ≤ x.toInt) := by
  by_cases h : x < 0
  · exact Or.inr (Or.inl (i32_lt.mp h))
  · obtain ⟨j, hj, rfl⟩ := nI_of h
    by_cases h2 : j < n
    · exact Or.inl ⟨j, h2, rfl⟩
    · exact Or.inr (Or.inr (by rw [nI_toInt hj]; omega))
theorem zloop {g : Nat → zO} {n : Nat} (h : ∀ k, k < n → g k = g (k + 1)) : g 0 = g n := by
  have : ∀ k, k ≤ n → g 0 = g k := by
    intro k
    induction k with
    | zero => intro _; rfl
    | succ k ih => intro hk; rw [ih (by omega), h k (by omega)]
  exact this n (Nat.le_refl n)
theorem zloopE {σ : Type} {g : Nat → σ → zO} {P : Nat → σ → Prop} {n : Nat} (h : ∀ k s, k < n → P k s → ∃ s', g k s = g (k + 1) s' ∧ P (k + 1) s') {s0 : σ} (h0 : P 0 s0) : ∃ s', g 0 s0 = g n s' ∧ P n s' := by
  have : ∀ k, k ≤ n → ∃ s', g 0 s0 = g k s' ∧ P k s' := by
    intro k
    induction k with
    | zero => intro _; exact ⟨s0, rfl, h0⟩
    | succ k ih =>
      intro hk
      obtain ⟨s, e, hs⟩ := ih (by omega)
      obtain ⟨s', e', hs'⟩ := h k s (by omega) hs
      exact ⟨s', e.trans e', hs'⟩
  exact this n (Nat.le_refl n)
/-- rows filled from b on -/
def fil {α : Type} (b : Nat) (f g : Nat → α) (k : Nat) : Nat → α := fun i => if b ≤ i ∧ i < b + k then g (i - b) else f i
theorem fil_0 {α : Type} (b : Nat) (f g : Nat → α) : fil b f g 0 = f := by
  funext i; unfold fil; rw [if_neg (by omega)]
theorem zwI_self (M : zM) (a : Nat) : zwI M a (zI M a) = M := by
  obtain ⟨n, k, i, l, r⟩ := M
  unfold zwI
  congr 3
  funext b
  unfold zrow
  by_cases h : b = a
  · subst h; simp [zI]
  · simp [h]
theorem zwL_self (M : zM) (a : Nat) : zwL M a (zL M a) = M := by
  obtain ⟨n, k, i, l, r⟩ := M
  unfold zwL
  congr 4
  funext b
  unfold zrow
  by_cases h : b = a
  · subst h; simp [zL]
  · simp [h]
theorem zsI_fil (M : zM) (a b k : Nat) (f g : Nat → Int32) (x : Int32) (hx : x = g k) : zsI (zwI M a (fil b f g k)) a (b + k) x = zwI M a (fil b f g (k + 1)) := by
  subst hx
  unfold zsI zwI
  congr 3
  funext c j
  unfold zu zrow fil
  by_cases h : c = a
  · subst h
    by_cases h2 : j = b + k
    · subst h2
      rw [if_pos ⟨rfl, rfl⟩, if_pos rfl, if_pos (by omega), Nat.add_sub_cancel_left]
    · rw [if_neg (fun q => h2 q.2)]
      simp only [if_true]
      by_cases h3 : b ≤ j ∧ j < b + k
      · rw [if_pos h3, if_pos (by omega)]
      · rw [if_neg h3, if_neg (by omega)]
  · rw [if_neg (fun q => h q.1)]
    simp only [h, if_false]
theorem zsL_fil (M : zM) (a b k : Nat) (f g : Nat → Int64) (x : Int64) (hx : x = g k) : zsL (zwL M a (fil b f g k)) a (b + k) x = zwL M a (fil b f g (k + 1)) := by
  subst hx
  unfold zsL zwL
  congr 4
  funext c j
  unfold zu zrow fil
  by_cases h : c = a
  · subst h
    by_cases h2 : j = b + k
    · subst h2
      rw [if_pos ⟨rfl, rfl⟩, if_pos rfl, if_pos (by omega), Nat.add_sub_cancel_left]
    · rw [if_neg (fun q => h2 q.2)]
      simp only [if_true]
      by_cases h3 : b ≤ j ∧ j < b + k
      · rw [if_pos h3, if_pos (by omega)]
      · rw [if_neg h3, if_neg (by omega)]
  · rw [if_neg (fun q => h q.1)]
    simp only [h, if_false]
theorem zlit64 : (0 : Int64).toInt = 0 ∧ (1 : Int64).toInt = 1 ∧ (2 : Int64).toInt = 2 ∧ (3 : Int64).toInt = 3 ∧ (4 : Int64).toInt = 4 ∧ (7 : Int64).toInt = 7 ∧ (9 : Int64).toInt = 9 ∧ (20 : Int64).toInt = 20 ∧ (48 : Int64).toInt = 48 ∧ (57 : Int64).toInt = 57 ∧ (97 : Int64).toInt = 97 ∧ (104 : Int64).toInt = 104 ∧ (127 : Int64).toInt = 127 ∧ (255 : Int64).toInt = 255 := ⟨rfl, rfl, rfl, rfl, rfl, rfl, rfl, rfl, rfl, rfl, rfl, rfl, rfl, rfl⟩
theorem nI_subI {a b : Nat} (ha : a < 2 ^ 31) (hb : b < 2 ^ 31) : (nI a - nI b).toInt = (a : Int) - b := by
  rw [Int32.toInt_sub, nI_toInt ha, nI_toInt hb]
  exact Int.bmod_eq_of_le (by omega) (by omega)
