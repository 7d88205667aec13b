/-! numbers -/
theorem i64_toInt (x : Int32) : (Int32.toInt64 x).toInt = x.toInt := Int32.toInt_toInt64 x
theorem lgc_lt {x y : Int64} : (lg_cmp x y < 0) ↔ x.toInt < y.toInt := by
  unfold lg_cmp
  by_cases h1 : x > y
  · rw [if_pos h1]
    have : y.toInt < x.toInt := Int64.lt_iff_toInt_lt.mp h1
    constructor
    · intro h; exact absurd h (by decide)
    · intro h; omega
  · rw [if_neg h1]
    have h1' : ¬ y.toInt < x.toInt := fun q => h1 (Int64.lt_iff_toInt_lt.mpr q)
    by_cases h2 : x = y
    · rw [if_pos h2]
      subst h2
      constructor
      · intro h; exact absurd h (by decide)
      · intro h; omega
    · rw [if_neg h2]
      have h3 : x.toInt ≠ y.toInt := fun q => h2 (Int64.toInt_inj.mp q)
      constructor
      · intro _; omega
      · intro _; decide
theorem lgc_gt {x y : Int64} : (0 < lg_cmp x y) ↔ y.toInt < x.toInt := by
  unfold lg_cmp
  by_cases h1 : x > y
  · rw [if_pos h1]
    have : y.toInt < x.toInt := Int64.lt_iff_toInt_lt.mp h1
    exact ⟨fun _ => this, fun _ => by decide⟩
  · rw [if_neg h1]
    have h1' : ¬ y.toInt < x.toInt := fun q => h1 (Int64.lt_iff_toInt_lt.mpr q)
    by_cases h2 : x = y
    · rw [if_pos h2]
      exact ⟨fun h => absurd h (by decide), fun h => absurd h h1'⟩
    · rw [if_neg h2]
      exact ⟨fun h => absurd h (by decide), fun h => absurd h h1'⟩
theorem lgc_eq {x y : Int64} : (lg_cmp x y = 0) ↔ x = y := by
  unfold lg_cmp
  by_cases h1 : x > y
  · rw [if_pos h1]
    have : y.toInt < x.toInt := Int64.lt_iff_toInt_lt.mp h1
    exact ⟨fun h => absurd h (by decide), fun h => by subst h; omega⟩
  · rw [if_neg h1]
    by_cases h2 : x = y
    · rw [if_pos h2]; exact ⟨fun _ => h2, fun _ => rfl⟩
    · rw [if_neg h2]; exact ⟨fun h => absurd h (by decide), fun h => absurd h h2⟩
theorem flag01 {c : Prop} [Decidable c] : ((if c then (1 : Int32) else 0) ≠ 0) ↔ c := by
  by_cases h : c
  · rw [if_pos h]; exact ⟨fun _ => h, fun _ => by decide⟩
  · rw [if_neg h]; exact ⟨fun q => absurd rfl q, fun q => absurd q h⟩
theorem flag00 {c : Prop} [Decidable c] : ((if c then (1 : Int32) else 0) = 0) ↔ ¬ c := by
  by_cases h : c
  · rw [if_pos h]; exact ⟨fun q => absurd q (by decide), fun q => absurd h q⟩
  · rw [if_neg h]; exact ⟨fun _ => h, fun _ => rfl⟩
/-! the reference's small functions -/
theorem mo_in {d : Nat} (hd : 1 ≤ d) (v lo hi : Int64) (M : zM) : zV d n_Mo_in [.long v, .long lo, .long hi] M = some (some (.int (if lo.toInt ≤ v.toInt ∧ v.toInt ≤ hi.toInt then 1 else 0)), M) := by
  obtain ⟨d, rfl, -⟩ := zdep hd
  rw [ze_Mo_in]
  unfold zx_Mo_in
  simp only [lgc_lt, lgc_gt]
  by_cases h1 : v.toInt < lo.toInt
  · rw [if_pos h1, if_neg (by omega)]; rfl
  · rw [if_neg h1]
    by_cases h2 : hi.toInt < v.toInt
    · rw [if_pos h2, if_neg (by omega)]; rfl
    · rw [if_neg h2, if_pos (by omega)]; rfl
theorem mo_flag {d : Nat} (hd : 1 ≤ d) (x : Int32) (M : zM) : zV d n_Mo_flag [.int x] M = some (some (.int (if x = 0 then 0 else 1)), M) := by
  obtain ⟨d, rfl, -⟩ := zdep hd
  rw [ze_Mo_flag]
  unfold zx_Mo_flag
  split <;> rfl
theorem mo_least {d : Nat} (hd : 1 ≤ d) (x y : Int32) (M : zM) : zV d n_Mo_least [.int x, .int y] M = some (some (.int (if y ≤ x then y else x)), M) := by
  obtain ⟨d, rfl, -⟩ := zdep hd
  rw [ze_Mo_least]
  unfold zx_Mo_least
  split <;> rfl
theorem mo_greatest {d : Nat} (hd : 1 ≤ d) (x y : Int32) (M : zM) : zV d n_Mo_greatest [.int x, .int y] M = some (some (.int (if x ≤ y then y else x)), M) := by
  obtain ⟨d, rfl, -⟩ := zdep hd
  rw [ze_Mo_greatest]
  unfold zx_Mo_greatest
  split <;> rfl
/-! feed: class and reference -/
def rTape (M : zM) : Prop := ∃ n : Nat, n ≤ 200 ∧ zI M 4 1 = nI n ∧ zI M 146 13 = nI n ∧ ∀ i, i < n → zI M 5 i = zI M 158 i ∧ 0 ≤ (zI M 5 i).toInt ∧ (zI M 5 i).toInt ≤ 127
theorem i32_le {x y : Int32} : x ≤ y ↔ x.toInt ≤ y.toInt := Int32.le_iff_toInt_le
theorem i32_lt {x y : Int32} : x < y ↔ x.toInt < y.toInt := Int32.lt_iff_toInt_lt
theorem nar_b {x : Int32} (h0 : -128 ≤ x.toInt) (h1 : x.toInt ≤ 127) : vp_nar .byte x = x := by
  rw [vp_nar_byte]
  apply Int32.toInt_inj.mp
  rw [Int8.toInt_toInt32, Int32.toInt_toInt8]
  exact Int.bmod_eq_of_le (by simp; omega) (by simp; omega)
theorem b_id {x : Int32} (h0 : -128 ≤ x.toInt) (h1 : x.toInt ≤ 127) : (Int32.toInt8 x).toInt32 = x := by
  apply Int32.toInt_inj.mp
  rw [Int8.toInt_toInt32, Int32.toInt_toInt8]
  exact Int.bmod_eq_of_le (by simp; omega) (by simp; omega)
theorem zne : (∀ (c : Prop) (h : ¬ c), c = False) := fun _ h => eq_false h
theorem zarr : ((20 : Nat) = 20 ∨ (20 : Nat) = 24) = True ∧ ((24 : Nat) = 20 ∨ (24 : Nat) = 24) = True ∧ ((21 : Nat) = 21 ∨ (21 : Nat) = 22) = True ∧ ((22 : Nat) = 21 ∨ (22 : Nat) = 22) = True ∧ ((23 : Nat) = 23 ∨ (23 : Nat) = 25) = True ∧ ((25 : Nat) = 23 ∨ (25 : Nat) = 25) = True := by simp
theorem pt_feed {d L w : Nat} {M : zM} (hd : 1 ≤ d) (h : zSh L w M) {n : Nat} (hn : zI M 4 1 = nI n) (hn2 : n ≤ 200) (x : Int32) : zV d n_PT_feed [.ref 2, .int x] M = if 0 ≤ x.toInt ∧ x.toInt ≤ 127 then (if n = 200 then some (some (.int (-3)), M) else some (some (.int (nI (n + 1))), zsI (zsI M 5 n x) 4 1 (nI (n + 1)))) else some (some (.int (-1)), M) := by
  obtain ⟨d, rfl, hd1⟩ := zdep hd
  obtain ⟨hN, hK, hC, hMo, hF, hw, h7, h8⟩ := h
  rw [ze_PT_feed]
  unfold zx_PT_feed
  by_cases h0 : 0 ≤ x.toInt ∧ x.toInt ≤ 127
  · rw [if_pos h0, if_neg (by rw [i32_lt]; simp; omega), if_pos (by rw [i32_le]; simp; omega)]
    by_cases h2 : n = 200
    · subst h2
      simp only [hK, hC, hn, zQ, zS, zkc, zI_sI, zL_sL, zI_wI, zL_wL, Nat.reduceEqDiff, Nat.reduceAdd, reduceIte, eq_self, and_self, true_and, and_true, false_and, and_false, true_or, or_true, or_false, false_or, not_true_eq_false, not_false_eq_true, zne, zarr, ne_eq]
      rfl
    · rw [if_neg h2]
      have h3 : n < 200 := by omega
      have h4 : nI n < 200 := nI_lt h3 (by decide)
      simp only [hK, hC, hn, zQ, zS, zkc, zI_sI, zL_sL, zI_wI, zL_wL, Nat.reduceEqDiff, Nat.reduceAdd, reduceIte, eq_self, and_self, true_and, and_true, false_and, and_false, true_or, or_true, or_false, false_or, not_true_eq_false, not_false_eq_true, zne, zarr, ne_eq, zbast, h4, zin_n h3 (by decide), nI_clamp (show n < 2 ^ 31 by omega), b_id (x := x) (by omega) (by omega), nar_b (x := x) (by omega) (by omega), nI_1]
  · rw [if_neg h0]
    by_cases h1 : x < 0
    · rw [if_pos h1]
    · rw [if_neg h1, if_neg]
      rw [i32_le]; rw [i32_lt] at h1; simp at h1 ⊢; omega
theorem mo_feed {d L w : Nat} {M : zM} (hd : 2 ≤ d) (h : zSh L w M) {n : Nat} (hn : zI M 146 13 = nI n) (hn2 : n ≤ 200) (x : Int32) : zV d n_Mo_feed [.ref 146, .int x] M = if 0 ≤ x.toInt ∧ x.toInt ≤ 127 then (if n = 200 then some (some (.int (-3)), M) else some (some (.int (nI (n + 1))), zsI (zsI M 158 n x) 146 13 (nI (n + 1)))) else some (some (.int (-1)), M) := by
  obtain ⟨d, rfl, hd1⟩ := zdep hd
  obtain ⟨hN, hK, hC, hMo, hF, hw, h7, h8⟩ := h
  rw [ze_Mo_feed]
  unfold zx_Mo_feed
  rw [mo_in hd1, zbI_S]
  simp only [i64_toInt]
  have e1 : Int64.toInt 0 = 0 := rfl
  have e2 : Int64.toInt 127 = 127 := rfl
  rw [e1, e2]
  by_cases h0 : 0 ≤ x.toInt ∧ x.toInt ≤ 127
  · rw [if_pos h0, if_pos (by decide), if_pos h0]
    by_cases h2 : n = 200
    · subst h2
      simp only [hK, hMo, hn, zQ, zS, zkc, zI_sI, zL_sL, zI_wI, zL_wL, Nat.reduceEqDiff, Nat.reduceAdd, reduceIte, eq_self, and_self, true_and, and_true, false_and, and_false, true_or, or_true, or_false, false_or, not_true_eq_false, not_false_eq_true, zne, zarr, ne_eq]
      rfl
    · rw [if_neg h2]
      have h3 : n < 200 := by omega
      have h4 : ¬ nI n = 200 := fun q => h2 ((nI_eq (by omega) (by decide)).mp (q : nI n = nI 200))
      simp only [hK, hMo, hn, zQ, zS, zkc, zI_sI, zL_sL, zI_wI, zL_wL, Nat.reduceEqDiff, Nat.reduceAdd, reduceIte, eq_self, and_self, true_and, and_true, false_and, and_false, true_or, or_true, or_false, false_or, not_true_eq_false, not_false_eq_true, zne, zarr, ne_eq, h4, zin_n h3 (by decide), nI_clamp (show n < 2 ^ 31 by omega), nI_1]
  · rw [if_neg h0, if_neg (by decide), if_neg h0]
