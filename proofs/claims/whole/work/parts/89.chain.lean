/-! the class chains two pieces, chooses of two -/
theorem min_c (x : Nat) : (x < 1000 ∧ min 1000 x = x) ∨ (1000 ≤ x ∧ min 1000 x = 1000) := by omega
theorem bu_c75 {d k fa fb ma mb : Nat} {M : zM} (hB : kB M) (h5 : zI M 8 5 = nI (k + 1)) (hk : k + 1 < 19) (hfa : fa ≤ 1000) (hfb : fb ≤ 1000) (hma : ma ≤ 1000) (hmb : mb ≤ 1000) (e1 : zI M 12 k = nI fa) (e2 : zI M 12 (k + 1) = nI fb) (e3 : zI M 13 k = nI ma) (e4 : zI M 13 (k + 1) = nI mb) : zG d n_Bu_chainTwo 75 [some (.ref 8), some (.int (nI k))] [] M = some (none, zsI (zsI (zsL M 10 k (if fb = 0 then zL M 10 k ||| zL M 10 (k + 1) else zL M 10 (k + 1))) 12 k (nI (min 1000 (fa + fb)))) 13 k (nI (min 1000 (ma + mb)))) := by
  obtain ⟨a1, a2, a3, a4, a5, a6, a7, a8, a9, a10, a11⟩ := hB
  have h120 : ∀ x : Int64, zG d n_Bu_chainTwo 120 [some (.ref 8), some (.int (nI k))] [.long x, .int (nI k), .ref 10] M = some (none, zsI (zsI (zsL M 10 k x) 12 k (nI (min 1000 (fa + fb)))) 13 k (nI (min 1000 (ma + mb)))) := by
    intro x
    rw [zg_Bu_chainTwo_120]
    unfold zx_Bu_chainTwo_120
    rcases min_c (fa + fb) with ⟨c1, c2⟩ | ⟨c1, c2⟩ <;> rcases min_c (ma + mb) with ⟨c3, c4⟩ | ⟨c3, c4⟩ <;> rw [c2, c4] <;> (simp (disch := omega) only [il, nI_add, nI_mul, nI_sub, nI_div, nI_rem, nI_N, i32_lt, i32_le, nI_toInt, nI_subI, nI_clamp, zinT, zifT, iteT, iteF, zQ, zS, zkc, zI_sI, zL_sL, zI_wI, zL_wL, Nat.reduceEqDiff, Nat.reduceAdd, Nat.reduceMul, Nat.reduceLT, Nat.reduceLeDiff, reduceIte, eq_self, and_self, true_and, and_true, false_and, and_false, true_or, or_true, or_false, false_or, not_true_eq_false, not_false_eq_true, zarr, ne_eq, a1, a3, a5, a6, a8, a10, a11, h5, e1, e2, e3, e4])
  by_cases h : fb = 0
  · rw [if_pos h, ← h120, zg_Bu_chainTwo_75]
    unfold zx_Bu_chainTwo_75
    clear h120
    subst h
    simp (disch := omega) only [il, nI_add, nI_mul, nI_sub, nI_div, nI_rem, nI_N, i32_lt, i32_le, nI_toInt, nI_subI, nI_clamp, zinT, zifT, iteT, iteF, zQ, zS, zkc, zI_sI, zL_sL, zI_wI, zL_wL, Nat.reduceEqDiff, Nat.reduceAdd, Nat.reduceMul, Nat.reduceLT, Nat.reduceLeDiff, reduceIte, eq_self, and_self, true_and, and_true, false_and, and_false, true_or, or_true, or_false, false_or, not_true_eq_false, not_false_eq_true, zarr, ne_eq, a1, a3, a5, a8, a10, h5, e2]
  · rw [if_neg h, ← h120, zg_Bu_chainTwo_75]
    unfold zx_Bu_chainTwo_75
    clear h120
    simp (disch := omega) only [il, nI_add, nI_mul, nI_sub, nI_div, nI_rem, nI_N, i32_lt, i32_le, nI_toInt, nI_subI, nI_clamp, zinT, zifT, iteT, iteF, zQ, zS, zkc, zI_sI, zL_sL, zI_wI, zL_wL, Nat.reduceEqDiff, Nat.reduceAdd, Nat.reduceMul, Nat.reduceLT, Nat.reduceLeDiff, reduceIte, eq_self, and_self, true_and, and_true, false_and, and_false, true_or, or_true, or_false, false_or, not_true_eq_false, not_false_eq_true, zarr, ne_eq, a1, a3, a5, a8, a10, h5, e2]
theorem bu_chain_x {d s k p fa fb ma mb : Nat} {M : zM} (hd : 2 ≤ d) (hB : kB M) (hr : zR M 8 6 = some s) (hq : zSeq M s) (hs26 : 26 ≤ s) (hp : p ≤ 40) (h7 : zI M s 7 = nI p) (h5 : zI M 8 5 = nI (k + 2)) (hk : k + 1 < 19) (hfa : fa ≤ 1000) (hfb : fb ≤ 1000) (hma : ma ≤ 1000) (hmb : mb ≤ 1000) (e1 : zI M 12 k = nI fa) (e2 : zI M 12 (k + 1) = nI fb) (e3 : zI M 13 k = nI ma) (e4 : zI M 13 (k + 1) = nI mb) : ∃ M', zV d n_Bu_chainTwo [.ref 8] M = some (none, M') ∧ zN M' = zN M ∧ zK M' = zK M ∧ zR M' = zR M ∧ (∀ b, b ≠ 8 → b ≠ 12 → b ≠ 13 → zI M' b = zI M b) ∧ zI M' 8 5 = nI (k + 1) ∧ (∀ j, zI M' 12 j = if j = k then nI (min 1000 (fa + fb)) else zI M 12 j) ∧ (∀ j, zI M' 13 j = if j = k then nI (min 1000 (ma + mb)) else zI M 13 j) ∧ (∀ b, b ≠ 9 → b ≠ 10 → b ≠ s + 1 → zL M' b = zL M b) ∧ zL M' (s + 1) = lnk (zL M 10 k) (zL M 9 (k + 1)) (zL M (s + 1)) (p + 1) ∧ (∀ j, zL M' 9 j = if j = k then (if fa = 0 then zL M 9 k ||| zL M 9 (k + 1) else zL M 9 k) else zL M 9 j) ∧ ∀ j, zL M' 10 j = if j = k then (if fb = 0 then zL M 10 k ||| zL M 10 (k + 1) else zL M 10 (k + 1)) else zL M 10 j := by
  obtain ⟨d, rfl, hd1⟩ := zdep hd
  have hB0 := hB
  obtain ⟨a1, a2, a3, a4, a5, a6, a7, a8, a9, a10, a11⟩ := hB
  have k1 := hq.1
  have el := se_link (d := d) (M := zsI M 8 5 (nI (k + 1))) (by omega) (zSeq_fr hq rfl rfl) hp (by rw [zI_ne (by omega)]; exact h7) (zL M 10 k) (zL M 9 (k + 1))
  have fin : ∀ (x : Int64) (M2 : zM), M2 = zsL (zwL (zsI M 8 5 (nI (k + 1))) (s + 1) (lnk (zL M 10 k) (zL M 9 (k + 1)) (zL M (s + 1)) (p + 1))) 9 k x → zV (d + 1) n_Bu_chainTwo [.ref 8] M = zG d n_Bu_chainTwo 75 [some (.ref 8), some (.int (nI k))] [] M2 → ∃ M', zV (d + 1) n_Bu_chainTwo [.ref 8] M = some (none, M') ∧ zN M' = zN M ∧ zK M' = zK M ∧ zR M' = zR M ∧ (∀ b, b ≠ 8 → b ≠ 12 → b ≠ 13 → zI M' b = zI M b) ∧ zI M' 8 5 = nI (k + 1) ∧ (∀ j, zI M' 12 j = if j = k then nI (min 1000 (fa + fb)) else zI M 12 j) ∧ (∀ j, zI M' 13 j = if j = k then nI (min 1000 (ma + mb)) else zI M 13 j) ∧ (∀ b, b ≠ 9 → b ≠ 10 → b ≠ s + 1 → zL M' b = zL M b) ∧ zL M' (s + 1) = lnk (zL M 10 k) (zL M 9 (k + 1)) (zL M (s + 1)) (p + 1) ∧ (∀ j, zL M' 9 j = if j = k then x else zL M 9 j) ∧ ∀ j, zL M' 10 j = if j = k then (if fb = 0 then zL M 10 k ||| zL M 10 (k + 1) else zL M 10 (k + 1)) else zL M 10 j := by
    intro x M2 hM2 he
    have hb2 : kB M2 := by rw [hM2]; exact hB0
    have i5 : zI M2 8 5 = nI (k + 1) := by rw [hM2]; simp (disch := omega) only [zL_sL, zI_sI, zS, iteF, iteT, eq_self, and_self, true_and, and_true, false_and, and_false, if_true, if_false, reduceIte, Nat.reduceEqDiff]
    have i12 : ∀ j, zI M2 12 j = zI M 12 j := fun j => by rw [hM2]; simp (disch := omega) only [zL_sL, zI_sI, zS, iteF, iteT, eq_self, and_self, true_and, and_true, false_and, and_false, if_true, if_false, reduceIte, Nat.reduceEqDiff]
    have i13 : ∀ j, zI M2 13 j = zI M 13 j := fun j => by rw [hM2]; simp (disch := omega) only [zL_sL, zI_sI, zS, iteF, iteT, eq_self, and_self, true_and, and_true, false_and, and_false, if_true, if_false, reduceIte, Nat.reduceEqDiff]
    have l10 : zL M2 10 = zL M 10 := by
      rw [hM2]
      exact (zL_ne (by omega)).trans (zLw_ne (by omega))
    have l9 : ∀ j, zL M2 9 j = if j = k then x else zL M 9 j := fun j => by
      rw [hM2]
      by_cases h : j = k
      · simp (disch := omega) only [zL_sL, zI_sI, zS, iteF, iteT, eq_self, and_self, true_and, and_true, false_and, and_false, if_true, if_false, reduceIte, Nat.reduceEqDiff, h, zL_wL]
      · simp (disch := omega) only [zL_sL, zI_sI, zS, iteF, iteT, eq_self, and_self, true_and, and_true, false_and, and_false, if_true, if_false, reduceIte, Nat.reduceEqDiff, h, zL_wL]
    have e75 := bu_c75 (d := d) (M := M2) (k := k) hb2 i5 hk hfa hfb hma hmb ((i12 k).trans e1) ((i12 _).trans e2) ((i13 k).trans e3) ((i13 _).trans e4)
    rw [l10] at e75
    refine ⟨_, he.trans e75, by rw [hM2]; rfl, by rw [hM2]; rfl, by rw [hM2]; rfl, fun b h1 h2 h3 => ?_, ?_, fun j => ?_, fun j => ?_, fun b h1 h2 h3 => ?_, ?_, fun j => ?_, fun j => ?_⟩
    · refine (zI_ne h3).trans ((zI_ne h2).trans ?_)
      show zI M2 b = zI M b
      rw [hM2]
      exact zI_ne h1
    · simp (disch := omega) only [zL_sL, zI_sI, zS, iteF, iteT, eq_self, and_self, true_and, and_true, false_and, and_false, if_true, if_false, reduceIte, Nat.reduceEqDiff, i5]
    · by_cases h : j = k
      · simp (disch := omega) only [zL_sL, zI_sI, zS, iteF, iteT, eq_self, and_self, true_and, and_true, false_and, and_false, if_true, if_false, reduceIte, Nat.reduceEqDiff, h]
      · simp (disch := omega) only [zL_sL, zI_sI, zS, iteF, iteT, eq_self, and_self, true_and, and_true, false_and, and_false, if_true, if_false, reduceIte, Nat.reduceEqDiff, h, i12]
    · by_cases h : j = k
      · simp (disch := omega) only [zL_sL, zI_sI, zS, iteF, iteT, eq_self, and_self, true_and, and_true, false_and, and_false, if_true, if_false, reduceIte, Nat.reduceEqDiff, h]
      · simp (disch := omega) only [zL_sL, zI_sI, zS, iteF, iteT, eq_self, and_self, true_and, and_true, false_and, and_false, if_true, if_false, reduceIte, Nat.reduceEqDiff, h, i13]
    · refine (zL_ne h2).trans ?_
      rw [hM2]
      exact (zL_ne h1).trans (zLw_ne h3)
    · refine (zL_ne (by omega)).trans ?_
      rw [hM2]
      refine (zL_ne (by omega)).trans ?_
      funext j
      rw [zL_wL, if_pos rfl]
    · refine (congrFun (zL_ne (by omega)) j).trans ?_
      exact l9 j
    · by_cases h : j = k
      · simp (disch := omega) only [zL_sL, zI_sI, zS, iteF, iteT, eq_self, and_self, true_and, and_true, false_and, and_false, if_true, if_false, reduceIte, Nat.reduceEqDiff, h]
      · simp (disch := omega) only [zL_sL, zI_sI, zS, iteF, iteT, eq_self, and_self, true_and, and_true, false_and, and_false, if_true, if_false, reduceIte, Nat.reduceEqDiff, h, l10]
  by_cases h : fa = 0
  · rw [if_pos h]
    refine fin _ _ rfl ?_
    rw [ze_Bu_chainTwo]
    unfold zx_Bu_chainTwo
    subst h
    clear fin
    have hx : k + 2 - 1 = k + 1 := by omega
    have hx2 : k + 1 - 1 = k := by omega
    simp only [zS] at el
    simp (disch := omega) only [il, nI_add, nI_mul, nI_sub, nI_div, nI_rem, nI_N, i32_lt, i32_le, nI_toInt, nI_subI, nI_clamp, zinT, zifT, iteT, iteF, zQ, zS, zkc, zI_sI, zL_sL, zI_wI, zL_wL, Nat.reduceEqDiff, Nat.reduceAdd, Nat.reduceMul, Nat.reduceLT, Nat.reduceLeDiff, reduceIte, eq_self, and_self, true_and, and_true, false_and, and_false, true_or, or_true, or_false, false_or, not_true_eq_false, not_false_eq_true, zarr, ne_eq, a1, a2, a3, a5, a7, a8, a10, hr, k1, h5, hx, hx2, el, e1, zLw_ne]
  · rw [if_neg h]
    refine fin _ (zwL (zsI M 8 5 (nI (k + 1))) (s + 1) (lnk (zL M 10 k) (zL M 9 (k + 1)) (zL M (s + 1)) (p + 1))) ?_ ?_
    · symm
      have : ∀ (A : zM), zL A 9 k = zL M 9 k → zsL A 9 k (zL M 9 k) = A := by
        intro A hA
        obtain ⟨n, kk, i, l, r⟩ := A
        unfold zsL
        congr 4
        funext b j
        unfold zu
        by_cases hbj : b = 9 ∧ j = k
        · rw [if_pos hbj, hbj.1, hbj.2]; exact hA.symm
        · rw [if_neg hbj]
      exact this _ (congrFun (zLw_ne (by omega)) k)
    · rw [ze_Bu_chainTwo]
      unfold zx_Bu_chainTwo
      clear fin
      have hx : k + 2 - 1 = k + 1 := by omega
      have hx2 : k + 1 - 1 = k := by omega
      simp only [zS] at el
      simp (disch := omega) only [il, nI_add, nI_mul, nI_sub, nI_div, nI_rem, nI_N, i32_lt, i32_le, nI_toInt, nI_subI, nI_clamp, zinT, zifT, iteT, iteF, zQ, zS, zkc, zI_sI, zL_sL, zI_wI, zL_wL, Nat.reduceEqDiff, Nat.reduceAdd, Nat.reduceMul, Nat.reduceLT, Nat.reduceLeDiff, reduceIte, eq_self, and_self, true_and, and_true, false_and, and_false, true_or, or_true, or_false, false_or, not_true_eq_false, not_false_eq_true, zarr, ne_eq, a1, a2, a3, a5, a7, a8, a10, hr, k1, h5, hx, hx2, el, e1, zLw_ne]
