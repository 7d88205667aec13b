/-! run, whole -/
/-- one step that stops: the class -/
theorem pt_run_stop {d L w t k l n J : Nat} {M : zM} {f : Int32} (hd : 1 ≤ d) (hs : zSh L w M) (hk : k < 4) (hl : l < 3) (ht : zI M 19 1 = nI t) (ht2 : t ≤ 48) (hsh : iSheet M k) (hn : n ≤ 20) (hJ : J ≤ n) (hto : zI M 2 11 = nI 0) (v : Nat)
    (hv : (J = n ∨ t = 48) ∧ v = 0 ∨ J < n ∧ t < 48 ∧ (v = 1 ∧ zI M (138 + 2 * k) 2 = -1 ∨ v = 2 ∧ (∃ l' m, zI M (138 + 2 * k) 1 = nI l' ∧ l' < 3 ∧ l' ≠ l ∧ zI M (138 + 2 * k) 2 = nI m ∧ m ≤ 40) ∨ v = 3 ∧ ∃ m, zI M (138 + 2 * k) 1 = nI l ∧ zI M (138 + 2 * k) 2 = nI m ∧ m ≤ 40 ∧ (f.toInt < 0 ∨ (m : Int) ≤ f.toInt))) :
    ∃ M', zG d n_PT_run 47 [some (.ref 2), none, some (.int (nI l)), none, some (.int (nI n)), some (.ref (138 + 2 * k)), some (.int f), some (.int (nI J))] [] M = some (some (.int (nI J)), M') ∧ M' = zsI M 2 11 (nI v) := by
  have hK := hs.2.1
  have hC := hs.2.2.1
  obtain ⟨s1, s2, s3⟩ : zShe M (138 + 2 * k) := (hs.2.2.2.2.1.1 k hk).2.2.2.2.2.2.2
  have r3 := s1
  rw [hK] at r3
  refine ⟨_, ?_, rfl⟩
  rw [zg_PT_run_47]
  unfold zx_PT_run_47
  rcases hv with ⟨h1, rfl⟩ | ⟨h1, h2, h3⟩
  · have e : zsI M 2 11 (nI 0) = M := by
      have : zsI M 2 11 (zI M 2 11) = M := by
        unfold zsI
        obtain ⟨a, b, c, d, e⟩ := M
        congr 3
        funext i j
        unfold zu zI
        by_cases h : i = 2 ∧ j = 11
        · rw [if_pos h, h.1, h.2]
        · rw [if_neg h]
      rw [hto] at this
      exact this
    rw [e]
    by_cases h2 : J = n
    · subst h2
      simp (disch := omega) only [il, nI_add, nI_mul, nI_sub, nI_div, nI_rem, nI_N, i32_lt, i32_le, nI_toInt, nI_subI, nI_clamp, zinT, zifT, iteT, iteF, zQ, zS, zkc, zI_sI, zL_sL, zI_wI, zL_wL, Nat.reduceEqDiff, Nat.reduceAdd, Nat.reduceMul, Nat.reduceLT, Nat.reduceLeDiff, reduceIte, eq_self, and_self, true_and, and_true, false_and, and_false, true_or, or_true, or_false, false_or, not_true_eq_false, not_false_eq_true, zarr, ne_eq]
    · have h3 : t = 48 := by omega
      subst h3
      simp (disch := omega) only [il, nI_add, nI_mul, nI_sub, nI_div, nI_rem, nI_N, i32_lt, i32_le, nI_toInt, nI_subI, nI_clamp, zinT, zifT, iteT, iteF, zQ, zS, zkc, zI_sI, zL_sL, zI_wI, zL_wL, Nat.reduceEqDiff, Nat.reduceAdd, Nat.reduceMul, Nat.reduceLT, Nat.reduceLeDiff, reduceIte, eq_self, and_self, true_and, and_true, false_and, and_false, true_or, or_true, or_false, false_or, not_true_eq_false, not_false_eq_true, zarr, ne_eq, hK, hC, ht]
  · have e1 : zV d n_Sh_tearAt [.ref (138 + 2 * k), .int (nI l), .int f] M = some (some (.int (nI v)), M) := by
      obtain ⟨d, rfl, hd1⟩ := zdep hd
      rw [ze_Sh_tearAt]
      unfold zx_Sh_tearAt
      rcases h3 with ⟨rfl, g⟩ | ⟨rfl, l', m, g1, g2, g3, g4, g5⟩ | ⟨rfl, m, g1, g2, g3, g4⟩
      · have g' : zI M (138 + 2 * k) 2 = -nI 1 := g
        simp (disch := omega) only [il, nI_add, nI_mul, nI_sub, nI_div, nI_rem, nI_N, i32_lt, i32_le, nI_toInt, nI_subI, nI_clamp, zinT, zifT, iteT, iteF, zQ, zS, zkc, zI_sI, zL_sL, zI_wI, zL_wL, Nat.reduceEqDiff, Nat.reduceAdd, Nat.reduceMul, Nat.reduceLT, Nat.reduceLeDiff, reduceIte, eq_self, and_self, true_and, and_true, false_and, and_false, true_or, or_true, or_false, false_or, not_true_eq_false, not_false_eq_true, zarr, ne_eq, hK, r3, g', neg1_toInt]
      · simp (disch := omega) only [il, nI_add, nI_mul, nI_sub, nI_div, nI_rem, nI_N, i32_lt, i32_le, nI_toInt, nI_subI, nI_clamp, zinT, zifT, iteT, iteF, zQ, zS, zkc, zI_sI, zL_sL, zI_wI, zL_wL, Nat.reduceEqDiff, Nat.reduceAdd, Nat.reduceMul, Nat.reduceLT, Nat.reduceLeDiff, reduceIte, eq_self, and_self, true_and, and_true, false_and, and_false, true_or, or_true, or_false, false_or, not_true_eq_false, not_false_eq_true, zarr, ne_eq, hK, r3, g1, g4]
      · by_cases h : f.toInt < 0
        · simp (disch := omega) only [il, nI_add, nI_mul, nI_sub, nI_div, nI_rem, nI_N, i32_lt, i32_le, nI_toInt, nI_subI, nI_clamp, zinT, zifT, iteT, iteF, zQ, zS, zkc, zI_sI, zL_sL, zI_wI, zL_wL, Nat.reduceEqDiff, Nat.reduceAdd, Nat.reduceMul, Nat.reduceLT, Nat.reduceLeDiff, reduceIte, eq_self, and_self, true_and, and_true, false_and, and_false, true_or, or_true, or_false, false_or, not_true_eq_false, not_false_eq_true, zarr, ne_eq, hK, r3, g1, g2]
        · simp (disch := omega) only [il, nI_add, nI_mul, nI_sub, nI_div, nI_rem, nI_N, i32_lt, i32_le, nI_toInt, nI_subI, nI_clamp, zinT, zifT, iteT, iteF, zQ, zS, zkc, zI_sI, zL_sL, zI_wI, zL_wL, Nat.reduceEqDiff, Nat.reduceAdd, Nat.reduceMul, Nat.reduceLT, Nat.reduceLeDiff, reduceIte, eq_self, and_self, true_and, and_true, false_and, and_false, true_or, or_true, or_false, false_or, not_true_eq_false, not_false_eq_true, zarr, ne_eq, hK, r3, g1, g2]
    have hv1 : v = 1 ∨ v = 2 ∨ v = 3 := by
      rcases h3 with ⟨h, -⟩ | ⟨h, -⟩ | ⟨h, -⟩ <;> omega
    have hv0 : ¬ v = 0 := by omega
    simp (disch := omega) only [il, nI_add, nI_mul, nI_sub, nI_div, nI_rem, nI_N, i32_lt, i32_le, nI_toInt, nI_subI, nI_clamp, zinT, zifT, iteT, iteF, zQ, zS, zkc, zI_sI, zL_sL, zI_wI, zL_wL, Nat.reduceEqDiff, Nat.reduceAdd, Nat.reduceMul, Nat.reduceLT, Nat.reduceLeDiff, reduceIte, eq_self, and_self, true_and, and_true, false_and, and_false, true_or, or_true, or_false, false_or, not_true_eq_false, not_false_eq_true, zarr, ne_eq, hK, hC, ht, r3, e1, hv0]
theorem zsI_id {M : zM} {a i : Nat} {x : Int32} (h : zI M a i = x) : zsI M a i x = M := by
  subst h
  unfold zsI
  obtain ⟨a', b, c, d, e⟩ := M
  congr 3
  funext p j
  unfold zu zI
  by_cases h : p = a ∧ j = i
  · rw [if_pos h, h.1, h.2]
  · rw [if_neg h]
/-- one step that stops: the reference -/
theorem mo_run_stop {d L w t k l n J : Nat} {M : zM} {f : Int32} (hd : 1 ≤ d) (hs : zSh L w M) (hk : k < 4) (hl : l < 3) (ht : zI M 155 0 = nI t) (ht2 : t ≤ 48) (hn : n ≤ 20) (hJ : J ≤ n) (hto : zI M 146 51 = nI 0) (v : Nat)
    (hv : (J = n ∨ t = 48) ∧ v = 0 ∨ J < n ∧ t < 48 ∧ (v = 1 ∧ zI M 179 k = -4 ∨ v = 2 ∧ (∃ l', zI M 179 k = nI l' ∧ l' < 3 ∧ l' ≠ l) ∨ v = 3 ∧ ∃ m, zI M 179 k = nI l ∧ zI M 180 k = nI m ∧ m ≤ 40 ∧ (f.toInt + J < 0 ∨ (m : Int) ≤ f.toInt + J))) :
    zG d n_Mo_run 31 [some (.ref 146), some (.int (nI k)), some (.int (nI l)), some (.int f), some (.int (nI n)), some (.int (nI J)), none, none] [] M = some (some (.int (nI J)), zsI M 146 51 (nI v)) := by
  have hK := hs.2.1
  have hMo := hs.2.2.2.1
  rw [zg_Mo_run_31]
  unfold zx_Mo_run_31
  rcases hv with ⟨h1, rfl⟩ | ⟨h1, h2, h3⟩
  · rw [zsI_id hto]
    by_cases h2 : J = n
    · subst h2
      simp (disch := omega) only [il, nI_add, nI_mul, nI_sub, nI_div, nI_rem, nI_N, i32_lt, i32_le, nI_toInt, nI_subI, nI_clamp, zinT, zifT, iteT, iteF, zQ, zS, zkc, zI_sI, zL_sL, zI_wI, zL_wL, Nat.reduceEqDiff, Nat.reduceAdd, Nat.reduceMul, Nat.reduceLT, Nat.reduceLeDiff, reduceIte, eq_self, and_self, true_and, and_true, false_and, and_false, true_or, or_true, or_false, false_or, not_true_eq_false, not_false_eq_true, zarr, ne_eq]
    · have h3 : t = 48 := by omega
      subst h3
      simp (disch := omega) only [il, nI_add, nI_mul, nI_sub, nI_div, nI_rem, nI_N, i32_lt, i32_le, nI_toInt, nI_subI, nI_clamp, zinT, zifT, iteT, iteF, zQ, zS, zkc, zI_sI, zL_sL, zI_wI, zL_wL, Nat.reduceEqDiff, Nat.reduceAdd, Nat.reduceMul, Nat.reduceLT, Nat.reduceLeDiff, reduceIte, eq_self, and_self, true_and, and_true, false_and, and_false, true_or, or_true, or_false, false_or, not_true_eq_false, not_false_eq_true, zarr, ne_eq, hK, hMo, ht, hto]
  · have last : ∀ l6 : Int64, v ≠ 0 → v < 4 → zG d n_Mo_run 117 [some (.ref 146), some (.int (nI k)), some (.int (nI l)), some (.int f), some (.int (nI n)), some (.int (nI J)), some (.long l6), none] [.int (nI v), .ref 146] M = some (some (.int (nI J)), zsI M 146 51 (nI v)) := by
      intro l6 hv0 hv4
      rw [zg_Mo_run_117]
      unfold zx_Mo_run_117
      simp (disch := omega) only [il, nI_add, nI_mul, nI_sub, nI_div, nI_rem, nI_N, i32_lt, i32_le, nI_toInt, nI_subI, nI_clamp, zinT, zifT, iteT, iteF, zQ, zS, zkc, zI_sI, zL_sL, zI_wI, zL_wL, Nat.reduceEqDiff, Nat.reduceAdd, Nat.reduceMul, Nat.reduceLT, Nat.reduceLeDiff, reduceIte, eq_self, and_self, true_and, and_true, false_and, and_false, true_or, or_true, or_false, false_or, not_true_eq_false, not_false_eq_true, zarr, ne_eq, hK, hMo, hv0]
      rw [zg_Mo_run_31]
      unfold zx_Mo_run_31
      simp (disch := omega) only [il, nI_add, nI_mul, nI_sub, nI_div, nI_rem, nI_N, i32_lt, i32_le, nI_toInt, nI_subI, nI_clamp, zinT, zifT, iteT, iteF, zQ, zS, zkc, zI_sI, zL_sL, zI_wI, zL_wL, Nat.reduceEqDiff, Nat.reduceAdd, Nat.reduceMul, Nat.reduceLT, Nat.reduceLeDiff, reduceIte, eq_self, and_self, true_and, and_true, false_and, and_false, true_or, or_true, or_false, false_or, not_true_eq_false, not_false_eq_true, zarr, ne_eq, hK, hMo, hv0]
    rcases h3 with ⟨rfl, g⟩ | ⟨rfl, l', g1, g2, g3⟩ | ⟨rfl, m, g1, g2, g3, g4⟩
    · have g' : zI M 179 k = -nI 4 := g
      simp (disch := omega) only [il, nI_add, nI_mul, nI_sub, nI_div, nI_rem, nI_N, i32_lt, i32_le, nI_toInt, nI_subI, nI_clamp, zinT, zifT, iteT, iteF, zQ, zS, zkc, zI_sI, zL_sL, zI_wI, zL_wL, Nat.reduceEqDiff, Nat.reduceAdd, Nat.reduceMul, Nat.reduceLT, Nat.reduceLeDiff, reduceIte, eq_self, and_self, true_and, and_true, false_and, and_false, true_or, or_true, or_false, false_or, not_true_eq_false, not_false_eq_true, zarr, ne_eq, hK, hMo, ht, hto, g']
      exact last _ (by omega) (by omega)
    · simp (disch := omega) only [il, nI_add, nI_mul, nI_sub, nI_div, nI_rem, nI_N, i32_lt, i32_le, nI_toInt, nI_subI, nI_clamp, zinT, zifT, iteT, iteF, zQ, zS, zkc, zI_sI, zL_sL, zI_wI, zL_wL, Nat.reduceEqDiff, Nat.reduceAdd, Nat.reduceMul, Nat.reduceLT, Nat.reduceLeDiff, reduceIte, eq_self, and_self, true_and, and_true, false_and, and_false, true_or, or_true, or_false, false_or, not_true_eq_false, not_false_eq_true, zarr, ne_eq, hK, hMo, ht, hto, g1, nI_n4]
      exact last _ (by omega) (by omega)
    · simp (disch := omega) only [il, nI_add, nI_mul, nI_sub, nI_div, nI_rem, nI_N, i32_lt, i32_le, nI_toInt, nI_subI, nI_clamp, zinT, zifT, iteT, iteF, zQ, zS, zkc, zI_sI, zL_sL, zI_wI, zL_wL, Nat.reduceEqDiff, Nat.reduceAdd, Nat.reduceMul, Nat.reduceLT, Nat.reduceLeDiff, reduceIte, eq_self, and_self, true_and, and_true, false_and, and_false, true_or, or_true, or_false, false_or, not_true_eq_false, not_false_eq_true, zarr, ne_eq, hK, hMo, ht, hto, g1, g2, nI_n4, mo_in hd, i64_toInt, i64_add, zlit64]
      exact last _ (by omega) (by omega)
