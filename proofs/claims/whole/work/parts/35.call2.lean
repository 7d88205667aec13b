/-! the calls that do not ask what a promise says, more of them -/
theorem q_isBits_t {d k : Nat} {M : zM} (hd : 1 ≤ d) (h : k < 256) : zV d n_PT_isBits [.int (nI k)] M = some (some (.int (nI 1)), M) := by
  obtain ⟨d, rfl, hd1⟩ := zdep hd
  rw [ze_PT_isBits]
  unfold zx_PT_isBits
  simp (disch := omega) only [il, nI_add, nI_mul, nI_sub, nI_div, nI_rem, nI_N, i32_lt, i32_le, nI_toInt, nI_subI, nI_clamp, zinT, zifT, iteT, iteF, zQ, zS, zkc, zI_sI, zL_sL, zI_wI, zL_wL, Nat.reduceEqDiff, Nat.reduceAdd, Nat.reduceMul, Nat.reduceLT, Nat.reduceLeDiff, reduceIte, eq_self, and_self, true_and, and_true, false_and, and_false, true_or, or_true, or_false, false_or, not_true_eq_false, not_false_eq_true, zarr, ne_eq]
theorem q_isBits_f {d : Nat} {x : Int32} {M : zM} (hd : 1 ≤ d) (h : x.toInt < 0 ∨ 256 ≤ x.toInt) : zV d n_PT_isBits [.int x] M = some (some (.int (nI 0)), M) := by
  obtain ⟨d, rfl, hd1⟩ := zdep hd
  rw [ze_PT_isBits]
  unfold zx_PT_isBits
  by_cases h1 : x.toInt < 0
  · simp (disch := omega) only [il, nI_add, nI_mul, nI_sub, nI_div, nI_rem, nI_N, i32_lt, i32_le, nI_toInt, nI_subI, nI_clamp, zinT, zifT, iteT, iteF, zQ, zS, zkc, zI_sI, zL_sL, zI_wI, zL_wL, Nat.reduceEqDiff, Nat.reduceAdd, Nat.reduceMul, Nat.reduceLT, Nat.reduceLeDiff, reduceIte, eq_self, and_self, true_and, and_true, false_and, and_false, true_or, or_true, or_false, false_or, not_true_eq_false, not_false_eq_true, zarr, ne_eq]
  · simp (disch := omega) only [il, nI_add, nI_mul, nI_sub, nI_div, nI_rem, nI_N, i32_lt, i32_le, nI_toInt, nI_subI, nI_clamp, zinT, zifT, iteT, iteF, zQ, zS, zkc, zI_sI, zL_sL, zI_wI, zL_wL, Nat.reduceEqDiff, Nat.reduceAdd, Nat.reduceMul, Nat.reduceLT, Nat.reduceLeDiff, reduceIte, eq_self, and_self, true_and, and_true, false_and, and_false, true_or, or_true, or_false, false_or, not_true_eq_false, not_false_eq_true, zarr, ne_eq]
theorem q_isImage_t {d k : Nat} {M : zM} (hd : 1 ≤ d) (h : k < 2) : zV d n_PT_isImage [.int (nI k)] M = some (some (.int (nI 1)), M) := by
  obtain ⟨d, rfl, hd1⟩ := zdep hd
  rw [ze_PT_isImage]
  unfold zx_PT_isImage
  simp (disch := omega) only [il, nI_add, nI_mul, nI_sub, nI_div, nI_rem, nI_N, i32_lt, i32_le, nI_toInt, nI_subI, nI_clamp, zinT, zifT, iteT, iteF, zQ, zS, zkc, zI_sI, zL_sL, zI_wI, zL_wL, Nat.reduceEqDiff, Nat.reduceAdd, Nat.reduceMul, Nat.reduceLT, Nat.reduceLeDiff, reduceIte, eq_self, and_self, true_and, and_true, false_and, and_false, true_or, or_true, or_false, false_or, not_true_eq_false, not_false_eq_true, zarr, ne_eq]
theorem q_isImage_f {d : Nat} {x : Int32} {M : zM} (hd : 1 ≤ d) (h : x.toInt < 0 ∨ 2 ≤ x.toInt) : zV d n_PT_isImage [.int x] M = some (some (.int (nI 0)), M) := by
  obtain ⟨d, rfl, hd1⟩ := zdep hd
  rw [ze_PT_isImage]
  unfold zx_PT_isImage
  by_cases h1 : x.toInt < 0
  · simp (disch := omega) only [il, nI_add, nI_mul, nI_sub, nI_div, nI_rem, nI_N, i32_lt, i32_le, nI_toInt, nI_subI, nI_clamp, zinT, zifT, iteT, iteF, zQ, zS, zkc, zI_sI, zL_sL, zI_wI, zL_wL, Nat.reduceEqDiff, Nat.reduceAdd, Nat.reduceMul, Nat.reduceLT, Nat.reduceLeDiff, reduceIte, eq_self, and_self, true_and, and_true, false_and, and_false, true_or, or_true, or_false, false_or, not_true_eq_false, not_false_eq_true, zarr, ne_eq]
  · simp (disch := omega) only [il, nI_add, nI_mul, nI_sub, nI_div, nI_rem, nI_N, i32_lt, i32_le, nI_toInt, nI_subI, nI_clamp, zinT, zifT, iteT, iteF, zQ, zS, zkc, zI_sI, zL_sL, zI_wI, zL_wL, Nat.reduceEqDiff, Nat.reduceAdd, Nat.reduceMul, Nat.reduceLT, Nat.reduceLeDiff, reduceIte, eq_self, and_self, true_and, and_true, false_and, and_false, true_or, or_true, or_false, false_or, not_true_eq_false, not_false_eq_true, zarr, ne_eq]
theorem q_isSheet_t {d k : Nat} {M : zM} (hd : 1 ≤ d) (h : k < 4) : zV d n_PT_isSheet [.int (nI k)] M = some (some (.int (nI 1)), M) := by
  obtain ⟨d, rfl, hd1⟩ := zdep hd
  rw [ze_PT_isSheet]
  unfold zx_PT_isSheet
  simp (disch := omega) only [il, nI_add, nI_mul, nI_sub, nI_div, nI_rem, nI_N, i32_lt, i32_le, nI_toInt, nI_subI, nI_clamp, zinT, zifT, iteT, iteF, zQ, zS, zkc, zI_sI, zL_sL, zI_wI, zL_wL, Nat.reduceEqDiff, Nat.reduceAdd, Nat.reduceMul, Nat.reduceLT, Nat.reduceLeDiff, reduceIte, eq_self, and_self, true_and, and_true, false_and, and_false, true_or, or_true, or_false, false_or, not_true_eq_false, not_false_eq_true, zarr, ne_eq]
theorem q_isSheet_f {d : Nat} {x : Int32} {M : zM} (hd : 1 ≤ d) (h : x.toInt < 0 ∨ 4 ≤ x.toInt) : zV d n_PT_isSheet [.int x] M = some (some (.int (nI 0)), M) := by
  obtain ⟨d, rfl, hd1⟩ := zdep hd
  rw [ze_PT_isSheet]
  unfold zx_PT_isSheet
  by_cases h1 : x.toInt < 0
  · simp (disch := omega) only [il, nI_add, nI_mul, nI_sub, nI_div, nI_rem, nI_N, i32_lt, i32_le, nI_toInt, nI_subI, nI_clamp, zinT, zifT, iteT, iteF, zQ, zS, zkc, zI_sI, zL_sL, zI_wI, zL_wL, Nat.reduceEqDiff, Nat.reduceAdd, Nat.reduceMul, Nat.reduceLT, Nat.reduceLeDiff, reduceIte, eq_self, and_self, true_and, and_true, false_and, and_false, true_or, or_true, or_false, false_or, not_true_eq_false, not_false_eq_true, zarr, ne_eq]
  · simp (disch := omega) only [il, nI_add, nI_mul, nI_sub, nI_div, nI_rem, nI_N, i32_lt, i32_le, nI_toInt, nI_subI, nI_clamp, zinT, zifT, iteT, iteF, zQ, zS, zkc, zI_sI, zL_sL, zI_wI, zL_wL, Nat.reduceEqDiff, Nat.reduceAdd, Nat.reduceMul, Nat.reduceLT, Nat.reduceLeDiff, reduceIte, eq_self, and_self, true_and, and_true, false_and, and_false, true_or, or_true, or_false, false_or, not_true_eq_false, not_false_eq_true, zarr, ne_eq]
theorem q_isLane_t {d k : Nat} {M : zM} (hd : 1 ≤ d) (h : k < 3) : zV d n_PT_isLane [.int (nI k)] M = some (some (.int (nI 1)), M) := by
  obtain ⟨d, rfl, hd1⟩ := zdep hd
  rw [ze_PT_isLane]
  unfold zx_PT_isLane
  simp (disch := omega) only [il, nI_add, nI_mul, nI_sub, nI_div, nI_rem, nI_N, i32_lt, i32_le, nI_toInt, nI_subI, nI_clamp, zinT, zifT, iteT, iteF, zQ, zS, zkc, zI_sI, zL_sL, zI_wI, zL_wL, Nat.reduceEqDiff, Nat.reduceAdd, Nat.reduceMul, Nat.reduceLT, Nat.reduceLeDiff, reduceIte, eq_self, and_self, true_and, and_true, false_and, and_false, true_or, or_true, or_false, false_or, not_true_eq_false, not_false_eq_true, zarr, ne_eq]
theorem q_isLane_f {d : Nat} {x : Int32} {M : zM} (hd : 1 ≤ d) (h : x.toInt < 0 ∨ 3 ≤ x.toInt) : zV d n_PT_isLane [.int x] M = some (some (.int (nI 0)), M) := by
  obtain ⟨d, rfl, hd1⟩ := zdep hd
  rw [ze_PT_isLane]
  unfold zx_PT_isLane
  by_cases h1 : x.toInt < 0
  · simp (disch := omega) only [il, nI_add, nI_mul, nI_sub, nI_div, nI_rem, nI_N, i32_lt, i32_le, nI_toInt, nI_subI, nI_clamp, zinT, zifT, iteT, iteF, zQ, zS, zkc, zI_sI, zL_sL, zI_wI, zL_wL, Nat.reduceEqDiff, Nat.reduceAdd, Nat.reduceMul, Nat.reduceLT, Nat.reduceLeDiff, reduceIte, eq_self, and_self, true_and, and_true, false_and, and_false, true_or, or_true, or_false, false_or, not_true_eq_false, not_false_eq_true, zarr, ne_eq]
  · simp (disch := omega) only [il, nI_add, nI_mul, nI_sub, nI_div, nI_rem, nI_N, i32_lt, i32_le, nI_toInt, nI_subI, nI_clamp, zinT, zifT, iteT, iteF, zQ, zS, zkc, zI_sI, zL_sL, zI_wI, zL_wL, Nat.reduceEqDiff, Nat.reduceAdd, Nat.reduceMul, Nat.reduceLT, Nat.reduceLeDiff, reduceIte, eq_self, and_self, true_and, and_true, false_and, and_false, true_or, or_true, or_false, false_or, not_true_eq_false, not_false_eq_true, zarr, ne_eq]
theorem q_isVerdict_t {d k : Nat} {M : zM} (hd : 1 ≤ d) (h : k < 5) : zV d n_PT_isVerdict [.int (nI k)] M = some (some (.int (nI 1)), M) := by
  obtain ⟨d, rfl, hd1⟩ := zdep hd
  rw [ze_PT_isVerdict]
  unfold zx_PT_isVerdict
  simp (disch := omega) only [il, nI_add, nI_mul, nI_sub, nI_div, nI_rem, nI_N, i32_lt, i32_le, nI_toInt, nI_subI, nI_clamp, zinT, zifT, iteT, iteF, zQ, zS, zkc, zI_sI, zL_sL, zI_wI, zL_wL, Nat.reduceEqDiff, Nat.reduceAdd, Nat.reduceMul, Nat.reduceLT, Nat.reduceLeDiff, reduceIte, eq_self, and_self, true_and, and_true, false_and, and_false, true_or, or_true, or_false, false_or, not_true_eq_false, not_false_eq_true, zarr, ne_eq]
theorem q_isVerdict_f {d : Nat} {x : Int32} {M : zM} (hd : 1 ≤ d) (h : x.toInt < 0 ∨ 5 ≤ x.toInt) : zV d n_PT_isVerdict [.int x] M = some (some (.int (nI 0)), M) := by
  obtain ⟨d, rfl, hd1⟩ := zdep hd
  rw [ze_PT_isVerdict]
  unfold zx_PT_isVerdict
  by_cases h1 : x.toInt < 0
  · simp (disch := omega) only [il, nI_add, nI_mul, nI_sub, nI_div, nI_rem, nI_N, i32_lt, i32_le, nI_toInt, nI_subI, nI_clamp, zinT, zifT, iteT, iteF, zQ, zS, zkc, zI_sI, zL_sL, zI_wI, zL_wL, Nat.reduceEqDiff, Nat.reduceAdd, Nat.reduceMul, Nat.reduceLT, Nat.reduceLeDiff, reduceIte, eq_self, and_self, true_and, and_true, false_and, and_false, true_or, or_true, or_false, false_or, not_true_eq_false, not_false_eq_true, zarr, ne_eq]
  · simp (disch := omega) only [il, nI_add, nI_mul, nI_sub, nI_div, nI_rem, nI_N, i32_lt, i32_le, nI_toInt, nI_subI, nI_clamp, zinT, zifT, iteT, iteF, zQ, zS, zkc, zI_sI, zL_sL, zI_wI, zL_wL, Nat.reduceEqDiff, Nat.reduceAdd, Nat.reduceMul, Nat.reduceLT, Nat.reduceLeDiff, reduceIte, eq_self, and_self, true_and, and_true, false_and, and_false, true_or, or_true, or_false, false_or, not_true_eq_false, not_false_eq_true, zarr, ne_eq]
theorem m_in_t {d : Nat} {v lo hi : Int64} {M : zM} (hd : 1 ≤ d) (h : lo.toInt ≤ v.toInt ∧ v.toInt ≤ hi.toInt) : zV d n_Mo_in [.long v, .long lo, .long hi] M = some (some (.int (nI 1)), M) := by
  rw [mo_in hd, if_pos h]; rfl
theorem m_in_f {d : Nat} {v lo hi : Int64} {M : zM} (hd : 1 ≤ d) (h : ¬ (lo.toInt ≤ v.toInt ∧ v.toInt ≤ hi.toInt)) : zV d n_Mo_in [.long v, .long lo, .long hi] M = some (some (.int (nI 0)), M) := by
  rw [mo_in hd, if_neg h]; rfl
theorem q_isTick_t {d L w t k : Nat} {M : zM} {tr : Nat → Nat} (hd : 1 ≤ d) (hs : zSh L w M) (ht : iTrace t tr M) (h : k < t) : zV d n_PT_isTick [.ref 2, .int (nI k)] M = some (some (.int (nI 1)), M) := by
  obtain ⟨d, rfl, hd1⟩ := zdep hd
  obtain ⟨hN, hK, hC, -⟩ := hs
  obtain ⟨t1, t2, -⟩ := ht
  rw [ze_PT_isTick]
  unfold zx_PT_isTick
  simp (disch := omega) only [il, nI_add, nI_mul, nI_sub, nI_div, nI_rem, nI_N, i32_lt, i32_le, nI_toInt, nI_subI, nI_clamp, zinT, zifT, iteT, iteF, zQ, zS, zkc, zI_sI, zL_sL, zI_wI, zL_wL, Nat.reduceEqDiff, Nat.reduceAdd, Nat.reduceMul, Nat.reduceLT, Nat.reduceLeDiff, reduceIte, eq_self, and_self, true_and, and_true, false_and, and_false, true_or, or_true, or_false, false_or, not_true_eq_false, not_false_eq_true, zarr, ne_eq, hK, hC, t2]
theorem q_isTick_f {d L w t : Nat} {x : Int32} {M : zM} {tr : Nat → Nat} (hd : 1 ≤ d) (hs : zSh L w M) (ht : iTrace t tr M) (h : x.toInt < 0 ∨ (t : Int) ≤ x.toInt) : zV d n_PT_isTick [.ref 2, .int x] M = some (some (.int (nI 0)), M) := by
  obtain ⟨d, rfl, hd1⟩ := zdep hd
  obtain ⟨hN, hK, hC, -⟩ := hs
  obtain ⟨t1, t2, -⟩ := ht
  rw [ze_PT_isTick]
  unfold zx_PT_isTick
  by_cases h1 : x.toInt < 0
  · simp (disch := omega) only [il, nI_add, nI_mul, nI_sub, nI_div, nI_rem, nI_N, i32_lt, i32_le, nI_toInt, nI_subI, nI_clamp, zinT, zifT, iteT, iteF, zQ, zS, zkc, zI_sI, zL_sL, zI_wI, zL_wL, Nat.reduceEqDiff, Nat.reduceAdd, Nat.reduceMul, Nat.reduceLT, Nat.reduceLeDiff, reduceIte, eq_self, and_self, true_and, and_true, false_and, and_false, true_or, or_true, or_false, false_or, not_true_eq_false, not_false_eq_true, zarr, ne_eq, hK, hC, t2]
  · simp (disch := omega) only [il, nI_add, nI_mul, nI_sub, nI_div, nI_rem, nI_N, i32_lt, i32_le, nI_toInt, nI_subI, nI_clamp, zinT, zifT, iteT, iteF, zQ, zS, zkc, zI_sI, zL_sL, zI_wI, zL_wL, Nat.reduceEqDiff, Nat.reduceAdd, Nat.reduceMul, Nat.reduceLT, Nat.reduceLeDiff, reduceIte, eq_self, and_self, true_and, and_true, false_and, and_false, true_or, or_true, or_false, false_or, not_true_eq_false, not_false_eq_true, zarr, ne_eq, hK, hC, t2]
theorem m_isTick_t {d L w t k : Nat} {M : zM} (hd : 2 ≤ d) (hs : zSh L w M) (t1 : t ≤ 48) (t3 : zI M 155 0 = nI t) (h : k < t) : zV d n_Mo_isTick [.ref 146, .int (nI k)] M = some (some (.int (nI 1)), M) := by
  obtain ⟨d, rfl, hd1⟩ := zdep hd
  obtain ⟨hN, hK, hC, hMo, -⟩ := hs
  rw [ze_Mo_isTick]
  unfold zx_Mo_isTick
  simp (disch := omega) only [il, nI_add, nI_mul, nI_sub, nI_div, nI_rem, nI_N, i32_lt, i32_le, nI_toInt, nI_subI, nI_clamp, zinT, zifT, iteT, iteF, zQ, zS, zkc, zI_sI, zL_sL, zI_wI, zL_wL, Nat.reduceEqDiff, Nat.reduceAdd, Nat.reduceMul, Nat.reduceLT, Nat.reduceLeDiff, reduceIte, eq_self, and_self, true_and, and_true, false_and, and_false, true_or, or_true, or_false, false_or, not_true_eq_false, not_false_eq_true, zarr, ne_eq, hK, hMo, t3, mo_in hd1, i64_toInt, zlit64]
theorem m_isTick_f {d L w t : Nat} {x : Int32} {M : zM} (hd : 2 ≤ d) (hs : zSh L w M) (t1 : t ≤ 48) (t3 : zI M 155 0 = nI t) (h : x.toInt < 0 ∨ (t : Int) ≤ x.toInt) : zV d n_Mo_isTick [.ref 146, .int x] M = some (some (.int (nI 0)), M) := by
  obtain ⟨d, rfl, hd1⟩ := zdep hd
  obtain ⟨hN, hK, hC, hMo, -⟩ := hs
  rw [ze_Mo_isTick]
  unfold zx_Mo_isTick
  simp (disch := omega) only [il, nI_add, nI_mul, nI_sub, nI_div, nI_rem, nI_N, i32_lt, i32_le, nI_toInt, nI_subI, nI_clamp, zinT, zifT, iteT, iteF, zQ, zS, zkc, zI_sI, zL_sL, zI_wI, zL_wL, Nat.reduceEqDiff, Nat.reduceAdd, Nat.reduceMul, Nat.reduceLT, Nat.reduceLeDiff, reduceIte, eq_self, and_self, true_and, and_true, false_and, and_false, true_or, or_true, or_false, false_or, not_true_eq_false, not_false_eq_true, zarr, ne_eq, hK, hMo, t3, mo_in hd1, i64_toInt, zlit64]
theorem st_fault {d L : Nat} {M : zM} (hd : 1 ≤ d) (hi : Inv L M) : Cal d n_PT_fault n_Mo_fault L [] M := by
  have hi0 := hi
  obtain ⟨w, n, t, P, tr, hs, hT, hfa, hto, htr, him, hsh, hp⟩ := hi
  obtain ⟨d, rfl, hd1⟩ := zdep hd
  obtain ⟨hN, hK, hC, hMo, -⟩ := hs
  unfold Cal
  rw [ze_PT_fault]
  simp only [ze_Mo_fault]
  unfold zx_PT_fault zx_Mo_fault
  refine ⟨zI M 2 10, M, M, ?_, ?_, hi0⟩
  · simp (disch := omega) only [il, nI_add, nI_mul, nI_sub, nI_div, nI_rem, nI_N, i32_lt, i32_le, nI_toInt, nI_subI, nI_clamp, zinT, zifT, iteT, iteF, zQ, zS, zkc, zI_sI, zL_sL, zI_wI, zL_wL, Nat.reduceEqDiff, Nat.reduceAdd, Nat.reduceMul, Nat.reduceLT, Nat.reduceLeDiff, reduceIte, eq_self, and_self, true_and, and_true, false_and, and_false, true_or, or_true, or_false, false_or, not_true_eq_false, not_false_eq_true, zarr, ne_eq, hK]
  · simp (disch := omega) only [il, nI_add, nI_mul, nI_sub, nI_div, nI_rem, nI_N, i32_lt, i32_le, nI_toInt, nI_subI, nI_clamp, zinT, zifT, iteT, iteF, zQ, zS, zkc, zI_sI, zL_sL, zI_wI, zL_wL, Nat.reduceEqDiff, Nat.reduceAdd, Nat.reduceMul, Nat.reduceLT, Nat.reduceLeDiff, reduceIte, eq_self, and_self, true_and, and_true, false_and, and_false, true_or, or_true, or_false, false_or, not_true_eq_false, not_false_eq_true, zarr, ne_eq, hK, hfa]
theorem st_torn {d L : Nat} {M : zM} (hd : 1 ≤ d) (hi : Inv L M) : Cal d n_PT_torn n_Mo_torn L [] M := by
  have hi0 := hi
  obtain ⟨w, n, t, P, tr, hs, hT, hfa, hto, htr, him, hsh, hp⟩ := hi
  obtain ⟨d, rfl, hd1⟩ := zdep hd
  obtain ⟨hN, hK, hC, hMo, -⟩ := hs
  unfold Cal
  rw [ze_PT_torn]
  simp only [ze_Mo_torn]
  unfold zx_PT_torn zx_Mo_torn
  refine ⟨zI M 2 11, M, M, ?_, ?_, hi0⟩
  · simp (disch := omega) only [il, nI_add, nI_mul, nI_sub, nI_div, nI_rem, nI_N, i32_lt, i32_le, nI_toInt, nI_subI, nI_clamp, zinT, zifT, iteT, iteF, zQ, zS, zkc, zI_sI, zL_sL, zI_wI, zL_wL, Nat.reduceEqDiff, Nat.reduceAdd, Nat.reduceMul, Nat.reduceLT, Nat.reduceLeDiff, reduceIte, eq_self, and_self, true_and, and_true, false_and, and_false, true_or, or_true, or_false, false_or, not_true_eq_false, not_false_eq_true, zarr, ne_eq, hK]
  · have hto := hto.1
    simp (disch := omega) only [il, nI_add, nI_mul, nI_sub, nI_div, nI_rem, nI_N, i32_lt, i32_le, nI_toInt, nI_subI, nI_clamp, zinT, zifT, iteT, iteF, zQ, zS, zkc, zI_sI, zL_sL, zI_wI, zL_wL, Nat.reduceEqDiff, Nat.reduceAdd, Nat.reduceMul, Nat.reduceLT, Nat.reduceLeDiff, reduceIte, eq_self, and_self, true_and, and_true, false_and, and_false, true_or, or_true, or_false, false_or, not_true_eq_false, not_false_eq_true, zarr, ne_eq, hK, hto]
theorem st_bits {d L : Nat} {M : zM} (hd : 3 ≤ d) (hi : Inv L M) (x : Int32) : Cal d n_PT_bits n_Mo_bits L [.int x] M := by
  have hi0 := hi
  obtain ⟨w, n, t, P, tr, hs, hT, hfa, hto, htr, him, hsh, hp⟩ := hi
  obtain ⟨d, rfl, hd1⟩ := zdep hd
  have hs1 := hs
  have htr1 := htr
  obtain ⟨hN, hK, hC, hMo, -⟩ := hs1
  obtain ⟨t1, t2, t3, t4⟩ := htr1
  unfold Cal
  rw [ze_PT_bits]
  simp only [ze_Mo_bits]
  unfold zx_PT_bits zx_Mo_bits
  rcases i_cases x t (by omega) with ⟨k, hk, rfl⟩ | hx
  · have e1 := q_isTick_t (d := d) (by omega) hs htr hk
    have e2 := m_isTick_t (d := d) (by omega) hs t1 t3 hk
    obtain ⟨g1, g2, g3⟩ := t4 k hk
    refine ⟨nI (tr k), M, M, ?_, ?_, hi0⟩
    · simp (disch := omega) only [il, nI_add, nI_mul, nI_sub, nI_div, nI_rem, nI_N, i32_lt, i32_le, nI_toInt, nI_subI, nI_clamp, zinT, zifT, iteT, iteF, zQ, zS, zkc, zI_sI, zL_sL, zI_wI, zL_wL, Nat.reduceEqDiff, Nat.reduceAdd, Nat.reduceMul, Nat.reduceLT, Nat.reduceLeDiff, reduceIte, eq_self, and_self, true_and, and_true, false_and, and_false, true_or, or_true, or_false, false_or, not_true_eq_false, not_false_eq_true, zarr, ne_eq, hK, hC, e1, g2]
    · simp (disch := omega) only [il, nI_add, nI_mul, nI_sub, nI_div, nI_rem, nI_N, i32_lt, i32_le, nI_toInt, nI_subI, nI_clamp, zinT, zifT, iteT, iteF, zQ, zS, zkc, zI_sI, zL_sL, zI_wI, zL_wL, Nat.reduceEqDiff, Nat.reduceAdd, Nat.reduceMul, Nat.reduceLT, Nat.reduceLeDiff, reduceIte, eq_self, and_self, true_and, and_true, false_and, and_false, true_or, or_true, or_false, false_or, not_true_eq_false, not_false_eq_true, zarr, ne_eq, hK, hMo, e2, g3]
  · have e1 := q_isTick_f (d := d) (by omega) hs htr hx
    have e2 := m_isTick_f (d := d) (by omega) hs t1 t3 hx
    refine ⟨-1, M, M, ?_, ?_, hi0⟩
    · simp (disch := omega) only [il, nI_add, nI_mul, nI_sub, nI_div, nI_rem, nI_N, i32_lt, i32_le, nI_toInt, nI_subI, nI_clamp, zinT, zifT, iteT, iteF, zQ, zS, zkc, zI_sI, zL_sL, zI_wI, zL_wL, Nat.reduceEqDiff, Nat.reduceAdd, Nat.reduceMul, Nat.reduceLT, Nat.reduceLeDiff, reduceIte, eq_self, and_self, true_and, and_true, false_and, and_false, true_or, or_true, or_false, false_or, not_true_eq_false, not_false_eq_true, zarr, ne_eq, hK, hC, e1]
    · simp (disch := omega) only [il, nI_add, nI_mul, nI_sub, nI_div, nI_rem, nI_N, i32_lt, i32_le, nI_toInt, nI_subI, nI_clamp, zinT, zifT, iteT, iteF, zQ, zS, zkc, zI_sI, zL_sL, zI_wI, zL_wL, Nat.reduceEqDiff, Nat.reduceAdd, Nat.reduceMul, Nat.reduceLT, Nat.reduceLeDiff, reduceIte, eq_self, and_self, true_and, and_true, false_and, and_false, true_or, or_true, or_false, false_or, not_true_eq_false, not_false_eq_true, zarr, ne_eq, hK, hMo, e2]
theorem m_areBits_t {d v : Nat} {M : zM} (hd : 2 ≤ d) (hv : v < 256) : zV d n_Mo_areBits [.int (nI v)] M = some (some (.int (nI 1)), M) := by
  obtain ⟨d, rfl, hd1⟩ := zdep hd
  rw [ze_Mo_areBits]
  unfold zx_Mo_areBits
  simp (disch := omega) only [il, nI_add, nI_mul, nI_sub, nI_div, nI_rem, nI_N, i32_lt, i32_le, nI_toInt, nI_subI, nI_clamp, zinT, zifT, iteT, iteF, zQ, zS, zkc, zI_sI, zL_sL, zI_wI, zL_wL, Nat.reduceEqDiff, Nat.reduceAdd, Nat.reduceMul, Nat.reduceLT, Nat.reduceLeDiff, reduceIte, eq_self, and_self, true_and, and_true, false_and, and_false, true_or, or_true, or_false, false_or, not_true_eq_false, not_false_eq_true, zarr, ne_eq, mo_in hd1, i64_toInt, zlit64]
theorem m_areBits_f {d : Nat} {x : Int32} {M : zM} (hd : 2 ≤ d) (hv : x.toInt < 0 ∨ 256 ≤ x.toInt) : zV d n_Mo_areBits [.int x] M = some (some (.int (nI 0)), M) := by
  obtain ⟨d, rfl, hd1⟩ := zdep hd
  rw [ze_Mo_areBits]
  unfold zx_Mo_areBits
  simp (disch := omega) only [il, nI_add, nI_mul, nI_sub, nI_div, nI_rem, nI_N, i32_lt, i32_le, nI_toInt, nI_subI, nI_clamp, zinT, zifT, iteT, iteF, zQ, zS, zkc, zI_sI, zL_sL, zI_wI, zL_wL, Nat.reduceEqDiff, Nat.reduceAdd, Nat.reduceMul, Nat.reduceLT, Nat.reduceLeDiff, reduceIte, eq_self, and_self, true_and, and_true, false_and, and_false, true_or, or_true, or_false, false_or, not_true_eq_false, not_false_eq_true, zarr, ne_eq, mo_in hd1, i64_toInt, zlit64]
