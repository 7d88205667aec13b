/-! what is told: promise, fulfils, fulfilled -/
theorem told {L w : Nat} {M : zM} (hs : zSh L w M) {p : Nat} (hp : p < 4) : zK M (24 + w) = (31, 4) ∧ zR M (24 + w) p = some (26 + 10 * w + 27 * p) ∧ zPle M (26 + 10 * w + 27 * p) := by
  obtain ⟨hN, hK, hC, hMo, hF, hw, h7, h8⟩ := hs
  obtain ⟨f1, f2, -, -, f5, f6, -⟩ := hF.1 p hp
  have : w = 0 ∨ w = 1 := by omega
  rcases this with rfl | rfl
  · exact ⟨by rw [hK]; rfl, f1, f5⟩
  · exact ⟨by rw [hK]; rfl, f2, f6⟩
theorem q_isPromise_t {d L w k P : Nat} {M : zM} (hd : 1 ≤ d) (hs : zSh L w M) (hP : P ≤ 4) (h9 : zI M 2 9 = nI P) (h : k < P) : zV d n_PT_isPromise [.ref 2, .int (nI k)] M = some (some (.int (nI 1)), M) := by
  obtain ⟨d, rfl, hd1⟩ := zdep hd
  obtain ⟨hN, hK, hC, -⟩ := hs
  rw [ze_PT_isPromise]
  unfold zx_PT_isPromise
  simp (disch := omega) only [il, nI_add, nI_mul, nI_sub, nI_div, nI_rem, nI_N, i32_lt, i32_le, nI_toInt, nI_subI, nI_clamp, zinT, zifT, iteT, iteF, zQ, zS, zkc, zI_sI, zL_sL, zI_wI, zL_wL, Nat.reduceEqDiff, Nat.reduceAdd, Nat.reduceMul, Nat.reduceLT, Nat.reduceLeDiff, reduceIte, eq_self, and_self, true_and, and_true, false_and, and_false, true_or, or_true, or_false, false_or, not_true_eq_false, not_false_eq_true, zarr, ne_eq, hK, hC, h9]
theorem q_isPromise_f {d L w P : Nat} {x : Int32} {M : zM} (hd : 1 ≤ d) (hs : zSh L w M) (hP : P ≤ 4) (h9 : zI M 2 9 = nI P) (h : x.toInt < 0 ∨ (P : Int) ≤ x.toInt) : zV d n_PT_isPromise [.ref 2, .int x] M = some (some (.int (nI 0)), M) := by
  obtain ⟨d, rfl, hd1⟩ := zdep hd
  obtain ⟨hN, hK, hC, -⟩ := hs
  rw [ze_PT_isPromise]
  unfold zx_PT_isPromise
  by_cases h1 : x.toInt < 0
  · simp (disch := omega) only [il, nI_add, nI_mul, nI_sub, nI_div, nI_rem, nI_N, i32_lt, i32_le, nI_toInt, nI_subI, nI_clamp, zinT, zifT, iteT, iteF, zQ, zS, zkc, zI_sI, zL_sL, zI_wI, zL_wL, Nat.reduceEqDiff, Nat.reduceAdd, Nat.reduceMul, Nat.reduceLT, Nat.reduceLeDiff, reduceIte, eq_self, and_self, true_and, and_true, false_and, and_false, true_or, or_true, or_false, false_or, not_true_eq_false, not_false_eq_true, zarr, ne_eq, hK, hC, h9]
  · simp (disch := omega) only [il, nI_add, nI_mul, nI_sub, nI_div, nI_rem, nI_N, i32_lt, i32_le, nI_toInt, nI_subI, nI_clamp, zinT, zifT, iteT, iteF, zQ, zS, zkc, zI_sI, zL_sL, zI_wI, zL_wL, Nat.reduceEqDiff, Nat.reduceAdd, Nat.reduceMul, Nat.reduceLT, Nat.reduceLeDiff, reduceIte, eq_self, and_self, true_and, and_true, false_and, and_false, true_or, or_true, or_false, false_or, not_true_eq_false, not_false_eq_true, zarr, ne_eq, hK, hC, h9]
theorem m_isPromise_t {d L w k P : Nat} {M : zM} (hd : 2 ≤ d) (hs : zSh L w M) (hP : P ≤ 4) (h9 : zI M 146 8 = nI P) (h : k < P) : zV d n_Mo_isPromise [.ref 146, .int (nI k)] M = some (some (.int (nI 1)), M) := by
  obtain ⟨d, rfl, hd1⟩ := zdep hd
  obtain ⟨hN, hK, hC, hMo, -⟩ := hs
  rw [ze_Mo_isPromise]
  unfold zx_Mo_isPromise
  simp (disch := omega) only [il, nI_add, nI_mul, nI_sub, nI_div, nI_rem, nI_N, i32_lt, i32_le, nI_toInt, nI_subI, nI_clamp, zinT, zifT, iteT, iteF, zQ, zS, zkc, zI_sI, zL_sL, zI_wI, zL_wL, Nat.reduceEqDiff, Nat.reduceAdd, Nat.reduceMul, Nat.reduceLT, Nat.reduceLeDiff, reduceIte, eq_self, and_self, true_and, and_true, false_and, and_false, true_or, or_true, or_false, false_or, not_true_eq_false, not_false_eq_true, zarr, ne_eq, hK, hMo, h9, mo_in hd1, i64_toInt, zlit64]
theorem m_isPromise_f {d L w P : Nat} {x : Int32} {M : zM} (hd : 2 ≤ d) (hs : zSh L w M) (hP : P ≤ 4) (h9 : zI M 146 8 = nI P) (h : x.toInt < 0 ∨ (P : Int) ≤ x.toInt) : zV d n_Mo_isPromise [.ref 146, .int x] M = some (some (.int (nI 0)), M) := by
  obtain ⟨d, rfl, hd1⟩ := zdep hd
  obtain ⟨hN, hK, hC, hMo, -⟩ := hs
  rw [ze_Mo_isPromise]
  unfold zx_Mo_isPromise
  simp (disch := omega) only [il, nI_add, nI_mul, nI_sub, nI_div, nI_rem, nI_N, i32_lt, i32_le, nI_toInt, nI_subI, nI_clamp, zinT, zifT, iteT, iteF, zQ, zS, zkc, zI_sI, zL_sL, zI_wI, zL_wL, Nat.reduceEqDiff, Nat.reduceAdd, Nat.reduceMul, Nat.reduceLT, Nat.reduceLeDiff, reduceIte, eq_self, and_self, true_and, and_true, false_and, and_false, true_or, or_true, or_false, false_or, not_true_eq_false, not_false_eq_true, zarr, ne_eq, hK, hMo, h9, mo_in hd1, i64_toInt, zlit64]
theorem q_isSide_t {d k : Nat} {M : zM} (hd : 1 ≤ d) (h : k < 2) : zV d n_PT_isSide [.int (nI k)] M = some (some (.int (nI 1)), M) := by
  obtain ⟨d, rfl, hd1⟩ := zdep hd
  rw [ze_PT_isSide]
  unfold zx_PT_isSide
  by_cases h1 : k = 0
  · subst h1; simp (disch := omega) only [il, nI_add, nI_mul, nI_sub, nI_div, nI_rem, nI_N, i32_lt, i32_le, nI_toInt, nI_subI, nI_clamp, zinT, zifT, iteT, iteF, zQ, zS, zkc, zI_sI, zL_sL, zI_wI, zL_wL, Nat.reduceEqDiff, Nat.reduceAdd, Nat.reduceMul, Nat.reduceLT, Nat.reduceLeDiff, reduceIte, eq_self, and_self, true_and, and_true, false_and, and_false, true_or, or_true, or_false, false_or, not_true_eq_false, not_false_eq_true, zarr, ne_eq]
  · have : k = 1 := by omega
    subst this; simp (disch := omega) only [il, nI_add, nI_mul, nI_sub, nI_div, nI_rem, nI_N, i32_lt, i32_le, nI_toInt, nI_subI, nI_clamp, zinT, zifT, iteT, iteF, zQ, zS, zkc, zI_sI, zL_sL, zI_wI, zL_wL, Nat.reduceEqDiff, Nat.reduceAdd, Nat.reduceMul, Nat.reduceLT, Nat.reduceLeDiff, reduceIte, eq_self, and_self, true_and, and_true, false_and, and_false, true_or, or_true, or_false, false_or, not_true_eq_false, not_false_eq_true, zarr, ne_eq]
theorem i32_ne {x : Int32} {n : Nat} (hn : n < 2 ^ 31) (h : x.toInt ≠ n) : ¬ x = nI n := by
  rintro rfl
  exact h (nI_toInt hn)
theorem q_isSide_f {d : Nat} {x : Int32} {M : zM} (hd : 1 ≤ d) (h : x.toInt < 0 ∨ 2 ≤ x.toInt) : zV d n_PT_isSide [.int x] M = some (some (.int (nI 0)), M) := by
  obtain ⟨d, rfl, hd1⟩ := zdep hd
  rw [ze_PT_isSide]
  unfold zx_PT_isSide
  have a0 : ¬ x = nI 0 := i32_ne (by omega) (by omega)
  have a1 : ¬ x = nI 1 := i32_ne (by omega) (by omega)
  simp (disch := omega) only [il, nI_add, nI_mul, nI_sub, nI_div, nI_rem, nI_N, i32_lt, i32_le, nI_toInt, nI_subI, nI_clamp, zinT, zifT, iteT, iteF, zQ, zS, zkc, zI_sI, zL_sL, zI_wI, zL_wL, Nat.reduceEqDiff, Nat.reduceAdd, Nat.reduceMul, Nat.reduceLT, Nat.reduceLeDiff, reduceIte, eq_self, and_self, true_and, and_true, false_and, and_false, true_or, or_true, or_false, false_or, not_true_eq_false, not_false_eq_true, zarr, ne_eq, a0, a1]
theorem m_isSide_t {d k : Nat} {M : zM} (hd : 2 ≤ d) (h : k < 2) : zV d n_Mo_isSide [.int (nI k)] M = some (some (.int (nI 1)), M) := by
  obtain ⟨d, rfl, hd1⟩ := zdep hd
  rw [ze_Mo_isSide]
  unfold zx_Mo_isSide
  simp (disch := omega) only [il, nI_add, nI_mul, nI_sub, nI_div, nI_rem, nI_N, i32_lt, i32_le, nI_toInt, nI_subI, nI_clamp, zinT, zifT, iteT, iteF, zQ, zS, zkc, zI_sI, zL_sL, zI_wI, zL_wL, Nat.reduceEqDiff, Nat.reduceAdd, Nat.reduceMul, Nat.reduceLT, Nat.reduceLeDiff, reduceIte, eq_self, and_self, true_and, and_true, false_and, and_false, true_or, or_true, or_false, false_or, not_true_eq_false, not_false_eq_true, zarr, ne_eq, mo_in hd1, i64_toInt, zlit64]
theorem m_isSide_f {d : Nat} {x : Int32} {M : zM} (hd : 2 ≤ d) (h : x.toInt < 0 ∨ 2 ≤ x.toInt) : zV d n_Mo_isSide [.int x] M = some (some (.int (nI 0)), M) := by
  obtain ⟨d, rfl, hd1⟩ := zdep hd
  rw [ze_Mo_isSide]
  unfold zx_Mo_isSide
  simp (disch := omega) only [il, nI_add, nI_mul, nI_sub, nI_div, nI_rem, nI_N, i32_lt, i32_le, nI_toInt, nI_subI, nI_clamp, zinT, zifT, iteT, iteF, zQ, zS, zkc, zI_sI, zL_sL, zI_wI, zL_wL, Nat.reduceEqDiff, Nat.reduceAdd, Nat.reduceMul, Nat.reduceLT, Nat.reduceLeDiff, reduceIte, eq_self, and_self, true_and, and_true, false_and, and_false, true_or, or_true, or_false, false_or, not_true_eq_false, not_false_eq_true, zarr, ne_eq, mo_in hd1, i64_toInt, zlit64]
theorem SeqM_long {A : Sq} {M : zM} {i : Nat} (h : SeqM A M i) : zI M 147 (45 * i + 1) = nI A.cond ∧ zI M 147 (45 * i + 2) = nI A.long ∧ zI M 147 (45 * i + 3) = nI A.few ∧ zI M 147 (45 * i + 4) = nI A.most := by
  obtain ⟨n, C, -, -, -, h1, h2, h3, h4, -⟩ := h
  exact ⟨h1, h2, h3, h4⟩
theorem st_promise {d L : Nat} {M : zM} (hd : 3 ≤ d) (hi : Inv L M) (x y : Int32) : Cal d n_PT_promise n_Mo_promise L [.int x, .int y] M := by
  have hi0 := hi
  obtain ⟨w, n, t, P, tr, hs, hT, hfa, hto, htr, him, hsh, hp⟩ := hi
  obtain ⟨d, rfl, hd1⟩ := zdep hd
  have hs1 := hs
  obtain ⟨hN, hK, hC, hMo, hF, hw, h7, h8⟩ := hs1
  have hkk := zkc L; rw [← hK] at hkk
  obtain ⟨p1, p2, p3, p4⟩ := hp
  unfold Cal
  rw [ze_PT_promise]
  simp only [ze_Mo_promise]
  unfold zx_PT_promise zx_Mo_promise
  rcases i_cases x P (by omega) with ⟨k, hk, rfl⟩ | hx
  · have e1 := q_isPromise_t (d := d) (by omega) hs p1 p2 hk
    have e2 := m_isPromise_t (d := d) (by omega) hs p1 p3 hk
    obtain ⟨A, B, ki, ho, j, hj, ⟨a1, a2, a3, a4, -, -, a5, a6, a7, a8, a9, a10, -⟩, -⟩ := p4 k hk
    obtain ⟨t1, t2, t3⟩ := told hs (p := k) (by omega)
    obtain ⟨-, -, -, -, c1, c2, c3, c4, -⟩ := a1
    obtain ⟨-, -, -, -, b1, b2, b3, b4, -⟩ := a3
    obtain ⟨m1, m2, m3, m4⟩ := SeqM_long a2
    obtain ⟨n1, n2, n3, n4⟩ := SeqM_long a4
    generalize 26 + 10 * w + 27 * k = g at *
    obtain ⟨g1, g2, g3, g4, g5, g6, g7⟩ := t3
    have g61 := g6.1
    have g71 := g7.1
    rcases i_cases y 10 (by omega) with ⟨v, hv, rfl⟩ | hy
    · have e3 : k < 4 := by omega
      have hho : ho = 0 ∨ ho = 1 := by omega
      have hv2 : v = 0 ∨ v = 1 ∨ v = 2 ∨ v = 3 ∨ v = 4 ∨ v = 5 ∨ v = 6 ∨ v = 7 ∨ v = 8 ∨ v = 9 := by omega
      rcases hv2 with rfl | rfl | rfl | rfl | rfl | rfl | rfl | rfl | rfl | rfl
      · refine ⟨nI ki, M, M, ?_, ?_, hi0⟩
        · simp (disch := omega) only [il, nI_add, nI_mul, nI_sub, nI_div, nI_rem, nI_N, i32_lt, i32_le, nI_toInt, nI_subI, nI_clamp, zinT, zifT, iteT, iteF, zQ, zS, zkc, zI_sI, zL_sL, zI_wI, zL_wL, Nat.reduceEqDiff, Nat.reduceAdd, Nat.reduceMul, Nat.reduceLT, Nat.reduceLeDiff, reduceIte, eq_self, and_self, true_and, and_true, false_and, and_false, true_or, or_true, or_false, false_or, not_true_eq_false, not_false_eq_true, zarr, ne_eq, hkk, h7, e1, t1, t2, g1, a7]
        · simp (disch := omega) only [il, nI_add, nI_mul, nI_sub, nI_div, nI_rem, nI_N, i32_lt, i32_le, nI_toInt, nI_subI, nI_clamp, zinT, zifT, iteT, iteF, zQ, zS, zkc, zI_sI, zL_sL, zI_wI, zL_wL, Nat.reduceEqDiff, Nat.reduceAdd, Nat.reduceMul, Nat.reduceLT, Nat.reduceLeDiff, reduceIte, eq_self, and_self, true_and, and_true, false_and, and_false, true_or, or_true, or_false, false_or, not_true_eq_false, not_false_eq_true, zarr, ne_eq, hkk, hMo, e2, mo_in (show 1 ≤ d by omega), i64_toInt, zlit64, a9, Nat.add_zero]
      · refine ⟨nI ho, M, M, ?_, ?_, hi0⟩
        · rcases hho with rfl | rfl
          · simp (disch := omega) only [il, nI_add, nI_mul, nI_sub, nI_div, nI_rem, nI_N, i32_lt, i32_le, nI_toInt, nI_subI, nI_clamp, zinT, zifT, iteT, iteF, zQ, zS, zkc, zI_sI, zL_sL, zI_wI, zL_wL, Nat.reduceEqDiff, Nat.reduceAdd, Nat.reduceMul, Nat.reduceLT, Nat.reduceLeDiff, reduceIte, eq_self, and_self, true_and, and_true, false_and, and_false, true_or, or_true, or_false, false_or, not_true_eq_false, not_false_eq_true, zarr, ne_eq, hkk, h7, e1, t1, t2, g1, a8]
          · simp (disch := omega) only [il, nI_add, nI_mul, nI_sub, nI_div, nI_rem, nI_N, i32_lt, i32_le, nI_toInt, nI_subI, nI_clamp, zinT, zifT, iteT, iteF, zQ, zS, zkc, zI_sI, zL_sL, zI_wI, zL_wL, Nat.reduceEqDiff, Nat.reduceAdd, Nat.reduceMul, Nat.reduceLT, Nat.reduceLeDiff, reduceIte, eq_self, and_self, true_and, and_true, false_and, and_false, true_or, or_true, or_false, false_or, not_true_eq_false, not_false_eq_true, zarr, ne_eq, hkk, h7, e1, t1, t2, g1, a8]
        · simp (disch := omega) only [il, nI_add, nI_mul, nI_sub, nI_div, nI_rem, nI_N, i32_lt, i32_le, nI_toInt, nI_subI, nI_clamp, zinT, zifT, iteT, iteF, zQ, zS, zkc, zI_sI, zL_sL, zI_wI, zL_wL, Nat.reduceEqDiff, Nat.reduceAdd, Nat.reduceMul, Nat.reduceLT, Nat.reduceLeDiff, reduceIte, eq_self, and_self, true_and, and_true, false_and, and_false, true_or, or_true, or_false, false_or, not_true_eq_false, not_false_eq_true, zarr, ne_eq, hkk, hMo, e2, mo_in (show 1 ≤ d by omega), i64_toInt, zlit64, a10]
      · refine ⟨nI A.cond, M, M, ?_, ?_, hi0⟩
        · simp (disch := omega) only [il, nI_add, nI_mul, nI_sub, nI_div, nI_rem, nI_N, i32_lt, i32_le, nI_toInt, nI_subI, nI_clamp, zinT, zifT, iteT, iteF, zQ, zS, zkc, zI_sI, zL_sL, zI_wI, zL_wL, Nat.reduceEqDiff, Nat.reduceAdd, Nat.reduceMul, Nat.reduceLT, Nat.reduceLeDiff, reduceIte, eq_self, and_self, true_and, and_true, false_and, and_false, true_or, or_true, or_false, false_or, not_true_eq_false, not_false_eq_true, zarr, ne_eq, hkk, h7, e1, t1, t2, g1, g3, g61, c1]
        · simp (disch := omega) only [il, nI_add, nI_mul, nI_sub, nI_div, nI_rem, nI_N, i32_lt, i32_le, nI_toInt, nI_subI, nI_clamp, zinT, zifT, iteT, iteF, zQ, zS, zkc, zI_sI, zL_sL, zI_wI, zL_wL, Nat.reduceEqDiff, Nat.reduceAdd, Nat.reduceMul, Nat.reduceLT, Nat.reduceLeDiff, reduceIte, eq_self, and_self, true_and, and_true, false_and, and_false, true_or, or_true, or_false, false_or, not_true_eq_false, not_false_eq_true, zarr, ne_eq, hkk, hMo, e2, mo_in (show 1 ≤ d by omega), i64_toInt, zlit64, Nat.reduceMod, Nat.reduceDiv, Nat.reduceSub, Nat.add_zero, m1]
      · refine ⟨nI B.cond, M, M, ?_, ?_, hi0⟩
        · simp (disch := omega) only [il, nI_add, nI_mul, nI_sub, nI_div, nI_rem, nI_N, i32_lt, i32_le, nI_toInt, nI_subI, nI_clamp, zinT, zifT, iteT, iteF, zQ, zS, zkc, zI_sI, zL_sL, zI_wI, zL_wL, Nat.reduceEqDiff, Nat.reduceAdd, Nat.reduceMul, Nat.reduceLT, Nat.reduceLeDiff, reduceIte, eq_self, and_self, true_and, and_true, false_and, and_false, true_or, or_true, or_false, false_or, not_true_eq_false, not_false_eq_true, zarr, ne_eq, hkk, h7, e1, t1, t2, g1, g4, g71, b1]
        · simp (disch := omega) only [il, nI_add, nI_mul, nI_sub, nI_div, nI_rem, nI_N, i32_lt, i32_le, nI_toInt, nI_subI, nI_clamp, zinT, zifT, iteT, iteF, zQ, zS, zkc, zI_sI, zL_sL, zI_wI, zL_wL, Nat.reduceEqDiff, Nat.reduceAdd, Nat.reduceMul, Nat.reduceLT, Nat.reduceLeDiff, reduceIte, eq_self, and_self, true_and, and_true, false_and, and_false, true_or, or_true, or_false, false_or, not_true_eq_false, not_false_eq_true, zarr, ne_eq, hkk, hMo, e2, mo_in (show 1 ≤ d by omega), i64_toInt, zlit64, Nat.reduceMod, Nat.reduceDiv, Nat.reduceSub, Nat.add_zero, n1]
      · refine ⟨nI A.long, M, M, ?_, ?_, hi0⟩
        · simp (disch := omega) only [il, nI_add, nI_mul, nI_sub, nI_div, nI_rem, nI_N, i32_lt, i32_le, nI_toInt, nI_subI, nI_clamp, zinT, zifT, iteT, iteF, zQ, zS, zkc, zI_sI, zL_sL, zI_wI, zL_wL, Nat.reduceEqDiff, Nat.reduceAdd, Nat.reduceMul, Nat.reduceLT, Nat.reduceLeDiff, reduceIte, eq_self, and_self, true_and, and_true, false_and, and_false, true_or, or_true, or_false, false_or, not_true_eq_false, not_false_eq_true, zarr, ne_eq, hkk, h7, e1, t1, t2, g1, g3, g61, c2]
        · simp (disch := omega) only [il, nI_add, nI_mul, nI_sub, nI_div, nI_rem, nI_N, i32_lt, i32_le, nI_toInt, nI_subI, nI_clamp, zinT, zifT, iteT, iteF, zQ, zS, zkc, zI_sI, zL_sL, zI_wI, zL_wL, Nat.reduceEqDiff, Nat.reduceAdd, Nat.reduceMul, Nat.reduceLT, Nat.reduceLeDiff, reduceIte, eq_self, and_self, true_and, and_true, false_and, and_false, true_or, or_true, or_false, false_or, not_true_eq_false, not_false_eq_true, zarr, ne_eq, hkk, hMo, e2, mo_in (show 1 ≤ d by omega), i64_toInt, zlit64, Nat.reduceMod, Nat.reduceDiv, Nat.reduceSub, Nat.add_zero, m2]
      · refine ⟨nI B.long, M, M, ?_, ?_, hi0⟩
        · simp (disch := omega) only [il, nI_add, nI_mul, nI_sub, nI_div, nI_rem, nI_N, i32_lt, i32_le, nI_toInt, nI_subI, nI_clamp, zinT, zifT, iteT, iteF, zQ, zS, zkc, zI_sI, zL_sL, zI_wI, zL_wL, Nat.reduceEqDiff, Nat.reduceAdd, Nat.reduceMul, Nat.reduceLT, Nat.reduceLeDiff, reduceIte, eq_self, and_self, true_and, and_true, false_and, and_false, true_or, or_true, or_false, false_or, not_true_eq_false, not_false_eq_true, zarr, ne_eq, hkk, h7, e1, t1, t2, g1, g4, g71, b2]
        · simp (disch := omega) only [il, nI_add, nI_mul, nI_sub, nI_div, nI_rem, nI_N, i32_lt, i32_le, nI_toInt, nI_subI, nI_clamp, zinT, zifT, iteT, iteF, zQ, zS, zkc, zI_sI, zL_sL, zI_wI, zL_wL, Nat.reduceEqDiff, Nat.reduceAdd, Nat.reduceMul, Nat.reduceLT, Nat.reduceLeDiff, reduceIte, eq_self, and_self, true_and, and_true, false_and, and_false, true_or, or_true, or_false, false_or, not_true_eq_false, not_false_eq_true, zarr, ne_eq, hkk, hMo, e2, mo_in (show 1 ≤ d by omega), i64_toInt, zlit64, Nat.reduceMod, Nat.reduceDiv, Nat.reduceSub, Nat.add_zero, n2]
      · refine ⟨nI A.few, M, M, ?_, ?_, hi0⟩
        · simp (disch := omega) only [il, nI_add, nI_mul, nI_sub, nI_div, nI_rem, nI_N, i32_lt, i32_le, nI_toInt, nI_subI, nI_clamp, zinT, zifT, iteT, iteF, zQ, zS, zkc, zI_sI, zL_sL, zI_wI, zL_wL, Nat.reduceEqDiff, Nat.reduceAdd, Nat.reduceMul, Nat.reduceLT, Nat.reduceLeDiff, reduceIte, eq_self, and_self, true_and, and_true, false_and, and_false, true_or, or_true, or_false, false_or, not_true_eq_false, not_false_eq_true, zarr, ne_eq, hkk, h7, e1, t1, t2, g1, g3, g61, c3]
        · simp (disch := omega) only [il, nI_add, nI_mul, nI_sub, nI_div, nI_rem, nI_N, i32_lt, i32_le, nI_toInt, nI_subI, nI_clamp, zinT, zifT, iteT, iteF, zQ, zS, zkc, zI_sI, zL_sL, zI_wI, zL_wL, Nat.reduceEqDiff, Nat.reduceAdd, Nat.reduceMul, Nat.reduceLT, Nat.reduceLeDiff, reduceIte, eq_self, and_self, true_and, and_true, false_and, and_false, true_or, or_true, or_false, false_or, not_true_eq_false, not_false_eq_true, zarr, ne_eq, hkk, hMo, e2, mo_in (show 1 ≤ d by omega), i64_toInt, zlit64, Nat.reduceMod, Nat.reduceDiv, Nat.reduceSub, Nat.add_zero, m3]
      · refine ⟨nI B.few, M, M, ?_, ?_, hi0⟩
        · simp (disch := omega) only [il, nI_add, nI_mul, nI_sub, nI_div, nI_rem, nI_N, i32_lt, i32_le, nI_toInt, nI_subI, nI_clamp, zinT, zifT, iteT, iteF, zQ, zS, zkc, zI_sI, zL_sL, zI_wI, zL_wL, Nat.reduceEqDiff, Nat.reduceAdd, Nat.reduceMul, Nat.reduceLT, Nat.reduceLeDiff, reduceIte, eq_self, and_self, true_and, and_true, false_and, and_false, true_or, or_true, or_false, false_or, not_true_eq_false, not_false_eq_true, zarr, ne_eq, hkk, h7, e1, t1, t2, g1, g4, g71, b3]
        · simp (disch := omega) only [il, nI_add, nI_mul, nI_sub, nI_div, nI_rem, nI_N, i32_lt, i32_le, nI_toInt, nI_subI, nI_clamp, zinT, zifT, iteT, iteF, zQ, zS, zkc, zI_sI, zL_sL, zI_wI, zL_wL, Nat.reduceEqDiff, Nat.reduceAdd, Nat.reduceMul, Nat.reduceLT, Nat.reduceLeDiff, reduceIte, eq_self, and_self, true_and, and_true, false_and, and_false, true_or, or_true, or_false, false_or, not_true_eq_false, not_false_eq_true, zarr, ne_eq, hkk, hMo, e2, mo_in (show 1 ≤ d by omega), i64_toInt, zlit64, Nat.reduceMod, Nat.reduceDiv, Nat.reduceSub, Nat.add_zero, n3]
      · refine ⟨nI A.most, M, M, ?_, ?_, hi0⟩
        · simp (disch := omega) only [il, nI_add, nI_mul, nI_sub, nI_div, nI_rem, nI_N, i32_lt, i32_le, nI_toInt, nI_subI, nI_clamp, zinT, zifT, iteT, iteF, zQ, zS, zkc, zI_sI, zL_sL, zI_wI, zL_wL, Nat.reduceEqDiff, Nat.reduceAdd, Nat.reduceMul, Nat.reduceLT, Nat.reduceLeDiff, reduceIte, eq_self, and_self, true_and, and_true, false_and, and_false, true_or, or_true, or_false, false_or, not_true_eq_false, not_false_eq_true, zarr, ne_eq, hkk, h7, e1, t1, t2, g1, g3, g61, c4]
        · simp (disch := omega) only [il, nI_add, nI_mul, nI_sub, nI_div, nI_rem, nI_N, i32_lt, i32_le, nI_toInt, nI_subI, nI_clamp, zinT, zifT, iteT, iteF, zQ, zS, zkc, zI_sI, zL_sL, zI_wI, zL_wL, Nat.reduceEqDiff, Nat.reduceAdd, Nat.reduceMul, Nat.reduceLT, Nat.reduceLeDiff, reduceIte, eq_self, and_self, true_and, and_true, false_and, and_false, true_or, or_true, or_false, false_or, not_true_eq_false, not_false_eq_true, zarr, ne_eq, hkk, hMo, e2, mo_in (show 1 ≤ d by omega), i64_toInt, zlit64, Nat.reduceMod, Nat.reduceDiv, Nat.reduceSub, Nat.add_zero, m4]
      · refine ⟨nI B.most, M, M, ?_, ?_, hi0⟩
        · simp (disch := omega) only [il, nI_add, nI_mul, nI_sub, nI_div, nI_rem, nI_N, i32_lt, i32_le, nI_toInt, nI_subI, nI_clamp, zinT, zifT, iteT, iteF, zQ, zS, zkc, zI_sI, zL_sL, zI_wI, zL_wL, Nat.reduceEqDiff, Nat.reduceAdd, Nat.reduceMul, Nat.reduceLT, Nat.reduceLeDiff, reduceIte, eq_self, and_self, true_and, and_true, false_and, and_false, true_or, or_true, or_false, false_or, not_true_eq_false, not_false_eq_true, zarr, ne_eq, hkk, h7, e1, t1, t2, g1, g4, g71, b4]
        · simp (disch := omega) only [il, nI_add, nI_mul, nI_sub, nI_div, nI_rem, nI_N, i32_lt, i32_le, nI_toInt, nI_subI, nI_clamp, zinT, zifT, iteT, iteF, zQ, zS, zkc, zI_sI, zL_sL, zI_wI, zL_wL, Nat.reduceEqDiff, Nat.reduceAdd, Nat.reduceMul, Nat.reduceLT, Nat.reduceLeDiff, reduceIte, eq_self, and_self, true_and, and_true, false_and, and_false, true_or, or_true, or_false, false_or, not_true_eq_false, not_false_eq_true, zarr, ne_eq, hkk, hMo, e2, mo_in (show 1 ≤ d by omega), i64_toInt, zlit64, Nat.reduceMod, Nat.reduceDiv, Nat.reduceSub, Nat.add_zero, n4]
    · have z0 : ¬ y = nI 0 := i32_ne (by omega) (by omega)
      have z1 : ¬ y = nI 1 := i32_ne (by omega) (by omega)
      have z2 : ¬ y = nI 2 := i32_ne (by omega) (by omega)
      have z3 : ¬ y = nI 3 := i32_ne (by omega) (by omega)
      have z4 : ¬ y = nI 4 := i32_ne (by omega) (by omega)
      have z5 : ¬ y = nI 5 := i32_ne (by omega) (by omega)
      have z6 : ¬ y = nI 6 := i32_ne (by omega) (by omega)
      have z7 : ¬ y = nI 7 := i32_ne (by omega) (by omega)
      have z8 : ¬ y = nI 8 := i32_ne (by omega) (by omega)
      have z9 : ¬ y = nI 9 := i32_ne (by omega) (by omega)
      refine ⟨-1, M, M, ?_, ?_, hi0⟩
      · simp (disch := omega) only [il, nI_add, nI_mul, nI_sub, nI_div, nI_rem, nI_N, i32_lt, i32_le, nI_toInt, nI_subI, nI_clamp, zinT, zifT, iteT, iteF, zQ, zS, zkc, zI_sI, zL_sL, zI_wI, zL_wL, Nat.reduceEqDiff, Nat.reduceAdd, Nat.reduceMul, Nat.reduceLT, Nat.reduceLeDiff, reduceIte, eq_self, and_self, true_and, and_true, false_and, and_false, true_or, or_true, or_false, false_or, not_true_eq_false, not_false_eq_true, zarr, ne_eq, hkk, h7, e1, t1, t2, z0, z1, z2, z3, z4, z5, z6, z7, z8, z9]
      · simp (disch := omega) only [il, nI_add, nI_mul, nI_sub, nI_div, nI_rem, nI_N, i32_lt, i32_le, nI_toInt, nI_subI, nI_clamp, zinT, zifT, iteT, iteF, zQ, zS, zkc, zI_sI, zL_sL, zI_wI, zL_wL, Nat.reduceEqDiff, Nat.reduceAdd, Nat.reduceMul, Nat.reduceLT, Nat.reduceLeDiff, reduceIte, eq_self, and_self, true_and, and_true, false_and, and_false, true_or, or_true, or_false, false_or, not_true_eq_false, not_false_eq_true, zarr, ne_eq, hkk, hMo, e2, mo_in (show 1 ≤ d by omega), i64_toInt, zlit64]
  · have e1 := q_isPromise_f (d := d) (by omega) hs p1 p2 hx
    have e2 := m_isPromise_f (d := d) (by omega) hs p1 p3 hx
    refine ⟨-1, M, M, ?_, ?_, hi0⟩
    · simp (disch := omega) only [il, nI_add, nI_mul, nI_sub, nI_div, nI_rem, nI_N, i32_lt, i32_le, nI_toInt, nI_subI, nI_clamp, zinT, zifT, iteT, iteF, zQ, zS, zkc, zI_sI, zL_sL, zI_wI, zL_wL, Nat.reduceEqDiff, Nat.reduceAdd, Nat.reduceMul, Nat.reduceLT, Nat.reduceLeDiff, reduceIte, eq_self, and_self, true_and, and_true, false_and, and_false, true_or, or_true, or_false, false_or, not_true_eq_false, not_false_eq_true, zarr, ne_eq, hkk, e1]
    · simp (disch := omega) only [il, nI_add, nI_mul, nI_sub, nI_div, nI_rem, nI_N, i32_lt, i32_le, nI_toInt, nI_subI, nI_clamp, zinT, zifT, iteT, iteF, zQ, zS, zkc, zI_sI, zL_sL, zI_wI, zL_wL, Nat.reduceEqDiff, Nat.reduceAdd, Nat.reduceMul, Nat.reduceLT, Nat.reduceLeDiff, reduceIte, eq_self, and_self, true_and, and_true, false_and, and_false, true_or, or_true, or_false, false_or, not_true_eq_false, not_false_eq_true, zarr, ne_eq, hkk, e2]
