/-! fulfils, fulfilled -/
theorem q_isFulfilled {d a e v n : Nat} {M : zM} (hd : 1 ≤ d) (hk : zK M a = (23, n)) (h : 4 * e + 3 < n) (hn : n < 1000) (hv : v < 256) : zV d n_PT_isFulfilled [.ref a, .int (nI e), .int (nI v)] M = some (some (.int (nI (ful (zL M a) e v).toNat)), M) := by
  obtain ⟨d, rfl, hd1⟩ := zdep hd
  rw [ze_PT_isFulfilled]
  unfold zx_PT_isFulfilled ful
  have h4 : e * 4 = 4 * e := Nat.mul_comm e 4
  cases hb : zb (zL M a (4 * e + v / 64)) (v % 64)
  · simp (disch := omega) only [il, nI_add, nI_mul, nI_sub, nI_div, nI_rem, nI_N, i32_lt, i32_le, nI_toInt, nI_subI, nI_clamp, zinT, zifT, iteT, iteF, zQ, zS, zkc, zI_sI, zL_sL, zI_wI, zL_wL, Nat.reduceEqDiff, Nat.reduceAdd, Nat.reduceMul, Nat.reduceLT, Nat.reduceLeDiff, reduceIte, eq_self, and_self, true_and, and_true, false_and, and_false, true_or, or_true, or_false, false_or, not_true_eq_false, not_false_eq_true, zarr, ne_eq, hk, t_u, n_mod, h4, hb, Bool.toNat_false]
  · simp (disch := omega) only [il, nI_add, nI_mul, nI_sub, nI_div, nI_rem, nI_N, i32_lt, i32_le, nI_toInt, nI_subI, nI_clamp, zinT, zifT, iteT, iteF, zQ, zS, zkc, zI_sI, zL_sL, zI_wI, zL_wL, Nat.reduceEqDiff, Nat.reduceAdd, Nat.reduceMul, Nat.reduceLT, Nat.reduceLeDiff, reduceIte, eq_self, and_self, true_and, and_true, false_and, and_false, true_or, or_true, or_false, false_or, not_true_eq_false, not_false_eq_true, zarr, ne_eq, hk, t_u, n_mod, h4, hb, Bool.toNat_true, reduceCtorEq]
theorem m_fulfilsOne {d L w i e v : Nat} {M : zM} (hd : 1 ≤ d) (hs : zSh L w M) (hi : i < 8) (he : e < 40) (hv : v < 256) : zV d n_Mo_fulfilsOne [.ref 146, .int (nI i), .int (nI e), .int (nI v)] M = some (some (.int (nI (ful (fun k => zL M 149 (203 * i + 43 + k)) e v).toNat)), M) := by
  obtain ⟨d, rfl, hd1⟩ := zdep hd
  obtain ⟨hN, hK, hC, hMo, -⟩ := hs
  rw [ze_Mo_fulfilsOne]
  unfold zx_Mo_fulfilsOne ful
  have h4 : 203 * i + 43 + (4 * e + v / 64) = 203 * i + 43 + 4 * e + v / 64 := by omega
  simp only [h4]
  cases hb : zb (zL M 149 (203 * i + 43 + 4 * e + v / 64)) (v % 64)
  · simp (disch := omega) only [il, nI_add, nI_mul, nI_sub, nI_div, nI_rem, nI_N, i32_lt, i32_le, nI_toInt, nI_subI, nI_clamp, zinT, zifT, iteT, iteF, zQ, zS, zkc, zI_sI, zL_sL, zI_wI, zL_wL, Nat.reduceEqDiff, Nat.reduceAdd, Nat.reduceMul, Nat.reduceLT, Nat.reduceLeDiff, reduceIte, eq_self, and_self, true_and, and_true, false_and, and_false, true_or, or_true, or_false, false_or, not_true_eq_false, not_false_eq_true, zarr, ne_eq, hK, hMo, t_s, n_mod, hb, Bool.toNat_false, Bool.false_eq_true]
  · simp (disch := omega) only [il, nI_add, nI_mul, nI_sub, nI_div, nI_rem, nI_N, i32_lt, i32_le, nI_toInt, nI_subI, nI_clamp, zinT, zifT, iteT, iteF, zQ, zS, zkc, zI_sI, zL_sL, zI_wI, zL_wL, Nat.reduceEqDiff, Nat.reduceAdd, Nat.reduceMul, Nat.reduceLT, Nat.reduceLeDiff, reduceIte, eq_self, and_self, true_and, and_true, false_and, and_false, true_or, or_true, or_false, false_or, not_true_eq_false, not_false_eq_true, zarr, ne_eq, hK, hMo, t_s, n_mod, hb, Bool.toNat_true]
theorem m_fulfilsOff {d L w p ho v : Nat} {M : zM} (hd : 1 ≤ d) (hs : zSh L w M) (hp : p < 4) (hv : v < 256) (hho : ho < 2) (h : zI M 151 (2 * p + 1) = nI ho) : zV d n_Mo_fulfilsOff [.ref 146, .int (nI p), .int (nI v)] M = some (some (.int (nI (if ho = 1 ∧ ful (fun q => zL M 153 (4 * p + q)) 0 v = true then 1 else 0))), M) := by
  obtain ⟨d, rfl, hd1⟩ := zdep hd
  obtain ⟨hN, hK, hC, hMo, -⟩ := hs
  rw [ze_Mo_fulfilsOff]
  unfold zx_Mo_fulfilsOff ful
  have h4 : 4 * p + (4 * 0 + v / 64) = 4 * p + v / 64 := by omega
  simp only [h4]
  have hho2 : ho = 0 ∨ ho = 1 := by omega
  rcases hho2 with rfl | rfl
  · simp (disch := omega) only [il, nI_add, nI_mul, nI_sub, nI_div, nI_rem, nI_N, i32_lt, i32_le, nI_toInt, nI_subI, nI_clamp, zinT, zifT, iteT, iteF, zQ, zS, zkc, zI_sI, zL_sL, zI_wI, zL_wL, Nat.reduceEqDiff, Nat.reduceAdd, Nat.reduceMul, Nat.reduceLT, Nat.reduceLeDiff, reduceIte, eq_self, and_self, true_and, and_true, false_and, and_false, true_or, or_true, or_false, false_or, not_true_eq_false, not_false_eq_true, zarr, ne_eq, hK, hMo, h]
  · cases hb : zb (zL M 153 (4 * p + v / 64)) (v % 64)
    · simp (disch := omega) only [il, nI_add, nI_mul, nI_sub, nI_div, nI_rem, nI_N, i32_lt, i32_le, nI_toInt, nI_subI, nI_clamp, zinT, zifT, iteT, iteF, zQ, zS, zkc, zI_sI, zL_sL, zI_wI, zL_wL, Nat.reduceEqDiff, Nat.reduceAdd, Nat.reduceMul, Nat.reduceLT, Nat.reduceLeDiff, reduceIte, eq_self, and_self, true_and, and_true, false_and, and_false, true_or, or_true, or_false, false_or, not_true_eq_false, not_false_eq_true, zarr, ne_eq, hK, hMo, h, t_s, n_mod, hb, Bool.false_eq_true]
    · simp (disch := omega) only [il, nI_add, nI_mul, nI_sub, nI_div, nI_rem, nI_N, i32_lt, i32_le, nI_toInt, nI_subI, nI_clamp, zinT, zifT, iteT, iteF, zQ, zS, zkc, zI_sI, zL_sL, zI_wI, zL_wL, Nat.reduceEqDiff, Nat.reduceAdd, Nat.reduceMul, Nat.reduceLT, Nat.reduceLeDiff, reduceIte, eq_self, and_self, true_and, and_true, false_and, and_false, true_or, or_true, or_false, false_or, not_true_eq_false, not_false_eq_true, zarr, ne_eq, hK, hMo, h, t_s, n_mod, hb]
theorem pl_sideOf {d g sd : Nat} {M : zM} (hd : 1 ≤ d) (hg : zPle M g) (h : sd < 2) : zV d n_Pl_sideOf [.ref g, .int (nI sd)] M = some (some (.ref (g + 1 + 4 * sd)), M) := by
  obtain ⟨d, rfl, hd1⟩ := zdep hd
  obtain ⟨g1, g2, g3, g4, -⟩ := hg
  rw [ze_Pl_sideOf]
  unfold zx_Pl_sideOf
  have : sd = 0 ∨ sd = 1 := by omega
  rcases this with rfl | rfl
  · simp (disch := omega) only [il, nI_add, nI_mul, nI_sub, nI_div, nI_rem, nI_N, i32_lt, i32_le, nI_toInt, nI_subI, nI_clamp, zinT, zifT, iteT, iteF, zQ, zS, zkc, zI_sI, zL_sL, zI_wI, zL_wL, Nat.reduceEqDiff, Nat.reduceAdd, Nat.reduceMul, Nat.reduceLT, Nat.reduceLeDiff, reduceIte, eq_self, and_self, true_and, and_true, false_and, and_false, true_or, or_true, or_false, false_or, not_true_eq_false, not_false_eq_true, zarr, ne_eq, g1, g3]
  · simp (disch := omega) only [il, nI_add, nI_mul, nI_sub, nI_div, nI_rem, nI_N, i32_lt, i32_le, nI_toInt, nI_subI, nI_clamp, zinT, zifT, iteT, iteF, zQ, zS, zkc, zI_sI, zL_sL, zI_wI, zL_wL, Nat.reduceEqDiff, Nat.reduceAdd, Nat.reduceMul, Nat.reduceLT, Nat.reduceLeDiff, reduceIte, eq_self, and_self, true_and, and_true, false_and, and_false, true_or, or_true, or_false, false_or, not_true_eq_false, not_false_eq_true, zarr, ne_eq, g1, g4]
/-- a condition that there is: as class and reference see it -/
theorem q_isCond {d L w P p' : Nat} {M : zM} (hd : 4 ≤ d) (hs : zSh L w M) (hP : P ≤ 4) (h9 : zI M 2 9 = nI P) (h9m : zI M 146 8 = nI P) (hp : p' < P) {A B : Sq} {ki ho : Nat} (hpl : iPled A B ki ho M (26 + 10 * w + 27 * p') p') (y z : Int32) :
    ∃ c, c < 2 ∧ zV d n_PT_isCondition [.ref 2, .int (nI p'), .int y, .int z] M = some (some (.int (nI c)), M) ∧ zV d n_Mo_isConditionAsked [.ref 146, .int (nI p'), .int y, .int z] M = some (some (.int (nI c)), M) ∧
    (c = 1 → ((y = nI 2 ∧ ho = 1) ∨ (∃ e, y = nI 0 ∧ z = nI e ∧ e < A.cond) ∨ (∃ e, y = nI 1 ∧ z = nI e ∧ e < B.cond))) ∧ (((y = nI 2 ∧ ho = 1) ∨ (∃ e, y = nI 0 ∧ z = nI e ∧ e < A.cond) ∨ (∃ e, y = nI 1 ∧ z = nI e ∧ e < B.cond)) → c = 1) := by
  obtain ⟨d, rfl, hd1⟩ := zdep hd
  rw [ze_PT_isCondition]
  simp only [ze_Mo_isConditionAsked]
  unfold zx_PT_isCondition zx_Mo_isConditionAsked
  have e1 := q_isPromise_t (d := d) (by omega) hs hP h9 hp
  have e2 := m_isPromise_t (d := d) (by omega) hs hP h9m hp
  have hs1 := hs
  obtain ⟨hN, hK, hC, hMo, hF, hw, h7, h8⟩ := hs1
  have hkk := zkc L; rw [← hK] at hkk
  obtain ⟨t1, t2, t3⟩ := told hs (p := p') (by omega)
  obtain ⟨a1, a2, a3, a4, -, -, a5, a6, a7, a8, a9, a10, -⟩ := hpl
  generalize 26 + 10 * w + 27 * p' = g at *
  have t4 := t3
  obtain ⟨g1, g2, g3, g4, g5, g6, g7⟩ := t3
  have g61 := g6.1
  have g71 := g7.1
  have hho : ho = 0 ∨ ho = 1 := by omega
  rcases i_cases y 3 (by omega) with ⟨s, hs3, rfl⟩ | hy
  · have hs3 : s = 0 ∨ s = 1 ∨ s = 2 := by omega
    rcases hs3 with rfl | rfl | rfl
    · have e3 := q_isSide_t (d := d) (M := M) (k := 0) (by omega) (by omega)
      have e4 := pl_sideOf (d := d) (M := M) (sd := 0) (by omega) t4 (by omega)
      have c1 := a1.1
      have c2 : zI M (g + 1) 6 = nI A.cond := a1.2.2.2.2.1
      have m1 := (SeqM_long a2).1
      rcases i_cases z A.cond (by omega) with ⟨e, he, rfl⟩ | hz
      · refine ⟨1, by omega, ?_, ?_, fun _ => Or.inr (Or.inl ⟨e, rfl, rfl, he⟩), fun _ => rfl⟩
        · simp (disch := omega) only [il, nI_add, nI_mul, nI_sub, nI_div, nI_rem, nI_N, i32_lt, i32_le, nI_toInt, nI_subI, nI_clamp, zinT, zifT, iteT, iteF, zQ, zS, zkc, zI_sI, zL_sL, zI_wI, zL_wL, Nat.reduceEqDiff, Nat.reduceAdd, Nat.reduceMul, Nat.reduceLT, Nat.reduceLeDiff, reduceIte, eq_self, and_self, true_and, and_true, false_and, and_false, true_or, or_true, or_false, false_or, not_true_eq_false, not_false_eq_true, zarr, ne_eq, hkk, h7, e1, e3, e4, t1, t2, g1, g61, Nat.mul_zero, Nat.add_zero, c2]
        · simp (disch := omega) only [il, nI_add, nI_mul, nI_sub, nI_div, nI_rem, nI_N, i32_lt, i32_le, nI_toInt, nI_subI, nI_clamp, zinT, zifT, iteT, iteF, zQ, zS, zkc, zI_sI, zL_sL, zI_wI, zL_wL, Nat.reduceEqDiff, Nat.reduceAdd, Nat.reduceMul, Nat.reduceLT, Nat.reduceLeDiff, reduceIte, eq_self, and_self, true_and, and_true, false_and, and_false, true_or, or_true, or_false, false_or, not_true_eq_false, not_false_eq_true, zarr, ne_eq, hkk, hMo, e2, mo_in (show 1 ≤ d by omega), i64_toInt, zlit64, Nat.add_zero, m1]
      · refine ⟨0, by omega, ?_, ?_, fun h => absurd h (by omega), by
          rintro (⟨h, -⟩ | ⟨e, -, rfl, he⟩ | ⟨e, h, -⟩)
          · exact absurd h (by decide)
          · rw [nI_toInt (by omega)] at hz; omega
          · exact absurd h (by decide)⟩
        · by_cases hz0 : z.toInt < 0
          · simp (disch := omega) only [il, nI_add, nI_mul, nI_sub, nI_div, nI_rem, nI_N, i32_lt, i32_le, nI_toInt, nI_subI, nI_clamp, zinT, zifT, iteT, iteF, zQ, zS, zkc, zI_sI, zL_sL, zI_wI, zL_wL, Nat.reduceEqDiff, Nat.reduceAdd, Nat.reduceMul, Nat.reduceLT, Nat.reduceLeDiff, reduceIte, eq_self, and_self, true_and, and_true, false_and, and_false, true_or, or_true, or_false, false_or, not_true_eq_false, not_false_eq_true, zarr, ne_eq, hkk, h7, e1, e3]
          · simp (disch := omega) only [il, nI_add, nI_mul, nI_sub, nI_div, nI_rem, nI_N, i32_lt, i32_le, nI_toInt, nI_subI, nI_clamp, zinT, zifT, iteT, iteF, zQ, zS, zkc, zI_sI, zL_sL, zI_wI, zL_wL, Nat.reduceEqDiff, Nat.reduceAdd, Nat.reduceMul, Nat.reduceLT, Nat.reduceLeDiff, reduceIte, eq_self, and_self, true_and, and_true, false_and, and_false, true_or, or_true, or_false, false_or, not_true_eq_false, not_false_eq_true, zarr, ne_eq, hkk, h7, e1, e3, e4, t1, t2, g1, g61, Nat.mul_zero, Nat.add_zero, c2]
        · simp (disch := omega) only [il, nI_add, nI_mul, nI_sub, nI_div, nI_rem, nI_N, i32_lt, i32_le, nI_toInt, nI_subI, nI_clamp, zinT, zifT, iteT, iteF, zQ, zS, zkc, zI_sI, zL_sL, zI_wI, zL_wL, Nat.reduceEqDiff, Nat.reduceAdd, Nat.reduceMul, Nat.reduceLT, Nat.reduceLeDiff, reduceIte, eq_self, and_self, true_and, and_true, false_and, and_false, true_or, or_true, or_false, false_or, not_true_eq_false, not_false_eq_true, zarr, ne_eq, hkk, hMo, e2, mo_in (show 1 ≤ d by omega), i64_toInt, zlit64, Nat.add_zero, m1]
    · have e3 := q_isSide_t (d := d) (M := M) (k := 1) (by omega) (by omega)
      have e4 := pl_sideOf (d := d) (M := M) (sd := 1) (by omega) t4 (by omega)
      have c1 := a3.1
      have c2 : zI M (g + 5) 6 = nI B.cond := a3.2.2.2.2.1
      have m1 := (SeqM_long a4).1
      have q5 : g + 1 + 4 = g + 5 := by omega
      rcases i_cases z B.cond (by omega) with ⟨e, he, rfl⟩ | hz
      · refine ⟨1, by omega, ?_, ?_, fun _ => Or.inr (Or.inr ⟨e, rfl, rfl, he⟩), fun _ => rfl⟩
        · simp (disch := omega) only [il, nI_add, nI_mul, nI_sub, nI_div, nI_rem, nI_N, i32_lt, i32_le, nI_toInt, nI_subI, nI_clamp, zinT, zifT, iteT, iteF, zQ, zS, zkc, zI_sI, zL_sL, zI_wI, zL_wL, Nat.reduceEqDiff, Nat.reduceAdd, Nat.reduceMul, Nat.reduceLT, Nat.reduceLeDiff, reduceIte, eq_self, and_self, true_and, and_true, false_and, and_false, true_or, or_true, or_false, false_or, not_true_eq_false, not_false_eq_true, zarr, ne_eq, hkk, h7, e1, e3, e4, t1, t2, g1, g71, Nat.mul_one, q5, c2]
        · simp (disch := omega) only [il, nI_add, nI_mul, nI_sub, nI_div, nI_rem, nI_N, i32_lt, i32_le, nI_toInt, nI_subI, nI_clamp, zinT, zifT, iteT, iteF, zQ, zS, zkc, zI_sI, zL_sL, zI_wI, zL_wL, Nat.reduceEqDiff, Nat.reduceAdd, Nat.reduceMul, Nat.reduceLT, Nat.reduceLeDiff, reduceIte, eq_self, and_self, true_and, and_true, false_and, and_false, true_or, or_true, or_false, false_or, not_true_eq_false, not_false_eq_true, zarr, ne_eq, hkk, hMo, e2, mo_in (show 1 ≤ d by omega), i64_toInt, zlit64, m1]
      · refine ⟨0, by omega, ?_, ?_, fun h => absurd h (by omega), by
          rintro (⟨h, -⟩ | ⟨e, h, -⟩ | ⟨e, -, rfl, he⟩)
          · exact absurd h (by decide)
          · exact absurd h (by decide)
          · rw [nI_toInt (by omega)] at hz; omega⟩
        · by_cases hz0 : z.toInt < 0
          · simp (disch := omega) only [il, nI_add, nI_mul, nI_sub, nI_div, nI_rem, nI_N, i32_lt, i32_le, nI_toInt, nI_subI, nI_clamp, zinT, zifT, iteT, iteF, zQ, zS, zkc, zI_sI, zL_sL, zI_wI, zL_wL, Nat.reduceEqDiff, Nat.reduceAdd, Nat.reduceMul, Nat.reduceLT, Nat.reduceLeDiff, reduceIte, eq_self, and_self, true_and, and_true, false_and, and_false, true_or, or_true, or_false, false_or, not_true_eq_false, not_false_eq_true, zarr, ne_eq, hkk, h7, e1, e3]
          · simp (disch := omega) only [il, nI_add, nI_mul, nI_sub, nI_div, nI_rem, nI_N, i32_lt, i32_le, nI_toInt, nI_subI, nI_clamp, zinT, zifT, iteT, iteF, zQ, zS, zkc, zI_sI, zL_sL, zI_wI, zL_wL, Nat.reduceEqDiff, Nat.reduceAdd, Nat.reduceMul, Nat.reduceLT, Nat.reduceLeDiff, reduceIte, eq_self, and_self, true_and, and_true, false_and, and_false, true_or, or_true, or_false, false_or, not_true_eq_false, not_false_eq_true, zarr, ne_eq, hkk, h7, e1, e3, e4, t1, t2, g1, g71, Nat.mul_one, q5, c2]
        · simp (disch := omega) only [il, nI_add, nI_mul, nI_sub, nI_div, nI_rem, nI_N, i32_lt, i32_le, nI_toInt, nI_subI, nI_clamp, zinT, zifT, iteT, iteF, zQ, zS, zkc, zI_sI, zL_sL, zI_wI, zL_wL, Nat.reduceEqDiff, Nat.reduceAdd, Nat.reduceMul, Nat.reduceLT, Nat.reduceLeDiff, reduceIte, eq_self, and_self, true_and, and_true, false_and, and_false, true_or, or_true, or_false, false_or, not_true_eq_false, not_false_eq_true, zarr, ne_eq, hkk, hMo, e2, mo_in (show 1 ≤ d by omega), i64_toInt, zlit64, m1]
    · refine ⟨ho, a6, ?_, ?_, fun h => Or.inl ⟨rfl, h⟩, by
        rintro (⟨-, h⟩ | ⟨e, h, -⟩ | ⟨e, h, -⟩)
        · exact h
        · exact absurd h (by decide)
        · exact absurd h (by decide)⟩
      · rcases hho with rfl | rfl
        · simp (disch := omega) only [il, nI_add, nI_mul, nI_sub, nI_div, nI_rem, nI_N, i32_lt, i32_le, nI_toInt, nI_subI, nI_clamp, zinT, zifT, iteT, iteF, zQ, zS, zkc, zI_sI, zL_sL, zI_wI, zL_wL, Nat.reduceEqDiff, Nat.reduceAdd, Nat.reduceMul, Nat.reduceLT, Nat.reduceLeDiff, reduceIte, eq_self, and_self, true_and, and_true, false_and, and_false, true_or, or_true, or_false, false_or, not_true_eq_false, not_false_eq_true, zarr, ne_eq, hkk, h7, e1, t1, t2, g1, a8]
        · simp (disch := omega) only [il, nI_add, nI_mul, nI_sub, nI_div, nI_rem, nI_N, i32_lt, i32_le, nI_toInt, nI_subI, nI_clamp, zinT, zifT, iteT, iteF, zQ, zS, zkc, zI_sI, zL_sL, zI_wI, zL_wL, Nat.reduceEqDiff, Nat.reduceAdd, Nat.reduceMul, Nat.reduceLT, Nat.reduceLeDiff, reduceIte, eq_self, and_self, true_and, and_true, false_and, and_false, true_or, or_true, or_false, false_or, not_true_eq_false, not_false_eq_true, zarr, ne_eq, hkk, h7, e1, t1, t2, g1, a8]
      · rcases hho with rfl | rfl
        · simp (disch := omega) only [il, nI_add, nI_mul, nI_sub, nI_div, nI_rem, nI_N, i32_lt, i32_le, nI_toInt, nI_subI, nI_clamp, zinT, zifT, iteT, iteF, zQ, zS, zkc, zI_sI, zL_sL, zI_wI, zL_wL, Nat.reduceEqDiff, Nat.reduceAdd, Nat.reduceMul, Nat.reduceLT, Nat.reduceLeDiff, reduceIte, eq_self, and_self, true_and, and_true, false_and, and_false, true_or, or_true, or_false, false_or, not_true_eq_false, not_false_eq_true, zarr, ne_eq, hkk, hMo, e2, mo_in (show 1 ≤ d by omega), i64_toInt, zlit64, a10]
        · simp (disch := omega) only [il, nI_add, nI_mul, nI_sub, nI_div, nI_rem, nI_N, i32_lt, i32_le, nI_toInt, nI_subI, nI_clamp, zinT, zifT, iteT, iteF, zQ, zS, zkc, zI_sI, zL_sL, zI_wI, zL_wL, Nat.reduceEqDiff, Nat.reduceAdd, Nat.reduceMul, Nat.reduceLT, Nat.reduceLeDiff, reduceIte, eq_self, and_self, true_and, and_true, false_and, and_false, true_or, or_true, or_false, false_or, not_true_eq_false, not_false_eq_true, zarr, ne_eq, hkk, hMo, e2, mo_in (show 1 ≤ d by omega), i64_toInt, zlit64, a10]
  · have e3 := q_isSide_f (d := d) (M := M) (x := y) (by omega) (by omega)
    have z2 : ¬ y = nI 2 := i32_ne (by omega) (by omega)
    refine ⟨0, by omega, ?_, ?_, fun h => absurd h (by omega), by
      rintro (⟨rfl, -⟩ | ⟨e, rfl, -⟩ | ⟨e, rfl, -⟩) <;> (rw [nI_toInt (by omega)] at hy; omega)⟩
    · simp (disch := omega) only [il, nI_add, nI_mul, nI_sub, nI_div, nI_rem, nI_N, i32_lt, i32_le, nI_toInt, nI_subI, nI_clamp, zinT, zifT, iteT, iteF, zQ, zS, zkc, zI_sI, zL_sL, zI_wI, zL_wL, Nat.reduceEqDiff, Nat.reduceAdd, Nat.reduceMul, Nat.reduceLT, Nat.reduceLeDiff, reduceIte, eq_self, and_self, true_and, and_true, false_and, and_false, true_or, or_true, or_false, false_or, not_true_eq_false, not_false_eq_true, zarr, ne_eq, hkk, e1, e3, z2]
    · simp (disch := omega) only [il, nI_add, nI_mul, nI_sub, nI_div, nI_rem, nI_N, i32_lt, i32_le, nI_toInt, nI_subI, nI_clamp, zinT, zifT, iteT, iteF, zQ, zS, zkc, zI_sI, zL_sL, zI_wI, zL_wL, Nat.reduceEqDiff, Nat.reduceAdd, Nat.reduceMul, Nat.reduceLT, Nat.reduceLeDiff, reduceIte, eq_self, and_self, true_and, and_true, false_and, and_false, true_or, or_true, or_false, false_or, not_true_eq_false, not_false_eq_true, zarr, ne_eq, hkk, hMo, e2, mo_in (show 1 ≤ d by omega), i64_toInt, zlit64]
theorem ful_congr {T T' : Nat → Int64} {e v : Nat} (hv : v < 256) (h : ∀ q, q < 4 → T (4 * e + q) = T' (4 * e + q)) : ful T e v = ful T' e v := by
  unfold ful
  rw [h (v / 64) (by omega)]
theorem nI_flag (b : Bool) : (if nI b.toNat = 0 then (0 : Int32) else 1) = nI b.toNat := by cases b <;> rfl
theorem nI_bool0 (b : Bool) : (nI b.toNat = nI 0) = (b = false) := by cases b <;> simp [nI_10.2]
/-- fulfils, the reference, asked for one that there is -/
theorem m_fulfils {d L w P p' v : Nat} {M : zM} (hd : 5 ≤ d) (hs : zSh L w M) (hP : P ≤ 4) (h9 : zI M 2 9 = nI P) (h9m : zI M 146 8 = nI P) (hp : p' < P) {A B : Sq} {ki ho : Nat} (hpl : iPled A B ki ho M (26 + 10 * w + 27 * p') p') {y z : Int32} (hc : zV (d - 1) n_Mo_isConditionAsked [.ref 146, .int (nI p'), .int y, .int z] M = some (some (.int (nI 1)), M)) (hv : v < 256) :
    (y = nI 2 → ho = 1 → zV d n_Mo_fulfils [.ref 146, .int (nI p'), .int y, .int z, .int (nI v)] M = some (some (.int (nI (ful (zL M (26 + 10 * w + 27 * p' + 9)) 0 v).toNat)), M)) ∧
    (∀ e, y = nI 0 → z = nI e → e < A.cond → zV d n_Mo_fulfils [.ref 146, .int (nI p'), .int y, .int z, .int (nI v)] M = some (some (.int (nI (ful (zL M (26 + 10 * w + 27 * p' + 4)) e v).toNat)), M)) ∧
    (∀ e, y = nI 1 → z = nI e → e < B.cond → zV d n_Mo_fulfils [.ref 146, .int (nI p'), .int y, .int z, .int (nI v)] M = some (some (.int (nI (ful (zL M (26 + 10 * w + 27 * p' + 8)) e v).toNat)), M)) := by
  obtain ⟨d, rfl, hd1⟩ := zdep hd
  simp only [Nat.add_sub_cancel] at hc
  have hs1 := hs
  obtain ⟨hN, hK, hC, hMo, hF, hw, h7, h8⟩ := hs1
  have hkk := zkc L; rw [← hK] at hkk
  obtain ⟨a1, a2, a3, a4, -, -, a5, a6, a7, a8, a9, a10, a11, a12, a13⟩ := hpl
  generalize 26 + 10 * w + 27 * p' = g at *
  have hab := m_areBits_t (d := d) (M := M) (by omega) hv
  have hA := a1.1
  have hB := a3.1
  simp only [ze_Mo_fulfils]
  unfold zx_Mo_fulfils
  refine ⟨?_, ?_, ?_⟩
  · rintro rfl rfl
    have e1 := m_fulfilsOff (d := d) (by omega) hs (show p' < 4 by omega) hv (show 1 < 2 by omega) a10
    have e2 : ful (zL M (g + 9)) 0 v = ful (fun q => zL M 153 (4 * p' + q)) 0 v := ful_congr hv (fun q hq => by simpa using a13 rfl q hq)
    have e3 : (if 1 = 1 ∧ ful (fun q => zL M 153 (4 * p' + q)) 0 v = true then 1 else 0) = (ful (zL M (g + 9)) 0 v).toNat := by
      rw [e2]; cases ful (fun q => zL M 153 (4 * p' + q)) 0 v <;> rfl
    rw [e3] at e1
    simp (disch := omega) only [il, nI_add, nI_mul, nI_sub, nI_div, nI_rem, nI_N, i32_lt, i32_le, nI_toInt, nI_subI, nI_clamp, zinT, zifT, iteT, iteF, zQ, zS, zkc, zI_sI, zL_sL, zI_wI, zL_wL, Nat.reduceEqDiff, Nat.reduceAdd, Nat.reduceMul, Nat.reduceLT, Nat.reduceLeDiff, reduceIte, eq_self, and_self, true_and, and_true, false_and, and_false, true_or, or_true, or_false, false_or, not_true_eq_false, not_false_eq_true, zarr, ne_eq, hkk, hc, hab, e1, mo_flag (show 1 ≤ d by omega)]
    cases ful (zL M (g + 9)) 0 v <;> rfl
  · rintro e rfl rfl he
    have e1 := m_fulfilsOne (d := d) (by omega) hs (show 2 * p' < 8 by omega) (show e < 40 by omega) hv
    have e2 : ful (zL M (g + 4)) e v = ful (fun k => zL M 149 (203 * (2 * p') + 43 + k)) e v := ful_congr hv (fun q hq => a11 e q he hq)
    rw [← e2] at e1
    simp (disch := omega) only [il, nI_add, nI_mul, nI_sub, nI_div, nI_rem, nI_N, i32_lt, i32_le, nI_toInt, nI_subI, nI_clamp, zinT, zifT, iteT, iteF, zQ, zS, zkc, zI_sI, zL_sL, zI_wI, zL_wL, Nat.reduceEqDiff, Nat.reduceAdd, Nat.reduceMul, Nat.reduceLT, Nat.reduceLeDiff, reduceIte, eq_self, and_self, true_and, and_true, false_and, and_false, true_or, or_true, or_false, false_or, not_true_eq_false, not_false_eq_true, zarr, ne_eq, hkk, hc, hab, e1, mo_flag (show 1 ≤ d by omega), Nat.add_zero]
    cases ful (zL M (g + 4)) e v <;> rfl
  · rintro e rfl rfl he
    have e1 := m_fulfilsOne (d := d) (by omega) hs (show 2 * p' + 1 < 8 by omega) (show e < 40 by omega) hv
    have e2 : ful (zL M (g + 8)) e v = ful (fun k => zL M 149 (203 * (2 * p' + 1) + 43 + k)) e v := ful_congr hv (fun q hq => a12 e q he hq)
    rw [← e2] at e1
    simp (disch := omega) only [il, nI_add, nI_mul, nI_sub, nI_div, nI_rem, nI_N, i32_lt, i32_le, nI_toInt, nI_subI, nI_clamp, zinT, zifT, iteT, iteF, zQ, zS, zkc, zI_sI, zL_sL, zI_wI, zL_wL, Nat.reduceEqDiff, Nat.reduceAdd, Nat.reduceMul, Nat.reduceLT, Nat.reduceLeDiff, reduceIte, eq_self, and_self, true_and, and_true, false_and, and_false, true_or, or_true, or_false, false_or, not_true_eq_false, not_false_eq_true, zarr, ne_eq, hkk, hc, hab, e1, mo_flag (show 1 ≤ d by omega)]
    cases ful (zL M (g + 8)) e v <;> rfl
theorem st_fulfils {d L : Nat} {M : zM} (hd : 6 ≤ d) (hi : Inv L M) (x y z u : Int32) : Cal d n_PT_fulfils n_Mo_fulfils L [.int x, .int y, .int z, .int u] M := by
  have hi0 := hi
  obtain ⟨w, n, t, P, tr, hs, hT, hfa, hto, htr, him, hsh, hp⟩ := hi
  obtain ⟨d, rfl, hd1⟩ := zdep hd
  have hs1 := hs
  obtain ⟨hN, hK, hC, hMo, hF, hw, h7, h8⟩ := hs1
  have hkk := zkc L; rw [← hK] at hkk
  obtain ⟨p1, p2, p3, p4⟩ := hp
  unfold Cal
  rcases i_cases x P (by omega) with ⟨k, hk, rfl⟩ | hx
  · obtain ⟨A, B, ki, ho, j, hj, hpl, -⟩ := p4 k hk
    obtain ⟨c, hc2, k1, k2, k3, k4⟩ := q_isCond (d := d) (by omega) hs p1 p2 p3 hk hpl y z
    obtain ⟨t1, t2, t3⟩ := told hs (p := k) (by omega)
    have hc3 : c = 0 ∨ c = 1 := by omega
    rcases hc3 with rfl | rfl
    · refine ⟨-1, M, M, ?_, ?_, hi0⟩
      · rw [ze_PT_fulfils]; unfold zx_PT_fulfils; simp (disch := omega) only [il, nI_add, nI_mul, nI_sub, nI_div, nI_rem, nI_N, i32_lt, i32_le, nI_toInt, nI_subI, nI_clamp, zinT, zifT, iteT, iteF, zQ, zS, zkc, zI_sI, zL_sL, zI_wI, zL_wL, Nat.reduceEqDiff, Nat.reduceAdd, Nat.reduceMul, Nat.reduceLT, Nat.reduceLeDiff, reduceIte, eq_self, and_self, true_and, and_true, false_and, and_false, true_or, or_true, or_false, false_or, not_true_eq_false, not_false_eq_true, zarr, ne_eq, hkk, k1]
      · rw [ze_Mo_fulfils]; unfold zx_Mo_fulfils; simp (disch := omega) only [il, nI_add, nI_mul, nI_sub, nI_div, nI_rem, nI_N, i32_lt, i32_le, nI_toInt, nI_subI, nI_clamp, zinT, zifT, iteT, iteF, zQ, zS, zkc, zI_sI, zL_sL, zI_wI, zL_wL, Nat.reduceEqDiff, Nat.reduceAdd, Nat.reduceMul, Nat.reduceLT, Nat.reduceLeDiff, reduceIte, eq_self, and_self, true_and, and_true, false_and, and_false, true_or, or_true, or_false, false_or, not_true_eq_false, not_false_eq_true, zarr, ne_eq, hkk, k2]
    · rcases i_cases u 256 (by omega) with ⟨v, hv, rfl⟩ | hu
      · have hm := m_fulfils (d := d + 1) (by omega) hs p1 p2 p3 hk hpl (by exact k2) hv
        have hA := hpl.1.1
        have hB := hpl.2.2.1.1
        generalize 26 + 10 * w + 27 * k = g at *
        have t4 := t3
        obtain ⟨g1, g2, g3, g4, g5, g6, g7⟩ := t3
        have e0 := q_isBits_t (d := d) (M := M) (by omega) hv
        rw [ze_PT_fulfils]; unfold zx_PT_fulfils
        rcases k3 rfl with ⟨rfl, hho⟩ | ⟨e, rfl, rfl, he⟩ | ⟨e, rfl, rfl, he⟩
        · refine ⟨_, M, M, ?_, hm.1 rfl hho, hi0⟩
          have e1 := q_isFulfilled (d := d) (e := 0) (by omega) g2 (by omega) (by omega) hv
          simp (disch := omega) only [il, nI_add, nI_mul, nI_sub, nI_div, nI_rem, nI_N, i32_lt, i32_le, nI_toInt, nI_subI, nI_clamp, zinT, zifT, iteT, iteF, zQ, zS, zkc, zI_sI, zL_sL, zI_wI, zL_wL, Nat.reduceEqDiff, Nat.reduceAdd, Nat.reduceMul, Nat.reduceLT, Nat.reduceLeDiff, reduceIte, eq_self, and_self, true_and, and_true, false_and, and_false, true_or, or_true, or_false, false_or, not_true_eq_false, not_false_eq_true, zarr, ne_eq, hkk, h7, k1, e0, t1, t2, g1, g5, e1]
          cases ful (zL M (g + 9)) 0 v <;> rfl
        · refine ⟨_, M, M, ?_, hm.2.1 e rfl rfl he, hi0⟩
          have e1 := q_isFulfilled (d := d) (a := g + 1 + 3) (e := e) (by omega) g6.2.2.2.1 (by omega) (by omega) hv
          have e4 := pl_sideOf (d := d) (M := M) (sd := 0) (by omega) t4 (by omega)
          have g61 := g6.1
          have g62 := g6.2.2.2.2.2.2
          simp (disch := omega) only [il, nI_add, nI_mul, nI_sub, nI_div, nI_rem, nI_N, i32_lt, i32_le, nI_toInt, nI_subI, nI_clamp, zinT, zifT, iteT, iteF, zQ, zS, zkc, zI_sI, zL_sL, zI_wI, zL_wL, Nat.reduceEqDiff, Nat.reduceAdd, Nat.reduceMul, Nat.reduceLT, Nat.reduceLeDiff, reduceIte, eq_self, and_self, true_and, and_true, false_and, and_false, true_or, or_true, or_false, false_or, not_true_eq_false, not_false_eq_true, zarr, ne_eq, hkk, h7, k1, e0, t1, t2, g1, g61, g62, e4, e1, Nat.mul_zero, Nat.add_zero]
          show _ = some (some (Value.int (nI (ful (zL M (g + 1 + 3)) e v).toNat)), M)
          cases ful (zL M (g + 1 + 3)) e v <;> rfl
        · refine ⟨_, M, M, ?_, hm.2.2 e rfl rfl he, hi0⟩
          have e1 := q_isFulfilled (d := d) (a := g + 5 + 3) (e := e) (by omega) g7.2.2.2.1 (by omega) (by omega) hv
          have e4 := pl_sideOf (d := d) (M := M) (sd := 1) (by omega) t4 (by omega)
          have q5 : g + 1 + 4 = g + 5 := by omega
          have g71 := g7.1
          have g72 := g7.2.2.2.2.2.2
          simp (disch := omega) only [il, nI_add, nI_mul, nI_sub, nI_div, nI_rem, nI_N, i32_lt, i32_le, nI_toInt, nI_subI, nI_clamp, zinT, zifT, iteT, iteF, zQ, zS, zkc, zI_sI, zL_sL, zI_wI, zL_wL, Nat.reduceEqDiff, Nat.reduceAdd, Nat.reduceMul, Nat.reduceLT, Nat.reduceLeDiff, reduceIte, eq_self, and_self, true_and, and_true, false_and, and_false, true_or, or_true, or_false, false_or, not_true_eq_false, not_false_eq_true, zarr, ne_eq, hkk, h7, k1, e0, t1, t2, g1, g71, g72, e4, e1, Nat.mul_one, q5]
          show _ = some (some (Value.int (nI (ful (zL M (g + 5 + 3)) e v).toNat)), M)
          cases ful (zL M (g + 5 + 3)) e v <;> rfl
      · refine ⟨-1, M, M, ?_, ?_, hi0⟩
        · rw [ze_PT_fulfils]; unfold zx_PT_fulfils; simp (disch := omega) only [il, nI_add, nI_mul, nI_sub, nI_div, nI_rem, nI_N, i32_lt, i32_le, nI_toInt, nI_subI, nI_clamp, zinT, zifT, iteT, iteF, zQ, zS, zkc, zI_sI, zL_sL, zI_wI, zL_wL, Nat.reduceEqDiff, Nat.reduceAdd, Nat.reduceMul, Nat.reduceLT, Nat.reduceLeDiff, reduceIte, eq_self, and_self, true_and, and_true, false_and, and_false, true_or, or_true, or_false, false_or, not_true_eq_false, not_false_eq_true, zarr, ne_eq, hkk, k1, q_isBits_f (d := d) (by omega) hu]
        · rw [ze_Mo_fulfils]; unfold zx_Mo_fulfils; simp (disch := omega) only [il, nI_add, nI_mul, nI_sub, nI_div, nI_rem, nI_N, i32_lt, i32_le, nI_toInt, nI_subI, nI_clamp, zinT, zifT, iteT, iteF, zQ, zS, zkc, zI_sI, zL_sL, zI_wI, zL_wL, Nat.reduceEqDiff, Nat.reduceAdd, Nat.reduceMul, Nat.reduceLT, Nat.reduceLeDiff, reduceIte, eq_self, and_self, true_and, and_true, false_and, and_false, true_or, or_true, or_false, false_or, not_true_eq_false, not_false_eq_true, zarr, ne_eq, hkk, k2, m_areBits_f (d := d) (by omega) hu]
  · refine ⟨-1, M, M, ?_, ?_, hi0⟩
    · obtain ⟨d, rfl, hd2⟩ := zdep hd1
      have e1 := q_isPromise_f (d := d) (by omega) hs p1 p2 hx
      have e3 : zV (d + 1) n_PT_isCondition [.ref 2, .int x, .int y, .int z] M = some (some (.int (nI 0)), M) := by
        rw [ze_PT_isCondition]; unfold zx_PT_isCondition; simp (disch := omega) only [il, nI_add, nI_mul, nI_sub, nI_div, nI_rem, nI_N, i32_lt, i32_le, nI_toInt, nI_subI, nI_clamp, zinT, zifT, iteT, iteF, zQ, zS, zkc, zI_sI, zL_sL, zI_wI, zL_wL, Nat.reduceEqDiff, Nat.reduceAdd, Nat.reduceMul, Nat.reduceLT, Nat.reduceLeDiff, reduceIte, eq_self, and_self, true_and, and_true, false_and, and_false, true_or, or_true, or_false, false_or, not_true_eq_false, not_false_eq_true, zarr, ne_eq, hkk, e1]
      rw [ze_PT_fulfils]; unfold zx_PT_fulfils; simp (disch := omega) only [il, nI_add, nI_mul, nI_sub, nI_div, nI_rem, nI_N, i32_lt, i32_le, nI_toInt, nI_subI, nI_clamp, zinT, zifT, iteT, iteF, zQ, zS, zkc, zI_sI, zL_sL, zI_wI, zL_wL, Nat.reduceEqDiff, Nat.reduceAdd, Nat.reduceMul, Nat.reduceLT, Nat.reduceLeDiff, reduceIte, eq_self, and_self, true_and, and_true, false_and, and_false, true_or, or_true, or_false, false_or, not_true_eq_false, not_false_eq_true, zarr, ne_eq, hkk, e3]
    · obtain ⟨d, rfl, hd2⟩ := zdep hd1
      have e1 := m_isPromise_f (d := d) (by omega) hs p1 p3 hx
      have e3 : zV (d + 1) n_Mo_isConditionAsked [.ref 146, .int x, .int y, .int z] M = some (some (.int (nI 0)), M) := by
        rw [ze_Mo_isConditionAsked]; unfold zx_Mo_isConditionAsked; simp (disch := omega) only [il, nI_add, nI_mul, nI_sub, nI_div, nI_rem, nI_N, i32_lt, i32_le, nI_toInt, nI_subI, nI_clamp, zinT, zifT, iteT, iteF, zQ, zS, zkc, zI_sI, zL_sL, zI_wI, zL_wL, Nat.reduceEqDiff, Nat.reduceAdd, Nat.reduceMul, Nat.reduceLT, Nat.reduceLeDiff, reduceIte, eq_self, and_self, true_and, and_true, false_and, and_false, true_or, or_true, or_false, false_or, not_true_eq_false, not_false_eq_true, zarr, ne_eq, hkk, e1]
      rw [ze_Mo_fulfils]; unfold zx_Mo_fulfils; simp (disch := omega) only [il, nI_add, nI_mul, nI_sub, nI_div, nI_rem, nI_N, i32_lt, i32_le, nI_toInt, nI_subI, nI_clamp, zinT, zifT, iteT, iteF, zQ, zS, zkc, zI_sI, zL_sL, zI_wI, zL_wL, Nat.reduceEqDiff, Nat.reduceAdd, Nat.reduceMul, Nat.reduceLT, Nat.reduceLeDiff, reduceIte, eq_self, and_self, true_and, and_true, false_and, and_false, true_or, or_true, or_false, false_or, not_true_eq_false, not_false_eq_true, zarr, ne_eq, hkk, e3]
theorem q_howMany {d a e n : Nat} {M : zM} (hd : 2 ≤ d) (hk : zK M a = (23, n)) (h : 4 * e + 3 < n) (hn : n < 1000) : zV d n_PT_howManyFulfil [.ref a, .int (nI e)] M = some (some (.int (nI (cnt (ful (zL M a) e) 256))), M) := by
  obtain ⟨d, rfl, hd1⟩ := zdep hd
  rw [ze_PT_howManyFulfil]
  unfold zx_PT_howManyFulfil
  have h4 : e * 4 = 4 * e := Nat.mul_comm e 4
  have key := zloop (n := 4) (g := fun k => zG d n_PT_howManyFulfil 4 [some (.ref a), some (.int (nI e)), some (.int (nI (cnt (ful (zL M a) e) (64 * k)))), some (.int (nI k))] [] M) (by
    intro k hk4
    show zG d n_PT_howManyFulfil 4 [some (.ref a), some (.int (nI e)), some (.int (nI (cnt (ful (zL M a) e) (64 * k)))), some (.int (nI k))] [] M = zG d n_PT_howManyFulfil 4 [some (.ref a), some (.int (nI e)), some (.int (nI (cnt (ful (zL M a) e) (64 * (k + 1))))), some (.int (nI (k + 1)))] [] M
    rw [zg_PT_howManyFulfil_4]
    unfold zx_PT_howManyFulfil_4
    have e1 : cnt (ful (zL M a) e) (64 * (k + 1)) = cnt (ful (zL M a) e) (64 * k) + cnt (zb (zL M a (4 * e + k))) 64 := by
      rw [show 64 * (k + 1) = 64 * k + 64 by omega, cnt_add]
      congr 1
      apply cnt_congr
      intro i hi
      unfold ful
      rw [show (64 * k + i) / 64 = k by omega, show (64 * k + i) % 64 = i by omega]
    have hle := cnt_le (f := ful (zL M a) e) (64 * k)
    simp (disch := omega) only [il, nI_add, nI_mul, nI_sub, nI_div, nI_rem, nI_N, i32_lt, i32_le, nI_toInt, nI_subI, nI_clamp, zinT, zifT, iteT, iteF, zQ, zS, zkc, zI_sI, zL_sL, zI_wI, zL_wL, Nat.reduceEqDiff, Nat.reduceAdd, Nat.reduceMul, Nat.reduceLT, Nat.reduceLeDiff, reduceIte, eq_self, and_self, true_and, and_true, false_and, and_false, true_or, or_true, or_false, false_or, not_true_eq_false, not_false_eq_true, zarr, ne_eq, hk, h4, jl_bitCount hd1, e1])
  refine Eq.trans key ?_
  show zG d n_PT_howManyFulfil 4 [some (.ref a), some (.int (nI e)), some (.int (nI (cnt (ful (zL M a) e) (64 * 4)))), some (.int (nI 4))] [] M = _
  rw [zg_PT_howManyFulfil_4]
  unfold zx_PT_howManyFulfil_4
  simp (disch := omega) only [il, nI_add, nI_mul, nI_sub, nI_div, nI_rem, nI_N, i32_lt, i32_le, nI_toInt, nI_subI, nI_clamp, zinT, zifT, iteT, iteF, zQ, zS, zkc, zI_sI, zL_sL, zI_wI, zL_wL, Nat.reduceEqDiff, Nat.reduceAdd, Nat.reduceMul, Nat.reduceLT, Nat.reduceLeDiff, reduceIte, eq_self, and_self, true_and, and_true, false_and, and_false, true_or, or_true, or_false, false_or, not_true_eq_false, not_false_eq_true, zarr, ne_eq]
theorem m_fulfilled {d : Nat} {M : zM} (hK : zK M 146 = (11, 52)) {p' : Nat} {y z : Int32} {f : Nat → Bool} (h : ∀ v, v < 256 → zV d n_Mo_fulfils [.ref 146, .int (nI p'), .int y, .int z, .int (nI v)] M = some (some (.int (nI (f v).toNat)), M)) :
    zG d n_Mo_fulfilled 18 [some (.ref 146), some (.int (nI p')), some (.int y), some (.int z), some (.int (nI 0)), some (.int (nI 0))] [] M = some (some (.int (nI (cnt f 256))), M) := by
  have key := zloop (n := 256) (g := fun k => zG d n_Mo_fulfilled 18 [some (.ref 146), some (.int (nI p')), some (.int y), some (.int z), some (.int (nI (cnt f k))), some (.int (nI k))] [] M) (by
    intro k hk
    show zG d n_Mo_fulfilled 18 [some (.ref 146), some (.int (nI p')), some (.int y), some (.int z), some (.int (nI (cnt f k))), some (.int (nI k))] [] M = zG d n_Mo_fulfilled 18 [some (.ref 146), some (.int (nI p')), some (.int y), some (.int z), some (.int (nI (cnt f k + (f k).toNat))), some (.int (nI (k + 1)))] [] M
    rw [zg_Mo_fulfilled_18]
    unfold zx_Mo_fulfilled_18
    have e1 := h k hk
    simp (disch := omega) only [il, nI_add, nI_mul, nI_sub, nI_div, nI_rem, nI_N, i32_lt, i32_le, nI_toInt, nI_subI, nI_clamp, zinT, zifT, iteT, iteF, zQ, zS, zkc, zI_sI, zL_sL, zI_wI, zL_wL, Nat.reduceEqDiff, Nat.reduceAdd, Nat.reduceMul, Nat.reduceLT, Nat.reduceLeDiff, reduceIte, eq_self, and_self, true_and, and_true, false_and, and_false, true_or, or_true, or_false, false_or, not_true_eq_false, not_false_eq_true, zarr, ne_eq, hK, e1])
  refine Eq.trans key ?_
  show zG d n_Mo_fulfilled 18 [some (.ref 146), some (.int (nI p')), some (.int y), some (.int z), some (.int (nI (cnt f 256))), some (.int (nI 256))] [] M = _
  rw [zg_Mo_fulfilled_18]
  unfold zx_Mo_fulfilled_18
  simp (disch := omega) only [il, nI_add, nI_mul, nI_sub, nI_div, nI_rem, nI_N, i32_lt, i32_le, nI_toInt, nI_subI, nI_clamp, zinT, zifT, iteT, iteF, zQ, zS, zkc, zI_sI, zL_sL, zI_wI, zL_wL, Nat.reduceEqDiff, Nat.reduceAdd, Nat.reduceMul, Nat.reduceLT, Nat.reduceLeDiff, reduceIte, eq_self, and_self, true_and, and_true, false_and, and_false, true_or, or_true, or_false, false_or, not_true_eq_false, not_false_eq_true, zarr, ne_eq]
theorem st_fulfilled {d L : Nat} {M : zM} (hd : 7 ≤ d) (hi : Inv L M) (x y z : Int32) : Cal d n_PT_fulfilled n_Mo_fulfilled L [.int x, .int y, .int z] M := by
  have hi0 := hi
  obtain ⟨w, n, t, P, tr, hs, hT, hfa, hto, htr, him, hsh, hp⟩ := hi
  obtain ⟨d, rfl, hd1⟩ := zdep hd
  have hs1 := hs
  obtain ⟨hN, hK, hC, hMo, hF, hw, h7, h8⟩ := hs1
  have hkk := zkc L; rw [← hK] at hkk
  obtain ⟨p1, p2, p3, p4⟩ := hp
  have hK146 : zK M 146 = (11, 52) := by rw [hK]; rfl
  unfold Cal
  rw [ze_PT_fulfilled]
  simp only [ze_Mo_fulfilled]
  unfold zx_PT_fulfilled zx_Mo_fulfilled
  rcases i_cases x P (by omega) with ⟨k, hk, rfl⟩ | hx
  · obtain ⟨A, B, ki, ho, j, hj, hpl, -⟩ := p4 k hk
    obtain ⟨c, hc2, k1, k2, k3, k4⟩ := q_isCond (d := d) (by omega) hs p1 p2 p3 hk hpl y z
    obtain ⟨c', hc2', k1', k2', k3', k4'⟩ := q_isCond (d := d - 1) (by omega) hs p1 p2 p3 hk hpl y z
    obtain ⟨t1, t2, t3⟩ := told hs (p := k) (by omega)
    have hc3 : c = 0 ∨ c = 1 := by omega
    rcases hc3 with rfl | rfl
    · refine ⟨-1, M, M, ?_, ?_, hi0⟩
      · simp (disch := omega) only [il, nI_add, nI_mul, nI_sub, nI_div, nI_rem, nI_N, i32_lt, i32_le, nI_toInt, nI_subI, nI_clamp, zinT, zifT, iteT, iteF, zQ, zS, zkc, zI_sI, zL_sL, zI_wI, zL_wL, Nat.reduceEqDiff, Nat.reduceAdd, Nat.reduceMul, Nat.reduceLT, Nat.reduceLeDiff, reduceIte, eq_self, and_self, true_and, and_true, false_and, and_false, true_or, or_true, or_false, false_or, not_true_eq_false, not_false_eq_true, zarr, ne_eq, hkk, k1]
      · simp (disch := omega) only [il, nI_add, nI_mul, nI_sub, nI_div, nI_rem, nI_N, i32_lt, i32_le, nI_toInt, nI_subI, nI_clamp, zinT, zifT, iteT, iteF, zQ, zS, zkc, zI_sI, zL_sL, zI_wI, zL_wL, Nat.reduceEqDiff, Nat.reduceAdd, Nat.reduceMul, Nat.reduceLT, Nat.reduceLeDiff, reduceIte, eq_self, and_self, true_and, and_true, false_and, and_false, true_or, or_true, or_false, false_or, not_true_eq_false, not_false_eq_true, zarr, ne_eq, hkk, k2]
    · have hcc : c' = 1 := k4' (k3 rfl)
      subst hcc
      have hm := fun v (hv : v < 256) => m_fulfils (d := d) (by omega) hs p1 p2 p3 hk hpl (by exact k2') hv
      have hA := hpl.1.1
      have hB := hpl.2.2.1.1
      generalize 26 + 10 * w + 27 * k = g at *
      have t4 := t3
      obtain ⟨g1, g2, g3, g4, g5, g6, g7⟩ := t3
      rcases k3 rfl with ⟨rfl, hho⟩ | ⟨e, rfl, rfl, he⟩ | ⟨e, rfl, rfl, he⟩
      · have e1 := q_howMany (d := d) (e := 0) (by omega) g2 (by omega) (by omega)
        have e2 := m_fulfilled (d := d) hK146 (fun v hv => (hm v hv).1 rfl hho)
        refine ⟨nI (cnt (ful (zL M (g + 9)) 0) 256), M, M, ?_, ?_, hi0⟩
        · simp (disch := omega) only [il, nI_add, nI_mul, nI_sub, nI_div, nI_rem, nI_N, i32_lt, i32_le, nI_toInt, nI_subI, nI_clamp, zinT, zifT, iteT, iteF, zQ, zS, zkc, zI_sI, zL_sL, zI_wI, zL_wL, Nat.reduceEqDiff, Nat.reduceAdd, Nat.reduceMul, Nat.reduceLT, Nat.reduceLeDiff, reduceIte, eq_self, and_self, true_and, and_true, false_and, and_false, true_or, or_true, or_false, false_or, not_true_eq_false, not_false_eq_true, zarr, ne_eq, hkk, h7, k1, t1, t2, g1, g5, e1]
        · simp (disch := omega) only [il, nI_add, nI_mul, nI_sub, nI_div, nI_rem, nI_N, i32_lt, i32_le, nI_toInt, nI_subI, nI_clamp, zinT, zifT, iteT, iteF, zQ, zS, zkc, zI_sI, zL_sL, zI_wI, zL_wL, Nat.reduceEqDiff, Nat.reduceAdd, Nat.reduceMul, Nat.reduceLT, Nat.reduceLeDiff, reduceIte, eq_self, and_self, true_and, and_true, false_and, and_false, true_or, or_true, or_false, false_or, not_true_eq_false, not_false_eq_true, zarr, ne_eq, hkk, k2, e2]
      · have e1 := q_howMany (d := d) (a := g + 1 + 3) (e := e) (by omega) g6.2.2.2.1 (by omega) (by omega)
        have e2 := m_fulfilled (d := d) hK146 (fun v hv => (hm v hv).2.1 e rfl rfl he)
        have e4 := pl_sideOf (d := d) (M := M) (sd := 0) (by omega) t4 (by omega)
        have g61 := g6.1
        have g62 := g6.2.2.2.2.2.2
        refine ⟨nI (cnt (ful (zL M (g + 1 + 3)) e) 256), M, M, ?_, ?_, hi0⟩
        · simp (disch := omega) only [il, nI_add, nI_mul, nI_sub, nI_div, nI_rem, nI_N, i32_lt, i32_le, nI_toInt, nI_subI, nI_clamp, zinT, zifT, iteT, iteF, zQ, zS, zkc, zI_sI, zL_sL, zI_wI, zL_wL, Nat.reduceEqDiff, Nat.reduceAdd, Nat.reduceMul, Nat.reduceLT, Nat.reduceLeDiff, reduceIte, eq_self, and_self, true_and, and_true, false_and, and_false, true_or, or_true, or_false, false_or, not_true_eq_false, not_false_eq_true, zarr, ne_eq, hkk, h7, k1, t1, t2, g1, g61, g62, e4, e1, Nat.mul_zero, Nat.add_zero]
        · simp (disch := omega) only [il, nI_add, nI_mul, nI_sub, nI_div, nI_rem, nI_N, i32_lt, i32_le, nI_toInt, nI_subI, nI_clamp, zinT, zifT, iteT, iteF, zQ, zS, zkc, zI_sI, zL_sL, zI_wI, zL_wL, Nat.reduceEqDiff, Nat.reduceAdd, Nat.reduceMul, Nat.reduceLT, Nat.reduceLeDiff, reduceIte, eq_self, and_self, true_and, and_true, false_and, and_false, true_or, or_true, or_false, false_or, not_true_eq_false, not_false_eq_true, zarr, ne_eq, hkk, k2, e2]
      · have e1 := q_howMany (d := d) (a := g + 5 + 3) (e := e) (by omega) g7.2.2.2.1 (by omega) (by omega)
        have e2 := m_fulfilled (d := d) hK146 (fun v hv => (hm v hv).2.2 e rfl rfl he)
        have e4 := pl_sideOf (d := d) (M := M) (sd := 1) (by omega) t4 (by omega)
        have q5 : g + 1 + 4 = g + 5 := by omega
        have g71 := g7.1
        have g72 := g7.2.2.2.2.2.2
        refine ⟨nI (cnt (ful (zL M (g + 5 + 3)) e) 256), M, M, ?_, ?_, hi0⟩
        · simp (disch := omega) only [il, nI_add, nI_mul, nI_sub, nI_div, nI_rem, nI_N, i32_lt, i32_le, nI_toInt, nI_subI, nI_clamp, zinT, zifT, iteT, iteF, zQ, zS, zkc, zI_sI, zL_sL, zI_wI, zL_wL, Nat.reduceEqDiff, Nat.reduceAdd, Nat.reduceMul, Nat.reduceLT, Nat.reduceLeDiff, reduceIte, eq_self, and_self, true_and, and_true, false_and, and_false, true_or, or_true, or_false, false_or, not_true_eq_false, not_false_eq_true, zarr, ne_eq, hkk, h7, k1, t1, t2, g1, g71, g72, e4, e1, Nat.mul_one, q5]
        · simp (disch := omega) only [il, nI_add, nI_mul, nI_sub, nI_div, nI_rem, nI_N, i32_lt, i32_le, nI_toInt, nI_subI, nI_clamp, zinT, zifT, iteT, iteF, zQ, zS, zkc, zI_sI, zL_sL, zI_wI, zL_wL, Nat.reduceEqDiff, Nat.reduceAdd, Nat.reduceMul, Nat.reduceLT, Nat.reduceLeDiff, reduceIte, eq_self, and_self, true_and, and_true, false_and, and_false, true_or, or_true, or_false, false_or, not_true_eq_false, not_false_eq_true, zarr, ne_eq, hkk, k2, e2]
  · obtain ⟨d, rfl, hd2⟩ := zdep hd1
    have e1 := q_isPromise_f (d := d) (by omega) hs p1 p2 hx
    have e2 := m_isPromise_f (d := d) (by omega) hs p1 p3 hx
    have e3 : zV (d + 1) n_PT_isCondition [.ref 2, .int x, .int y, .int z] M = some (some (.int (nI 0)), M) := by
      rw [ze_PT_isCondition]; unfold zx_PT_isCondition; simp (disch := omega) only [il, nI_add, nI_mul, nI_sub, nI_div, nI_rem, nI_N, i32_lt, i32_le, nI_toInt, nI_subI, nI_clamp, zinT, zifT, iteT, iteF, zQ, zS, zkc, zI_sI, zL_sL, zI_wI, zL_wL, Nat.reduceEqDiff, Nat.reduceAdd, Nat.reduceMul, Nat.reduceLT, Nat.reduceLeDiff, reduceIte, eq_self, and_self, true_and, and_true, false_and, and_false, true_or, or_true, or_false, false_or, not_true_eq_false, not_false_eq_true, zarr, ne_eq, hkk, e1]
    have e4 : zV (d + 1) n_Mo_isConditionAsked [.ref 146, .int x, .int y, .int z] M = some (some (.int (nI 0)), M) := by
      rw [ze_Mo_isConditionAsked]; unfold zx_Mo_isConditionAsked; simp (disch := omega) only [il, nI_add, nI_mul, nI_sub, nI_div, nI_rem, nI_N, i32_lt, i32_le, nI_toInt, nI_subI, nI_clamp, zinT, zifT, iteT, iteF, zQ, zS, zkc, zI_sI, zL_sL, zI_wI, zL_wL, Nat.reduceEqDiff, Nat.reduceAdd, Nat.reduceMul, Nat.reduceLT, Nat.reduceLeDiff, reduceIte, eq_self, and_self, true_and, and_true, false_and, and_false, true_or, or_true, or_false, false_or, not_true_eq_false, not_false_eq_true, zarr, ne_eq, hkk, e2]
    refine ⟨-1, M, M, ?_, ?_, hi0⟩
    · simp (disch := omega) only [il, nI_add, nI_mul, nI_sub, nI_div, nI_rem, nI_N, i32_lt, i32_le, nI_toInt, nI_subI, nI_clamp, zinT, zifT, iteT, iteF, zQ, zS, zkc, zI_sI, zL_sL, zI_wI, zL_wL, Nat.reduceEqDiff, Nat.reduceAdd, Nat.reduceMul, Nat.reduceLT, Nat.reduceLeDiff, reduceIte, eq_self, and_self, true_and, and_true, false_and, and_false, true_or, or_true, or_false, false_or, not_true_eq_false, not_false_eq_true, zarr, ne_eq, hkk, e3]
    · simp (disch := omega) only [il, nI_add, nI_mul, nI_sub, nI_div, nI_rem, nI_N, i32_lt, i32_le, nI_toInt, nI_subI, nI_clamp, zinT, zifT, iteT, iteF, zQ, zS, zkc, zI_sI, zL_sL, zI_wI, zL_wL, Nat.reduceEqDiff, Nat.reduceAdd, Nat.reduceMul, Nat.reduceLT, Nat.reduceLeDiff, reduceIte, eq_self, and_self, true_and, and_true, false_and, and_false, true_or, or_true, or_false, false_or, not_true_eq_false, not_false_eq_true, zarr, ne_eq, hkk, e4]
