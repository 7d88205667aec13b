/-! lay -/
theorem st_lay {d L : Nat} {M : zM} (hd : 3 ≤ d) (hi : Inv L M) (x y z : Int32) : Cal d n_PT_lay n_Mo_lay L [.int x, .int y, .int z] M := by
  have hi0 := hi
  obtain ⟨w, n, t, P, tr, hs, hT, hfa, hto, htr, him, hsh, hp⟩ := hi
  obtain ⟨d, rfl, hd1⟩ := zdep hd
  have hs1 := hs
  obtain ⟨hN, hK, hC, hMo, hF, hw, -⟩ := hs1
  obtain ⟨d, rfl, hd2⟩ := zdep hd1
  unfold Cal
  rw [ze_PT_lay]
  simp only [ze_Mo_lay]
  unfold zx_PT_lay zx_Mo_lay
  rcases i_cases x 4 (by omega) with ⟨k, hk, rfl⟩ | hx
  · have hsk : zShe M (138 + 2 * k) := (hF.1 k hk).2.2.2.2.2.2.2
    have r1 := (hF.1 k hk).2.2.2.1
    obtain ⟨s1, s2, s3⟩ := hsk
    have r3 := s1
    have r4 := s2
    rw [hK] at r3 r4
    rcases hsh k hk with ⟨g1, g2⟩ | ⟨l, m, hl, hm, g1, g2, g3, g4, g5⟩
    · have g1' : zI M (138 + 2 * k) 2 = -nI 1 := g1
      have g2' : zI M 179 k = -nI 4 := g2
      have e1 : ∀ u v, zV (d + 1) n_Sh_tearAt [.ref (138 + 2 * k), .int u, .int v] M = some (some (.int (nI 1)), M) := by
        intro u v
        rw [ze_Sh_tearAt]
        unfold zx_Sh_tearAt
        simp (disch := omega) only [il, nI_add, nI_mul, nI_sub, nI_div, nI_rem, nI_N, i32_lt, i32_le, nI_toInt, nI_subI, nI_clamp, zinT, zifT, iteT, iteF, zQ, zS, zkc, zI_sI, zL_sL, zI_wI, zL_wL, Nat.reduceEqDiff, Nat.reduceAdd, Nat.reduceMul, Nat.reduceLT, Nat.reduceLeDiff, reduceIte, eq_self, and_self, true_and, and_true, false_and, and_false, true_or, or_true, or_false, false_or, not_true_eq_false, not_false_eq_true, zarr, ne_eq, hK, r3, g1', neg1_toInt]
      refine ⟨-11, M, M, ?_, ?_, hi0⟩
      · simp (disch := omega) only [il, nI_add, nI_mul, nI_sub, nI_div, nI_rem, nI_N, i32_lt, i32_le, nI_toInt, nI_subI, nI_clamp, zinT, zifT, iteT, iteF, zQ, zS, zkc, zI_sI, zL_sL, zI_wI, zL_wL, Nat.reduceEqDiff, Nat.reduceAdd, Nat.reduceMul, Nat.reduceLT, Nat.reduceLeDiff, reduceIte, eq_self, and_self, true_and, and_true, false_and, and_false, true_or, or_true, or_false, false_or, not_true_eq_false, not_false_eq_true, zarr, ne_eq, hK, hC, q_isSheet_t (show 1 ≤ d + 1 by omega) hk, r1, r3, e1]
        rfl
      · simp (disch := omega) only [il, nI_add, nI_mul, nI_sub, nI_div, nI_rem, nI_N, i32_lt, i32_le, nI_toInt, nI_subI, nI_clamp, zinT, zifT, iteT, iteF, zQ, zS, zkc, zI_sI, zL_sL, zI_wI, zL_wL, Nat.reduceEqDiff, Nat.reduceAdd, Nat.reduceMul, Nat.reduceLT, Nat.reduceLeDiff, reduceIte, eq_self, and_self, true_and, and_true, false_and, and_false, true_or, or_true, or_false, false_or, not_true_eq_false, not_false_eq_true, zarr, ne_eq, hK, hMo, m_isSheet_t hd1 hk (show 0 < 3 by omega), g2']
    · rcases i_cases y m (by omega) with ⟨i, hi, rfl⟩ | hy
      · have e1 : zV (d + 1) n_Sh_tearAt [.ref (138 + 2 * k), .int (nI l), .int (nI i)] M = some (some (.int (nI 0)), M) := by
          rw [ze_Sh_tearAt]
          unfold zx_Sh_tearAt
          simp (disch := omega) only [il, nI_add, nI_mul, nI_sub, nI_div, nI_rem, nI_N, i32_lt, i32_le, nI_toInt, nI_subI, nI_clamp, zinT, zifT, iteT, iteF, zQ, zS, zkc, zI_sI, zL_sL, zI_wI, zL_wL, Nat.reduceEqDiff, Nat.reduceAdd, Nat.reduceMul, Nat.reduceLT, Nat.reduceLeDiff, reduceIte, eq_self, and_self, true_and, and_true, false_and, and_false, true_or, or_true, or_false, false_or, not_true_eq_false, not_false_eq_true, zarr, ne_eq, hK, r3, g1, g3]
        have fin : ∀ v, Inv L (zsI (zsI M (138 + 2 * k + 1) i v) 181 (40 * k + i) v) := by
          intro v
          refine Inv_im hs hT hfa hto htr hp (fun b _ _ _ _ _ _ _ => ?_) rfl rfl rfl rfl ?_ ?_
          · rw [zI_ne (by omega), zI_ne (by omega)]
          · intro j hj
            refine iImage_fr (him j hj) hj ⟨?_, ?_, ?_, fun b _ _ => ?_⟩ <;> rw [zI_ne (by omega), zI_ne (by omega)]
          · intro j hj
            by_cases hjk : j = k
            · subst hjk
              refine Or.inr ⟨l, m, hl, hm, ?_, ?_, ?_, ?_, ?_⟩
              · rw [zI_ne (by omega), zI_ne (by omega)]; exact g1
              · rw [zI_ne (by omega), zI_ne (by omega)]; exact g2
              · rw [zI_ne (by omega), zI_ne (by omega)]; exact g3
              · rw [zI_ne (by omega), zI_ne (by omega)]; exact g4
              · intro c hc
                rw [zI_ne (b := 139 + 2 * j) (by omega), zI_sI, zI_sI, zI_ne (b := 181) (by omega)]
                by_cases hci : c = i
                · subst hci
                  rw [if_pos ⟨by omega, rfl⟩, if_pos ⟨rfl, rfl⟩]
                · rw [if_neg (fun q => hci q.2), if_neg (fun q => hci (by omega))]
                  exact g5 c hc
            · refine iSheet_fr2 (hsh j hj) ?_ ?_ ?_ ?_ (fun c hc => ?_)
              · rw [zI_ne (by omega), zI_ne (by omega)]
              · rw [zI_ne (by omega), zI_ne (by omega)]
              · rw [zI_ne (by omega), zI_ne (by omega)]
              · rw [zI_ne (by omega), zI_ne (by omega)]
              · rw [zI_sI, if_neg (by omega), zI_ne (by omega)]
        have hl3 : l = 0 ∨ l = 1 ∨ l = 2 := by omega
        have e2 : ∀ v, v = (if l = 0 then (Int32.toInt8 z).toInt32 else if l = 1 then (z &&& nI 65535) else z) → zV (d + 1) n_Sh_setCell [.ref (138 + 2 * k), .int (nI i), .int z] M = some (none, zsI M (138 + 2 * k + 1) i v) := by
          intro v hv
          rw [ze_Sh_setCell]
          unfold zx_Sh_setCell
          rcases hl3 with rfl | rfl | rfl
          · subst hv; simp (disch := omega) only [il, nI_add, nI_mul, nI_sub, nI_div, nI_rem, nI_N, i32_lt, i32_le, nI_toInt, nI_subI, nI_clamp, zinT, zifT, iteT, iteF, zQ, zS, zkc, zI_sI, zL_sL, zI_wI, zL_wL, Nat.reduceEqDiff, Nat.reduceAdd, Nat.reduceMul, Nat.reduceLT, Nat.reduceLeDiff, reduceIte, eq_self, and_self, true_and, and_true, false_and, and_false, true_or, or_true, or_false, false_or, not_true_eq_false, not_false_eq_true, zarr, ne_eq, hK, r3, r4, s3, g1]
          · subst hv; simp (disch := omega) only [il, nI_add, nI_mul, nI_sub, nI_div, nI_rem, nI_N, i32_lt, i32_le, nI_toInt, nI_subI, nI_clamp, zinT, zifT, iteT, iteF, zQ, zS, zkc, zI_sI, zL_sL, zI_wI, zL_wL, Nat.reduceEqDiff, Nat.reduceAdd, Nat.reduceMul, Nat.reduceLT, Nat.reduceLeDiff, reduceIte, eq_self, and_self, true_and, and_true, false_and, and_false, true_or, or_true, or_false, false_or, not_true_eq_false, not_false_eq_true, zarr, ne_eq, hK, r3, r4, s3, g1, lg_i2c_nf, lg_i2c_mask]
          · subst hv; simp (disch := omega) only [il, nI_add, nI_mul, nI_sub, nI_div, nI_rem, nI_N, i32_lt, i32_le, nI_toInt, nI_subI, nI_clamp, zinT, zifT, iteT, iteF, zQ, zS, zkc, zI_sI, zL_sL, zI_wI, zL_wL, Nat.reduceEqDiff, Nat.reduceAdd, Nat.reduceMul, Nat.reduceLT, Nat.reduceLeDiff, reduceIte, eq_self, and_self, true_and, and_true, false_and, and_false, true_or, or_true, or_false, false_or, not_true_eq_false, not_false_eq_true, zarr, ne_eq, hK, r3, r4, s3, g1]
        have h179 : ¬ (179 = 138 + 2 * k + 1) := by omega
        have h180 : ¬ (180 = 138 + 2 * k + 1) := by omega
        refine ⟨nI 1, zsI M (138 + 2 * k + 1) i (if l = 0 then (Int32.toInt8 z).toInt32 else if l = 1 then (z &&& nI 65535) else z), zsI (zsI M (138 + 2 * k + 1) i (if l = 0 then (Int32.toInt8 z).toInt32 else if l = 1 then (z &&& nI 65535) else z)) 181 (40 * k + i) (if l = 0 then (Int32.toInt8 z).toInt32 else if l = 1 then (z &&& nI 65535) else z), ?_, ?_, fin _⟩
        · have e3 := e2 _ rfl
          simp (disch := omega) only [il, nI_add, nI_mul, nI_sub, nI_div, nI_rem, nI_N, i32_lt, i32_le, nI_toInt, nI_subI, nI_clamp, zinT, zifT, iteT, iteF, zQ, zS, zkc, zI_sI, zL_sL, zI_wI, zL_wL, Nat.reduceEqDiff, Nat.reduceAdd, Nat.reduceMul, Nat.reduceLT, Nat.reduceLeDiff, reduceIte, eq_self, and_self, true_and, and_true, false_and, and_false, true_or, or_true, or_false, false_or, not_true_eq_false, not_false_eq_true, zarr, ne_eq, hK, hC, q_isSheet_t (show 1 ≤ d + 1 by omega) hk, r1, r3, g1, e1]
          rw [e3]
          rfl
        · rcases hl3 with rfl | rfl | rfl
          · simp (disch := omega) only [il, nI_add, nI_mul, nI_sub, nI_div, nI_rem, nI_N, i32_lt, i32_le, nI_toInt, nI_subI, nI_clamp, zinT, zifT, iteT, iteF, zQ, zS, zkc, zI_sI, zL_sL, zI_wI, zL_wL, Nat.reduceEqDiff, Nat.reduceAdd, Nat.reduceMul, Nat.reduceLT, Nat.reduceLeDiff, reduceIte, eq_self, and_self, true_and, and_true, false_and, and_false, true_or, or_true, or_false, false_or, not_true_eq_false, not_false_eq_true, zarr, ne_eq, hK, hMo, m_isSheet_t hd1 hk (show 0 < 3 by omega), g2, g4, nI_n4, mo_in (show 1 ≤ d + 1 by omega), i64_toInt, zlit64, h179, h180]
          · simp (disch := omega) only [il, nI_add, nI_mul, nI_sub, nI_div, nI_rem, nI_N, i32_lt, i32_le, nI_toInt, nI_subI, nI_clamp, zinT, zifT, iteT, iteF, zQ, zS, zkc, zI_sI, zL_sL, zI_wI, zL_wL, Nat.reduceEqDiff, Nat.reduceAdd, Nat.reduceMul, Nat.reduceLT, Nat.reduceLeDiff, reduceIte, eq_self, and_self, true_and, and_true, false_and, and_false, true_or, or_true, or_false, false_or, not_true_eq_false, not_false_eq_true, zarr, ne_eq, hK, hMo, m_isSheet_t hd1 hk (show 0 < 3 by omega), g2, g4, nI_n4, mo_in (show 1 ≤ d + 1 by omega), i64_toInt, zlit64, h179, h180]
          · simp (disch := omega) only [il, nI_add, nI_mul, nI_sub, nI_div, nI_rem, nI_N, i32_lt, i32_le, nI_toInt, nI_subI, nI_clamp, zinT, zifT, iteT, iteF, zQ, zS, zkc, zI_sI, zL_sL, zI_wI, zL_wL, Nat.reduceEqDiff, Nat.reduceAdd, Nat.reduceMul, Nat.reduceLT, Nat.reduceLeDiff, reduceIte, eq_self, and_self, true_and, and_true, false_and, and_false, true_or, or_true, or_false, false_or, not_true_eq_false, not_false_eq_true, zarr, ne_eq, hK, hMo, m_isSheet_t hd1 hk (show 0 < 3 by omega), g2, g4, nI_n4, mo_in (show 1 ≤ d + 1 by omega), i64_toInt, zlit64, h179, h180]
      · have e1 : zV (d + 1) n_Sh_tearAt [.ref (138 + 2 * k), .int (nI l), .int y] M = some (some (.int (nI 3)), M) := by
          rw [ze_Sh_tearAt]
          unfold zx_Sh_tearAt
          by_cases h1 : y.toInt < 0
          · simp (disch := omega) only [il, nI_add, nI_mul, nI_sub, nI_div, nI_rem, nI_N, i32_lt, i32_le, nI_toInt, nI_subI, nI_clamp, zinT, zifT, iteT, iteF, zQ, zS, zkc, zI_sI, zL_sL, zI_wI, zL_wL, Nat.reduceEqDiff, Nat.reduceAdd, Nat.reduceMul, Nat.reduceLT, Nat.reduceLeDiff, reduceIte, eq_self, and_self, true_and, and_true, false_and, and_false, true_or, or_true, or_false, false_or, not_true_eq_false, not_false_eq_true, zarr, ne_eq, hK, r3, g1, g3]
          · simp (disch := omega) only [il, nI_add, nI_mul, nI_sub, nI_div, nI_rem, nI_N, i32_lt, i32_le, nI_toInt, nI_subI, nI_clamp, zinT, zifT, iteT, iteF, zQ, zS, zkc, zI_sI, zL_sL, zI_wI, zL_wL, Nat.reduceEqDiff, Nat.reduceAdd, Nat.reduceMul, Nat.reduceLT, Nat.reduceLeDiff, reduceIte, eq_self, and_self, true_and, and_true, false_and, and_false, true_or, or_true, or_false, false_or, not_true_eq_false, not_false_eq_true, zarr, ne_eq, hK, r3, g1, g3]
        refine ⟨-13, M, M, ?_, ?_, hi0⟩
        · simp (disch := omega) only [il, nI_add, nI_mul, nI_sub, nI_div, nI_rem, nI_N, i32_lt, i32_le, nI_toInt, nI_subI, nI_clamp, zinT, zifT, iteT, iteF, zQ, zS, zkc, zI_sI, zL_sL, zI_wI, zL_wL, Nat.reduceEqDiff, Nat.reduceAdd, Nat.reduceMul, Nat.reduceLT, Nat.reduceLeDiff, reduceIte, eq_self, and_self, true_and, and_true, false_and, and_false, true_or, or_true, or_false, false_or, not_true_eq_false, not_false_eq_true, zarr, ne_eq, hK, hC, q_isSheet_t (show 1 ≤ d + 1 by omega) hk, r1, r3, g1, e1]
          rfl
        · simp (disch := omega) only [il, nI_add, nI_mul, nI_sub, nI_div, nI_rem, nI_N, i32_lt, i32_le, nI_toInt, nI_subI, nI_clamp, zinT, zifT, iteT, iteF, zQ, zS, zkc, zI_sI, zL_sL, zI_wI, zL_wL, Nat.reduceEqDiff, Nat.reduceAdd, Nat.reduceMul, Nat.reduceLT, Nat.reduceLeDiff, reduceIte, eq_self, and_self, true_and, and_true, false_and, and_false, true_or, or_true, or_false, false_or, not_true_eq_false, not_false_eq_true, zarr, ne_eq, hK, hMo, m_isSheet_t hd1 hk (show 0 < 3 by omega), g2, g4, nI_n4, mo_in (show 1 ≤ d + 1 by omega), i64_toInt, zlit64]
  · refine ⟨-1, M, M, ?_, ?_, hi0⟩
    · simp (disch := omega) only [il, nI_add, nI_mul, nI_sub, nI_div, nI_rem, nI_N, i32_lt, i32_le, nI_toInt, nI_subI, nI_clamp, zinT, zifT, iteT, iteF, zQ, zS, zkc, zI_sI, zL_sL, zI_wI, zL_wL, Nat.reduceEqDiff, Nat.reduceAdd, Nat.reduceMul, Nat.reduceLT, Nat.reduceLeDiff, reduceIte, eq_self, and_self, true_and, and_true, false_and, and_false, true_or, or_true, or_false, false_or, not_true_eq_false, not_false_eq_true, zarr, ne_eq, q_isSheet_f (show 1 ≤ d + 1 by omega) hx]
    · simp (disch := omega) only [il, nI_add, nI_mul, nI_sub, nI_div, nI_rem, nI_N, i32_lt, i32_le, nI_toInt, nI_subI, nI_clamp, zinT, zifT, iteT, iteF, zQ, zS, zkc, zI_sI, zL_sL, zI_wI, zL_wL, Nat.reduceEqDiff, Nat.reduceAdd, Nat.reduceMul, Nat.reduceLT, Nat.reduceLeDiff, reduceIte, eq_self, and_self, true_and, and_true, false_and, and_false, true_or, or_true, or_false, false_or, not_true_eq_false, not_false_eq_true, zarr, ne_eq, m_isSheet_f1 hd1 hx]
