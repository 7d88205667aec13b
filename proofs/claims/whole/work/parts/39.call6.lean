/-! sheets: sheet, lay -/
theorem sh_renew {d a : Nat} {M : zM} (hd : 1 ≤ d) (ha : zShe M a) (x y : Int32) : zV d n_Sh_renew [.ref a, .int x, .int y] M = some (none, zwI (zsI (zsI M a 1 x) a 2 y) (a + 1) (fil 0 (zI M (a + 1)) (fun _ => nI 0) 40)) := by
  obtain ⟨d, rfl, hd1⟩ := zdep hd
  obtain ⟨a1, a2, a3⟩ := ha
  rw [ze_Sh_renew]
  unfold zx_Sh_renew
  have e := zloop (n := 40) (g := fun j => zG d n_Sh_renew 12 [some (.ref a), none, none, some (.int (nI j))] [] (zwI (zsI (zsI M a 1 x) a 2 y) (a + 1) (fil 0 (zI (zsI (zsI M a 1 x) a 2 y) (a + 1)) (fun _ => nI 0) j))) (by
    intro j hj
    show zG d n_Sh_renew 12 [some (.ref a), none, none, some (.int (nI j))] [] (zwI (zsI (zsI M a 1 x) a 2 y) (a + 1) (fil 0 (zI (zsI (zsI M a 1 x) a 2 y) (a + 1)) (fun _ => nI 0) j)) = _
    rw [zg_Sh_renew_12]
    unfold zx_Sh_renew_12
    simp (disch := omega) only [il, nI_add, nI_mul, nI_sub, nI_div, nI_rem, nI_N, i32_lt, i32_le, nI_toInt, nI_subI, nI_clamp, zinT, zifT, iteT, iteF, zQ, zS, zkc, zI_sI, zL_sL, zI_wI, zL_wL, Nat.reduceEqDiff, Nat.reduceAdd, Nat.reduceMul, Nat.reduceLT, Nat.reduceLeDiff, reduceIte, eq_self, and_self, true_and, and_true, false_and, and_false, true_or, or_true, or_false, false_or, not_true_eq_false, not_false_eq_true, zarr, ne_eq, a1, a2, a3]
    have := zsI_fil (zsI (zsI M a 1 x) a 2 y) (a + 1) 0 j (zI (zsI (zsI M a 1 x) a 2 y) (a + 1)) (fun _ => nI 0) _ rfl
    rw [Nat.zero_add] at this
    rw [this])
  simp only [fil_0, zwI_self] at e
  rw [zI_ne (show a + 1 ≠ a by omega), zI_ne (show a + 1 ≠ a by omega)] at e
  simp (disch := omega) only [il, nI_add, nI_mul, nI_sub, nI_div, nI_rem, nI_N, i32_lt, i32_le, nI_toInt, nI_subI, nI_clamp, zinT, zifT, iteT, iteF, zQ, zS, zkc, zI_sI, zL_sL, zI_wI, zL_wL, Nat.reduceEqDiff, Nat.reduceAdd, Nat.reduceMul, Nat.reduceLT, Nat.reduceLeDiff, reduceIte, eq_self, and_self, true_and, and_true, false_and, and_false, true_or, or_true, or_false, false_or, not_true_eq_false, not_false_eq_true, zarr, ne_eq, a1]
  rw [e, zg_Sh_renew_12]
  unfold zx_Sh_renew_12
  simp (disch := omega) only [il, nI_add, nI_mul, nI_sub, nI_div, nI_rem, nI_N, i32_lt, i32_le, nI_toInt, nI_subI, nI_clamp, zinT, zifT, iteT, iteF, zQ, zS, zkc, zI_sI, zL_sL, zI_wI, zL_wL, Nat.reduceEqDiff, Nat.reduceAdd, Nat.reduceMul, Nat.reduceLT, Nat.reduceLeDiff, reduceIte, eq_self, and_self, true_and, and_true, false_and, and_false, true_or, or_true, or_false, false_or, not_true_eq_false, not_false_eq_true, zarr, ne_eq]
theorem m_sheet_loop {d L w k : Nat} {M : zM} (hs : zSh L w M) (hk : k < 4) : zG d n_Mo_sheet 40 [some (.ref 146), some (.int (nI k)), none, none, some (.int (nI 0))] [] M = some (some (.int (nI 1)), zwI M 181 (fil (40 * k) (zI M 181) (fun _ => nI 0) 40)) := by
  obtain ⟨hN, hK, hC, hMo, -⟩ := hs
  have e := zloop (n := 40) (g := fun j => zG d n_Mo_sheet 40 [some (.ref 146), some (.int (nI k)), none, none, some (.int (nI j))] [] (zwI M 181 (fil (40 * k) (zI M 181) (fun _ => nI 0) j))) (by
    intro j hj
    show zG d n_Mo_sheet 40 [some (.ref 146), some (.int (nI k)), none, none, some (.int (nI j))] [] (zwI M 181 (fil (40 * k) (zI M 181) (fun _ => nI 0) j)) = _
    rw [zg_Mo_sheet_40]
    unfold zx_Mo_sheet_40
    simp (disch := omega) only [il, nI_add, nI_mul, nI_sub, nI_div, nI_rem, nI_N, i32_lt, i32_le, nI_toInt, nI_subI, nI_clamp, zinT, zifT, iteT, iteF, zQ, zS, zkc, zI_sI, zL_sL, zI_wI, zL_wL, Nat.reduceEqDiff, Nat.reduceAdd, Nat.reduceMul, Nat.reduceLT, Nat.reduceLeDiff, reduceIte, eq_self, and_self, true_and, and_true, false_and, and_false, true_or, or_true, or_false, false_or, not_true_eq_false, not_false_eq_true, zarr, ne_eq, hK, hMo]
    rw [zsI_fil _ _ _ _ _ _ _ rfl])
  simp only [fil_0, zwI_self] at e
  rw [e, zg_Mo_sheet_40]
  unfold zx_Mo_sheet_40
  simp (disch := omega) only [il, nI_add, nI_mul, nI_sub, nI_div, nI_rem, nI_N, i32_lt, i32_le, nI_toInt, nI_subI, nI_clamp, zinT, zifT, iteT, iteF, zQ, zS, zkc, zI_sI, zL_sL, zI_wI, zL_wL, Nat.reduceEqDiff, Nat.reduceAdd, Nat.reduceMul, Nat.reduceLT, Nat.reduceLeDiff, reduceIte, eq_self, and_self, true_and, and_true, false_and, and_false, true_or, or_true, or_false, false_or, not_true_eq_false, not_false_eq_true, zarr, ne_eq]
theorem m_isSheet_t {d k l : Nat} {M : zM} (hd : 2 ≤ d) (hk : k < 4) (hl : l < 3) : zV d n_Mo_isSheet [.int (nI k), .int (nI l)] M = some (some (.int (nI 1)), M) := by
  obtain ⟨d, rfl, hd1⟩ := zdep hd
  rw [ze_Mo_isSheet]
  unfold zx_Mo_isSheet
  simp (disch := omega) only [il, nI_add, nI_mul, nI_sub, nI_div, nI_rem, nI_N, i32_lt, i32_le, nI_toInt, nI_subI, nI_clamp, zinT, zifT, iteT, iteF, zQ, zS, zkc, zI_sI, zL_sL, zI_wI, zL_wL, Nat.reduceEqDiff, Nat.reduceAdd, Nat.reduceMul, Nat.reduceLT, Nat.reduceLeDiff, reduceIte, eq_self, and_self, true_and, and_true, false_and, and_false, true_or, or_true, or_false, false_or, not_true_eq_false, not_false_eq_true, zarr, ne_eq, mo_in hd1, i64_toInt, zlit64]
theorem m_isSheet_f1 {d : Nat} {x y : Int32} {M : zM} (hd : 2 ≤ d) (h : x.toInt < 0 ∨ 4 ≤ x.toInt) : zV d n_Mo_isSheet [.int x, .int y] M = some (some (.int (nI 0)), M) := by
  obtain ⟨d, rfl, hd1⟩ := zdep hd
  rw [ze_Mo_isSheet]
  unfold zx_Mo_isSheet
  simp (disch := omega) only [il, nI_add, nI_mul, nI_sub, nI_div, nI_rem, nI_N, i32_lt, i32_le, nI_toInt, nI_subI, nI_clamp, zinT, zifT, iteT, iteF, zQ, zS, zkc, zI_sI, zL_sL, zI_wI, zL_wL, Nat.reduceEqDiff, Nat.reduceAdd, Nat.reduceMul, Nat.reduceLT, Nat.reduceLeDiff, reduceIte, eq_self, and_self, true_and, and_true, false_and, and_false, true_or, or_true, or_false, false_or, not_true_eq_false, not_false_eq_true, zarr, ne_eq, mo_in hd1, i64_toInt, zlit64]
theorem m_isSheet_f2 {d k : Nat} {y : Int32} {M : zM} (hd : 2 ≤ d) (hk : k < 4) (h : y.toInt < 0 ∨ 3 ≤ y.toInt) : zV d n_Mo_isSheet [.int (nI k), .int y] M = some (some (.int (nI 0)), M) := by
  obtain ⟨d, rfl, hd1⟩ := zdep hd
  rw [ze_Mo_isSheet]
  unfold zx_Mo_isSheet
  simp (disch := omega) only [il, nI_add, nI_mul, nI_sub, nI_div, nI_rem, nI_N, i32_lt, i32_le, nI_toInt, nI_subI, nI_clamp, zinT, zifT, iteT, iteF, zQ, zS, zkc, zI_sI, zL_sL, zI_wI, zL_wL, Nat.reduceEqDiff, Nat.reduceAdd, Nat.reduceMul, Nat.reduceLT, Nat.reduceLeDiff, reduceIte, eq_self, and_self, true_and, and_true, false_and, and_false, true_or, or_true, or_false, false_or, not_true_eq_false, not_false_eq_true, zarr, ne_eq, mo_in hd1, i64_toInt, zlit64]
theorem iSheet_fr2 {M M' : zM} {j : Nat} (h : iSheet M j) (e1 : zI M' (138 + 2 * j) = zI M (138 + 2 * j)) (e2 : zI M' (139 + 2 * j) = zI M (139 + 2 * j)) (e3 : zI M' 179 j = zI M 179 j) (e4 : zI M' 180 j = zI M 180 j) (e5 : ∀ c, c < 40 → zI M' 181 (40 * j + c) = zI M 181 (40 * j + c)) : iSheet M' j := by
  unfold iSheet
  rw [e1, e2, e3, e4]
  rcases h with h1 | ⟨l, n, g1, g2, g3, g4, g5, g6, g7⟩
  · exact Or.inl h1
  · exact Or.inr ⟨l, n, g1, g2, g3, g4, g5, g6, fun i hi => by rw [e5 i hi]; exact g7 i hi⟩
theorem st_sheet {d L : Nat} {M : zM} (hd : 3 ≤ d) (hi : Inv L M) (x y z : Int32) : Cal d n_PT_sheet n_Mo_sheet L [.int x, .int y, .int z] M := by
  have hi0 := hi
  obtain ⟨w, n, t, P, tr, hs, hT, hfa, hto, htr, him, hsh, hp⟩ := hi
  obtain ⟨d, rfl, hd1⟩ := zdep hd
  have hs1 := hs
  obtain ⟨hN, hK, hC, hMo, hF, hw, -⟩ := hs1
  unfold Cal
  rw [ze_PT_sheet]
  simp only [ze_Mo_sheet]
  unfold zx_PT_sheet zx_Mo_sheet
  rcases i_cases x 4 (by omega) with ⟨k, hk, rfl⟩ | hx
  · rcases i_cases y 3 (by omega) with ⟨l, hl, rfl⟩ | hy
    · rcases i_cases z 41 (by omega) with ⟨m, hm, rfl⟩ | hz
      · have hsk : zShe M (138 + 2 * k) := (hF.1 k hk).2.2.2.2.2.2.2
        have r1 := (hF.1 k hk).2.2.2.1
        have r3 := hsk.1
        rw [hK] at r3
        have e1 := sh_renew (d := d) (by omega) hsk (nI l) (nI m)
        have hs2 : zSh L w (zsI (zsI (zwI (zsI (zsI M (138 + 2 * k) 1 (nI l)) (138 + 2 * k) 2 (nI m)) (138 + 2 * k + 1) (fil 0 (zI M (138 + 2 * k + 1)) (fun _ => nI 0) 40)) 179 k (nI l)) 180 k (nI m)) := hs
        have e2 := m_sheet_loop (d := d) hs2 hk
        rw [zI_ne (by omega), zI_ne (by omega), zIw_ne (by omega), zI_ne (by omega), zI_ne (by omega)] at e2
        refine ⟨nI 1, zwI (zsI (zsI M (138 + 2 * k) 1 (nI l)) (138 + 2 * k) 2 (nI m)) (138 + 2 * k + 1) (fil 0 (zI M (138 + 2 * k + 1)) (fun _ => nI 0) 40), zwI (zsI (zsI (zwI (zsI (zsI M (138 + 2 * k) 1 (nI l)) (138 + 2 * k) 2 (nI m)) (138 + 2 * k + 1) (fil 0 (zI M (138 + 2 * k + 1)) (fun _ => nI 0) 40)) 179 k (nI l)) 180 k (nI m)) 181 (fil (40 * k) (zI M 181) (fun _ => nI 0) 40), ?_, ?_, ?_⟩
        · simp (disch := omega) only [il, nI_add, nI_mul, nI_sub, nI_div, nI_rem, nI_N, i32_lt, i32_le, nI_toInt, nI_subI, nI_clamp, zinT, zifT, iteT, iteF, zQ, zS, zkc, zI_sI, zL_sL, zI_wI, zL_wL, Nat.reduceEqDiff, Nat.reduceAdd, Nat.reduceMul, Nat.reduceLT, Nat.reduceLeDiff, reduceIte, eq_self, and_self, true_and, and_true, false_and, and_false, true_or, or_true, or_false, false_or, not_true_eq_false, not_false_eq_true, zarr, ne_eq, hK, hC, q_isSheet_t (show 1 ≤ d by omega) hk, q_isLane_t (show 1 ≤ d by omega) hl, r1, r3, e1]
        · simp (disch := omega) only [il, nI_add, nI_mul, nI_sub, nI_div, nI_rem, nI_N, i32_lt, i32_le, nI_toInt, nI_subI, nI_clamp, zinT, zifT, iteT, iteF, zQ, zS, zkc, zI_sI, zL_sL, zI_wI, zL_wL, Nat.reduceEqDiff, Nat.reduceAdd, Nat.reduceMul, Nat.reduceLT, Nat.reduceLeDiff, reduceIte, eq_self, and_self, true_and, and_true, false_and, and_false, true_or, or_true, or_false, false_or, not_true_eq_false, not_false_eq_true, zarr, ne_eq, hK, hMo, m_isSheet_t hd1 hk hl, e2]
        · refine Inv_im hs hT hfa hto htr hp (fun b _ _ _ _ _ _ _ => ?_) rfl rfl rfl rfl ?_ ?_
          · rw [zIw_ne (by omega), zI_ne (by omega), zI_ne (by omega), zIw_ne (by omega), zI_ne (by omega), zI_ne (by omega)]
          · intro j hj
            refine iImage_fr (him j hj) hj ⟨?_, ?_, ?_, fun b _ _ => ?_⟩ <;> rw [zIw_ne (by omega), zI_ne (by omega), zI_ne (by omega), zIw_ne (by omega), zI_ne (by omega), zI_ne (by omega)]
          · intro j hj
            by_cases hjk : j = k
            · subst hjk
              refine Or.inr ⟨l, m, hl, by omega, ?_, ?_, ?_, ?_, ?_⟩
              · rw [zIw_ne (by omega), zI_ne (by omega), zI_ne (by omega), zIw_ne (by omega), zI_sI, if_neg (by omega), zI_sI, if_pos ⟨rfl, rfl⟩]
              · rw [zIw_ne (by omega), zI_ne (by omega), zI_sI, if_pos ⟨rfl, rfl⟩]
              · rw [zIw_ne (by omega), zI_ne (by omega), zI_ne (by omega), zIw_ne (by omega), zI_sI, if_pos ⟨rfl, rfl⟩]
              · rw [zIw_ne (by omega), zI_sI, if_pos ⟨rfl, rfl⟩]
              · intro i hi
                rw [zIw_eq, zIw_ne (by omega), zI_ne (by omega), zI_ne (by omega), show 139 + 2 * j = 138 + 2 * j + 1 by omega, zIw_eq]
                unfold fil
                rw [if_pos (by omega), if_pos (by omega)]
            · refine iSheet_fr2 (hsh j hj) ?_ ?_ ?_ ?_ (fun c hc => ?_)
              · rw [zIw_ne (by omega), zI_ne (by omega), zI_ne (by omega), zIw_ne (by omega), zI_ne (by omega), zI_ne (by omega)]
              · rw [zIw_ne (by omega), zI_ne (by omega), zI_ne (by omega), zIw_ne (by omega), zI_ne (by omega), zI_ne (by omega)]
              · rw [zIw_ne (by omega), zI_ne (by omega), zI_sI, if_neg (fun q => hjk q.2), zIw_ne (by omega), zI_ne (by omega), zI_ne (by omega)]
              · rw [zIw_ne (by omega), zI_sI, if_neg (fun q => hjk q.2), zI_ne (by omega), zIw_ne (by omega), zI_ne (by omega), zI_ne (by omega)]
              · rw [zIw_eq]
                unfold fil
                rw [if_neg (by omega)]
      · by_cases h1 : z.toInt < 0
        · refine ⟨-14, M, M, ?_, ?_, hi0⟩
          · simp (disch := omega) only [il, nI_add, nI_mul, nI_sub, nI_div, nI_rem, nI_N, i32_lt, i32_le, nI_toInt, nI_subI, nI_clamp, zinT, zifT, iteT, iteF, zQ, zS, zkc, zI_sI, zL_sL, zI_wI, zL_wL, Nat.reduceEqDiff, Nat.reduceAdd, Nat.reduceMul, Nat.reduceLT, Nat.reduceLeDiff, reduceIte, eq_self, and_self, true_and, and_true, false_and, and_false, true_or, or_true, or_false, false_or, not_true_eq_false, not_false_eq_true, zarr, ne_eq, q_isSheet_t (show 1 ≤ d by omega) hk, q_isLane_t (show 1 ≤ d by omega) hl]
          · simp (disch := omega) only [il, nI_add, nI_mul, nI_sub, nI_div, nI_rem, nI_N, i32_lt, i32_le, nI_toInt, nI_subI, nI_clamp, zinT, zifT, iteT, iteF, zQ, zS, zkc, zI_sI, zL_sL, zI_wI, zL_wL, Nat.reduceEqDiff, Nat.reduceAdd, Nat.reduceMul, Nat.reduceLT, Nat.reduceLeDiff, reduceIte, eq_self, and_self, true_and, and_true, false_and, and_false, true_or, or_true, or_false, false_or, not_true_eq_false, not_false_eq_true, zarr, ne_eq, m_isSheet_t hd1 hk hl]
        · refine ⟨-1, M, M, ?_, ?_, hi0⟩
          · simp (disch := omega) only [il, nI_add, nI_mul, nI_sub, nI_div, nI_rem, nI_N, i32_lt, i32_le, nI_toInt, nI_subI, nI_clamp, zinT, zifT, iteT, iteF, zQ, zS, zkc, zI_sI, zL_sL, zI_wI, zL_wL, Nat.reduceEqDiff, Nat.reduceAdd, Nat.reduceMul, Nat.reduceLT, Nat.reduceLeDiff, reduceIte, eq_self, and_self, true_and, and_true, false_and, and_false, true_or, or_true, or_false, false_or, not_true_eq_false, not_false_eq_true, zarr, ne_eq, q_isSheet_t (show 1 ≤ d by omega) hk, q_isLane_t (show 1 ≤ d by omega) hl]
          · simp (disch := omega) only [il, nI_add, nI_mul, nI_sub, nI_div, nI_rem, nI_N, i32_lt, i32_le, nI_toInt, nI_subI, nI_clamp, zinT, zifT, iteT, iteF, zQ, zS, zkc, zI_sI, zL_sL, zI_wI, zL_wL, Nat.reduceEqDiff, Nat.reduceAdd, Nat.reduceMul, Nat.reduceLT, Nat.reduceLeDiff, reduceIte, eq_self, and_self, true_and, and_true, false_and, and_false, true_or, or_true, or_false, false_or, not_true_eq_false, not_false_eq_true, zarr, ne_eq, m_isSheet_t hd1 hk hl]
    · refine ⟨-1, M, M, ?_, ?_, hi0⟩
      · simp (disch := omega) only [il, nI_add, nI_mul, nI_sub, nI_div, nI_rem, nI_N, i32_lt, i32_le, nI_toInt, nI_subI, nI_clamp, zinT, zifT, iteT, iteF, zQ, zS, zkc, zI_sI, zL_sL, zI_wI, zL_wL, Nat.reduceEqDiff, Nat.reduceAdd, Nat.reduceMul, Nat.reduceLT, Nat.reduceLeDiff, reduceIte, eq_self, and_self, true_and, and_true, false_and, and_false, true_or, or_true, or_false, false_or, not_true_eq_false, not_false_eq_true, zarr, ne_eq, q_isSheet_t (show 1 ≤ d by omega) hk, q_isLane_f (show 1 ≤ d by omega) hy]
      · simp (disch := omega) only [il, nI_add, nI_mul, nI_sub, nI_div, nI_rem, nI_N, i32_lt, i32_le, nI_toInt, nI_subI, nI_clamp, zinT, zifT, iteT, iteF, zQ, zS, zkc, zI_sI, zL_sL, zI_wI, zL_wL, Nat.reduceEqDiff, Nat.reduceAdd, Nat.reduceMul, Nat.reduceLT, Nat.reduceLeDiff, reduceIte, eq_self, and_self, true_and, and_true, false_and, and_false, true_or, or_true, or_false, false_or, not_true_eq_false, not_false_eq_true, zarr, ne_eq, m_isSheet_f2 hd1 hk hy]
  · refine ⟨-1, M, M, ?_, ?_, hi0⟩
    · simp (disch := omega) only [il, nI_add, nI_mul, nI_sub, nI_div, nI_rem, nI_N, i32_lt, i32_le, nI_toInt, nI_subI, nI_clamp, zinT, zifT, iteT, iteF, zQ, zS, zkc, zI_sI, zL_sL, zI_wI, zL_wL, Nat.reduceEqDiff, Nat.reduceAdd, Nat.reduceMul, Nat.reduceLT, Nat.reduceLeDiff, reduceIte, eq_self, and_self, true_and, and_true, false_and, and_false, true_or, or_true, or_false, false_or, not_true_eq_false, not_false_eq_true, zarr, ne_eq, q_isSheet_f (show 1 ≤ d by omega) hx]
    · simp (disch := omega) only [il, nI_add, nI_mul, nI_sub, nI_div, nI_rem, nI_N, i32_lt, i32_le, nI_toInt, nI_subI, nI_clamp, zinT, zifT, iteT, iteF, zQ, zS, zkc, zI_sI, zL_sL, zI_wI, zL_wL, Nat.reduceEqDiff, Nat.reduceAdd, Nat.reduceMul, Nat.reduceLT, Nat.reduceLeDiff, reduceIte, eq_self, and_self, true_and, and_true, false_and, and_false, true_or, or_true, or_false, false_or, not_true_eq_false, not_false_eq_true, zarr, ne_eq, m_isSheet_f1 hd1 hx]
