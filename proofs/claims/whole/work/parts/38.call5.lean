/-! images: keep, back -/
theorem m_keep_loop {d L w k : Nat} {M : zM} {u : Int32} (hs : zSh L w M) (hk : k < 2) : zG d n_Mo_keep 31 [some (.ref 146), some (.int (nI k)), some (.int u), some (.int (nI 0))] [] M = some (some (.int u), zwI M 156 (fil (49 * k) (zI M 156) (zI M 155) 49)) := by
  obtain ⟨hN, hK, hC, hMo, -⟩ := hs
  have e := zloop (n := 49) (g := fun j => zG d n_Mo_keep 31 [some (.ref 146), some (.int (nI k)), some (.int u), some (.int (nI j))] [] (zwI M 156 (fil (49 * k) (zI M 156) (zI M 155) j))) (by
    intro j hj
    show zG d n_Mo_keep 31 [some (.ref 146), some (.int (nI k)), some (.int u), some (.int (nI j))] [] (zwI M 156 (fil (49 * k) (zI M 156) (zI M 155) j)) = _
    rw [zg_Mo_keep_31]
    unfold zx_Mo_keep_31
    simp (disch := omega) only [il, nI_add, nI_mul, nI_sub, nI_div, nI_rem, nI_N, i32_lt, i32_le, nI_toInt, nI_subI, nI_clamp, zinT, zifT, iteT, iteF, zQ, zS, zkc, zI_sI, zL_sL, zI_wI, zL_wL, Nat.reduceEqDiff, Nat.reduceAdd, Nat.reduceMul, Nat.reduceLT, Nat.reduceLeDiff, reduceIte, eq_self, and_self, true_and, and_true, false_and, and_false, true_or, or_true, or_false, false_or, not_true_eq_false, not_false_eq_true, zarr, ne_eq, hK, hMo]
    rw [zsI_fil _ _ _ _ _ _ _ rfl])
  simp only [fil_0, zwI_self] at e
  rw [e, zg_Mo_keep_31]
  unfold zx_Mo_keep_31
  simp (disch := omega) only [il, nI_add, nI_mul, nI_sub, nI_div, nI_rem, nI_N, i32_lt, i32_le, nI_toInt, nI_subI, nI_clamp, zinT, zifT, iteT, iteF, zQ, zS, zkc, zI_sI, zL_sL, zI_wI, zL_wL, Nat.reduceEqDiff, Nat.reduceAdd, Nat.reduceMul, Nat.reduceLT, Nat.reduceLeDiff, reduceIte, eq_self, and_self, true_and, and_true, false_and, and_false, true_or, or_true, or_false, false_or, not_true_eq_false, not_false_eq_true, zarr, ne_eq]
theorem m_back_loop {d L w k t : Nat} {M : zM} (hs : zSh L w M) (hk : k < 2) (ht : zI M 156 (49 * k) = nI t) : zG d n_Mo_back 26 [some (.ref 146), some (.int (nI k)), some (.int (nI 0))] [] M = some (some (.int (nI t)), zwI M 155 (fil 0 (zI M 155) (fun i => zI M 156 (49 * k + i)) 49)) := by
  obtain ⟨hN, hK, hC, hMo, -⟩ := hs
  have e := zloop (n := 49) (g := fun j => zG d n_Mo_back 26 [some (.ref 146), some (.int (nI k)), some (.int (nI j))] [] (zwI M 155 (fil 0 (zI M 155) (fun i => zI M 156 (49 * k + i)) j))) (by
    intro j hj
    show zG d n_Mo_back 26 [some (.ref 146), some (.int (nI k)), some (.int (nI j))] [] (zwI M 155 (fil 0 (zI M 155) (fun i => zI M 156 (49 * k + i)) j)) = _
    rw [zg_Mo_back_26]
    unfold zx_Mo_back_26
    simp (disch := omega) only [il, nI_add, nI_mul, nI_sub, nI_div, nI_rem, nI_N, i32_lt, i32_le, nI_toInt, nI_subI, nI_clamp, zinT, zifT, iteT, iteF, zQ, zS, zkc, zI_sI, zL_sL, zI_wI, zL_wL, Nat.reduceEqDiff, Nat.reduceAdd, Nat.reduceMul, Nat.reduceLT, Nat.reduceLeDiff, reduceIte, eq_self, and_self, true_and, and_true, false_and, and_false, true_or, or_true, or_false, false_or, not_true_eq_false, not_false_eq_true, zarr, ne_eq, hK, hMo]
    have := zsI_fil M 155 0 j (zI M 155) (fun i => zI M 156 (49 * k + i)) _ rfl
    rw [Nat.zero_add] at this
    rw [this])
  simp only [fil_0, zwI_self] at e
  rw [e, zg_Mo_back_26]
  unfold zx_Mo_back_26
  have e0 : fil 0 (zI M 155) (fun i => zI M 156 (49 * k + i)) 49 0 = nI t := by
    unfold fil
    rw [if_pos (by omega)]
    exact ht
  simp (disch := omega) only [il, nI_add, nI_mul, nI_sub, nI_div, nI_rem, nI_N, i32_lt, i32_le, nI_toInt, nI_subI, nI_clamp, zinT, zifT, iteT, iteF, zQ, zS, zkc, zI_sI, zL_sL, zI_wI, zL_wL, Nat.reduceEqDiff, Nat.reduceAdd, Nat.reduceMul, Nat.reduceLT, Nat.reduceLeDiff, reduceIte, eq_self, and_self, true_and, and_true, false_and, and_false, true_or, or_true, or_false, false_or, not_true_eq_false, not_false_eq_true, zarr, ne_eq, hK, hMo, e0]
theorem iImage_fr2 {M M' : zM} {j : Nat} (h : iImage M j) (e1 : zI M' 22 j = zI M 22 j) (e2 : zI M' 157 j = zI M 157 j) (e3 : zI M' (134 + 2 * j) = zI M (134 + 2 * j)) (e4 : zI M' (135 + 2 * j) = zI M (135 + 2 * j)) (e5 : ∀ c, c < 49 → zI M' 156 (49 * j + c) = zI M 156 (49 * j + c)) : iImage M' j := by
  unfold iImage
  rw [e1, e2, e3, e4]
  rcases h with h1 | ⟨h1, h2, tt, trr, g1, g2, g3, g4⟩
  · exact Or.inl h1
  · refine Or.inr ⟨h1, h2, tt, trr, g1, g2, ?_, ?_⟩
    · have := e5 0 (by omega); rw [Nat.add_zero] at this; rw [this]; exact g3
    · intro i hi
      have := e5 (1 + i) (by omega)
      rw [← Nat.add_assoc] at this
      rw [this]; exact g4 i hi
theorem st_keep {d L : Nat} {M : zM} (hd : 2 ≤ d) (hi : Inv L M) (x : Int32) : Cal d n_PT_keep n_Mo_keep L [.int x] M := by
  have hi0 := hi
  obtain ⟨w, n, t, P, tr, hs, hT, hfa, hto, htr, him, hsh, hp⟩ := hi
  obtain ⟨d, rfl, hd1⟩ := zdep hd
  have hs1 := hs
  have htr1 := htr
  obtain ⟨hN, hK, hC, hMo, hF, hw, -⟩ := hs1
  obtain ⟨t1, t2, t3, t4⟩ := htr1
  unfold Cal
  rw [ze_PT_keep]
  simp only [ze_Mo_keep]
  unfold zx_PT_keep zx_Mo_keep
  rcases i_cases x 2 (by omega) with ⟨k, hk, rfl⟩ | hx
  · obtain ⟨a, ha, a1, a2⟩ := (him k hk).two
    obtain ⟨r1, r2⟩ := hF.2.1 k hk
    have e1 := tr_become (d := d) (M := M) hd1 r2 hF.2.2.1 t2 t1 (by omega) (by omega)
    have ha1 : a = 0 ∨ a = 1 := by omega
    have r3 := r2.1
    rw [hK] at r3
    have hs2 : zSh L w (zsI (zsI (zsI (zwI M (134 + 2 * k + 1) (fun i => if i < t then zI M 20 i else zI M (134 + 2 * k + 1) i)) (134 + 2 * k) 1 (nI t)) 22 k (nI 1)) 157 k (nI 1)) := hs
    refine ⟨nI a, zsI (zsI (zwI M (134 + 2 * k + 1) (fun i => if i < t then zI M 20 i else zI M (134 + 2 * k + 1) i)) (134 + 2 * k) 1 (nI t)) 22 k (nI 1), zwI (zsI (zsI (zsI (zwI M (134 + 2 * k + 1) (fun i => if i < t then zI M 20 i else zI M (134 + 2 * k + 1) i)) (134 + 2 * k) 1 (nI t)) 22 k (nI 1)) 157 k (nI 1)) 156 (fil (49 * k) (zI M 156) (zI M 155) 49), ?_, ?_, ?_⟩
    · rcases ha1 with rfl | rfl <;> simp (disch := omega) only [il, nI_add, nI_mul, nI_sub, nI_div, nI_rem, nI_N, i32_lt, i32_le, nI_toInt, nI_subI, nI_clamp, zinT, zifT, iteT, iteF, zQ, zS, zkc, zI_sI, zL_sL, zI_wI, zL_wL, Nat.reduceEqDiff, Nat.reduceAdd, Nat.reduceMul, Nat.reduceLT, Nat.reduceLeDiff, reduceIte, eq_self, and_self, true_and, and_true, false_and, and_false, true_or, or_true, or_false, false_or, not_true_eq_false, not_false_eq_true, zarr, ne_eq, hK, hC, q_isImage_t hd1 hk, a1, r1, r3, e1, zbast, nar_bo]
    · have h157 : ¬ (157 = 134 + 2 * k) := by omega
      have h157' : ¬ (157 = 134 + 2 * k + 1) := by omega
      have e2 := m_keep_loop (d := d) (u := nI a) hs2 hk
      have e3 : zI (zsI (zsI (zsI (zwI M (134 + 2 * k + 1) (fun i => if i < t then zI M 20 i else zI M (134 + 2 * k + 1) i)) (134 + 2 * k) 1 (nI t)) 22 k (nI 1)) 157 k (nI 1)) 156 = zI M 156 := by
        rw [zI_ne (by omega), zI_ne (by omega), zI_ne (by omega), zIw_ne (by omega)]
      have e4 : zI (zsI (zsI (zsI (zwI M (134 + 2 * k + 1) (fun i => if i < t then zI M 20 i else zI M (134 + 2 * k + 1) i)) (134 + 2 * k) 1 (nI t)) 22 k (nI 1)) 157 k (nI 1)) 155 = zI M 155 := by
        rw [zI_ne (by omega), zI_ne (by omega), zI_ne (by omega), zIw_ne (by omega)]
      rw [e3, e4] at e2
      simp (disch := omega) only [il, nI_add, nI_mul, nI_sub, nI_div, nI_rem, nI_N, i32_lt, i32_le, nI_toInt, nI_subI, nI_clamp, zinT, zifT, iteT, iteF, zQ, zS, zkc, zI_sI, zL_sL, zI_wI, zL_wL, Nat.reduceEqDiff, Nat.reduceAdd, Nat.reduceMul, Nat.reduceLT, Nat.reduceLeDiff, reduceIte, eq_self, and_self, true_and, and_true, false_and, and_false, true_or, or_true, or_false, false_or, not_true_eq_false, not_false_eq_true, zarr, ne_eq, hK, hMo, mo_in hd1, i64_toInt, zlit64, a2, m_flag hd1 ha, zbast, nar_bo, h157, h157', e2]
    · refine Inv_im hs hT hfa hto htr hp (fun b _ _ _ _ _ _ _ => ?_) rfl rfl rfl rfl ?_ ?_
      · rw [zIw_ne (by omega), zI_ne (by omega), zI_ne (by omega), zI_ne (by omega), zIw_ne (by omega)]
      · intro j hj
        by_cases hjk : j = k
        · subst hjk
          refine Or.inr ⟨?_, ?_, t, tr, t1, ?_, ?_, ?_⟩
          · rw [zIw_ne (by omega), zI_ne (by omega), zI_sI, if_pos ⟨rfl, rfl⟩]
          · rw [zIw_ne (by omega), zI_sI, if_pos ⟨rfl, rfl⟩]
          · rw [zIw_ne (by omega), zI_ne (by omega), zI_ne (by omega), zI_sI, if_pos ⟨rfl, rfl⟩]
          · rw [zIw_eq]; unfold fil; rw [if_pos (by omega), Nat.sub_self]; exact t3
          · intro i hi
            refine ⟨(t4 i hi).1, ?_, ?_⟩
            · rw [zIw_ne (by omega), zI_ne (by omega), zI_ne (by omega), zI_ne (by omega), show 135 + 2 * j = 134 + 2 * j + 1 by omega, zIw_eq, if_pos hi]; exact (t4 i hi).2.1
            · rw [zIw_eq]; unfold fil; rw [if_pos (by omega), show 49 * j + 1 + i - 49 * j = 1 + i by omega]; exact (t4 i hi).2.2
        · refine iImage_fr2 (him j hj) (by rw [zIw_ne (by omega), zI_ne (by omega), zI_sI, if_neg (fun q => hjk q.2), zI_ne (by omega), zIw_ne (by omega)]) (by rw [zIw_ne (by omega), zI_sI, if_neg (fun q => hjk q.2), zI_ne (by omega), zI_ne (by omega), zIw_ne (by omega)]) (by rw [zIw_ne (by omega), zI_ne (by omega), zI_ne (by omega), zI_ne (by omega), zIw_ne (by omega)]) (by rw [zIw_ne (by omega), zI_ne (by omega), zI_ne (by omega), zI_ne (by omega), zIw_ne (by omega)]) (fun c hc => ?_)
          rw [zIw_eq]
          unfold fil
          rw [if_neg (by omega)]
      · intro j hj
        exact iSheet_fr (hsh j hj) hj ⟨by rw [zIw_ne (by omega), zI_ne (by omega), zI_ne (by omega), zI_ne (by omega), zIw_ne (by omega)], by rw [zIw_ne (by omega), zI_ne (by omega), zI_ne (by omega), zI_ne (by omega), zIw_ne (by omega)], by rw [zIw_ne (by omega), zI_ne (by omega), zI_ne (by omega), zI_ne (by omega), zIw_ne (by omega)], fun b _ _ => by rw [zIw_ne (by omega), zI_ne (by omega), zI_ne (by omega), zI_ne (by omega), zIw_ne (by omega)]⟩
  · refine ⟨-1, M, M, ?_, ?_, hi0⟩
    · simp (disch := omega) only [il, nI_add, nI_mul, nI_sub, nI_div, nI_rem, nI_N, i32_lt, i32_le, nI_toInt, nI_subI, nI_clamp, zinT, zifT, iteT, iteF, zQ, zS, zkc, zI_sI, zL_sL, zI_wI, zL_wL, Nat.reduceEqDiff, Nat.reduceAdd, Nat.reduceMul, Nat.reduceLT, Nat.reduceLeDiff, reduceIte, eq_self, and_self, true_and, and_true, false_and, and_false, true_or, or_true, or_false, false_or, not_true_eq_false, not_false_eq_true, zarr, ne_eq, q_isImage_f hd1 hx]
    · simp (disch := omega) only [il, nI_add, nI_mul, nI_sub, nI_div, nI_rem, nI_N, i32_lt, i32_le, nI_toInt, nI_subI, nI_clamp, zinT, zifT, iteT, iteF, zQ, zS, zkc, zI_sI, zL_sL, zI_wI, zL_wL, Nat.reduceEqDiff, Nat.reduceAdd, Nat.reduceMul, Nat.reduceLT, Nat.reduceLeDiff, reduceIte, eq_self, and_self, true_and, and_true, false_and, and_false, true_or, or_true, or_false, false_or, not_true_eq_false, not_false_eq_true, zarr, ne_eq, mo_in hd1, i64_toInt, zlit64]
theorem st_back {d L : Nat} {M : zM} (hd : 3 ≤ d) (hi : Inv L M) (x : Int32) : Cal d n_PT_back n_Mo_back L [.int x] M := by
  have hi0 := hi
  obtain ⟨w, n, t, P, tr, hs, hT, hfa, hto, htr, him, hsh, hp⟩ := hi
  obtain ⟨d, rfl, hd1⟩ := zdep hd
  have hs1 := hs
  obtain ⟨hN, hK, hC, hMo, hF, hw, -⟩ := hs1
  unfold Cal
  rw [ze_PT_back]
  simp only [ze_Mo_back]
  unfold zx_PT_back zx_Mo_back
  rcases i_cases x 2 (by omega) with ⟨k, hk, rfl⟩ | hx
  · obtain ⟨r1, r2⟩ := hF.2.1 k hk
    have r3 := r2.1
    rw [hK] at r3
    rcases him k hk with ⟨a1, a2⟩ | ⟨a1, a2, T, Tr, g1, g2, g3, g4⟩
    · refine ⟨-2, M, M, ?_, ?_, hi0⟩
      · simp (disch := omega) only [il, nI_add, nI_mul, nI_sub, nI_div, nI_rem, nI_N, i32_lt, i32_le, nI_toInt, nI_subI, nI_clamp, zinT, zifT, iteT, iteF, zQ, zS, zkc, zI_sI, zL_sL, zI_wI, zL_wL, Nat.reduceEqDiff, Nat.reduceAdd, Nat.reduceMul, Nat.reduceLT, Nat.reduceLeDiff, reduceIte, eq_self, and_self, true_and, and_true, false_and, and_false, true_or, or_true, or_false, false_or, not_true_eq_false, not_false_eq_true, zarr, ne_eq, hK, hC, q_isImage_t (show 1 ≤ d by omega) hk, a1]
      · simp (disch := omega) only [il, nI_add, nI_mul, nI_sub, nI_div, nI_rem, nI_N, i32_lt, i32_le, nI_toInt, nI_subI, nI_clamp, zinT, zifT, iteT, iteF, zQ, zS, zkc, zI_sI, zL_sL, zI_wI, zL_wL, Nat.reduceEqDiff, Nat.reduceAdd, Nat.reduceMul, Nat.reduceLT, Nat.reduceLeDiff, reduceIte, eq_self, and_self, true_and, and_true, false_and, and_false, true_or, or_true, or_false, false_or, not_true_eq_false, not_false_eq_true, zarr, ne_eq, hK, hMo, mo_in (show 1 ≤ d by omega), i64_toInt, zlit64, a2]
    · have e1 := tr_become (d := d) (M := M) (by omega) hF.2.2.1 r2 g2 g1 (by omega) (by omega)
      obtain ⟨Mw, ew, hfw⟩ := pt_watchAnew (d := d) hd1 ((hs.wI 20 (fun i => if i < T then zI M (134 + 2 * k + 1) i else zI M 20 i)).sI 19 1 (nI T))
      have hsw := zSh_fr ((hs.wI 20 (fun i => if i < T then zI M (134 + 2 * k + 1) i else zI M 20 i)).sI 19 1 (nI T)) hfw.1 hfw.2.1 hfw.2.2.1
      have h19 : zI Mw 19 1 = nI T := congrFun (hfw.I (b := 19) (by omega)) 1
      have h155 : zI Mw 155 = zI M 155 := hfw.I (b := 155) (by omega)
      have h156 : zI Mw 156 = zI M 156 := hfw.I (b := 156) (by omega)
      have h157 : zI Mw 157 k = nI 1 := (congrFun (hfw.I (b := 157) (by omega)) k).trans a2
      have e2 := m_back_loop (d := d) hsw hk (t := T) (by rw [h156]; exact g3)
      refine ⟨nI T, Mw, zwI Mw 155 (fil 0 (zI Mw 155) (fun i => zI Mw 156 (49 * k + i)) 49), ?_, ?_, ?_⟩
      · have hC2 := hsw.2.2.1
        have hK2 := hsw.2.1
        simp (disch := omega) only [il, nI_add, nI_mul, nI_sub, nI_div, nI_rem, nI_N, i32_lt, i32_le, nI_toInt, nI_subI, nI_clamp, zinT, zifT, iteT, iteF, zQ, zS, zkc, zI_sI, zL_sL, zI_wI, zL_wL, Nat.reduceEqDiff, Nat.reduceAdd, Nat.reduceMul, Nat.reduceLT, Nat.reduceLeDiff, reduceIte, eq_self, and_self, true_and, and_true, false_and, and_false, true_or, or_true, or_false, false_or, not_true_eq_false, not_false_eq_true, zarr, ne_eq, hK, hC, q_isImage_t (show 1 ≤ d by omega) hk, a1, r1, r3, e1, ew, hK2, hC2, h19]
      · have hMo2 := hsw.2.2.2.1
        have hK2 := hsw.2.1
        simp (disch := omega) only [il, nI_add, nI_mul, nI_sub, nI_div, nI_rem, nI_N, i32_lt, i32_le, nI_toInt, nI_subI, nI_clamp, zinT, zifT, iteT, iteF, zQ, zS, zkc, zI_sI, zL_sL, zI_wI, zL_wL, Nat.reduceEqDiff, Nat.reduceAdd, Nat.reduceMul, Nat.reduceLT, Nat.reduceLeDiff, reduceIte, eq_self, and_self, true_and, and_true, false_and, and_false, true_or, or_true, or_false, false_or, not_true_eq_false, not_false_eq_true, zarr, ne_eq, hK2, hMo2, mo_in (show 1 ≤ d by omega), i64_toInt, zlit64, h157, e2]
      · refine Inv_tr (P' := P) (t' := T) (tr' := Tr) hs hT hfa him hsh (fun b _ _ _ _ _ _ => ?_) hfw.1 hfw.2.1 hfw.2.2.1 (congrFun (hfw.I (b := 2) (by omega)) 10) ?_ (congrFun (hfw.I (b := 146) (by omega)) 18) (congrFun (hfw.I (b := 146) (by omega)) 13) ?_ ?_
        · rw [zIw_ne (by omega), hfw.I (by omega), zI_ne (by omega), zIw_ne (by omega)]
        · exact ⟨by rw [zIw_ne (by omega), zIw_ne (by omega), hfw.I (by omega), hfw.I (by omega)]; exact hto.1, by
            have hpw := pat_fW hfw (show pat _ from hto.2)
            exact hpw⟩
        · refine ⟨g1, ?_, ?_, ?_⟩
          · rw [zIw_ne (by omega)]; exact h19
          · rw [zIw_eq]; unfold fil; rw [if_pos (by omega), h156]; exact g3
          · intro i hi
            refine ⟨(g4 i hi).1, ?_, ?_⟩
            · rw [zIw_ne (by omega), hfw.I (by omega), zI_ne (by omega), zIw_eq, if_pos hi, show 134 + 2 * k + 1 = 135 + 2 * k by omega]; exact (g4 i hi).2.1
            · rw [zIw_eq]; unfold fil; rw [if_pos (by omega), h156]
              show zI M 156 (49 * k + (1 + i)) = _
              rw [← Nat.add_assoc]; exact (g4 i hi).2.2
        · exact iProm_fr hw (iProm_fW (t' := T) (tr' := Tr) hw (iProm_fr (M' := zsI (zwI M 20 (fun i => if i < T then zI M (134 + 2 * k + 1) i else zI M 20 i)) 19 1 (nI T)) hw hp ⟨fun b _ _ => ⟨by simp (disch := omega) only [zI_ne, zIw_ne, zS], by simp (disch := omega) only [zL_ne, zLw_ne, zS]⟩, rfl, rfl, rfl, rfl, rfl, rfl⟩ (Nat.le_refl _) (fun _ _ => rfl)) hfw) ⟨fun b _ _ => ⟨by simp (disch := omega) only [zI_ne, zIw_ne, zS], by simp (disch := omega) only [zL_ne, zLw_ne, zS]⟩, rfl, rfl, rfl, rfl, rfl, rfl⟩ (Nat.le_refl _) (fun _ _ => rfl)
  · refine ⟨-1, M, M, ?_, ?_, hi0⟩
    · simp (disch := omega) only [il, nI_add, nI_mul, nI_sub, nI_div, nI_rem, nI_N, i32_lt, i32_le, nI_toInt, nI_subI, nI_clamp, zinT, zifT, iteT, iteF, zQ, zS, zkc, zI_sI, zL_sL, zI_wI, zL_wL, Nat.reduceEqDiff, Nat.reduceAdd, Nat.reduceMul, Nat.reduceLT, Nat.reduceLeDiff, reduceIte, eq_self, and_self, true_and, and_true, false_and, and_false, true_or, or_true, or_false, false_or, not_true_eq_false, not_false_eq_true, zarr, ne_eq, q_isImage_f (show 1 ≤ d by omega) hx]
    · simp (disch := omega) only [il, nI_add, nI_mul, nI_sub, nI_div, nI_rem, nI_N, i32_lt, i32_le, nI_toInt, nI_subI, nI_clamp, zinT, zifT, iteT, iteF, zQ, zS, zkc, zI_sI, zL_sL, zI_wI, zL_wL, Nat.reduceEqDiff, Nat.reduceAdd, Nat.reduceMul, Nat.reduceLT, Nat.reduceLeDiff, reduceIte, eq_self, and_self, true_and, and_true, false_and, and_false, true_or, or_true, or_false, false_or, not_true_eq_false, not_false_eq_true, zarr, ne_eq, mo_in (show 1 ≤ d by omega), i64_toInt, zlit64]
