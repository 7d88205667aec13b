/-! the trace: what is changed of it -/
theorem Inv_tr {L w n t' P' : Nat} {tr' : Nat → Nat} {M M' : zM} (hs : zSh L w M) (hT : iTape n M) (hfa : zI M 2 10 = zI M 146 18) (him : ∀ k, k < 2 → iImage M k) (hsh : ∀ k, k < 4 → iSheet M k)
    (f : ∀ b, b ≠ 19 → b ≠ 20 → b ≠ 155 → b ≠ 2 → b ≠ 146 → (b < 46 ∨ 134 ≤ b) → zI M' b = zI M b) (hN : zN M' = zN M) (hK : zK M' = zK M) (hR : zR M' = zR M) (g1 : zI M' 2 10 = zI M 2 10) (g2 : zI M' 2 11 = zI M' 146 51 ∧ pat M') (g3 : zI M' 146 18 = zI M 146 18) (g4 : zI M' 146 13 = zI M 146 13)
    (h1 : iTrace t' tr' M') (h2 : iProm w t' P' tr' M') : Inv L M' := by
  refine ⟨w, n, t', P', tr', zSh_fr hs hN hK hR, ?_, by rw [g1, g3]; exact hfa, g2, h1, fun k hk => iImage_fr (him k hk) hk ⟨f _ (by omega) (by omega) (by omega) (by omega) (by omega) (by omega), f _ (by omega) (by omega) (by omega) (by omega) (by omega) (by omega), f _ (by omega) (by omega) (by omega) (by omega) (by omega) (by omega), fun b _ _ => f _ (by omega) (by omega) (by omega) (by omega) (by omega) (by omega)⟩, fun k hk => iSheet_fr (hsh k hk) hk ⟨f _ (by omega) (by omega) (by omega) (by omega) (by omega) (by omega), f _ (by omega) (by omega) (by omega) (by omega) (by omega) (by omega), f _ (by omega) (by omega) (by omega) (by omega) (by omega) (by omega), fun b _ _ => f _ (by omega) (by omega) (by omega) (by omega) (by omega) (by omega)⟩, h2⟩
  unfold iTape
  rw [f 4 (by omega) (by omega) (by omega) (by omega) (by omega) (by omega), f 5 (by omega) (by omega) (by omega) (by omega) (by omega) (by omega), f 158 (by omega) (by omega) (by omega) (by omega) (by omega) (by omega), g4]
  exact hT
theorem fW.I {M M' : zM} (h : fW M M') {b : Nat} (hb : b < 46 ∨ 134 ≤ b) : zI M' b = zI M b := (h.2.2.2.1 b (by omega)).1
theorem pat_fW {M M' : zM} (h : fW M M') (p : pat M) : pat M' := by
  intro k hk
  rw [(h.2.2.2.1 0 (by omega)).2, (h.2.2.2.1 165 (by omega)).2]
  exact p k hk
theorem st_put {d L : Nat} {M : zM} (hd : 4 ≤ d) (hi : Inv L M) (x y : Int32) : Cal d n_PT_put n_Mo_put L [.int x, .int y] M := by
  have hi0 := hi
  obtain ⟨w, n, t, P, tr, hs, hT, hfa, hto, htr, him, hsh, hp⟩ := hi
  obtain ⟨d, rfl, hd1⟩ := zdep hd
  have hs1 := hs
  have htr1 := htr
  obtain ⟨hN, hK, hC, hMo, hF, hw, -⟩ := hs1
  obtain ⟨t1, t2, t3, t4⟩ := htr1
  unfold Cal
  rw [ze_PT_put]
  simp only [ze_Mo_put]
  unfold zx_PT_put zx_Mo_put
  rcases i_cases x t (by omega) with ⟨k, hk, rfl⟩ | hx
  · have e1 := q_isTick_t (d := d) (by omega) hs htr hk
    have e2 := m_isTick_t (d := d) (by omega) hs t1 t3 hk
    obtain ⟨g1, g2, g3⟩ := t4 k hk
    rcases i_cases y 256 (by omega) with ⟨v, hv, rfl⟩ | hy
    · obtain ⟨Mw, ew, hfw⟩ := pt_watchAnew (d := d) (by omega) (hs.sI 20 k (nI v))
      have hsw := zSh_fr (hs.sI 20 k (nI v)) hfw.1 hfw.2.1 hfw.2.2.1
      have hMw : zI Mw 155 0 = nI t := (congrFun (hfw.I (b := 155) (by omega)) 0).trans t3
      have hMk : zI Mw 155 (1 + k) = nI (tr k) := (congrFun (hfw.I (b := 155) (by omega)) (1 + k)).trans g3
      have e2 := m_isTick_t (d := d) (by omega) hsw t1 hMw hk
      refine ⟨nI (tr k), Mw, zsI Mw 155 (1 + k) (nI v), ?_, ?_, ?_⟩
      · simp (disch := omega) only [il, nI_add, nI_mul, nI_sub, nI_div, nI_rem, nI_N, i32_lt, i32_le, nI_toInt, nI_subI, nI_clamp, zinT, zifT, iteT, iteF, zQ, zS, zkc, zI_sI, zL_sL, zI_wI, zL_wL, Nat.reduceEqDiff, Nat.reduceAdd, Nat.reduceMul, Nat.reduceLT, Nat.reduceLeDiff, reduceIte, eq_self, and_self, true_and, and_true, false_and, and_false, true_or, or_true, or_false, false_or, not_true_eq_false, not_false_eq_true, zarr, ne_eq, hK, hC, e1, g2, q_isBits_t (d := d) (by omega) hv, ew]
      · have hMo2 := hsw.2.2.2.1
        have hK2 := hsw.2.1
        simp (disch := omega) only [il, nI_add, nI_mul, nI_sub, nI_div, nI_rem, nI_N, i32_lt, i32_le, nI_toInt, nI_subI, nI_clamp, zinT, zifT, iteT, iteF, zQ, zS, zkc, zI_sI, zL_sL, zI_wI, zL_wL, Nat.reduceEqDiff, Nat.reduceAdd, Nat.reduceMul, Nat.reduceLT, Nat.reduceLeDiff, reduceIte, eq_self, and_self, true_and, and_true, false_and, and_false, true_or, or_true, or_false, false_or, not_true_eq_false, not_false_eq_true, zarr, ne_eq, hK2, hMo2, hMk, e2, m_areBits_t (d := d) (by omega) hv]
      · refine Inv_tr (P' := P) (t' := t) (tr' := fun i => if i = k then v else tr i) hs hT hfa him hsh (fun b _ _ _ _ _ _ => ?_) hfw.1 hfw.2.1 hfw.2.2.1 (congrFun (hfw.I (b := 2) (by omega)) 10) ?_ (congrFun (hfw.I (b := 146) (by omega)) 18) (congrFun (hfw.I (b := 146) (by omega)) 13) ?_ ?_
        · rw [zI_ne (by omega), hfw.I (by omega), zI_ne (by omega)]
        · exact ⟨by rw [zI_ne (by omega), zI_ne (by omega), hfw.I (by omega), hfw.I (by omega)]; exact hto.1, by
            have hpw := pat_fW hfw (show pat _ from hto.2)
            exact hpw⟩
        · refine ⟨t1, ?_, ?_, ?_⟩
          · rw [zI_ne (by omega), hfw.I (by omega)]; exact t2
          · rw [zI_sI, if_neg (fun q => absurd q.2 (by omega))]; exact hMw
          · intro i hi
            rw [zI_ne (b := 20) (by omega), zI_sI, hfw.I (b := 155) (by omega), hfw.I (b := 20) (by omega), zI_sI]
            by_cases h1 : i = k
            · subst h1; rw [if_pos ⟨rfl, rfl⟩, if_pos ⟨rfl, rfl⟩]; simp only [if_true]; exact ⟨hv, trivial, trivial⟩
            · rw [if_neg (fun q => h1 q.2), if_neg (fun q => h1 (by omega))]; simp only [h1, if_false]; exact t4 i hi
        · exact iProm_fr hw (iProm_fW (t' := t) (tr' := fun i => if i = k then v else tr i) hw (iProm_fr (M' := zsI M 20 k (nI v)) hw hp ⟨fun b _ _ => ⟨by simp (disch := omega) only [zI_ne, zIw_ne, zS], by simp (disch := omega) only [zL_ne, zLw_ne, zS]⟩, rfl, rfl, rfl, rfl, rfl, rfl⟩ (Nat.le_refl _) (fun _ _ => rfl)) hfw) ⟨fun b _ _ => ⟨by simp (disch := omega) only [zI_ne, zIw_ne, zS], by simp (disch := omega) only [zL_ne, zLw_ne, zS]⟩, rfl, rfl, rfl, rfl, rfl, rfl⟩ (Nat.le_refl _) (fun _ _ => rfl)
    · refine ⟨-1, M, M, ?_, ?_, hi0⟩
      · simp (disch := omega) only [il, nI_add, nI_mul, nI_sub, nI_div, nI_rem, nI_N, i32_lt, i32_le, nI_toInt, nI_subI, nI_clamp, zinT, zifT, iteT, iteF, zQ, zS, zkc, zI_sI, zL_sL, zI_wI, zL_wL, Nat.reduceEqDiff, Nat.reduceAdd, Nat.reduceMul, Nat.reduceLT, Nat.reduceLeDiff, reduceIte, eq_self, and_self, true_and, and_true, false_and, and_false, true_or, or_true, or_false, false_or, not_true_eq_false, not_false_eq_true, zarr, ne_eq, hK, hC, e1, q_isBits_f (d := d) (by omega) hy]
      · simp (disch := omega) only [il, nI_add, nI_mul, nI_sub, nI_div, nI_rem, nI_N, i32_lt, i32_le, nI_toInt, nI_subI, nI_clamp, zinT, zifT, iteT, iteF, zQ, zS, zkc, zI_sI, zL_sL, zI_wI, zL_wL, Nat.reduceEqDiff, Nat.reduceAdd, Nat.reduceMul, Nat.reduceLT, Nat.reduceLeDiff, reduceIte, eq_self, and_self, true_and, and_true, false_and, and_false, true_or, or_true, or_false, false_or, not_true_eq_false, not_false_eq_true, zarr, ne_eq, hK, hMo, e2, m_areBits_f (d := d) (by omega) hy]
  · refine ⟨-1, M, M, ?_, ?_, hi0⟩
    · simp (disch := omega) only [il, nI_add, nI_mul, nI_sub, nI_div, nI_rem, nI_N, i32_lt, i32_le, nI_toInt, nI_subI, nI_clamp, zinT, zifT, iteT, iteF, zQ, zS, zkc, zI_sI, zL_sL, zI_wI, zL_wL, Nat.reduceEqDiff, Nat.reduceAdd, Nat.reduceMul, Nat.reduceLT, Nat.reduceLeDiff, reduceIte, eq_self, and_self, true_and, and_true, false_and, and_false, true_or, or_true, or_false, false_or, not_true_eq_false, not_false_eq_true, zarr, ne_eq, hK, hC, q_isTick_f (d := d) (by omega) hs htr hx]
    · simp (disch := omega) only [il, nI_add, nI_mul, nI_sub, nI_div, nI_rem, nI_N, i32_lt, i32_le, nI_toInt, nI_subI, nI_clamp, zinT, zifT, iteT, iteF, zQ, zS, zkc, zI_sI, zL_sL, zI_wI, zL_wL, Nat.reduceEqDiff, Nat.reduceAdd, Nat.reduceMul, Nat.reduceLT, Nat.reduceLeDiff, reduceIte, eq_self, and_self, true_and, and_true, false_and, and_false, true_or, or_true, or_false, false_or, not_true_eq_false, not_false_eq_true, zarr, ne_eq, hK, hMo, m_isTick_f (d := d) (by omega) hs t1 t3 hx]
theorem st_keeps {d L : Nat} {M : zM} (hd : 3 ≤ d) (hi : Inv L M) (x : Int32) : Cal d n_PT_keeps n_Mo_keeps L [.int x] M := by
  have hi0 := hi
  obtain ⟨w, n, t, P, tr, hs, hT, hfa, hto, htr, him, hsh, hp⟩ := hi
  obtain ⟨d, rfl, hd1⟩ := zdep hd
  have hs1 := hs
  have htr1 := htr
  obtain ⟨hN, hK, hC, hMo, hF, hw, -⟩ := hs1
  obtain ⟨t1, t2, t3, t4⟩ := htr1
  unfold Cal
  rw [ze_PT_keeps]
  simp only [ze_Mo_keeps]
  unfold zx_PT_keeps zx_Mo_keeps
  rcases i_cases x (t + 1) (by omega) with ⟨k, hk, rfl⟩ | hx
  · obtain ⟨Mw, ew, hfw⟩ := pt_watchAnew (d := d) (by omega) (hs.sI 19 1 (nI k))
    have hsw := zSh_fr (hs.sI 19 1 (nI k)) hfw.1 hfw.2.1 hfw.2.2.1
    have hMw : zI Mw 155 0 = nI t := (congrFun (hfw.I (b := 155) (by omega)) 0).trans t3
    refine ⟨nI t, Mw, zsI Mw 155 0 (nI k), ?_, ?_, ?_⟩
    · simp (disch := omega) only [il, nI_add, nI_mul, nI_sub, nI_div, nI_rem, nI_N, i32_lt, i32_le, nI_toInt, nI_subI, nI_clamp, zinT, zifT, iteT, iteF, zQ, zS, zkc, zI_sI, zL_sL, zI_wI, zL_wL, Nat.reduceEqDiff, Nat.reduceAdd, Nat.reduceMul, Nat.reduceLT, Nat.reduceLeDiff, reduceIte, eq_self, and_self, true_and, and_true, false_and, and_false, true_or, or_true, or_false, false_or, not_true_eq_false, not_false_eq_true, zarr, ne_eq, hK, hC, t2, ew]
    · have hMo2 := hsw.2.2.2.1
      have hK2 := hsw.2.1
      simp (disch := omega) only [il, nI_add, nI_mul, nI_sub, nI_div, nI_rem, nI_N, i32_lt, i32_le, nI_toInt, nI_subI, nI_clamp, zinT, zifT, iteT, iteF, zQ, zS, zkc, zI_sI, zL_sL, zI_wI, zL_wL, Nat.reduceEqDiff, Nat.reduceAdd, Nat.reduceMul, Nat.reduceLT, Nat.reduceLeDiff, reduceIte, eq_self, and_self, true_and, and_true, false_and, and_false, true_or, or_true, or_false, false_or, not_true_eq_false, not_false_eq_true, zarr, ne_eq, hK2, hMo2, hMw, mo_in (show 1 ≤ d by omega), i64_toInt, zlit64]
    · refine Inv_tr (P' := P) (t' := k) (tr' := tr) hs hT hfa him hsh (fun b _ _ _ _ _ _ => ?_) hfw.1 hfw.2.1 hfw.2.2.1 (congrFun (hfw.I (b := 2) (by omega)) 10) ?_ (congrFun (hfw.I (b := 146) (by omega)) 18) (congrFun (hfw.I (b := 146) (by omega)) 13) ?_ ?_
      · rw [zI_ne (by omega), hfw.I (by omega), zI_ne (by omega)]
      · exact ⟨by rw [zI_ne (by omega), zI_ne (by omega), hfw.I (by omega), hfw.I (by omega)]; exact hto.1, by
            have hpw := pat_fW hfw (show pat _ from hto.2)
            exact hpw⟩
      · refine ⟨by omega, ?_, ?_, ?_⟩
        · rw [zI_ne (by omega), hfw.I (by omega)]; rfl
        · rw [zI_sI, if_pos ⟨rfl, rfl⟩]
        · intro i hi
          rw [zI_ne (b := 20) (by omega), zI_sI, if_neg (fun q => absurd q.2 (by omega)), hfw.I (b := 155) (by omega), hfw.I (b := 20) (by omega)]
          exact t4 i (by omega)
      · exact iProm_fr hw (iProm_fW (t' := k) (tr' := tr) hw (iProm_fr (M' := zsI M 19 1 (nI k)) hw hp ⟨fun b _ _ => ⟨by simp (disch := omega) only [zI_ne, zIw_ne, zS], by simp (disch := omega) only [zL_ne, zLw_ne, zS]⟩, rfl, rfl, rfl, rfl, rfl, rfl⟩ (Nat.le_refl _) (fun _ _ => rfl)) hfw) ⟨fun b _ _ => ⟨by simp (disch := omega) only [zI_ne, zIw_ne, zS], by simp (disch := omega) only [zL_ne, zLw_ne, zS]⟩, rfl, rfl, rfl, rfl, rfl, rfl⟩ (Nat.le_refl _) (fun _ _ => rfl)
  · refine ⟨-1, M, M, ?_, ?_, hi0⟩
    · by_cases h1 : x.toInt < 0
      · simp (disch := omega) only [il, nI_add, nI_mul, nI_sub, nI_div, nI_rem, nI_N, i32_lt, i32_le, nI_toInt, nI_subI, nI_clamp, zinT, zifT, iteT, iteF, zQ, zS, zkc, zI_sI, zL_sL, zI_wI, zL_wL, Nat.reduceEqDiff, Nat.reduceAdd, Nat.reduceMul, Nat.reduceLT, Nat.reduceLeDiff, reduceIte, eq_self, and_self, true_and, and_true, false_and, and_false, true_or, or_true, or_false, false_or, not_true_eq_false, not_false_eq_true, zarr, ne_eq, hK, hC, t2]
      · simp (disch := omega) only [il, nI_add, nI_mul, nI_sub, nI_div, nI_rem, nI_N, i32_lt, i32_le, nI_toInt, nI_subI, nI_clamp, zinT, zifT, iteT, iteF, zQ, zS, zkc, zI_sI, zL_sL, zI_wI, zL_wL, Nat.reduceEqDiff, Nat.reduceAdd, Nat.reduceMul, Nat.reduceLT, Nat.reduceLeDiff, reduceIte, eq_self, and_self, true_and, and_true, false_and, and_false, true_or, or_true, or_false, false_or, not_true_eq_false, not_false_eq_true, zarr, ne_eq, hK, hC, t2]
    · simp (disch := omega) only [il, nI_add, nI_mul, nI_sub, nI_div, nI_rem, nI_N, i32_lt, i32_le, nI_toInt, nI_subI, nI_clamp, zinT, zifT, iteT, iteF, zQ, zS, zkc, zI_sI, zL_sL, zI_wI, zL_wL, Nat.reduceEqDiff, Nat.reduceAdd, Nat.reduceMul, Nat.reduceLT, Nat.reduceLeDiff, reduceIte, eq_self, and_self, true_and, and_true, false_and, and_false, true_or, or_true, or_false, false_or, not_true_eq_false, not_false_eq_true, zarr, ne_eq, hK, hMo, t3, mo_in (show 1 ≤ d by omega), i64_toInt, zlit64]
