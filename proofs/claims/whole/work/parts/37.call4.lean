/-! counts, images, sheets -/
theorem i_eq {x : Int32} {k : Nat} (hk : k < 2 ^ 31) : x = nI k ↔ x.toInt = k := by
  constructor
  · intro h; rw [h, nI_toInt hk]
  · intro h; apply Int32.toInt_inj.mp; rw [nI_toInt hk]; exact h
theorem i_neq {x : Int32} {k : Nat} (hk : k < 2 ^ 31) (h : x.toInt ≠ k) : (x = nI k) = False := eq_false (fun q => h ((i_eq hk).mp q))
theorem pt_howMany {d L w a b : Nat} {M : zM} (hd : 1 ≤ d) (hs : zSh L w M) (h0 : zI M 22 0 = nI a) (h1 : zI M 22 1 = nI b) (ha : a < 2) (hb : b < 2) : zV d n_PT_howManyImages [.ref 2] M = some (some (.int (nI (a + b))), M) := by
  obtain ⟨d, rfl, hd1⟩ := zdep hd
  obtain ⟨hN, hK, hC, -⟩ := hs
  rw [ze_PT_howManyImages]
  unfold zx_PT_howManyImages
  have ha1 : a = 0 ∨ a = 1 := by omega
  have hb1 : b = 0 ∨ b = 1 := by omega
  have s1 : zG d n_PT_howManyImages 4 [some (.ref 2), some (.int 0), some (.int 0)] [] M = zG d n_PT_howManyImages 4 [some (.ref 2), some (.int (nI a)), some (.int (nI 1))] [] M := by
    rw [zg_PT_howManyImages_4]
    unfold zx_PT_howManyImages_4
    rcases ha1 with rfl | rfl <;> simp (disch := omega) only [il, nI_add, nI_mul, nI_sub, nI_div, nI_rem, nI_N, i32_lt, i32_le, nI_toInt, nI_subI, nI_clamp, zinT, zifT, iteT, iteF, zQ, zS, zkc, zI_sI, zL_sL, zI_wI, zL_wL, Nat.reduceEqDiff, Nat.reduceAdd, Nat.reduceMul, Nat.reduceLT, Nat.reduceLeDiff, reduceIte, eq_self, and_self, true_and, and_true, false_and, and_false, true_or, or_true, or_false, false_or, not_true_eq_false, not_false_eq_true, zarr, ne_eq, hK, hC, h0]
  have s2 : zG d n_PT_howManyImages 4 [some (.ref 2), some (.int (nI a)), some (.int (nI 1))] [] M = zG d n_PT_howManyImages 4 [some (.ref 2), some (.int (nI (a + b))), some (.int (nI 2))] [] M := by
    rw [zg_PT_howManyImages_4]
    unfold zx_PT_howManyImages_4
    rcases hb1 with rfl | rfl <;> simp (disch := omega) only [il, nI_add, nI_mul, nI_sub, nI_div, nI_rem, nI_N, i32_lt, i32_le, nI_toInt, nI_subI, nI_clamp, zinT, zifT, iteT, iteF, zQ, zS, zkc, zI_sI, zL_sL, zI_wI, zL_wL, Nat.reduceEqDiff, Nat.reduceAdd, Nat.reduceMul, Nat.reduceLT, Nat.reduceLeDiff, reduceIte, eq_self, and_self, true_and, and_true, false_and, and_false, true_or, or_true, or_false, false_or, not_true_eq_false, not_false_eq_true, zarr, ne_eq, hK, hC, h1, Nat.add_zero]
  rw [s1, s2, zg_PT_howManyImages_4]
  unfold zx_PT_howManyImages_4
  simp (disch := omega) only [il, nI_add, nI_mul, nI_sub, nI_div, nI_rem, nI_N, i32_lt, i32_le, nI_toInt, nI_subI, nI_clamp, zinT, zifT, iteT, iteF, zQ, zS, zkc, zI_sI, zL_sL, zI_wI, zL_wL, Nat.reduceEqDiff, Nat.reduceAdd, Nat.reduceMul, Nat.reduceLT, Nat.reduceLeDiff, reduceIte, eq_self, and_self, true_and, and_true, false_and, and_false, true_or, or_true, or_false, false_or, not_true_eq_false, not_false_eq_true, zarr, ne_eq]
theorem m_flag {d : Nat} {M : zM} {a : Nat} (hd : 1 ≤ d) (ha : a < 2) : zV d n_Mo_flag [.int (nI a)] M = some (some (.int (nI a)), M) := by
  rw [mo_flag hd]
  have ha1 : a = 0 ∨ a = 1 := by omega
  rcases ha1 with rfl | rfl <;> rfl
theorem iImage.two {M : zM} {k : Nat} (h : iImage M k) : ∃ a, a < 2 ∧ zI M 22 k = nI a ∧ zI M 157 k = nI a := by
  rcases h with ⟨h1, h2⟩ | ⟨h1, h2, -⟩
  · exact ⟨0, by omega, h1, h2⟩
  · exact ⟨1, by omega, h1, h2⟩
theorem neg4 : ((-4 : Int32) = -4) = True := eq_self _
theorem nI_n4 {k : Nat} (h : k < 2 ^ 31) : (nI k = -nI 4) = False := by
  apply eq_false
  intro q
  have := congrArg Int32.toInt q
  rw [nI_toInt h] at this
  have e : (-nI 4).toInt = -4 := by decide
  rw [e] at this
  omega
theorem neg1_toInt : (-nI 1).toInt = -1 := by decide
theorem st_count {d L : Nat} {M : zM} (hd : 2 ≤ d) (hi : Inv L M) (x : Int32) : Cal d n_PT_count n_Mo_count L [.int x] M := by
  have hi0 := hi
  obtain ⟨w, n, t, P, tr, hs, hT, hfa, hto, htr, him, hsh, hp⟩ := hi
  obtain ⟨d, rfl, hd1⟩ := zdep hd
  have hs1 := hs
  obtain ⟨hN, hK, hC, hMo, hF, hw, -⟩ := hs1
  obtain ⟨t1, t2, t3, t4⟩ := hT
  unfold Cal
  rw [ze_PT_count]
  simp only [ze_Mo_count]
  unfold zx_PT_count zx_Mo_count
  rcases i_cases x 3 (by omega) with ⟨k, hk, rfl⟩ | hx
  · have hk1 : k = 0 ∨ k = 1 ∨ k = 2 := by omega
    rcases hk1 with rfl | rfl | rfl
    · obtain ⟨a, ha, a1, a2⟩ := (him 0 (by omega)).two
      obtain ⟨b, hb, b1, b2⟩ := (him 1 (by omega)).two
      refine ⟨nI (a + b), M, M, ?_, ?_, hi0⟩
      · simp (disch := omega) only [il, nI_add, nI_mul, nI_sub, nI_div, nI_rem, nI_N, i32_lt, i32_le, nI_toInt, nI_subI, nI_clamp, zinT, zifT, iteT, iteF, zQ, zS, zkc, zI_sI, zL_sL, zI_wI, zL_wL, Nat.reduceEqDiff, Nat.reduceAdd, Nat.reduceMul, Nat.reduceLT, Nat.reduceLeDiff, reduceIte, eq_self, and_self, true_and, and_true, false_and, and_false, true_or, or_true, or_false, false_or, not_true_eq_false, not_false_eq_true, zarr, ne_eq, hK, hC, pt_howMany hd1 hs a1 b1 ha hb]
      · simp (disch := omega) only [il, nI_add, nI_mul, nI_sub, nI_div, nI_rem, nI_N, i32_lt, i32_le, nI_toInt, nI_subI, nI_clamp, zinT, zifT, iteT, iteF, zQ, zS, zkc, zI_sI, zL_sL, zI_wI, zL_wL, Nat.reduceEqDiff, Nat.reduceAdd, Nat.reduceMul, Nat.reduceLT, Nat.reduceLeDiff, reduceIte, eq_self, and_self, true_and, and_true, false_and, and_false, true_or, or_true, or_false, false_or, not_true_eq_false, not_false_eq_true, zarr, ne_eq, hK, hMo, a2, b2, m_flag hd1 ha, m_flag hd1 hb]
    · refine ⟨nI n, M, M, ?_, ?_, hi0⟩
      · simp (disch := omega) only [il, nI_add, nI_mul, nI_sub, nI_div, nI_rem, nI_N, i32_lt, i32_le, nI_toInt, nI_subI, nI_clamp, zinT, zifT, iteT, iteF, zQ, zS, zkc, zI_sI, zL_sL, zI_wI, zL_wL, Nat.reduceEqDiff, Nat.reduceAdd, Nat.reduceMul, Nat.reduceLT, Nat.reduceLeDiff, reduceIte, eq_self, and_self, true_and, and_true, false_and, and_false, true_or, or_true, or_false, false_or, not_true_eq_false, not_false_eq_true, zarr, ne_eq, hK, hC, t2]
      · simp (disch := omega) only [il, nI_add, nI_mul, nI_sub, nI_div, nI_rem, nI_N, i32_lt, i32_le, nI_toInt, nI_subI, nI_clamp, zinT, zifT, iteT, iteF, zQ, zS, zkc, zI_sI, zL_sL, zI_wI, zL_wL, Nat.reduceEqDiff, Nat.reduceAdd, Nat.reduceMul, Nat.reduceLT, Nat.reduceLeDiff, reduceIte, eq_self, and_self, true_and, and_true, false_and, and_false, true_or, or_true, or_false, false_or, not_true_eq_false, not_false_eq_true, zarr, ne_eq, hK, hMo, t3]
    · have hR : zR M 23 0 = some 138 := (hF.1 0 (by omega)).2.2.2.1
      rcases hsh 0 (by omega) with ⟨g1, g2⟩ | ⟨l, m, hl, hm, g1, g2, g3, g4, -⟩
      · have g1' : zI M 138 2 = -nI 1 := g1
        have g2' : zI M 179 0 = -nI 4 := g2
        refine ⟨-4, M, M, ?_, ?_, hi0⟩
        · simp (disch := omega) only [il, nI_add, nI_mul, nI_sub, nI_div, nI_rem, nI_N, i32_lt, i32_le, nI_toInt, nI_subI, nI_clamp, zinT, zifT, iteT, iteF, zQ, zS, zkc, zI_sI, zL_sL, zI_wI, zL_wL, Nat.reduceEqDiff, Nat.reduceAdd, Nat.reduceMul, Nat.reduceLT, Nat.reduceLeDiff, reduceIte, eq_self, and_self, true_and, and_true, false_and, and_false, true_or, or_true, or_false, false_or, not_true_eq_false, not_false_eq_true, zarr, ne_eq, hK, hC, g1', hR, neg1_toInt]
        · simp (disch := omega) only [il, nI_add, nI_mul, nI_sub, nI_div, nI_rem, nI_N, i32_lt, i32_le, nI_toInt, nI_subI, nI_clamp, zinT, zifT, iteT, iteF, zQ, zS, zkc, zI_sI, zL_sL, zI_wI, zL_wL, Nat.reduceEqDiff, Nat.reduceAdd, Nat.reduceMul, Nat.reduceLT, Nat.reduceLeDiff, reduceIte, eq_self, and_self, true_and, and_true, false_and, and_false, true_or, or_true, or_false, false_or, not_true_eq_false, not_false_eq_true, zarr, ne_eq, hK, hMo, g2']
      · have g3' : zI M 138 2 = nI m := g3
        refine ⟨nI m, M, M, ?_, ?_, hi0⟩
        · simp (disch := omega) only [il, nI_add, nI_mul, nI_sub, nI_div, nI_rem, nI_N, i32_lt, i32_le, nI_toInt, nI_subI, nI_clamp, zinT, zifT, iteT, iteF, zQ, zS, zkc, zI_sI, zL_sL, zI_wI, zL_wL, Nat.reduceEqDiff, Nat.reduceAdd, Nat.reduceMul, Nat.reduceLT, Nat.reduceLeDiff, reduceIte, eq_self, and_self, true_and, and_true, false_and, and_false, true_or, or_true, or_false, false_or, not_true_eq_false, not_false_eq_true, zarr, ne_eq, hK, hC, g3', hR]
        · simp (disch := omega) only [il, nI_add, nI_mul, nI_sub, nI_div, nI_rem, nI_N, i32_lt, i32_le, nI_toInt, nI_subI, nI_clamp, zinT, zifT, iteT, iteF, zQ, zS, zkc, zI_sI, zL_sL, zI_wI, zL_wL, Nat.reduceEqDiff, Nat.reduceAdd, Nat.reduceMul, Nat.reduceLT, Nat.reduceLeDiff, reduceIte, eq_self, and_self, true_and, and_true, false_and, and_false, true_or, or_true, or_false, false_or, not_true_eq_false, not_false_eq_true, zarr, ne_eq, hK, hMo, g2, g4, nI_n4]
  · refine ⟨-1, M, M, ?_, ?_, hi0⟩
    · simp (disch := omega) only [il, nI_add, nI_mul, nI_sub, nI_div, nI_rem, nI_N, i32_lt, i32_le, nI_toInt, nI_subI, nI_clamp, zinT, zifT, iteT, iteF, zQ, zS, zkc, zI_sI, zL_sL, zI_wI, zL_wL, Nat.reduceEqDiff, Nat.reduceAdd, Nat.reduceMul, Nat.reduceLT, Nat.reduceLeDiff, reduceIte, eq_self, and_self, true_and, and_true, false_and, and_false, true_or, or_true, or_false, false_or, not_true_eq_false, not_false_eq_true, zarr, ne_eq, i_neq]
    · simp (disch := omega) only [il, nI_add, nI_mul, nI_sub, nI_div, nI_rem, nI_N, i32_lt, i32_le, nI_toInt, nI_subI, nI_clamp, zinT, zifT, iteT, iteF, zQ, zS, zkc, zI_sI, zL_sL, zI_wI, zL_wL, Nat.reduceEqDiff, Nat.reduceAdd, Nat.reduceMul, Nat.reduceLT, Nat.reduceLeDiff, reduceIte, eq_self, and_self, true_and, and_true, false_and, and_false, true_or, or_true, or_false, false_or, not_true_eq_false, not_false_eq_true, zarr, ne_eq, i_neq]
theorem Inv_im {L w n t P : Nat} {tr : Nat → Nat} {M M' : zM} (hs : zSh L w M) (hT : iTape n M) (hfa : zI M 2 10 = zI M 146 18) (hto : zI M 2 11 = zI M 146 51 ∧ pat M) (htr : iTrace t tr M) (hp : iProm w t P tr M)
    (f : ∀ b, b ≠ 22 → b ≠ 157 → b ≠ 156 → (b < 134 ∨ 146 ≤ b) → b ≠ 179 → b ≠ 180 → b ≠ 181 → zI M' b = zI M b) (f2 : zL M' = zL M) (hN : zN M' = zN M) (hK : zK M' = zK M) (hR : zR M' = zR M)
    (h1 : ∀ k, k < 2 → iImage M' k) (h2 : ∀ k, k < 4 → iSheet M' k) : Inv L M' := by
  have e : ∀ b, b ≠ 22 → b ≠ 157 → b ≠ 156 → (b < 134 ∨ 146 ≤ b) → b ≠ 179 → b ≠ 180 → b ≠ 181 → zI M' b = zI M b := f
  refine ⟨w, n, t, P, tr, zSh_fr hs hN hK hR, ?_, ?_, ?_, iTrace_fr htr (f _ (by omega) (by omega) (by omega) (by omega) (by omega) (by omega) (by omega)) (f _ (by omega) (by omega) (by omega) (by omega) (by omega) (by omega) (by omega)) (f _ (by omega) (by omega) (by omega) (by omega) (by omega) (by omega) (by omega)), h1, h2, iProm_fr hs.2.2.2.2.2.1 hp ⟨fun b _ _ => ⟨f b (by omega) (by omega) (by omega) (by omega) (by omega) (by omega) (by omega), by rw [f2]⟩, ?_, ?_, ?_, ?_, by rw [f2], by rw [f2]⟩ (Nat.le_refl _) (fun _ _ => rfl)⟩
  · unfold iTape
    rw [f 4 (by omega) (by omega) (by omega) (by omega) (by omega) (by omega) (by omega), f 5 (by omega) (by omega) (by omega) (by omega) (by omega) (by omega) (by omega), f 158 (by omega) (by omega) (by omega) (by omega) (by omega) (by omega) (by omega), f 146 (by omega) (by omega) (by omega) (by omega) (by omega) (by omega) (by omega)]
    exact hT
  · rw [f 2 (by omega) (by omega) (by omega) (by omega) (by omega) (by omega) (by omega), f 146 (by omega) (by omega) (by omega) (by omega) (by omega) (by omega) (by omega)]
    exact hfa
  · rw [f 2 (by omega) (by omega) (by omega) (by omega) (by omega) (by omega) (by omega), f 146 (by omega) (by omega) (by omega) (by omega) (by omega) (by omega) (by omega)]
    exact ⟨hto.1, by unfold pat; rw [f2]; exact hto.2⟩
  · rw [f 2 (by omega) (by omega) (by omega) (by omega) (by omega) (by omega) (by omega)]
  · rw [f 146 (by omega) (by omega) (by omega) (by omega) (by omega) (by omega) (by omega)]
  · rw [f 147 (by omega) (by omega) (by omega) (by omega) (by omega) (by omega) (by omega)]
  · rw [f 151 (by omega) (by omega) (by omega) (by omega) (by omega) (by omega) (by omega)]
theorem zcopy_w (M : zM) (a b n : Nat) : zcopy M a 0 b 0 n = zwI M b (fun i => if i < n then zI M a i else zI M b i) := by
  unfold zcopy zwI va_cpy
  congr 3
  funext i j
  unfold zrow
  by_cases h : i = b
  · subst h
    simp only [if_true, Nat.zero_le, true_and, Nat.zero_add, Nat.sub_zero]
    rfl
  · simp only [h, if_false]
theorem zroomy_nil : (zroomy [] = true) = True := by decide
theorem tr_become {d a b t : Nat} {M : zM} (hd : 1 ≤ d) (ha : zTra M a) (hb : zTra M b) (ht : zI M b 1 = nI t) (ht2 : t ≤ 48) (hab : a ≠ b) (hab2 : a + 1 ≠ b) : zV d n_Tr_become [.ref a, .ref b] M = some (none, zsI (zwI M (a + 1) (fun i => if i < t then zI M (b + 1) i else zI M (a + 1) i)) a 1 (nI t)) := by
  obtain ⟨d, rfl, hd1⟩ := zdep hd
  obtain ⟨a1, a2, a3⟩ := ha
  obtain ⟨b1, b2, b3⟩ := hb
  rw [ze_Tr_become]
  unfold zx_Tr_become
  have hba : b ≠ a + 1 := fun q => hab2 q.symm
  simp (disch := omega) only [il, nI_add, nI_mul, nI_sub, nI_div, nI_rem, nI_N, i32_lt, i32_le, nI_toInt, nI_subI, nI_clamp, zinT, zifT, iteT, iteF, zQ, zS, zkc, zI_sI, zL_sL, zI_wI, zL_wL, Nat.reduceEqDiff, Nat.reduceAdd, Nat.reduceMul, Nat.reduceLT, Nat.reduceLeDiff, reduceIte, eq_self, and_self, true_and, and_true, false_and, and_false, true_or, or_true, or_false, false_or, not_true_eq_false, not_false_eq_true, zarr, ne_eq, a1, a2, a3, b1, b2, b3, ht, zroomy_nil, Nat.zero_add, Nat.not_lt_zero, hba, zcopy_w]
theorem nar_bo : vp_nar .boolean (nI 1) = nI 1 ∧ vp_nar .boolean (nI 0) = nI 0 := by decide
