/-! the reference: ( -/
theorem m_op_78b {d f : Nat} {M : zM} {x : Int32} (hd : 1 ≤ d) (hK : zK M 146 = (11, 52)) (h18 : zI M 146 18 = nI f) (hf : 0 < f) (hf2 : f < 100) (hx : zI M 146 27 = x) : ∃ M', zG d n_Mo_readOperand 78 [some (.ref 146), none] [.int (nI 0), .int x, .ref 146] M = some (none, M') ∧ (∀ j, j ≠ 27 → zI M' 146 j = zI M 146 j) ∧ M' = zsI M 146 27 (x + nI 0) := by
  have e1 := m_op_bad (d := d) (x1 := 0) (M := zsI M 146 27 (x + nI 0)) hd hK h18 hf hf2 (by omega)
  refine ⟨zsI M 146 27 (x + nI 0), ?_, fun j hj => by rw [zI_sI, if_neg (fun z => hj z.2)], rfl⟩
  rw [zg_Mo_readOperand_78]
  unfold zx_Mo_readOperand_78
  simp (disch := omega) only [il, nI_add, nI_mul, nI_sub, nI_div, nI_rem, nI_N, i32_lt, i32_le, nI_toInt, nI_subI, nI_clamp, zinT, zifT, iteT, iteF, zQ, zS, zkc, zI_sI, zL_sL, zI_wI, zL_wL, Nat.reduceEqDiff, Nat.reduceAdd, Nat.reduceMul, Nat.reduceLT, Nat.reduceLeDiff, reduceIte, eq_self, and_self, true_and, and_true, false_and, and_false, true_or, or_true, or_false, false_or, not_true_eq_false, not_false_eq_true, zarr, ne_eq, mo_flag hd, hK, h18, e1]
theorem m_op_par8 {d L w N l n i : Nat} {β : Nat → Nat} {pt : Nat → Int64} {M : zM} {x : Lv} (hd : 3 ≤ d) (hk : tkOk (tok β N) N) (hl : l < 10) (h : MG L w N β pt l n i x M) (h40 : (tok β N i).1 = 40) (hn : n = 8) : ∃ M', zG d n_Mo_readOperand 2 [some (.ref 146), some (.int (nI 1))] [] M = some (none, M') ∧ fMc l M M' ∧ zK M' 146 = (11, 52) ∧ MF (4, plc (tok β N) i) M' := by
  subst hn
  obtain ⟨hE, hm, h3, hi, h27, h20, hv⟩ := h
  have hK : zK M 146 = (11, 52) := by rw [hE.1.2.1]; rfl
  obtain ⟨c18, c15, c16⟩ := mTok_ok hm h3
  have e1 := m_isSign (d := d) (c := 33) (by omega) hE hk hm h3 hi (by omega) (by omega)
  rw [if_neg (by omega)] at e1
  have e2 := m_isSign (d := d) (c := 40) (by omega) hE hk hm h3 hi (by omega) (by omega)
  rw [if_pos h40] at e2
  generalize hM1 : zsI (zsI (zsI M 146 18 (nI 4)) 146 19 (zI M 146 15)) 146 20 (nI 9) = M1
  have hK1 : zK M1 146 = (11, 52) := by rw [← hM1]; exact hK
  have h181 : zI M1 146 18 = nI 4 := by rw [← hM1]; rfl
  have h271 : zI M1 146 27 = nI l := by rw [← hM1]; exact h27
  have e3 : zV d n_Mo_nests [.ref 146] M = some (none, M1) := by
    obtain ⟨d, rfl, hd1⟩ := zdep (show 2 + 1 ≤ d by omega)
    have er := m_requires_f (d := d) (x := 4) (M := M) (by omega) hK c18
    have eb := m_reads_b (d := d) (f := 4) (M := M1) (by omega) hK1 h181 (by omega) (by omega)
    rw [ze_Mo_nests]
    unfold zx_Mo_nests
    clear hE hm hv hk e1 e2
    simp (disch := omega) only [il, nI_add, nI_mul, nI_sub, nI_div, nI_rem, nI_N, i32_lt, i32_le, nI_toInt, nI_subI, nI_clamp, zinT, zifT, iteT, iteF, zQ, zS, zkc, zI_sI, zL_sL, zI_wI, zL_wL, Nat.reduceEqDiff, Nat.reduceAdd, Nat.reduceMul, Nat.reduceLT, Nat.reduceLeDiff, reduceIte, eq_self, and_self, true_and, and_true, false_and, and_false, true_or, or_true, or_false, false_or, not_true_eq_false, not_false_eq_true, zarr, ne_eq, hK, h20, er, hM1, hK1, eb]
  obtain ⟨M', e4, g1, g2⟩ := m_op_78b (d := d) (by omega) hK1 h181 (by omega) (by omega) h271
  refine ⟨M', ?_, ?_, by rw [g2]; exact hK1, (show 0 < 4 by decide), (show 4 < 10 by decide), (g1 18 (by decide)).trans h181, (g1 19 (by decide)).trans (by rw [← hM1]; exact c15)⟩
  · rw [zg_Mo_readOperand_2]
    unfold zx_Mo_readOperand_2
    clear hE hm hv hk g1 g2
    simp (disch := omega) only [il, nI_add, nI_mul, nI_sub, nI_div, nI_rem, nI_N, i32_lt, i32_le, nI_toInt, nI_subI, nI_clamp, zinT, zifT, iteT, iteF, zQ, zS, zkc, zI_sI, zL_sL, zI_wI, zL_wL, Nat.reduceEqDiff, Nat.reduceAdd, Nat.reduceMul, Nat.reduceLT, Nat.reduceLeDiff, reduceIte, eq_self, and_self, true_and, and_true, false_and, and_false, true_or, or_true, or_false, false_or, not_true_eq_false, not_false_eq_true, zarr, ne_eq, hK, e1, e2, e3, hK1, h181, h271, e4]
  · rw [g2, ← hM1]
    exact ⟨rfl, rfl, rfl, fun b h1 _ _ _ => by simp (disch := omega) only [zI_ne], fun j h1 h2 => by simp (disch := omega) only [zI_sI, iteF], fun _ _ _ _ => rfl, fun j _ => ⟨rfl, rfl, rfl⟩, fun _ _ => ⟨rfl, rfl⟩⟩
theorem m_op_par {d L w N l n i : Nat} {β : Nat → Nat} {pt : Nat → Int64} {M : zM} {x : Lv} (hd : 3 ≤ d) (hk : tkOk (tok β N) N) (hl : l + 1 < 10) (h : MG L w N β pt l n i x M) (h40 : (tok β N i).1 = 40) (hn : n < 8) : ∃ M', fMc (l + 1) M M' ∧ zK M' 146 = (11, 52) ∧ (((tok β N (tok β N i).2.2.2).1 = 3 ∧ MF (1, (tok β N (tok β N i).2.2.2).2.2.1) M' ∧ zG d n_Mo_readOperand 2 [some (.ref 146), some (.int (nI 1))] [] M = some (none, M')) ∨ ((tok β N (tok β N i).2.2.2).1 ≠ 3 ∧ MG L w N β pt (l + 1) (n + 1) (tok β N i).2.2.2 (none, none, false) M' ∧ zG d n_Mo_readOperand 2 [some (.ref 146), some (.int (nI 1))] [] M = zG d n_Mo_readOperand 2 [some (.ref 146), some (.int (nI 1))] [] M')) := by
  obtain ⟨hE, hm, h3, hi, h27, h20, hv⟩ := h
  have hK : zK M 146 = (11, 52) := by rw [hE.1.2.1]; rfl
  obtain ⟨c18, c15, c16⟩ := mTok_ok hm h3
  have e1 := m_isSign (d := d) (c := 33) (by omega) hE hk hm h3 hi (by omega) (by omega)
  rw [if_neg (by omega)] at e1
  have e2 := m_isSign (d := d) (c := 40) (by omega) hE hk hm h3 hi (by omega) (by omega)
  rw [if_pos h40] at e2
  obtain ⟨d, rfl, hd1⟩ := zdep (show 2 + 1 ≤ d by omega)
  have f0 : fMc (l + 1) M (zsI M 146 20 (nI (n + 1))) := ⟨rfl, rfl, rfl, fun b h1 _ _ _ => zI_ne h1, fun j h1 h2 => by rw [zI_sI, if_neg (fun z => by omega)], fun _ _ _ _ => rfl, fun j _ => ⟨rfl, rfl, rfl⟩, fun _ _ => ⟨rfl, rfl⟩⟩
  have hE0 := EM_fr hE f0
  obtain ⟨M1, e3, f1, f1c, hE1, hm1⟩ := m_adv (d := d) (D := l + 1) (M := zsI M 146 20 (nI (n + 1))) (by omega) hE0 hk hm h3 hi
  have hK1 : zK M1 146 = (11, 52) := by rw [hE1.1.2.1]; rfl
  have h271 : zI M1 146 27 = nI l := by rw [f1.2.2.2.2.2 27 (by omega)]; exact h27
  have h201 : zI M1 146 20 = nI (n + 1) := by rw [f1.2.2.2.2.2 20 (by omega)]; rfl
  have e4 : zV (d + 1) n_Mo_nests [.ref 146] M = some (none, M1) := by
    have er := m_requires_t (d := d) (x := 4) (M := M) (by omega)
    rw [ze_Mo_nests]
    unfold zx_Mo_nests
    clear hE hm hv hk e1 e2 f0 hE0 f1 f1c hE1 hm1
    simp (disch := omega) only [il, nI_add, nI_mul, nI_sub, nI_div, nI_rem, nI_N, i32_lt, i32_le, nI_toInt, nI_subI, nI_clamp, zinT, zifT, iteT, iteF, zQ, zS, zkc, zI_sI, zL_sL, zI_wI, zL_wL, Nat.reduceEqDiff, Nat.reduceAdd, Nat.reduceMul, Nat.reduceLT, Nat.reduceLeDiff, reduceIte, eq_self, and_self, true_and, and_true, false_and, and_false, true_or, or_true, or_false, false_or, not_true_eq_false, not_false_eq_true, zarr, ne_eq, hK, h20, er, e3]
  have fA : fMc (l + 1) M M1 := f0.trans f1c (Nat.le_refl _)
  by_cases hb : (tok β N (tok β N i).2.2.2).1 = 3
  · obtain ⟨b1, b2⟩ := mTok_bad hm1 hb
    obtain ⟨M', e5, g1, g2⟩ := m_op_78b (d := d + 1) (by omega) hK1 b1 (by omega) (by omega) h271
    refine ⟨M', ?_, by rw [g2]; exact hK1, Or.inl ⟨hb, ⟨Nat.zero_lt_one, (show 1 < 10 by decide), (g1 18 (by decide)).trans b1, (g1 19 (by decide)).trans b2⟩, ?_⟩⟩
    · rw [g2]
      exact fA.trans (D' := l + 1) ⟨rfl, rfl, rfl, fun b h1 _ _ _ => zI_ne h1, fun j h1 h2 => by rw [zI_sI, if_neg (fun z => h2 z.2)], fun _ _ _ _ => rfl, fun j _ => ⟨rfl, rfl, rfl⟩, fun _ _ => ⟨rfl, rfl⟩⟩ (Nat.le_refl _)
    · rw [zg_Mo_readOperand_2]
      unfold zx_Mo_readOperand_2
      clear hE hm hv hk g1 g2 f0 hE0 f1 f1c hE1 hm1 fA
      simp (disch := omega) only [il, nI_add, nI_mul, nI_sub, nI_div, nI_rem, nI_N, i32_lt, i32_le, nI_toInt, nI_subI, nI_clamp, zinT, zifT, iteT, iteF, zQ, zS, zkc, zI_sI, zL_sL, zI_wI, zL_wL, Nat.reduceEqDiff, Nat.reduceAdd, Nat.reduceMul, Nat.reduceLT, Nat.reduceLeDiff, reduceIte, eq_self, and_self, true_and, and_true, false_and, and_false, true_or, or_true, or_false, false_or, not_true_eq_false, not_false_eq_true, zarr, ne_eq, hK, e1, e2, e4, hK1, b1, h271, e5]
  · obtain ⟨z18, z15, z16⟩ := mTok_ok hm1 hb
    have f2 : fMc (l + 1) M1 (zsI (zsI (zsI (zsI M1 146 27 (nI (l + 1))) 161 (l + 1) (nI 0)) 162 (l + 1) (nI 0)) 163 (l + 1) (nI 0)) := ⟨rfl, rfl, rfl, fun b h1 h2 h3 h4 => by rw [zI_ne h4, zI_ne h3, zI_ne h2, zI_ne h1], fun j h1 h2 => by rw [zI_ne (by omega), zI_ne (by omega), zI_ne (by omega), zI_sI, if_neg (fun z => h2 z.2)], fun _ _ _ _ => rfl, fun j hj => ⟨by rw [zI_ne (by omega), zI_ne (by omega), zI_sI, if_neg (fun z => by omega), zI_ne (by omega)], by rw [zI_ne (by omega), zI_sI, if_neg (fun z => by omega), zI_ne (by omega), zI_ne (by omega)], by rw [zI_sI, if_neg (fun z => by omega), zI_ne (by omega), zI_ne (by omega), zI_ne (by omega)]⟩, fun _ _ => ⟨rfl, rfl⟩⟩
    have e5 := m_opensDepth (d := d + 1) (l := l + 1) (M := zsI M1 146 27 (nI (l + 1))) (by omega) (hE1.1.sI _ _ _) (by rw [zI_sI, if_pos ⟨rfl, rfl⟩]) (by omega)
    refine ⟨_, fA.trans f2 (Nat.le_refl _), hK1, Or.inr ⟨hb, ⟨EM_fr hE1 f2, mTok_I hm1 (fun j _ _ => by rw [zI_ne (by omega), zI_ne (by omega), zI_ne (by omega), zI_sI, if_neg (fun z => by omega)]), hb, (hk i hi).1, ?_, ?_, ?_⟩, ?_⟩⟩
    · rw [zI_ne (by omega), zI_ne (by omega), zI_ne (by omega), zI_sI, if_pos ⟨rfl, rfl⟩]
    · rw [zI_ne (by omega), zI_ne (by omega), zI_ne (by omega), zI_sI, if_neg (fun z => by omega)]; exact h201
    · refine ⟨by rw [zI_ne (by omega), zI_ne (by omega), zI_sI, if_pos ⟨rfl, rfl⟩]; rfl, fun t ht => absurd ht (by simp), by rw [zI_ne (by omega), zI_sI, if_pos ⟨rfl, rfl⟩]; rfl, fun t ht => absurd ht (by simp), by rw [zI_sI, if_pos ⟨rfl, rfl⟩]; rfl⟩
    · rw [zg_Mo_readOperand_2]
      unfold zx_Mo_readOperand_2
      have e6 : zG (d + 1) n_Mo_readOperand 78 [some (.ref 146), none] [.int (nI 1), .int (nI l), .ref 146] M1 = zG (d + 1) n_Mo_readOperand 2 [some (.ref 146), some (.int (nI 1))] [] (zsI (zsI (zsI (zsI M1 146 27 (nI (l + 1))) 161 (l + 1) (nI 0)) 162 (l + 1) (nI 0)) 163 (l + 1) (nI 0)) := by
        rw [zg_Mo_readOperand_78]
        unfold zx_Mo_readOperand_78
        clear hE hm hv hk f0 hE0 f1 f1c hE1 hm1 fA f2 e1 e2 e3 e4
        simp (disch := omega) only [il, nI_add, nI_mul, nI_sub, nI_div, nI_rem, nI_N, i32_lt, i32_le, nI_toInt, nI_subI, nI_clamp, zinT, zifT, iteT, iteF, zQ, zS, zkc, zI_sI, zL_sL, zI_wI, zL_wL, Nat.reduceEqDiff, Nat.reduceAdd, Nat.reduceMul, Nat.reduceLT, Nat.reduceLeDiff, reduceIte, eq_self, and_self, true_and, and_true, false_and, and_false, true_or, or_true, or_false, false_or, not_true_eq_false, not_false_eq_true, zarr, ne_eq, mo_flag (show 1 ≤ d + 1 by omega), hK1, z18, e5]
      clear hE hm hv hk f0 hE0 f1 f1c hE1 hm1 fA f2
      simp (disch := omega) only [il, nI_add, nI_mul, nI_sub, nI_div, nI_rem, nI_N, i32_lt, i32_le, nI_toInt, nI_subI, nI_clamp, zinT, zifT, iteT, iteF, zQ, zS, zkc, zI_sI, zL_sL, zI_wI, zL_wL, Nat.reduceEqDiff, Nat.reduceAdd, Nat.reduceMul, Nat.reduceLT, Nat.reduceLeDiff, reduceIte, eq_self, and_self, true_and, and_true, false_and, and_false, true_or, or_true, or_false, false_or, not_true_eq_false, not_false_eq_true, zarr, ne_eq, hK, e1, e2, e4, hK1, z18, h271, e6]
