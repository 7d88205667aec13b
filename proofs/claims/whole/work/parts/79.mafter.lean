/-! the reference, behind an operand -/
/-- at the point 32, nothing to close -/
theorem m_c32_0 {d L w N l n i wh : Nat} {β : Nat → Nat} {pt : Nat → Int64} {M : zM} {x : Lv} (hd : 2 ≤ d) (hk : tkOk (tok β N) N) (hl : l < 10) (h : MG L w N β pt l n i x M) (hno : l = 0 ∨ (tok β N i).1 ≠ 41) : zG d n_Mo_readCondition 32 [some (.ref 146), some (.int (nI wh)), none, some (.int (nI 1)), none] [] M = zG d n_Mo_readCondition 140 [some (.ref 146), some (.int (nI wh)), none, none, none] [] M := by
  obtain ⟨hE, hm, h3, hi, h27, h20, hv⟩ := h
  have hK : zK M 146 = (11, 52) := by rw [hE.1.2.1]; rfl
  obtain ⟨c18, c15, c16⟩ := mTok_ok hm h3
  have e0 : zG d n_Mo_readCondition 32 [some (.ref 146), some (.int (nI wh)), none, some (.int (nI 0)), none] [] M = zG d n_Mo_readCondition 140 [some (.ref 146), some (.int (nI wh)), none, none, none] [] M := by
    rw [zg_Mo_readCondition_32]
    unfold zx_Mo_readCondition_32
    clear hE hm hv hk
    simp (disch := omega) only [il, nI_add, nI_mul, nI_sub, nI_div, nI_rem, nI_N, i32_lt, i32_le, nI_toInt, nI_subI, nI_clamp, zinT, zifT, iteT, iteF, zQ, zS, zkc, zI_sI, zL_sL, zI_wI, zL_wL, Nat.reduceEqDiff, Nat.reduceAdd, Nat.reduceMul, Nat.reduceLT, Nat.reduceLeDiff, reduceIte, eq_self, and_self, true_and, and_true, false_and, and_false, true_or, or_true, or_false, false_or, not_true_eq_false, not_false_eq_true, zarr, ne_eq]
  have e1 := m_isSign (d := d) (c := 41) (by omega) hE hk hm h3 hi (by omega) (by omega)
  rw [zg_Mo_readCondition_32]
  unfold zx_Mo_readCondition_32
  by_cases hl0 : l = 0
  · subst hl0
    clear hE hm hv hk e1 hno
    simp (disch := omega) only [il, nI_add, nI_mul, nI_sub, nI_div, nI_rem, nI_N, i32_lt, i32_le, nI_toInt, nI_subI, nI_clamp, zinT, zifT, iteT, iteF, zQ, zS, zkc, zI_sI, zL_sL, zI_wI, zL_wL, Nat.reduceEqDiff, Nat.reduceAdd, Nat.reduceMul, Nat.reduceLT, Nat.reduceLeDiff, reduceIte, eq_self, and_self, true_and, and_true, false_and, and_false, true_or, or_true, or_false, false_or, not_true_eq_false, not_false_eq_true, zarr, ne_eq, hK, c18, h27, e0]
  · have hn41 : (tok β N i).1 ≠ 41 := hno.resolve_left hl0
    rw [if_neg hn41] at e1
    clear hE hm hv hk hno
    simp (disch := omega) only [il, nI_add, nI_mul, nI_sub, nI_div, nI_rem, nI_N, i32_lt, i32_le, nI_toInt, nI_subI, nI_clamp, zinT, zifT, iteT, iteF, zQ, zS, zkc, zI_sI, zL_sL, zI_wI, zL_wL, Nat.reduceEqDiff, Nat.reduceAdd, Nat.reduceMul, Nat.reduceLT, Nat.reduceLeDiff, reduceIte, eq_self, and_self, true_and, and_true, false_and, and_false, true_or, or_true, or_false, false_or, not_true_eq_false, not_false_eq_true, zarr, ne_eq, hK, c18, h27, e1, e0]
/-- no & and no | goes on -/
theorem m_c140_no {d L w N l n i wh : Nat} {β : Nat → Nat} {pt : Nat → Int64} {M : zM} {x : Lv} (hd : 2 ≤ d) (hk : tkOk (tok β N) N) (hl : l < 10) (hw : wh < 2) (h : MG L w N β pt l n i x M) (hno : (l = 0 ∧ wh = 0) ∨ ((tok β N i).1 ≠ 38 ∧ (tok β N i).1 ≠ 124)) : zG d n_Mo_readCondition 140 [some (.ref 146), some (.int (nI wh)), none, none, none] [] M = zG d n_Mo_readCondition 22 [some (.ref 146), some (.int (nI wh)), some (.int (nI 0)), none, none] [] M := by
  obtain ⟨hE, hm, h3, hi, h27, h20, hv⟩ := h
  have hK : zK M 146 = (11, 52) := by rw [hE.1.2.1]; rfl
  have e1 := m_isSign (d := d) (c := 38) (by omega) hE hk hm h3 hi (by omega) (by omega)
  have e2 := m_isSign (d := d) (c := 124) (by omega) hE hk hm h3 hi (by omega) (by omega)
  rw [zg_Mo_readCondition_140]
  unfold zx_Mo_readCondition_140
  by_cases h0 : l = 0 ∧ wh = 0
  · obtain ⟨rfl, rfl⟩ := h0
    clear hE hm hv hk e1 e2 hno
    simp (disch := omega) only [il, nI_add, nI_mul, nI_sub, nI_div, nI_rem, nI_N, i32_lt, i32_le, nI_toInt, nI_subI, nI_clamp, zinT, zifT, iteT, iteF, zQ, zS, zkc, zI_sI, zL_sL, zI_wI, zL_wL, Nat.reduceEqDiff, Nat.reduceAdd, Nat.reduceMul, Nat.reduceLT, Nat.reduceLeDiff, reduceIte, eq_self, and_self, true_and, and_true, false_and, and_false, true_or, or_true, or_false, false_or, not_true_eq_false, not_false_eq_true, zarr, ne_eq, hK, h27, m_c186_0]
  · obtain ⟨n1, n2⟩ := hno.resolve_left h0
    rw [if_neg n1] at e1
    rw [if_neg n2] at e2
    clear hE hm hv hk hno
    by_cases hl0 : l = 0
    · have : wh = 1 := by omega
      subst hl0
      subst this
      simp (disch := omega) only [il, nI_add, nI_mul, nI_sub, nI_div, nI_rem, nI_N, i32_lt, i32_le, nI_toInt, nI_subI, nI_clamp, zinT, zifT, iteT, iteF, zQ, zS, zkc, zI_sI, zL_sL, zI_wI, zL_wL, Nat.reduceEqDiff, Nat.reduceAdd, Nat.reduceMul, Nat.reduceLT, Nat.reduceLeDiff, reduceIte, eq_self, and_self, true_and, and_true, false_and, and_false, true_or, or_true, or_false, false_or, not_true_eq_false, not_false_eq_true, zarr, ne_eq, hK, h27, e1, e2, m_c186_0]
    · simp (disch := omega) only [il, nI_add, nI_mul, nI_sub, nI_div, nI_rem, nI_N, i32_lt, i32_le, nI_toInt, nI_subI, nI_clamp, zinT, zifT, iteT, iteF, zQ, zS, zkc, zI_sI, zL_sL, zI_wI, zL_wL, Nat.reduceEqDiff, Nat.reduceAdd, Nat.reduceMul, Nat.reduceLT, Nat.reduceLeDiff, reduceIte, eq_self, and_self, true_and, and_true, false_and, and_false, true_or, or_true, or_false, false_or, not_true_eq_false, not_false_eq_true, zarr, ne_eq, hK, h27, e1, e2, m_c186_0]
/-- & or | -/
theorem m_c140_yes {d L w N l n i wh : Nat} {β : Nat → Nat} {pt : Nat → Int64} {M : zM} {x : Lv} (hd : 2 ≤ d) (hk : tkOk (tok β N) N) (hl : l < 10) (hw : wh < 2) (h : MG L w N β pt l n i x M) (hin : l ≠ 0 ∨ wh = 1) (hop : (tok β N i).1 = 38 ∨ (tok β N i).1 = 124) : zG d n_Mo_readCondition 140 [some (.ref 146), some (.int (nI wh)), none, none, none] [] M = zG d n_Mo_readCondition 186 [some (.ref 146), some (.int (nI wh)), none, none, none] [.int (nI 1)] M := by
  obtain ⟨hE, hm, h3, hi, h27, h20, hv⟩ := h
  have hK : zK M 146 = (11, 52) := by rw [hE.1.2.1]; rfl
  have e1 := m_isSign (d := d) (c := 38) (by omega) hE hk hm h3 hi (by omega) (by omega)
  have e2 := m_isSign (d := d) (c := 124) (by omega) hE hk hm h3 hi (by omega) (by omega)
  rw [zg_Mo_readCondition_140]
  unfold zx_Mo_readCondition_140
  clear hE hm hv hk
  rcases hop with h38 | h124
  · rw [if_pos h38] at e1
    clear e2
    by_cases hl0 : l = 0
    · have : wh = 1 := hin.resolve_left (fun z => z hl0)
      subst hl0
      subst this
      simp (disch := omega) only [il, nI_add, nI_mul, nI_sub, nI_div, nI_rem, nI_N, i32_lt, i32_le, nI_toInt, nI_subI, nI_clamp, zinT, zifT, iteT, iteF, zQ, zS, zkc, zI_sI, zL_sL, zI_wI, zL_wL, Nat.reduceEqDiff, Nat.reduceAdd, Nat.reduceMul, Nat.reduceLT, Nat.reduceLeDiff, reduceIte, eq_self, and_self, true_and, and_true, false_and, and_false, true_or, or_true, or_false, false_or, not_true_eq_false, not_false_eq_true, zarr, ne_eq, hK, h27, e1]
    · simp (disch := omega) only [il, nI_add, nI_mul, nI_sub, nI_div, nI_rem, nI_N, i32_lt, i32_le, nI_toInt, nI_subI, nI_clamp, zinT, zifT, iteT, iteF, zQ, zS, zkc, zI_sI, zL_sL, zI_wI, zL_wL, Nat.reduceEqDiff, Nat.reduceAdd, Nat.reduceMul, Nat.reduceLT, Nat.reduceLeDiff, reduceIte, eq_self, and_self, true_and, and_true, false_and, and_false, true_or, or_true, or_false, false_or, not_true_eq_false, not_false_eq_true, zarr, ne_eq, hK, h27, e1]
  · rw [if_neg (show ¬ (tok β N i).1 = 38 by omega)] at e1
    rw [if_pos h124] at e2
    by_cases hl0 : l = 0
    · have : wh = 1 := hin.resolve_left (fun z => z hl0)
      subst hl0
      subst this
      simp (disch := omega) only [il, nI_add, nI_mul, nI_sub, nI_div, nI_rem, nI_N, i32_lt, i32_le, nI_toInt, nI_subI, nI_clamp, zinT, zifT, iteT, iteF, zQ, zS, zkc, zI_sI, zL_sL, zI_wI, zL_wL, Nat.reduceEqDiff, Nat.reduceAdd, Nat.reduceMul, Nat.reduceLT, Nat.reduceLeDiff, reduceIte, eq_self, and_self, true_and, and_true, false_and, and_false, true_or, or_true, or_false, false_or, not_true_eq_false, not_false_eq_true, zarr, ne_eq, hK, h27, e1, e2]
    · simp (disch := omega) only [il, nI_add, nI_mul, nI_sub, nI_div, nI_rem, nI_N, i32_lt, i32_le, nI_toInt, nI_subI, nI_clamp, zinT, zifT, iteT, iteF, zQ, zS, zkc, zI_sI, zL_sL, zI_wI, zL_wL, Nat.reduceEqDiff, Nat.reduceAdd, Nat.reduceMul, Nat.reduceLT, Nat.reduceLeDiff, reduceIte, eq_self, and_self, true_and, and_true, false_and, and_false, true_or, or_true, or_false, false_or, not_true_eq_false, not_false_eq_true, zarr, ne_eq, hK, h27, e1, e2]
theorem m_c22_1 {d wh : Nat} {M : zM} (hK : zK M 146 = (11, 52)) : zG (d + 1) n_Mo_readCondition 22 [some (.ref 146), some (.int (nI wh)), some (.int (nI 1)), none, none] [] M = opF d wh M := by
  rw [zg_Mo_readCondition_22]
  unfold zx_Mo_readCondition_22 opF
  rw [if_neg (by decide), zif_t (by rw [hK]), ze_Mo_readOperand]
  rfl
/-- & goes on with the next operand -/
theorem m_c_and {d L w N l n i wh : Nat} {β : Nat → Nat} {pt : Nat → Int64} {M : zM} {o : Option T4} {t : T4} (hd : 2 ≤ d) (hk : tkOk (tok β N) N) (hl : l < 10) (hw : wh < 2) (h : MG L w N β pt l n i (o, some t, false) M) (hin : l ≠ 0 ∨ wh = 1) (hop : (tok β N i).1 = 38) : ∃ M', fMc l M M' ∧ zK M' 146 = (11, 52) ∧ (((tok β N (tok β N i).2.2.2).1 = 3 ∧ MF (1, (tok β N (tok β N i).2.2.2).2.2.1) M' ∧ zG (d + 1) n_Mo_readCondition 32 [some (.ref 146), some (.int (nI wh)), none, some (.int (nI 1)), none] [] M = some (none, M')) ∨ ((tok β N (tok β N i).2.2.2).1 ≠ 3 ∧ MG L w N β pt l n (tok β N i).2.2.2 (o, some t, false) M' ∧ zG (d + 1) n_Mo_readCondition 32 [some (.ref 146), some (.int (nI wh)), none, some (.int (nI 1)), none] [] M = opF d wh M')) := by
  rw [m_c32_0 (by omega) hk hl h (Or.inr (by omega)), m_c140_yes (by omega) hk hl hw h hin (Or.inl hop)]
  obtain ⟨hE, hm, h3, hi, h27, h20, hv⟩ := h
  have hK : zK M 146 = (11, 52) := by rw [hE.1.2.1]; rfl
  have e2 := m_isSign (d := d + 1) (c := 124) (by omega) hE hk hm h3 hi (by omega) (by omega)
  rw [if_neg (by omega)] at e2
  obtain ⟨M1, e3, f1, f1c, hE1, hm1⟩ := m_adv (d := d + 1) (D := l) (by omega) hE hk hm h3 hi
  have hK1 : zK M1 146 = (11, 52) := by rw [hE1.1.2.1]; rfl
  refine ⟨M1, f1c, hK1, ?_⟩
  rw [zg_Mo_readCondition_186]
  unfold zx_Mo_readCondition_186
  by_cases hb : (tok β N (tok β N i).2.2.2).1 = 3
  · obtain ⟨b1, b2⟩ := mTok_bad hm1 hb
    have e4 := m_c22_bad (d := d + 1) (wh := wh) hK1 b1 (by omega) (by omega)
    refine Or.inl ⟨hb, ⟨Nat.zero_lt_one, (show 1 < 10 by decide), b1, b2⟩, ?_⟩
    clear hE hm hv hk f1 f1c hE1 hm1
    simp (disch := omega) only [il, nI_add, nI_mul, nI_sub, nI_div, nI_rem, nI_N, i32_lt, i32_le, nI_toInt, nI_subI, nI_clamp, zinT, zifT, iteT, iteF, zQ, zS, zkc, zI_sI, zL_sL, zI_wI, zL_wL, Nat.reduceEqDiff, Nat.reduceAdd, Nat.reduceMul, Nat.reduceLT, Nat.reduceLeDiff, reduceIte, eq_self, and_self, true_and, and_true, false_and, and_false, true_or, or_true, or_false, false_or, not_true_eq_false, not_false_eq_true, zarr, ne_eq, hK, e2, e3, hK1, b1, e4]
  · obtain ⟨z18, z15, z16⟩ := mTok_ok hm1 hb
    refine Or.inr ⟨hb, ⟨hE1, hm1, hb, (hk i hi).1, by rw [f1.2.2.2.2.2 27 (by omega)]; exact h27, by rw [f1.2.2.2.2.2 20 (by omega)]; exact h20, lvl_fMo hv f1⟩, ?_⟩
    rw [← m_c22_1 hK1]
    clear hE hm hv hk f1 f1c hE1 hm1
    simp (disch := omega) only [il, nI_add, nI_mul, nI_sub, nI_div, nI_rem, nI_N, i32_lt, i32_le, nI_toInt, nI_subI, nI_clamp, zinT, zifT, iteT, iteF, zQ, zS, zkc, zI_sI, zL_sL, zI_wI, zL_wL, Nat.reduceEqDiff, Nat.reduceAdd, Nat.reduceMul, Nat.reduceLT, Nat.reduceLeDiff, reduceIte, eq_self, and_self, true_and, and_true, false_and, and_false, true_or, or_true, or_false, false_or, not_true_eq_false, not_false_eq_true, zarr, ne_eq, hK, e2, e3, hK1, z18]
/-- | goes on with the next operand -/
theorem m_c_or {d L w N l n i wh : Nat} {β : Nat → Nat} {pt : Nat → Int64} {M : zM} {o : Option T4} {t : T4} (hd : 2 ≤ d) (hk : tkOk (tok β N) N) (hl : l < 10) (hw : wh < 2) (h : MG L w N β pt l n i (o, some t, false) M) (hin : l ≠ 0 ∨ wh = 1) (hop : (tok β N i).1 = 124) : ∃ M', fMc l M M' ∧ zK M' 146 = (11, 52) ∧ (((tok β N (tok β N i).2.2.2).1 = 3 ∧ MF (1, (tok β N (tok β N i).2.2.2).2.2.1) M' ∧ zG (d + 1) n_Mo_readCondition 32 [some (.ref 146), some (.int (nI wh)), none, some (.int (nI 1)), none] [] M = some (none, M')) ∨ ((tok β N (tok β N i).2.2.2).1 ≠ 3 ∧ MG L w N β pt l n (tok β N i).2.2.2 (some (orO o t), none, false) M' ∧ zG (d + 1) n_Mo_readCondition 32 [some (.ref 146), some (.int (nI wh)), none, some (.int (nI 1)), none] [] M = opF d wh M')) := by
  rw [m_c32_0 (by omega) hk hl h (Or.inr (by omega)), m_c140_yes (by omega) hk hl hw h hin (Or.inr hop)]
  obtain ⟨hE, hm, h3, hi, h27, h20, hv⟩ := h
  have hK : zK M 146 = (11, 52) := by rw [hE.1.2.1]; rfl
  have e2 := m_isSign (d := d + 1) (c := 124) (by omega) hE hk hm h3 hi (by omega) (by omega)
  rw [if_pos hop] at e2
  obtain ⟨M0, e5, f0, hv0⟩ := m_joinsOrs (d := d + 1) (by omega) hE.1 h27 hl hv
  have hE0 := EM_fr hE f0.mc
  have hI0 : zI M0 146 = zI M 146 := f0.2.2.2.1 146 (by omega) (by omega) (by omega)
  have hK0 : zK M0 146 = (11, 52) := by rw [hE0.1.2.1]; rfl
  obtain ⟨M1, e3, f1, f1c, hE1, hm1⟩ := m_adv (d := d + 1) (D := l) (by omega) hE0 hk (mTok_I hm (fun j _ _ => by rw [hI0])) h3 hi
  have hK1 : zK M1 146 = (11, 52) := by rw [hE1.1.2.1]; rfl
  refine ⟨M1, f0.mc.trans f1c (Nat.le_refl l), hK1, ?_⟩
  rw [zg_Mo_readCondition_186]
  unfold zx_Mo_readCondition_186
  by_cases hb : (tok β N (tok β N i).2.2.2).1 = 3
  · obtain ⟨b1, b2⟩ := mTok_bad hm1 hb
    have e4 := m_c22_bad (d := d + 1) (wh := wh) hK1 b1 (by omega) (by omega)
    refine Or.inl ⟨hb, ⟨Nat.zero_lt_one, (show 1 < 10 by decide), b1, b2⟩, ?_⟩
    clear hE hm hv hk f1 f1c hE1 hm1 f0 hv0 hE0
    simp (disch := omega) only [il, nI_add, nI_mul, nI_sub, nI_div, nI_rem, nI_N, i32_lt, i32_le, nI_toInt, nI_subI, nI_clamp, zinT, zifT, iteT, iteF, zQ, zS, zkc, zI_sI, zL_sL, zI_wI, zL_wL, Nat.reduceEqDiff, Nat.reduceAdd, Nat.reduceMul, Nat.reduceLT, Nat.reduceLeDiff, reduceIte, eq_self, and_self, true_and, and_true, false_and, and_false, true_or, or_true, or_false, false_or, not_true_eq_false, not_false_eq_true, zarr, ne_eq, hK, e2, e5, hK0, e3, hK1, b1, e4]
  · obtain ⟨z18, z15, z16⟩ := mTok_ok hm1 hb
    refine Or.inr ⟨hb, ⟨hE1, hm1, hb, (hk i hi).1, by rw [f1.2.2.2.2.2 27 (by omega), hI0]; exact h27, by rw [f1.2.2.2.2.2 20 (by omega), hI0]; exact h20, lvl_fMo hv0 f1⟩, ?_⟩
    rw [← m_c22_1 hK1]
    clear hE hm hv hk f1 f1c hE1 hm1 f0 hv0 hE0
    simp (disch := omega) only [il, nI_add, nI_mul, nI_sub, nI_div, nI_rem, nI_N, i32_lt, i32_le, nI_toInt, nI_subI, nI_clamp, zinT, zifT, iteT, iteF, zQ, zS, zkc, zI_sI, zL_sL, zI_wI, zL_wL, Nat.reduceEqDiff, Nat.reduceAdd, Nat.reduceMul, Nat.reduceLT, Nat.reduceLeDiff, reduceIte, eq_self, and_self, true_and, and_true, false_and, and_false, true_or, or_true, or_false, false_or, not_true_eq_false, not_false_eq_true, zarr, ne_eq, hK, e2, e5, hK0, e3, hK1, z18]
