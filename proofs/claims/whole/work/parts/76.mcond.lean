/-! the reference reads a condition -/
def MG (L w N : Nat) (β : Nat → Nat) (pt : Nat → Int64) (l n i : Nat) (x : Lv) (M : zM) : Prop := EM L w N β pt M ∧ mTok (tok β N i) M ∧ (tok β N i).1 ≠ 3 ∧ i ≤ N ∧ zI M 146 27 = nI l ∧ zI M 146 20 = nI n ∧ lvl M l x
def MF (e : Nat × Nat) (M : zM) : Prop := 0 < e.1 ∧ e.1 < 10 ∧ zI M 146 18 = nI e.1 ∧ zI M 146 19 = nI e.2
theorem m_c22_bad {d f wh : Nat} {M : zM} (hK : zK M 146 = (11, 52)) (h18 : zI M 146 18 = nI f) (hf : 0 < f) (hf2 : f < 100) : zG d n_Mo_readCondition 22 [some (.ref 146), some (.int (nI wh)), some (.int (nI 0)), none, none] [] M = some (none, M) := by
  rw [zg_Mo_readCondition_22]
  unfold zx_Mo_readCondition_22
  simp (disch := omega) only [il, nI_add, nI_mul, nI_sub, nI_div, nI_rem, nI_N, i32_lt, i32_le, nI_toInt, nI_subI, nI_clamp, zinT, zifT, iteT, iteF, zQ, zS, zkc, zI_sI, zL_sL, zI_wI, zL_wL, Nat.reduceEqDiff, Nat.reduceAdd, Nat.reduceMul, Nat.reduceLT, Nat.reduceLeDiff, reduceIte, eq_self, and_self, true_and, and_true, false_and, and_false, true_or, or_true, or_false, false_or, not_true_eq_false, not_false_eq_true, zarr, ne_eq, hK, h18]
theorem m_c186_0 {d wh : Nat} {M : zM} : zG d n_Mo_readCondition 186 [some (.ref 146), some (.int (nI wh)), none, none, none] [.int (nI 0)] M = zG d n_Mo_readCondition 22 [some (.ref 146), some (.int (nI wh)), some (.int (nI 0)), none, none] [] M := by
  rw [zg_Mo_readCondition_186]
  unfold zx_Mo_readCondition_186
  simp (disch := omega) only [il, nI_add, nI_mul, nI_sub, nI_div, nI_rem, nI_N, i32_lt, i32_le, nI_toInt, nI_subI, nI_clamp, zinT, zifT, iteT, iteF, zQ, zS, zkc, zI_sI, zL_sL, zI_wI, zL_wL, Nat.reduceEqDiff, Nat.reduceAdd, Nat.reduceMul, Nat.reduceLT, Nat.reduceLeDiff, reduceIte, eq_self, and_self, true_and, and_true, false_and, and_false, true_or, or_true, or_false, false_or, not_true_eq_false, not_false_eq_true, zarr, ne_eq]
theorem m_c140_bad {d f wh : Nat} {M : zM} (hd : 1 ≤ d) (hK : zK M 146 = (11, 52)) (h18 : zI M 146 18 = nI f) (hf : 0 < f) (hf2 : f < 100) (hw : wh < 2) : zG d n_Mo_readCondition 140 [some (.ref 146), some (.int (nI wh)), none, none, none] [] M = some (none, M) := by
  have e1 := fun c => m_isSign_b (d := d) (c := c) hd hK h18 hf hf2
  have e2 := m_c22_bad (d := d) (wh := wh) hK h18 hf hf2
  rw [zg_Mo_readCondition_140]
  unfold zx_Mo_readCondition_140
  have : wh = 0 ∨ wh = 1 := by omega
  by_cases h27 : 0 < (zI M 146 27).toInt
  · simp (disch := omega) only [il, nI_add, nI_mul, nI_sub, nI_div, nI_rem, nI_N, i32_lt, i32_le, nI_toInt, nI_subI, nI_clamp, zinT, zifT, iteT, iteF, zQ, zS, zkc, zI_sI, zL_sL, zI_wI, zL_wL, Nat.reduceEqDiff, Nat.reduceAdd, Nat.reduceMul, Nat.reduceLT, Nat.reduceLeDiff, reduceIte, eq_self, and_self, true_and, and_true, false_and, and_false, true_or, or_true, or_false, false_or, not_true_eq_false, not_false_eq_true, zarr, ne_eq, hK, e1, m_c186_0, e2]
  · rcases this with rfl | rfl
    · simp (disch := omega) only [il, nI_add, nI_mul, nI_sub, nI_div, nI_rem, nI_N, i32_lt, i32_le, nI_toInt, nI_subI, nI_clamp, zinT, zifT, iteT, iteF, zQ, zS, zkc, zI_sI, zL_sL, zI_wI, zL_wL, Nat.reduceEqDiff, Nat.reduceAdd, Nat.reduceMul, Nat.reduceLT, Nat.reduceLeDiff, reduceIte, eq_self, and_self, true_and, and_true, false_and, and_false, true_or, or_true, or_false, false_or, not_true_eq_false, not_false_eq_true, zarr, ne_eq, hK, e1, m_c186_0, e2]
    · simp (disch := omega) only [il, nI_add, nI_mul, nI_sub, nI_div, nI_rem, nI_N, i32_lt, i32_le, nI_toInt, nI_subI, nI_clamp, zinT, zifT, iteT, iteF, zQ, zS, zkc, zI_sI, zL_sL, zI_wI, zL_wL, Nat.reduceEqDiff, Nat.reduceAdd, Nat.reduceMul, Nat.reduceLT, Nat.reduceLeDiff, reduceIte, eq_self, and_self, true_and, and_true, false_and, and_false, true_or, or_true, or_false, false_or, not_true_eq_false, not_false_eq_true, zarr, ne_eq, hK, e1, m_c186_0, e2]
theorem m_c32_bad {d f wh x3 : Nat} {M : zM} (hd : 1 ≤ d) (hK : zK M 146 = (11, 52)) (h18 : zI M 146 18 = nI f) (hf : 0 < f) (hf2 : f < 100) (hw : wh < 2) (hx : x3 < 2) : zG d n_Mo_readCondition 32 [some (.ref 146), some (.int (nI wh)), none, some (.int (nI x3)), none] [] M = some (none, M) := by
  have e2 := m_c140_bad (d := d) (wh := wh) hd hK h18 hf hf2 hw
  rw [zg_Mo_readCondition_32]
  unfold zx_Mo_readCondition_32
  have : x3 = 0 ∨ x3 = 1 := by omega
  rcases this with rfl | rfl
  · simp (disch := omega) only [il, nI_add, nI_mul, nI_sub, nI_div, nI_rem, nI_N, i32_lt, i32_le, nI_toInt, nI_subI, nI_clamp, zinT, zifT, iteT, iteF, zQ, zS, zkc, zI_sI, zL_sL, zI_wI, zL_wL, Nat.reduceEqDiff, Nat.reduceAdd, Nat.reduceMul, Nat.reduceLT, Nat.reduceLeDiff, reduceIte, eq_self, and_self, true_and, and_true, false_and, and_false, true_or, or_true, or_false, false_or, not_true_eq_false, not_false_eq_true, zarr, ne_eq, hK, h18, e2]
  · simp (disch := omega) only [il, nI_add, nI_mul, nI_sub, nI_div, nI_rem, nI_N, i32_lt, i32_le, nI_toInt, nI_subI, nI_clamp, zinT, zifT, iteT, iteF, zQ, zS, zkc, zI_sI, zL_sL, zI_wI, zL_wL, Nat.reduceEqDiff, Nat.reduceAdd, Nat.reduceMul, Nat.reduceLT, Nat.reduceLeDiff, reduceIte, eq_self, and_self, true_and, and_true, false_and, and_false, true_or, or_true, or_false, false_or, not_true_eq_false, not_false_eq_true, zarr, ne_eq, hK, h18, e2]
theorem m_op_bad {d f x1 : Nat} {M : zM} (hd : 1 ≤ d) (hK : zK M 146 = (11, 52)) (h18 : zI M 146 18 = nI f) (hf : 0 < f) (hf2 : f < 100) (hx : x1 < 2) : zG d n_Mo_readOperand 2 [some (.ref 146), some (.int (nI x1))] [] M = some (none, M) := by
  have e0 : zG d n_Mo_readOperand 2 [some (.ref 146), some (.int (nI 0))] [] M = some (none, M) := by
    have e3 := m_reads_b (d := d) hd hK h18 hf hf2
    rw [zg_Mo_readOperand_2]
    unfold zx_Mo_readOperand_2
    simp (disch := omega) only [il, nI_add, nI_mul, nI_sub, nI_div, nI_rem, nI_N, i32_lt, i32_le, nI_toInt, nI_subI, nI_clamp, zinT, zifT, iteT, iteF, zQ, zS, zkc, zI_sI, zL_sL, zI_wI, zL_wL, Nat.reduceEqDiff, Nat.reduceAdd, Nat.reduceMul, Nat.reduceLT, Nat.reduceLeDiff, reduceIte, eq_self, and_self, true_and, and_true, false_and, and_false, true_or, or_true, or_false, false_or, not_true_eq_false, not_false_eq_true, zarr, ne_eq, hK, h18, e3]
  have : x1 = 0 ∨ x1 = 1 := by omega
  rcases this with rfl | rfl
  · exact e0
  · have e1 := fun c => m_isSign_b (d := d) (c := c) hd hK h18 hf hf2
    rw [zg_Mo_readOperand_2]
    unfold zx_Mo_readOperand_2
    simp (disch := omega) only [il, nI_add, nI_mul, nI_sub, nI_div, nI_rem, nI_N, i32_lt, i32_le, nI_toInt, nI_subI, nI_clamp, zinT, zifT, iteT, iteF, zQ, zS, zkc, zI_sI, zL_sL, zI_wI, zL_wL, Nat.reduceEqDiff, Nat.reduceAdd, Nat.reduceMul, Nat.reduceLT, Nat.reduceLeDiff, reduceIte, eq_self, and_self, true_and, and_true, false_and, and_false, true_or, or_true, or_false, false_or, not_true_eq_false, not_false_eq_true, zarr, ne_eq, hK, e1, e0]
/-- the point from which an operand is read, and all behind it -/
noncomputable def opF (d wh : Nat) (M : zM) : zO := zbV (zG d n_Mo_readOperand 2 [some (.ref 146), some (.int (nI 1))] [] M) (fun M6 => zG (d + 1) n_Mo_readCondition 32 [some (.ref 146), some (.int (nI wh)), none, some (.int (nI 1)), none] [] M6)
theorem opF_bad {d wh : Nat} {M : zM} {e : Nat × Nat} (hd : 1 ≤ d) (hK : zK M 146 = (11, 52)) (h : MF e M) (hw : wh < 2) : opF d wh M = some (none, M) := by
  obtain ⟨h1, h2, h3, h4⟩ := h
  unfold opF
  rw [m_op_bad hd hK h3 h1 (by omega) (by omega), zbV_S, m_c32_bad (by omega) hK h3 h1 (by omega) hw (by omega)]
/-- the next token is read: a good one, or a fault -/
theorem m_adv {d L w N i D : Nat} {β : Nat → Nat} {pt : Nat → Int64} {M : zM} (hd : 2 ≤ d) (hE : EM L w N β pt M) (hk : tkOk (tok β N) N) (hm : mTok (tok β N i) M) (h3 : (tok β N i).1 ≠ 3) (hi : i ≤ N) : ∃ M', zV d n_Mo_reads [.ref 146] M = some (none, M') ∧ fMo M M' ∧ fMc D M M' ∧ EM L w N β pt M' ∧ mTok (tok β N (tok β N i).2.2.2) M' := by
  obtain ⟨c18, c15, c16⟩ := mTok_ok hm h3
  obtain ⟨M', e, f, hm'⟩ := m_reads hd hE.1 hE.2.1 (hk i hi).1 hm.1 c18
  exact ⟨M', e, f, f.mc, EM_fr hE (f.mc (D := D)), hm'⟩
theorem lvl_fMo {M M' : zM} {l : Nat} {x : Lv} (h : lvl M l x) (f : fMo M M') : lvl M' l x := by
  unfold lvl
  rw [f.2.2.2.2.1 161 (by omega), f.2.2.2.2.1 162 (by omega), f.2.2.2.2.1 163 (by omega), f.2.2.2.1]
  exact h
theorem m_op_not {d L w N l n i : Nat} {β : Nat → Nat} {pt : Nat → Int64} {M : zM} {o a : Option T4} {g : Bool} (hd : 2 ≤ d) (hk : tkOk (tok β N) N) (hl : l < 10) (h : MG L w N β pt l n i (o, a, g) M) (h33 : (tok β N i).1 = 33) : ∃ M', zG d n_Mo_readOperand 2 [some (.ref 146), some (.int (nI 1))] [] M = zG d n_Mo_readOperand 2 [some (.ref 146), some (.int (nI 1))] [] M' ∧ fMc l M M' ∧ zK M' 146 = (11, 52) ∧ (((tok β N (tok β N i).2.2.2).1 = 3 ∧ MF (1, (tok β N (tok β N i).2.2.2).2.2.1) M') ∨ ((tok β N (tok β N i).2.2.2).1 ≠ 3 ∧ MG L w N β pt l n (tok β N i).2.2.2 (o, a, !g) M')) := by
  obtain ⟨hE, hm, h3, hi, h27, h20, hv⟩ := h
  have hs := hE.1
  obtain ⟨hN, hK, hC, hMo, -⟩ := hs
  have e1 := m_isSign (d := d) (c := 33) hd hE hk hm h3 hi (by omega) (by omega)
  rw [if_pos h33] at e1
  obtain ⟨v1, v2, v3, v4, v5⟩ := hv
  simp only at v1 v2 v3 v4 v5
  have f0 : fMc l M (zsI M 163 l (nI (!g).toNat)) := ⟨rfl, rfl, rfl, fun b _ _ _ h4 => zI_ne h4, fun j _ _ => rfl, fun _ _ _ _ => rfl, fun j hj => ⟨rfl, rfl, by rw [zI_sI, if_neg (fun z => by omega)]⟩, fun _ _ => ⟨rfl, rfl⟩⟩
  have hE0 := EM_fr hE f0
  obtain ⟨M', e2, f1, f2, hE', hm'⟩ := m_adv (d := d) (D := l) (M := zsI M 163 l (nI (!g).toNat)) hd hE0 hk hm h3 hi
  refine ⟨M', ?_, f0.trans f2 (Nat.le_refl l), by rw [hE'.1.2.1]; rfl, ?_⟩
  · rw [zg_Mo_readOperand_2]
    unfold zx_Mo_readOperand_2
    clear hE hE0 hE' hm hm' f0 f1 f2 v2 v4 hk
    cases g
    · rw [Bool.toNat_false] at v5
      rw [Bool.not_false, Bool.toNat_true] at e2
      simp (disch := omega) only [il, nI_add, nI_mul, nI_sub, nI_div, nI_rem, nI_N, i32_lt, i32_le, nI_toInt, nI_subI, nI_clamp, zinT, zifT, iteT, iteF, zQ, zS, zkc, zI_sI, zL_sL, zI_wI, zL_wL, Nat.reduceEqDiff, Nat.reduceAdd, Nat.reduceMul, Nat.reduceLT, Nat.reduceLeDiff, reduceIte, eq_self, and_self, true_and, and_true, false_and, and_false, true_or, or_true, or_false, false_or, not_true_eq_false, not_false_eq_true, zarr, ne_eq, hK, hMo, e1, h27, v5, zbast, nar_z1, e2]
    · rw [Bool.toNat_true] at v5
      rw [Bool.not_true, Bool.toNat_false] at e2
      simp (disch := omega) only [il, nI_add, nI_mul, nI_sub, nI_div, nI_rem, nI_N, i32_lt, i32_le, nI_toInt, nI_subI, nI_clamp, zinT, zifT, iteT, iteF, zQ, zS, zkc, zI_sI, zL_sL, zI_wI, zL_wL, Nat.reduceEqDiff, Nat.reduceAdd, Nat.reduceMul, Nat.reduceLT, Nat.reduceLeDiff, reduceIte, eq_self, and_self, true_and, and_true, false_and, and_false, true_or, or_true, or_false, false_or, not_true_eq_false, not_false_eq_true, zarr, ne_eq, hK, hMo, e1, h27, v5, zbast, nar_z0, e2]
  · by_cases hb : (tok β N (tok β N i).2.2.2).1 = 3
    · obtain ⟨b1, b2⟩ := mTok_bad hm' hb
      exact Or.inl ⟨hb, Nat.zero_lt_one, (show 1 < 10 by decide), b1, b2⟩
    · refine Or.inr ⟨hb, hE', hm', hb, (hk i hi).1, ?_, ?_, lvl_fMo ?_ f1⟩
      · rw [f1.2.2.2.2.2 27 (by omega)]; exact h27
      · rw [f1.2.2.2.2.2 20 (by omega)]; exact h20
      · exact ⟨v1, v2, v3, v4, by rw [zI_sI, if_pos ⟨rfl, rfl⟩]⟩
