/-! the reference reads an operand -/
theorem lvl_fMc {D l : Nat} {M M' : zM} {x : Lv} (h : lvl M l x) (f : fMc D M M') (hl : l < D) : lvl M' l x := by
  obtain ⟨v1, v2, v3, v4, v5⟩ := h
  obtain ⟨w1, w2, w3⟩ := f.2.2.2.2.2.2.1 l hl
  refine ⟨w1.trans v1, fun t ht q hq => ?_, w2.trans v3, fun t ht q hq => ?_, w3.trans v5⟩
  · rw [(f.2.2.2.2.2.2.2 (4 * l + q) (by omega)).1]; exact v2 t ht q hq
  · rw [(f.2.2.2.2.2.2.2 (4 * l + q) (by omega)).2]; exact v4 t ht q hq
theorem m_op_0 {d L w N l n i : Nat} {β : Nat → Nat} {pt : Nat → Int64} {M : zM} {x : Lv} (hd : 2 ≤ d) (hk : tkOk (tok β N) N) (h : MG L w N β pt l n i x M) (h33 : (tok β N i).1 ≠ 33) (h40 : (tok β N i).1 ≠ 40) : zG d n_Mo_readOperand 2 [some (.ref 146), some (.int (nI 1))] [] M = zG d n_Mo_readOperand 2 [some (.ref 146), some (.int (nI 0))] [] M := by
  obtain ⟨hE, hm, h3, hi, h27, h20, hv⟩ := h
  have hK : zK M 146 = (11, 52) := by rw [hE.1.2.1]; rfl
  have e1 := m_isSign (d := d) (c := 33) hd hE hk hm h3 hi (by omega) (by omega)
  rw [if_neg h33] at e1
  have e2 := m_isSign (d := d) (c := 40) hd hE hk hm h3 hi (by omega) (by omega)
  rw [if_neg h40] at e2
  rw [zg_Mo_readOperand_2]
  unfold zx_Mo_readOperand_2
  clear hE hm hv hk
  simp (disch := omega) only [il, nI_add, nI_mul, nI_sub, nI_div, nI_rem, nI_N, i32_lt, i32_le, nI_toInt, nI_subI, nI_clamp, zinT, zifT, iteT, iteF, zQ, zS, zkc, zI_sI, zL_sL, zI_wI, zL_wL, Nat.reduceEqDiff, Nat.reduceAdd, Nat.reduceMul, Nat.reduceLT, Nat.reduceLeDiff, reduceIte, eq_self, and_self, true_and, and_true, false_and, and_false, true_or, or_true, or_false, false_or, not_true_eq_false, not_false_eq_true, zarr, ne_eq, hK, e1, e2]
theorem m_op_other {d L w N l n i : Nat} {β : Nat → Nat} {pt : Nat → Int64} {M : zM} {x : Lv} (hd : 2 ≤ d) (hk : tkOk (tok β N) N) (h : MG L w N β pt l n i x M) (h33 : (tok β N i).1 ≠ 33) (h40 : (tok β N i).1 ≠ 40) (h1 : (tok β N i).1 ≠ 1) : ∃ M', zG d n_Mo_readOperand 2 [some (.ref 146), some (.int (nI 1))] [] M = some (none, M') ∧ fMc l M M' ∧ zK M' 146 = (11, 52) ∧ MF (2, plc (tok β N) i) M' := by
  rw [m_op_0 hd hk h h33 h40]
  obtain ⟨hE, hm, h3, hi, h27, h20, hv⟩ := h
  have hK : zK M 146 = (11, 52) := by rw [hE.1.2.1]; rfl
  obtain ⟨c18, c15, c16⟩ := mTok_ok hm h3
  have n16 : ¬ zI M 146 16 = nI 1 := by
    rw [c16]
    refine nI_ne (by split <;> omega) (by omega) ?_
    split <;> omega
  have e1 := m_requires_f (d := d) (x := 2) (M := M) (by omega) hK c18
  have f1 := (fMo_s M (j := 18) (by omega) (nI 2)).trans (fMo_s _ (j := 19) (by omega) (zI M 146 15))
  have e2 := m_reads_b (d := d) (f := 2) (M := zsI (zsI M 146 18 (nI 2)) 146 19 (zI M 146 15)) (by omega) hK rfl (by omega) (by omega)
  refine ⟨_, ?_, f1.mc, hK, Nat.zero_lt_two, (show 2 < 10 by decide), rfl, c15⟩
  rw [zg_Mo_readOperand_2]
  unfold zx_Mo_readOperand_2
  clear hE hm hv hk f1
  simp (disch := omega) only [il, nI_add, nI_mul, nI_sub, nI_div, nI_rem, nI_N, i32_lt, i32_le, nI_toInt, nI_subI, nI_clamp, zinT, zifT, iteT, iteF, zQ, zS, zkc, zI_sI, zL_sL, zI_wI, zL_wL, Nat.reduceEqDiff, Nat.reduceAdd, Nat.reduceMul, Nat.reduceLT, Nat.reduceLeDiff, reduceIte, eq_self, and_self, true_and, and_true, false_and, and_false, true_or, or_true, or_false, false_or, not_true_eq_false, not_false_eq_true, zarr, ne_eq, hK, c18, n16, e1, e2]
theorem m_op_wire {d L w N l n i : Nat} {β : Nat → Nat} {pt : Nat → Int64} {M : zM} {o a : Option T4} {g : Bool} (hd : 2 ≤ d) (hk : tkOk (tok β N) N) (hl : l < 10) (h : MG L w N β pt l n i (o, a, g) M) (h1 : (tok β N i).1 = 1) : ∃ M', zG d n_Mo_readOperand 2 [some (.ref 146), some (.int (nI 1))] [] M = some (none, M') ∧ fMc l M M' ∧ zK M' 146 = (11, 52) ∧ (((tok β N (tok β N i).2.2.2).1 = 3 ∧ MF (1, (tok β N (tok β N i).2.2.2).2.2.1) M') ∨ ((tok β N (tok β N i).2.2.2).1 ≠ 3 ∧ MG L w N β pt l n (tok β N i).2.2.2 (o, some (anO a (if g = true then ngt (wT pt (tok β N i).2.1) else wT pt (tok β N i).2.1)), false) M')) := by
  rw [m_op_0 hd hk h (by omega) (by omega)]
  obtain ⟨hE, hm, h3, hi, h27, h20, hv⟩ := h
  have hK : zK M 146 = (11, 52) := by rw [hE.1.2.1]; rfl
  obtain ⟨c18, c15, c16⟩ := mTok_ok hm h3
  rw [h1] at c16
  have v8 := (hk i hi).2.2.2.1 h1
  obtain ⟨b1, b2⟩ := (tok_sign (β := β) hi).1 h1
  have eb := m_byteAt_t (d := d) (by omega) hE.1 hE.2.1 b1
  rw [b2] at eb
  have er := m_requires_t (d := d) (x := 2) (M := M) (by omega)
  obtain ⟨M1, e1, g1, g2, g3, g4, g5, g6⟩ := m_wires (d := d) (v := (tok β N i).2.1) (by omega) hE v8
  have fw : fMc l M M1 := ⟨g1, g2, g3, fun b _ _ _ _ => by rw [g4], fun j _ _ => by rw [g4], fun b _ _ h3 => g5 b h3, fun j _ => ⟨by rw [g4], by rw [g4], by rw [g4]⟩, fun j _ => ⟨by rw [g5 159 (by omega)], by rw [g5 160 (by omega)]⟩⟩
  have hE1 := EM_fr hE fw
  have hv1 : lvl M1 l (o, a, g) := by
    unfold lvl
    rw [g4, g5 159 (by omega), g5 160 (by omega)]
    exact hv
  obtain ⟨M2, e2, f2, hv2⟩ := m_joinsAnds (d := d) (by omega) hE1.1 (by rw [g4]; exact h27) hl hv1 g6
  have hE2 := EM_fr hE1 f2.mc
  have hI2 : zI M2 146 = zI M 146 := by rw [f2.2.2.2.1 146 (by omega) (by omega) (by omega), g4]
  have hm2 : mTok (tok β N i) M2 := mTok_I hm (fun j _ _ => by rw [hI2])
  obtain ⟨M3, e3, f3, f3c, hE3, hm3⟩ := m_adv (d := d) (D := l) hd hE2 hk hm2 h3 hi
  have k1 : zK M1 146 = (11, 52) := by rw [hE1.1.2.1]; rfl
  have k2 : zK M2 146 = (11, 52) := by rw [hE2.1.2.1]; rfl
  refine ⟨M3, ?_, (fw.trans f2.mc (Nat.le_refl l)).trans f3c (Nat.le_refl l), by rw [hE3.1.2.1]; rfl, ?_⟩
  · rw [zg_Mo_readOperand_2]
    unfold zx_Mo_readOperand_2
    have hx : (tok β N i).2.1 + 97 - 97 = (tok β N i).2.1 := by omega
    clear hE hm hv hk fw hE1 hv1 f2 hv2 hE2 hm2 f3 f3c hE3 hm3 g5 g6 b2
    generalize (tok β N i).2.1 = V at *
    generalize (tok β N i).2.2.1 = Pp at *
    rw [if_pos (show 1 < 3 by decide)] at c16
    simp (disch := omega) only [il, nI_add, nI_mul, nI_sub, nI_div, nI_rem, nI_N, i32_lt, i32_le, nI_toInt, nI_subI, nI_clamp, zinT, zifT, iteT, iteF, zQ, zS, zkc, zI_sI, zL_sL, zI_wI, zL_wL, Nat.reduceEqDiff, Nat.reduceAdd, Nat.reduceMul, Nat.reduceLT, Nat.reduceLeDiff, reduceIte, eq_self, and_self, true_and, and_true, false_and, and_false, true_or, or_true, or_false, false_or, not_true_eq_false, not_false_eq_true, zarr, ne_eq, hK, c18, c16, c15, er, eb, hx, k1, k2, e1, e2, e3]
  · by_cases hb : (tok β N (tok β N i).2.2.2).1 = 3
    · obtain ⟨b1, b2⟩ := mTok_bad hm3 hb
      exact Or.inl ⟨hb, Nat.zero_lt_one, (show 1 < 10 by decide), b1, b2⟩
    · refine Or.inr ⟨hb, hE3, hm3, hb, (hk i hi).1, ?_, ?_, lvl_fMo hv2 f3⟩
      · rw [f3.2.2.2.2.2 27 (by omega), hI2]; exact h27
      · rw [f3.2.2.2.2.2 20 (by omega), hI2]; exact h20
