/-! the reference reads a promise -/
def PrM (y : Pr) (p : Nat) (M : zM) : Prop := (pN y.1 ≤ 40 ∧ pN y.2.1 ≤ 40 ∧ pF y.1 ≠ 0 ∧ pF y.2.1 ≠ 0) ∧ SdM (2 * p) y.1 M ∧ SdM (2 * p + 1) y.2.1 M ∧ y.2.2.1 < 2 ∧ zI M 152 (2 * p) = nI y.2.2.1 ∧ zI M 152 (2 * p + 1) = nI (oN y.2.2.2) ∧ ∀ t, y.2.2.2 = some t → ∀ q, q < 4 → zL M 154 (4 * p + q) = t q
/-- what reading the promise p may change -/
def fPr (p : Nat) (M M' : zM) : Prop := zN M' = zN M ∧ zK M' = zK M ∧ zR M' = zR M ∧ (∀ b, ¬ (b = 146 ∨ b = 148 ∨ b = 152 ∨ (161 ≤ b ∧ b ≤ 163) ∨ b = 166 ∨ (169 ≤ b ∧ b ≤ 173)) → zI M' b = zI M b) ∧ (∀ j, (j < 14 ∨ 20 < j) → j ≠ 27 → j ≠ 37 → j ≠ 38 → j ≠ 39 → zI M' 146 j = zI M 146 j) ∧ (∀ j, (j < 90 * p ∨ 90 * p + 90 ≤ j) → zI M' 148 j = zI M 148 j) ∧ (∀ j, (j < 2 * p ∨ 2 * p + 2 ≤ j) → zI M' 152 j = zI M 152 j) ∧ (∀ b, ¬ (b = 150 ∨ b = 154 ∨ b = 159 ∨ b = 160 ∨ b = 164 ∨ b = 167 ∨ b = 168) → zL M' b = zL M b) ∧ (∀ j, (j < 406 * p ∨ 406 * p + 406 ≤ j) → zL M' 150 j = zL M 150 j) ∧ ∀ j, (j < 4 * p ∨ 4 * p + 4 ≤ j) → zL M' 154 j = zL M 154 j
theorem fPr_rfl (p : Nat) (M : zM) : fPr p M M := ⟨rfl, rfl, rfl, fun _ _ => rfl, fun _ _ _ _ _ _ => rfl, fun _ _ => rfl, fun _ _ => rfl, fun _ _ => rfl, fun _ _ => rfl, fun _ _ => rfl⟩
theorem fPr.trans {p : Nat} {M M1 M2 : zM} (h : fPr p M M1) (g : fPr p M1 M2) : fPr p M M2 := by
  obtain ⟨a1, a2, a3, a4, a5, a6, a7, a8, a9, a10⟩ := h
  obtain ⟨b1, b2, b3, b4, b5, b6, b7, b8, b9, b10⟩ := g
  exact ⟨b1.trans a1, b2.trans a2, b3.trans a3, fun b h => (b4 b h).trans (a4 b h), fun j h1 h2 h3 h4 h5 => (b5 j h1 h2 h3 h4 h5).trans (a5 j h1 h2 h3 h4 h5), fun j h => (b6 j h).trans (a6 j h), fun j h => (b7 j h).trans (a7 j h), fun b h => (b8 b h).trans (a8 b h), fun j h => (b9 j h).trans (a9 j h), fun j h => (b10 j h).trans (a10 j h)⟩
theorem fRs.pr {sd p : Nat} {M M' : zM} (h : fRs sd M M') (hp : sd = 2 * p ∨ sd = 2 * p + 1) : fPr p M M' := ⟨h.1, h.2.1, h.2.2.1, fun b hb => h.2.2.2.1 b (by omega), h.2.2.2.2.1, fun j hj => h.2.2.2.2.2.1 j (by omega), fun j _ => by rw [h.2.2.2.1 152 (by omega)], fun b hb => h.2.2.2.2.2.2.1 b (by omega), fun j hj => h.2.2.2.2.2.2.2 j (by omega), fun j _ => by rw [h.2.2.2.2.2.2.1 154 (by omega)]⟩
theorem fMc.pr {D p : Nat} {M M' : zM} (h : fMc D M M') : fPr p M M' := ⟨h.1, h.2.1, h.2.2.1, fun b hb => h.2.2.2.1 b (by omega) (by omega) (by omega) (by omega), fun j h1 h2 _ _ _ => h.2.2.2.2.1 j h1 h2, fun j _ => by rw [h.2.2.2.1 148 (by omega) (by omega) (by omega) (by omega)], fun j _ => by rw [h.2.2.2.1 152 (by omega) (by omega) (by omega) (by omega)], fun b hb => h.2.2.2.2.2.1 b (by omega) (by omega) (by omega), fun j _ => by rw [h.2.2.2.2.2.1 150 (by omega) (by omega) (by omega)], fun j _ => by rw [h.2.2.2.2.2.1 154 (by omega) (by omega) (by omega)]⟩
theorem fMo.pr {p : Nat} {M M' : zM} (h : fMo M M') : fPr p M M' := (h.mc (D := 0)).pr
theorem fPr_152 {p j : Nat} {M : zM} {x : Int32} (hj : j = 2 * p ∨ j = 2 * p + 1) : fPr p M (zsI M 152 j x) := ⟨rfl, rfl, rfl, fun b hb => zI_ne (by omega), fun _ _ _ _ _ _ => rfl, fun _ _ => rfl, fun i hi => by rw [zI_sI, if_neg (fun z => by omega)], fun _ _ => rfl, fun _ _ => rfl, fun _ _ => rfl⟩
theorem EM_pr {L w N p : Nat} {β : Nat → Nat} {pt : Nat → Int64} {M M' : zM} (h : EM L w N β pt M) (f : fPr p M M') : EM L w N β pt M' := by
  obtain ⟨h1, h2, h3⟩ := h
  refine ⟨zSh_fr h1 f.1 f.2.1 f.2.2.1, ?_, by rw [f.2.2.2.2.2.2.2.1 165 (by omega)]; exact h3⟩
  unfold tapeM
  rw [f.2.2.2.2.1 13 (by omega) (by omega) (by omega) (by omega) (by omega), f.2.2.2.1 158 (by omega)]
  exact h2
theorem m_isBegin {d L w N i : Nat} {β : Nat → Nat} {pt : Nat → Int64} {M : zM} (hd : 3 ≤ d) (hk : tkOk (tok β N) N) (hE : EM L w N β pt M) (hm : mTok (tok β N i) M) (h3 : (tok β N i).1 ≠ 3) (hi : i ≤ N) : zV d n_Mo_isBegin [.ref 146] M = some (some (.int (nI (if (tok β N i).1 = 1 ∨ (tok β N i).1 = 33 ∨ (tok β N i).1 = 40 ∨ (tok β N i).1 = 123 then 1 else 0))), M) := by
  obtain ⟨d, rfl, hd1⟩ := zdep hd
  have hK : zK M 146 = (11, 52) := by rw [hE.1.2.1]; rfl
  obtain ⟨c18, c15, c16⟩ := mTok_ok hm h3
  have e33 := m_isSign (d := d) (c := 33) (by omega) hE hk hm h3 hi (by omega) (by omega)
  have e40 := m_isSign (d := d) (c := 40) (by omega) hE hk hm h3 hi (by omega) (by omega)
  have e123 := m_isSign (d := d) (c := 123) (by omega) hE hk hm h3 hi (by omega) (by omega)
  rw [ze_Mo_isBegin]
  unfold zx_Mo_isBegin
  clear hE hm hk
  generalize (tok β N i).1 = K at *
  by_cases h1 : K = 1
  · subst h1
    rw [if_pos (show 1 = 1 ∨ 1 = 33 ∨ 1 = 40 ∨ 1 = 123 from Or.inl rfl)]
    rw [if_pos (by decide)] at c16
    simp (disch := omega) only [il, nI_add, nI_mul, nI_sub, nI_div, nI_rem, nI_N, i32_lt, i32_le, nI_toInt, nI_subI, nI_clamp, zinT, zifT, iteT, iteF, zQ, zS, zkc, zI_sI, zL_sL, zI_wI, zL_wL, Nat.reduceEqDiff, Nat.reduceAdd, Nat.reduceMul, Nat.reduceLT, Nat.reduceLeDiff, reduceIte, eq_self, and_self, true_and, and_true, false_and, and_false, true_or, or_true, or_false, false_or, not_true_eq_false, not_false_eq_true, zarr, ne_eq, hK, c18, c16]
  · have n16 : ¬ zI M 146 16 = nI 1 := by
      rw [c16]
      refine nI_ne (by split <;> omega) (by omega) ?_
      split <;> omega
    by_cases h33 : K = 33
    · rw [if_pos h33] at e33
      rw [if_pos (show K = 1 ∨ K = 33 ∨ K = 40 ∨ K = 123 from Or.inr (Or.inl h33))]
      simp (disch := omega) only [il, nI_add, nI_mul, nI_sub, nI_div, nI_rem, nI_N, i32_lt, i32_le, nI_toInt, nI_subI, nI_clamp, zinT, zifT, iteT, iteF, zQ, zS, zkc, zI_sI, zL_sL, zI_wI, zL_wL, Nat.reduceEqDiff, Nat.reduceAdd, Nat.reduceMul, Nat.reduceLT, Nat.reduceLeDiff, reduceIte, eq_self, and_self, true_and, and_true, false_and, and_false, true_or, or_true, or_false, false_or, not_true_eq_false, not_false_eq_true, zarr, ne_eq, hK, c18, n16, e33]
    · rw [if_neg h33] at e33
      by_cases h40 : K = 40
      · rw [if_pos h40] at e40
        rw [if_pos (show K = 1 ∨ K = 33 ∨ K = 40 ∨ K = 123 from Or.inr (Or.inr (Or.inl h40)))]
        simp (disch := omega) only [il, nI_add, nI_mul, nI_sub, nI_div, nI_rem, nI_N, i32_lt, i32_le, nI_toInt, nI_subI, nI_clamp, zinT, zifT, iteT, iteF, zQ, zS, zkc, zI_sI, zL_sL, zI_wI, zL_wL, Nat.reduceEqDiff, Nat.reduceAdd, Nat.reduceMul, Nat.reduceLT, Nat.reduceLeDiff, reduceIte, eq_self, and_self, true_and, and_true, false_and, and_false, true_or, or_true, or_false, false_or, not_true_eq_false, not_false_eq_true, zarr, ne_eq, hK, c18, n16, e33, e40]
      · rw [if_neg h40] at e40
        by_cases h123 : K = 123
        · rw [if_pos h123] at e123
          rw [if_pos (show K = 1 ∨ K = 33 ∨ K = 40 ∨ K = 123 from Or.inr (Or.inr (Or.inr h123)))]
          simp (disch := omega) only [il, nI_add, nI_mul, nI_sub, nI_div, nI_rem, nI_N, i32_lt, i32_le, nI_toInt, nI_subI, nI_clamp, zinT, zifT, iteT, iteF, zQ, zS, zkc, zI_sI, zL_sL, zI_wI, zL_wL, Nat.reduceEqDiff, Nat.reduceAdd, Nat.reduceMul, Nat.reduceLT, Nat.reduceLeDiff, reduceIte, eq_self, and_self, true_and, and_true, false_and, and_false, true_or, or_true, or_false, false_or, not_true_eq_false, not_false_eq_true, zarr, ne_eq, hK, c18, n16, e33, e40, e123]
        · rw [if_neg h123] at e123
          rw [if_neg (show ¬ (K = 1 ∨ K = 33 ∨ K = 40 ∨ K = 123) by omega)]
          simp (disch := omega) only [il, nI_add, nI_mul, nI_sub, nI_div, nI_rem, nI_N, i32_lt, i32_le, nI_toInt, nI_subI, nI_clamp, zinT, zifT, iteT, iteF, zQ, zS, zkc, zI_sI, zL_sL, zI_wI, zL_wL, Nat.reduceEqDiff, Nat.reduceAdd, Nat.reduceMul, Nat.reduceLT, Nat.reduceLeDiff, reduceIte, eq_self, and_self, true_and, and_true, false_and, and_false, true_or, or_true, or_false, false_or, not_true_eq_false, not_false_eq_true, zarr, ne_eq, hK, c18, n16, e33, e40, e123]
noncomputable def p238 (d p s : Nat) (M : zM) : zO := zG d n_Mo_readPromise 238 [some (.ref 146), none, some (.int (nI p)), none, none, none] [.int (nI s), .ref 146] M
noncomputable def p114 (d p : Nat) (u : Int32) (M : zM) : zO := zG d n_Mo_readPromise 114 [some (.ref 146), none, some (.int (nI p)), some (.int u), none, none] [] M
/-- the end of a promise -/
theorem m_p238_b {d L w p s : Nat} {M : zM} {e : Nat × Nat} (hd : 1 ≤ d) (hs : zSh L w M) (hp : p < 4) (h : MF e M) : p238 d p s M = some (none, M) := by
  obtain ⟨h1, h2, h3, h4⟩ := h
  obtain ⟨hN, hK, hC, hMo, -⟩ := hs
  have hK0 : zK M 146 = (11, 52) := by rw [hK]; rfl
  have er := fun (x y : Int32) => m_requires_b (d := d) (x := x) (y := y) (M := M) hd hK0 h3 h1 (by omega)
  have eb := m_reads_b (d := d) (M := M) hd hK0 h3 h1 (by omega)
  unfold p238
  rw [zg_Mo_readPromise_238]
  unfold zx_Mo_readPromise_238
  have a1 : 90 * p + 2 < 360 := by omega
  have a2 : 45 * (2 * p + 1) + 2 < 360 := by omega
  by_cases c1 : (40 : Int) < (zI M 148 (90 * p + 2)).toInt
  · simp (disch := omega) only [il, nI_add, nI_mul, nI_sub, nI_div, nI_rem, nI_N, i32_lt, i32_le, nI_toInt, nI_subI, nI_clamp, zinT, zifT, iteT, iteF, zQ, zS, zkc, zI_sI, zL_sL, zI_wI, zL_wL, Nat.reduceEqDiff, Nat.reduceAdd, Nat.reduceMul, Nat.reduceLT, Nat.reduceLeDiff, reduceIte, eq_self, and_self, true_and, and_true, false_and, and_false, true_or, or_true, or_false, false_or, not_true_eq_false, not_false_eq_true, zarr, ne_eq, hK, hMo, er, eb]
  · by_cases c2 : (40 : Int) < (zI M 148 (45 * (2 * p + 1) + 2)).toInt
    · simp (disch := omega) only [il, nI_add, nI_mul, nI_sub, nI_div, nI_rem, nI_N, i32_lt, i32_le, nI_toInt, nI_subI, nI_clamp, zinT, zifT, iteT, iteF, zQ, zS, zkc, zI_sI, zL_sL, zI_wI, zL_wL, Nat.reduceEqDiff, Nat.reduceAdd, Nat.reduceMul, Nat.reduceLT, Nat.reduceLeDiff, reduceIte, eq_self, and_self, true_and, and_true, false_and, and_false, true_or, or_true, or_false, false_or, not_true_eq_false, not_false_eq_true, zarr, ne_eq, hK, hMo, er, eb]
    · simp (disch := omega) only [il, nI_add, nI_mul, nI_sub, nI_div, nI_rem, nI_N, i32_lt, i32_le, nI_toInt, nI_subI, nI_clamp, zinT, zifT, iteT, iteF, zQ, zS, zkc, zI_sI, zL_sL, zI_wI, zL_wL, Nat.reduceEqDiff, Nat.reduceAdd, Nat.reduceMul, Nat.reduceLT, Nat.reduceLeDiff, reduceIte, eq_self, and_self, true_and, and_true, false_and, and_false, true_or, or_true, or_false, false_or, not_true_eq_false, not_false_eq_true, zarr, ne_eq, hK, hMo, er, eb]
def PeO (N : Nat) (β : Nat → Nat) (p : Nat) (M' : zM) : Rs Pr → Prop
  | .inl e => MF e M'
  | .inr x => mTok (tok β N x.2) M' ∧ (tok β N x.2).1 ≠ 3 ∧ x.2 ≤ N ∧ PrM x.1 p M'
theorem PrM_mo {y : Pr} {p : Nat} {M M' : zM} (h : PrM y p M) (f : fMo M M') : PrM y p M' := by
  obtain ⟨a1, a2, a3, a4, a5, a6, a7⟩ := h
  refine ⟨a1, SdM_fr a2 (fun j _ _ => by rw [f.2.2.2.2.1 148 (by omega)]) (fun j _ _ => by rw [f.2.2.2.1]), SdM_fr a3 (fun j _ _ => by rw [f.2.2.2.2.1 148 (by omega)]) (fun j _ _ => by rw [f.2.2.2.1]), a4, by rw [f.2.2.2.2.1 152 (by omega)]; exact a5, by rw [f.2.2.2.2.1 152 (by omega)]; exact a6, by rw [f.2.2.2.1]; exact a7⟩
theorem m_ptail {d L w N p j : Nat} {β : Nat → Nat} {pt : Nat → Int64} {a b : Pc} {ki : Nat} {o : Option T4} {M : zM} (hd : 3 ≤ d) (hk : tkOk (tok β N) N) (hp : p < 4) (hE : EM L w N β pt M) (hm : mTok (tok β N j) M) (h3 : (tok β N j).1 ≠ 3) (hj : j ≤ N) (ha : SdM (2 * p) a M) (hb : SdM (2 * p + 1) b M) (hki : ki < 2) (h1 : zI M 152 (2 * p) = nI ki) (h2 : zI M 152 (2 * p + 1) = nI (oN o)) (ho : ∀ t, o = some t → ∀ q, q < 4 → zL M 154 (4 * p + q) = t q) : ∃ M' M9, zV d n_Mo_isSign [.ref 146, .int (nI 59)] M = some (some (.int (nI (if (tok β N j).1 = 59 then 1 else 0))), M) ∧ zV d n_Mo_requires [.ref 146, .int (nI (if (tok β N j).1 = 59 then 1 else 0)), .int (nI 2)] M = some (none, M9) ∧ p238 d p (if pF a = 0 ∨ pF b = 0 then 0 else 1) M9 = some (none, M') ∧ fPr p M M' ∧ PeO N β p M' (sPe (tok β N) a b ki o j) := by
  have hs := hE.1
  have hK0 : zK M 146 = (11, 52) := by rw [hs.2.1]; rfl
  obtain ⟨c18, c15, c16⟩ := mTok_ok hm h3
  have e59 := m_isSign (d := d) (c := 59) (by omega) hE hk hm h3 hj (by omega) (by omega)
  unfold sPe
  by_cases h59 : (tok β N j).1 = 59
  · rw [if_pos h59] at e59
    rw [if_pos h59, if_pos h59]
    have er := m_requires_t (d := d) (x := 2) (M := M) (by omega)
    have aN := ha.2.1
    have bN' := hb.2.1
    rw [show 45 * (2 * p) + 2 = 90 * p + 2 by omega] at aN
    by_cases h0 : pF a = 0 ∨ pF b = 0
    · rw [if_pos h0, if_pos h0]
      have e5 := m_requires_f (d := d) (x := 5) (M := M) (by omega) hK0 c18
      generalize hM1 : zsI (zsI M 146 18 (nI 5)) 146 19 (zI M 146 15) = M1 at *
      have f1 : fMo M M1 := by rw [← hM1]; exact (fMo_s M (j := 18) (by omega) (nI 5)).trans (fMo_s _ (j := 19) (by omega) (zI M 146 15))
      have hs1 := zSh_fr hs f1.1 f1.2.1 f1.2.2.1
      have hf : MF (5, plc (tok β N) j) M1 := by rw [← hM1]; exact ⟨(show 0 < 5 by decide), (show 5 < 10 by decide), rfl, c15⟩
      have eb := m_p238_b (d := d) (p := p) (s := 0) (by omega) hs1 hp hf
      refine ⟨M1, M, e59, er, ?_, f1.pr, hf⟩
      rw [← eb]
      have er1 := fun (x y : Int32) => m_requires_b (d := d) (x := x) (y := y) (M := M1) (by omega) (by rw [f1.2.1]; exact hK0) hf.2.2.1 hf.1 (by have := hf.2.1; omega)
      unfold p238
      rw [zg_Mo_readPromise_238, zg_Mo_readPromise_238]
      unfold zx_Mo_readPromise_238
      rw [zif_t (by rw [hK0]), zif_t (by rw [f1.2.1, hK0])]
      show zbV (zV d n_Mo_requires [.ref 146, .int (nI 0), .int (nI 5)] M) _ = zbV (zV d n_Mo_requires [.ref 146, .int (nI 0), .int (nI 5)] M1) _
      rw [e5, er1]
    · rw [if_neg h0, if_neg h0]
      have e5 := m_requires_t (d := d) (x := 5) (M := M) (by omega)
      have pa1 := ha.1.2.2.2.1
      by_cases h40 : pN a ≤ 40 ∧ pN b ≤ 40
      · rw [if_pos h40]
        have e6 := m_requires_t (d := d) (x := 6) (M := M) (by omega)
        obtain ⟨M1, e7, f1, -, hE1, hm1⟩ := m_adv (d := d) (D := 0) (by omega) hE hk hm h3 hj
        refine ⟨M1, M, e59, er, ?_, f1.pr, ?_⟩
        · obtain ⟨hN, hK, hC, hMo, -⟩ := hs
          have g1 : min 1000000 (pN a) = pN a := by omega
          have g2 : min 1000000 (pN b) = pN b := by omega
          rw [g1] at aN
          rw [g2] at bN'
          unfold p238
          rw [zg_Mo_readPromise_238]
          unfold zx_Mo_readPromise_238
          clear hE hm hk ha hb hE1 hm1 f1 ho
          simp (disch := omega) only [il, nI_add, nI_mul, nI_sub, nI_div, nI_rem, nI_N, i32_lt, i32_le, nI_toInt, nI_subI, nI_clamp, zinT, zifT, iteT, iteF, zQ, zS, zkc, zI_sI, zL_sL, zI_wI, zL_wL, Nat.reduceEqDiff, Nat.reduceAdd, Nat.reduceMul, Nat.reduceLT, Nat.reduceLeDiff, reduceIte, eq_self, and_self, true_and, and_true, false_and, and_false, true_or, or_true, or_false, false_or, not_true_eq_false, not_false_eq_true, zarr, ne_eq, hK, hMo, e5, aN, bN', e6, e7]
        · by_cases hb3 : (tok β N (tok β N j).2.2.2).1 = 3
          · rw [nxt_t hb3]
            obtain ⟨b1, b2⟩ := mTok_bad hm1 hb3
            exact ⟨Nat.zero_lt_one, (show 1 < 10 by decide), b1, b2⟩
          · rw [nxt_f hb3]
            refine ⟨hm1, hb3, (hk j hj).1, PrM_mo ⟨⟨h40.1, h40.2, fun z => h0 (Or.inl z), fun z => h0 (Or.inr z)⟩, ha, hb, hki, h1, h2, ho⟩ f1⟩
      · rw [if_neg h40]
        have e6 := m_requires_f (d := d) (x := 6) (M := M) (by omega) hK0 c18
        generalize hM1 : zsI (zsI M 146 18 (nI 6)) 146 19 (zI M 146 15) = M1 at *
        have f1 : fMo M M1 := by rw [← hM1]; exact (fMo_s M (j := 18) (by omega) (nI 6)).trans (fMo_s _ (j := 19) (by omega) (zI M 146 15))
        have hf : MF (6, plc (tok β N) j) M1 := by rw [← hM1]; exact ⟨(show 0 < 6 by decide), (show 6 < 10 by decide), rfl, c15⟩
        have hK1 : zK M1 146 = (11, 52) := by rw [f1.2.1]; exact hK0
        have eb := m_reads_b (d := d) (f := 6) (M := M1) (by omega) hK1 hf.2.2.1 (by omega) (by omega)
        refine ⟨M1, M, e59, er, ?_, f1.pr, hf⟩
        obtain ⟨hN, hK, hC, hMo, -⟩ := hs
        unfold p238
        rw [zg_Mo_readPromise_238]
        unfold zx_Mo_readPromise_238
        by_cases ga : pN a ≤ 40
        · have gb : ¬ pN b ≤ 40 := fun z => h40 ⟨ga, z⟩
          have g1 : min 1000000 (pN a) ≤ 40 := by omega
          have g2 : 40 < min 1000000 (pN b) := by omega
          have g3 : min 1000000 (pN b) ≤ 1000000 := by omega
          generalize min 1000000 (pN a) = u1 at *
          generalize min 1000000 (pN b) = u2 at *
          clear hE hm hk ha hb f1 hf ho
          simp (disch := omega) only [il, nI_add, nI_mul, nI_sub, nI_div, nI_rem, nI_N, i32_lt, i32_le, nI_toInt, nI_subI, nI_clamp, zinT, zifT, iteT, iteF, zQ, zS, zkc, zI_sI, zL_sL, zI_wI, zL_wL, Nat.reduceEqDiff, Nat.reduceAdd, Nat.reduceMul, Nat.reduceLT, Nat.reduceLeDiff, reduceIte, eq_self, and_self, true_and, and_true, false_and, and_false, true_or, or_true, or_false, false_or, not_true_eq_false, not_false_eq_true, zarr, ne_eq, hK, hMo, e5, aN, bN', e6, hK1, eb]
        · have g2 : 40 < min 1000000 (pN a) := by omega
          have g3 : min 1000000 (pN a) ≤ 1000000 := by omega
          generalize min 1000000 (pN a) = u1 at *
          clear hE hm hk ha hb f1 hf ho
          simp (disch := omega) only [il, nI_add, nI_mul, nI_sub, nI_div, nI_rem, nI_N, i32_lt, i32_le, nI_toInt, nI_subI, nI_clamp, zinT, zifT, iteT, iteF, zQ, zS, zkc, zI_sI, zL_sL, zI_wI, zL_wL, Nat.reduceEqDiff, Nat.reduceAdd, Nat.reduceMul, Nat.reduceLT, Nat.reduceLeDiff, reduceIte, eq_self, and_self, true_and, and_true, false_and, and_false, true_or, or_true, or_false, false_or, not_true_eq_false, not_false_eq_true, zarr, ne_eq, hK, hMo, e5, aN, e6, hK1, eb]
  · rw [if_neg h59] at e59
    rw [if_neg h59, if_neg h59]
    have er := m_requires_f (d := d) (x := 2) (M := M) (by omega) hK0 c18
    generalize hM1 : zsI (zsI M 146 18 (nI 2)) 146 19 (zI M 146 15) = M1 at *
    have f1 : fMo M M1 := by rw [← hM1]; exact (fMo_s M (j := 18) (by omega) (nI 2)).trans (fMo_s _ (j := 19) (by omega) (zI M 146 15))
    have hf : MF (2, plc (tok β N) j) M1 := by rw [← hM1]; exact ⟨(show 0 < 2 by decide), (show 2 < 10 by decide), rfl, c15⟩
    exact ⟨M1, M1, e59, er, m_p238_b (by omega) (zSh_fr hs f1.1 f1.2.1 f1.2.2.1) hp hf, f1.pr, hf⟩
