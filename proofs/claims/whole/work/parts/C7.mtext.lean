/-! the reference's text, whole -/
def fTm (p : Nat) (M M' : zM) : Prop := zN M' = zN M ∧ zK M' = zK M ∧ zR M' = zR M ∧ (∀ b, ¬ (b = 146 ∨ b = 148 ∨ b = 152 ∨ (161 ≤ b ∧ b ≤ 163) ∨ b = 166 ∨ (169 ≤ b ∧ b ≤ 173)) → zI M' b = zI M b) ∧ (∀ j, (j < 14 ∨ 20 < j) → j ≠ 27 → j ≠ 37 → j ≠ 38 → j ≠ 39 → zI M' 146 j = zI M 146 j) ∧ (∀ j, j < 90 * p → zI M' 148 j = zI M 148 j) ∧ (∀ j, j < 2 * p → zI M' 152 j = zI M 152 j) ∧ (∀ b, ¬ (b = 150 ∨ b = 154 ∨ b = 159 ∨ b = 160 ∨ b = 164 ∨ b = 167 ∨ b = 168) → zL M' b = zL M b) ∧ (∀ j, j < 406 * p → zL M' 150 j = zL M 150 j) ∧ ∀ j, j < 4 * p → zL M' 154 j = zL M 154 j
theorem fTm_rfl (p : Nat) (M : zM) : fTm p M M := ⟨rfl, rfl, rfl, fun _ _ => rfl, fun _ _ _ _ _ _ => rfl, fun _ _ => rfl, fun _ _ => rfl, fun _ _ => rfl, fun _ _ => rfl, fun _ _ => rfl⟩
theorem fTm.trans {p p' : Nat} {M M1 M2 : zM} (h : fTm p M M1) (g : fTm p' M1 M2) (hp : p ≤ p') : fTm p M M2 := by
  obtain ⟨a1, a2, a3, a4, a5, a6, a7, a8, a9, a10⟩ := h
  obtain ⟨b1, b2, b3, b4, b5, b6, b7, b8, b9, b10⟩ := g
  exact ⟨b1.trans a1, b2.trans a2, b3.trans a3, fun b h => (b4 b h).trans (a4 b h), fun j h1 h2 h3 h4 h5 => (b5 j h1 h2 h3 h4 h5).trans (a5 j h1 h2 h3 h4 h5), fun j h => (b6 j (by omega)).trans (a6 j h), fun j h => (b7 j (by omega)).trans (a7 j h), fun b h => (b8 b h).trans (a8 b h), fun j h => (b9 j (by omega)).trans (a9 j h), fun j h => (b10 j (by omega)).trans (a10 j h)⟩
theorem fPr.tm {p : Nat} {M M' : zM} (h : fPr p M M') : fTm p M M' := ⟨h.1, h.2.1, h.2.2.1, h.2.2.2.1, h.2.2.2.2.1, fun j hj => h.2.2.2.2.2.1 j (by omega), fun j hj => h.2.2.2.2.2.2.1 j (by omega), h.2.2.2.2.2.2.2.1, fun j hj => h.2.2.2.2.2.2.2.2.1 j (by omega), fun j hj => h.2.2.2.2.2.2.2.2.2 j (by omega)⟩
theorem PrM_tm {y : Pr} {p p' : Nat} {M M' : zM} (h : PrM y p M) (f : fTm p' M M') (hp : p < p') : PrM y p M' := by
  obtain ⟨a1, a2, a3, a4, a5, a6, a7⟩ := h
  refine ⟨a1, SdM_fr a2 (fun j _ _ => f.2.2.2.2.2.1 j (by omega)) (fun j _ _ => f.2.2.2.2.2.2.2.2.1 j (by omega)), SdM_fr a3 (fun j _ _ => f.2.2.2.2.2.1 j (by omega)) (fun j _ _ => f.2.2.2.2.2.2.2.2.1 j (by omega)), a4, by rw [f.2.2.2.2.2.2.1 _ (by omega)]; exact a5, by rw [f.2.2.2.2.2.2.1 _ (by omega)]; exact a6, fun t ht q hq => by rw [f.2.2.2.2.2.2.2.2.2 _ (by omega)]; exact a7 t ht q hq⟩
theorem EM_tm {L w N p : Nat} {β : Nat → Nat} {pt : Nat → Int64} {M M' : zM} (h : EM L w N β pt M) (f : fTm p M M') : EM L w N β pt M' := by
  obtain ⟨h1, h2, h3⟩ := h
  refine ⟨zSh_fr h1 f.1 f.2.1 f.2.2.1, ?_, by rw [f.2.2.2.2.2.2.2.1 165 (by omega)]; exact h3⟩
  unfold tapeM
  rw [f.2.2.2.2.1 13 (by omega) (by omega) (by omega) (by omega) (by omega), f.2.2.2.1 158 (by omega)]
  exact h2
noncomputable def t16 (d p : Nat) (M : zM) : zO := zG d n_Mo_text 16 [some (.ref 146), some (.int (nI p)), none] [] M
noncomputable def t68 (d p k : Nat) (M : zM) : zO := zG d n_Mo_text 68 [some (.ref 146), some (.int (nI p)), some (.int (nI k))] [] M
noncomputable def t95 (d p k : Nat) (M : zM) : zO := zG d n_Mo_text 95 [some (.ref 146), some (.int (nI p)), some (.int (nI k))] [] M
noncomputable def t122 (d p k : Nat) (M : zM) : zO := zG d n_Mo_text 122 [some (.ref 146), some (.int (nI p)), some (.int (nI k))] [] M
noncomputable def t148 (d p k : Nat) (M : zM) : zO := zG d n_Mo_text 148 [some (.ref 146), some (.int (nI p)), some (.int (nI k))] [] M
theorem t16_bad {d p : Nat} {M : zM} {e : Nat × Nat} (hK : zK M 146 = (11, 52)) (h : MF e M) : t16 d p M = some (some (.int ((-10 : Int32) - nI e.2)), zsI M 146 13 (nI 0)) := by
  obtain ⟨h1, h2, h3, h4⟩ := h
  unfold t16
  rw [zg_Mo_text_16]
  unfold zx_Mo_text_16
  simp (disch := omega) only [il, nI_add, nI_mul, nI_sub, nI_div, nI_rem, nI_N, i32_lt, i32_le, nI_toInt, nI_subI, nI_clamp, zinT, zifT, iteT, iteF, zQ, zS, zkc, zI_sI, zL_sL, zI_wI, zL_wL, Nat.reduceEqDiff, Nat.reduceAdd, Nat.reduceMul, Nat.reduceLT, Nat.reduceLeDiff, reduceIte, eq_self, and_self, true_and, and_true, false_and, and_false, true_or, or_true, or_false, false_or, not_true_eq_false, not_false_eq_true, zarr, ne_eq, hK, h3, h4]
def TxO (d p : Nat) (M M' : zM) : Rs (List Pr) → Prop
  | .inl e => MF e M' ∧ t16 d p M = some (some (.int ((-10 : Int32) - nI e.2)), zsI M' 146 13 (nI 0))
  | .inr x => zI M' 146 18 = nI 0 ∧ p + x.1.length ≤ 4 ∧ t16 d p M = t68 d (p + x.1.length) 0 (zsI (zsI M' 146 13 (nI 0)) 146 8 (nI (p + x.1.length))) ∧ ∀ j y, x.1[j]? = some y → PrM y (p + j) M'
theorem t16_end {d L w N p i : Nat} {β : Nat → Nat} {pt : Nat → Int64} {M : zM} (hE : EM L w N β pt M) (hm : mTok (tok β N i) M) (h0 : (tok β N i).1 = 0) : zI M 146 18 = nI 0 ∧ t16 d p M = t68 d p 0 (zsI (zsI M 146 13 (nI 0)) 146 8 (nI p)) := by
  have hK : zK M 146 = (11, 52) := by rw [hE.1.2.1]; rfl
  obtain ⟨c18, -, c16⟩ := mTok_ok hm (by omega)
  rw [h0, if_pos (by omega)] at c16
  refine ⟨c18, ?_⟩
  unfold t16 t68
  rw [zg_Mo_text_16]
  unfold zx_Mo_text_16
  clear hE hm
  simp (disch := omega) only [il, nI_add, nI_mul, nI_sub, nI_div, nI_rem, nI_N, i32_lt, i32_le, nI_toInt, nI_subI, nI_clamp, zinT, zifT, iteT, iteF, zQ, zS, zkc, zI_sI, zL_sL, zI_wI, zL_wL, Nat.reduceEqDiff, Nat.reduceAdd, Nat.reduceMul, Nat.reduceLT, Nat.reduceLeDiff, reduceIte, eq_self, and_self, true_and, and_true, false_and, and_false, true_or, or_true, or_false, false_or, not_true_eq_false, not_false_eq_true, zarr, ne_eq, hK, c18, c16]
theorem t16_go {d L w N : Nat} {β : Nat → Nat} {pt : Nat → Int64} (hN : N ≤ 200) (hd : 8 ≤ d) (hk : tkOk (tok β N) N) : ∀ f p i M, p + f = 4 → EM L w N β pt M → mTok (tok β N i) M → (tok β N i).1 ≠ 3 → i ≤ N → ∃ M', fTm p M M' ∧ TxO d p M M' (sTx (tok β N) pt f i) := by
  intro f
  have no : ∀ p i M c, p ≤ 4 → EM L w N β pt M → mTok (tok β N i) M → (tok β N i).1 ≠ 3 → i ≤ N → (tok β N i).1 ≠ 0 → ((¬ ((tok β N i).1 = 1 ∨ (tok β N i).1 = 33 ∨ (tok β N i).1 = 40 ∨ (tok β N i).1 = 123) ∧ c = 2) ∨ (((tok β N i).1 = 1 ∨ (tok β N i).1 = 33 ∨ (tok β N i).1 = 40 ∨ (tok β N i).1 = 123) ∧ p = 4 ∧ c = 4)) → ∃ M', fTm p M M' ∧ TxO d p M M' (.inl (c, plc (tok β N) i)) := by
    intro p i M c hp hE hm h3 hi h0 hc
    have hK : zK M 146 = (11, 52) := by rw [hE.1.2.1]; rfl
    obtain ⟨c18, -, c16⟩ := mTok_ok hm h3
    obtain ⟨d1, rfl⟩ : ∃ d1, d = d1 + 1 := ⟨d - 1, by omega⟩
    obtain ⟨M1, e1, f1, hf⟩ := m_promise_no (d := d1) (by omega) hk hp hE hm h3 hi hc
    have hK1 : zK M1 146 = (11, 52) := by rw [(f1 0).2.1]; exact hK
    have n16 : ¬ zI M 146 16 = nI 0 := by
      rw [c16]
      refine nI_ne (by split <;> omega) (by omega) ?_
      split <;> omega
    have eb := t16_bad (d := d1 + 1) (p := p + 1) hK1 hf
    refine ⟨M1, (f1 p).tm, hf, ?_⟩
    rw [← eb]
    unfold t16
    rw [zg_Mo_text_16]
    unfold zx_Mo_text_16
    clear hE hm hk hc hf eb f1
    simp (disch := omega) only [il, nI_add, nI_mul, nI_sub, nI_div, nI_rem, nI_N, i32_lt, i32_le, nI_toInt, nI_subI, nI_clamp, zinT, zifT, iteT, iteF, zQ, zS, zkc, zI_sI, zL_sL, zI_wI, zL_wL, Nat.reduceEqDiff, Nat.reduceAdd, Nat.reduceMul, Nat.reduceLT, Nat.reduceLeDiff, reduceIte, eq_self, and_self, true_and, and_true, false_and, and_false, true_or, or_true, or_false, false_or, not_true_eq_false, not_false_eq_true, zarr, ne_eq, hK, c18, n16, e1]
  induction f with
  | zero =>
    intro p i M hp hE hm h3 hi
    unfold sTx
    by_cases h0 : (tok β N i).1 = 0
    · rw [if_pos h0]
      obtain ⟨z1, z2⟩ := t16_end (d := d) (p := p) hE hm h0
      exact ⟨M, fTm_rfl p M, z1, by show p + 0 ≤ 4; omega, z2, fun j y h => absurd h (by simp)⟩
    · rw [if_neg h0]
      by_cases hb : (tok β N i).1 = 1 ∨ (tok β N i).1 = 33 ∨ (tok β N i).1 = 40 ∨ (tok β N i).1 = 123
      · rw [if_pos hb]
        exact no p i M 4 (by omega) hE hm h3 hi h0 (Or.inr ⟨hb, by omega, rfl⟩)
      · rw [if_neg hb]
        exact no p i M 2 (by omega) hE hm h3 hi h0 (Or.inl ⟨hb, rfl⟩)
  | succ f ih =>
    intro p i M hp hE hm h3 hi
    unfold sTx
    by_cases h0 : (tok β N i).1 = 0
    · rw [if_pos h0]
      obtain ⟨z1, z2⟩ := t16_end (d := d) (p := p) hE hm h0
      exact ⟨M, fTm_rfl p M, z1, by show p + 0 ≤ 4; omega, z2, fun j y h => absurd h (by simp)⟩
    · rw [if_neg h0]
      by_cases hb : (tok β N i).1 = 1 ∨ (tok β N i).1 = 33 ∨ (tok β N i).1 = 40 ∨ (tok β N i).1 = 123
      · rw [if_pos hb]
        have hK : zK M 146 = (11, 52) := by rw [hE.1.2.1]; rfl
        obtain ⟨c18, -, c16⟩ := mTok_ok hm h3
        have n16 : ¬ zI M 146 16 = nI 0 := by
          rw [c16]
          refine nI_ne (by split <;> omega) (by omega) ?_
          split <;> omega
        obtain ⟨d3, rfl⟩ : ∃ d3, d = d3 + 3 := ⟨d - 3, by omega⟩
        obtain ⟨M1, e1, f1, ho⟩ := m_promise (d := d3) (p := p) hN (by omega) hk (by omega) hE hm h3 hi hb
        have hE1 := EM_pr hE f1
        have hK1 : zK M1 146 = (11, 52) := by rw [hE1.1.2.1]; rfl
        have ev : t16 (d3 + 3) p M = t16 (d3 + 3) (p + 1) M1 := by
          unfold t16
          rw [zg_Mo_text_16]
          unfold zx_Mo_text_16
          clear hE hm hk hb ih no f1 ho hE1
          simp (disch := omega) only [il, nI_add, nI_mul, nI_sub, nI_div, nI_rem, nI_N, i32_lt, i32_le, nI_toInt, nI_subI, nI_clamp, zinT, zifT, iteT, iteF, zQ, zS, zkc, zI_sI, zL_sL, zI_wI, zL_wL, Nat.reduceEqDiff, Nat.reduceAdd, Nat.reduceMul, Nat.reduceLT, Nat.reduceLeDiff, reduceIte, eq_self, and_self, true_and, and_true, false_and, and_false, true_or, or_true, or_false, false_or, not_true_eq_false, not_false_eq_true, zarr, ne_eq, hK, c18, n16, e1]
        cases hrr : sPr (tok β N) pt i with
        | inl e =>
          rw [hrr] at ho
          exact ⟨M1, f1.tm, ho, ev.trans (t16_bad hK1 ho)⟩
        | inr y =>
          rw [hrr] at ho
          obtain ⟨o1, o2, o3, o4⟩ := ho
          obtain ⟨M2, f2, ho2⟩ := ih (p + 1) y.2 M1 (by omega) hE1 o1 o2 o3
          show ∃ M', fTm p M M' ∧ TxO (d3 + 3) p M M' (rb (sTx (tok β N) pt f y.2) (fun ys k => .inr (y.1 :: ys, k)))
          refine ⟨M2, f1.tm.trans f2 (by omega), ?_⟩
          cases hr2 : sTx (tok β N) pt f y.2 with
          | inl e =>
            rw [hr2] at ho2
            exact ⟨ho2.1, ev.trans ho2.2⟩
          | inr v =>
            rw [hr2] at ho2
            obtain ⟨q1, q2, q3, q4⟩ := ho2
            have hlen : p + 1 + v.1.length = p + (v.1.length + 1) := by omega
            rw [hlen] at q2 q3
            refine ⟨q1, q2, ev.trans q3, ?_⟩
            intro j z hj
            cases j with
            | zero =>
              have hy : y.1 = z := Option.some.inj hj
              subst hy
              exact PrM_tm o4 f2 (by omega)
            | succ j =>
              have := q4 j z hj
              rw [show p + (j + 1) = p + 1 + j by omega]
              exact this
      · rw [if_neg hb]
        exact no p i M 2 (by omega) hE hm h3 hi h0 (Or.inl ⟨hb, rfl⟩)
/-! what was read is taken over -/
theorem m_t68 {d L w p : Nat} {M : zM} (hs : zSh L w M) : t68 d p 0 M = t95 d p 0 (zwI M 147 (fil 0 (zI M 147) (zI M 148) 360)) := by
  obtain ⟨hN, hK, hC, hMo, -⟩ := hs
  have key := zloop (n := 360) (g := fun k => t68 d p k (zwI M 147 (fil 0 (zI M 147) (zI M 148) k))) (by
    intro k hk
    show t68 d p k (zwI M 147 (fil 0 (zI M 147) (zI M 148) k)) = t68 d p (k + 1) (zwI M 147 (fil 0 (zI M 147) (zI M 148) (k + 1)))
    have e := zsI_fil M 147 0 k (zI M 147) (zI M 148) (zI M 148 k) rfl
    rw [Nat.zero_add] at e
    rw [← e]
    unfold t68
    rw [zg_Mo_text_68]
    unfold zx_Mo_text_68
    clear e
    simp (disch := omega) only [il, nI_add, nI_mul, nI_sub, nI_div, nI_rem, nI_N, i32_lt, i32_le, nI_toInt, nI_subI, nI_clamp, zinT, zifT, iteT, iteF, zQ, zS, zkc, zI_sI, zL_sL, zI_wI, zL_wL, Nat.reduceEqDiff, Nat.reduceAdd, Nat.reduceMul, Nat.reduceLT, Nat.reduceLeDiff, reduceIte, eq_self, and_self, true_and, and_true, false_and, and_false, true_or, or_true, or_false, false_or, not_true_eq_false, not_false_eq_true, zarr, ne_eq, hK, hMo])
  have k0 : t68 d p 0 M = t68 d p 360 (zwI M 147 (fil 0 (zI M 147) (zI M 148) 360)) := by
    have := key
    simp only [fil_0, zwI_self] at this
    exact this
  rw [k0]
  unfold t68 t95
  rw [zg_Mo_text_68]
  unfold zx_Mo_text_68
  simp (disch := omega) only [il, nI_add, nI_mul, nI_sub, nI_div, nI_rem, nI_N, i32_lt, i32_le, nI_toInt, nI_subI, nI_clamp, zinT, zifT, iteT, iteF, zQ, zS, zkc, zI_sI, zL_sL, zI_wI, zL_wL, Nat.reduceEqDiff, Nat.reduceAdd, Nat.reduceMul, Nat.reduceLT, Nat.reduceLeDiff, reduceIte, eq_self, and_self, true_and, and_true, false_and, and_false, true_or, or_true, or_false, false_or, not_true_eq_false, not_false_eq_true, zarr, ne_eq]
theorem m_t95 {d L w p : Nat} {M : zM} (hs : zSh L w M) : t95 d p 0 M = t122 d p 0 (zwL M 149 (fil 0 (zL M 149) (zL M 150) 1624)) := by
  obtain ⟨hN, hK, hC, hMo, -⟩ := hs
  have key := zloop (n := 1624) (g := fun k => t95 d p k (zwL M 149 (fil 0 (zL M 149) (zL M 150) k))) (by
    intro k hk
    show t95 d p k (zwL M 149 (fil 0 (zL M 149) (zL M 150) k)) = t95 d p (k + 1) (zwL M 149 (fil 0 (zL M 149) (zL M 150) (k + 1)))
    have e := zsL_fil M 149 0 k (zL M 149) (zL M 150) (zL M 150 k) rfl
    rw [Nat.zero_add] at e
    rw [← e]
    unfold t95
    rw [zg_Mo_text_95]
    unfold zx_Mo_text_95
    clear e
    simp (disch := omega) only [il, nI_add, nI_mul, nI_sub, nI_div, nI_rem, nI_N, i32_lt, i32_le, nI_toInt, nI_subI, nI_clamp, zinT, zifT, iteT, iteF, zQ, zS, zkc, zI_sI, zL_sL, zI_wI, zL_wL, Nat.reduceEqDiff, Nat.reduceAdd, Nat.reduceMul, Nat.reduceLT, Nat.reduceLeDiff, reduceIte, eq_self, and_self, true_and, and_true, false_and, and_false, true_or, or_true, or_false, false_or, not_true_eq_false, not_false_eq_true, zarr, ne_eq, hK, hMo])
  have k0 : t95 d p 0 M = t95 d p 1624 (zwL M 149 (fil 0 (zL M 149) (zL M 150) 1624)) := by
    have := key
    simp only [fil_0, zwL_self] at this
    exact this
  rw [k0]
  unfold t95 t122
  rw [zg_Mo_text_95]
  unfold zx_Mo_text_95
  simp (disch := omega) only [il, nI_add, nI_mul, nI_sub, nI_div, nI_rem, nI_N, i32_lt, i32_le, nI_toInt, nI_subI, nI_clamp, zinT, zifT, iteT, iteF, zQ, zS, zkc, zI_sI, zL_sL, zI_wI, zL_wL, Nat.reduceEqDiff, Nat.reduceAdd, Nat.reduceMul, Nat.reduceLT, Nat.reduceLeDiff, reduceIte, eq_self, and_self, true_and, and_true, false_and, and_false, true_or, or_true, or_false, false_or, not_true_eq_false, not_false_eq_true, zarr, ne_eq]
theorem m_t122 {d L w p : Nat} {M : zM} (hs : zSh L w M) : t122 d p 0 M = t148 d p 0 (zwI M 151 (fil 0 (zI M 151) (zI M 152) 8)) := by
  obtain ⟨hN, hK, hC, hMo, -⟩ := hs
  have key := zloop (n := 8) (g := fun k => t122 d p k (zwI M 151 (fil 0 (zI M 151) (zI M 152) k))) (by
    intro k hk
    show t122 d p k (zwI M 151 (fil 0 (zI M 151) (zI M 152) k)) = t122 d p (k + 1) (zwI M 151 (fil 0 (zI M 151) (zI M 152) (k + 1)))
    have e := zsI_fil M 151 0 k (zI M 151) (zI M 152) (zI M 152 k) rfl
    rw [Nat.zero_add] at e
    rw [← e]
    unfold t122
    rw [zg_Mo_text_122]
    unfold zx_Mo_text_122
    clear e
    simp (disch := omega) only [il, nI_add, nI_mul, nI_sub, nI_div, nI_rem, nI_N, i32_lt, i32_le, nI_toInt, nI_subI, nI_clamp, zinT, zifT, iteT, iteF, zQ, zS, zkc, zI_sI, zL_sL, zI_wI, zL_wL, Nat.reduceEqDiff, Nat.reduceAdd, Nat.reduceMul, Nat.reduceLT, Nat.reduceLeDiff, reduceIte, eq_self, and_self, true_and, and_true, false_and, and_false, true_or, or_true, or_false, false_or, not_true_eq_false, not_false_eq_true, zarr, ne_eq, hK, hMo])
  have k0 : t122 d p 0 M = t122 d p 8 (zwI M 151 (fil 0 (zI M 151) (zI M 152) 8)) := by
    have := key
    simp only [fil_0, zwI_self] at this
    exact this
  rw [k0]
  unfold t122 t148
  rw [zg_Mo_text_122]
  unfold zx_Mo_text_122
  simp (disch := omega) only [il, nI_add, nI_mul, nI_sub, nI_div, nI_rem, nI_N, i32_lt, i32_le, nI_toInt, nI_subI, nI_clamp, zinT, zifT, iteT, iteF, zQ, zS, zkc, zI_sI, zL_sL, zI_wI, zL_wL, Nat.reduceEqDiff, Nat.reduceAdd, Nat.reduceMul, Nat.reduceLT, Nat.reduceLeDiff, reduceIte, eq_self, and_self, true_and, and_true, false_and, and_false, true_or, or_true, or_false, false_or, not_true_eq_false, not_false_eq_true, zarr, ne_eq]
theorem m_t148 {d L w p : Nat} {M : zM} (hs : zSh L w M) : t148 d p 0 M = some (some (.int (nI p)), zsI (zsI (zwL M 153 (fil 0 (zL M 153) (zL M 154) 16)) 157 0 (nI 0)) 157 1 (nI 0)) := by
  obtain ⟨hN, hK, hC, hMo, -⟩ := hs
  have key := zloop (n := 16) (g := fun k => t148 d p k (zwL M 153 (fil 0 (zL M 153) (zL M 154) k))) (by
    intro k hk
    show t148 d p k (zwL M 153 (fil 0 (zL M 153) (zL M 154) k)) = t148 d p (k + 1) (zwL M 153 (fil 0 (zL M 153) (zL M 154) (k + 1)))
    have e := zsL_fil M 153 0 k (zL M 153) (zL M 154) (zL M 154 k) rfl
    rw [Nat.zero_add] at e
    rw [← e]
    unfold t148
    rw [zg_Mo_text_148]
    unfold zx_Mo_text_148
    clear e
    simp (disch := omega) only [il, nI_add, nI_mul, nI_sub, nI_div, nI_rem, nI_N, i32_lt, i32_le, nI_toInt, nI_subI, nI_clamp, zinT, zifT, iteT, iteF, zQ, zS, zkc, zI_sI, zL_sL, zI_wI, zL_wL, Nat.reduceEqDiff, Nat.reduceAdd, Nat.reduceMul, Nat.reduceLT, Nat.reduceLeDiff, reduceIte, eq_self, and_self, true_and, and_true, false_and, and_false, true_or, or_true, or_false, false_or, not_true_eq_false, not_false_eq_true, zarr, ne_eq, hK, hMo])
  have k0 : t148 d p 0 M = t148 d p 16 (zwL M 153 (fil 0 (zL M 153) (zL M 154) 16)) := by
    have := key
    simp only [fil_0, zwL_self] at this
    exact this
  rw [k0]
  unfold t148
  rw [zg_Mo_text_148]
  unfold zx_Mo_text_148
  simp (disch := omega) only [il, nI_add, nI_mul, nI_sub, nI_div, nI_rem, nI_N, i32_lt, i32_le, nI_toInt, nI_subI, nI_clamp, zinT, zifT, iteT, iteF, zQ, zS, zkc, zI_sI, zL_sL, zI_wI, zL_wL, Nat.reduceEqDiff, Nat.reduceAdd, Nat.reduceMul, Nat.reduceLT, Nat.reduceLeDiff, reduceIte, eq_self, and_self, true_and, and_true, false_and, and_false, true_or, or_true, or_false, false_or, not_true_eq_false, not_false_eq_true, zarr, ne_eq, hK, hMo, zbast, nar_z0]
def txM (M : zM) (k : Nat) : zM := zsI (zsI (zwL (zwI (zwL (zwI (zsI (zsI M 146 13 (nI 0)) 146 8 (nI k)) 147 (fil 0 (zI M 147) (zI M 148) 360)) 149 (fil 0 (zL M 149) (zL M 150) 1624)) 151 (fil 0 (zI M 151) (zI M 152) 8)) 153 (fil 0 (zL M 153) (zL M 154) 16)) 157 0 (nI 0)) 157 1 (nI 0)
theorem t68_all {d L w p : Nat} {M : zM} (hs : zSh L w M) : t68 d p 0 (zsI (zsI M 146 13 (nI 0)) 146 8 (nI p)) = some (some (.int (nI p)), txM M p) := by
  have hs1 : zSh L w (zsI (zsI M 146 13 (nI 0)) 146 8 (nI p)) := hs
  rw [m_t68 hs1, m_t95 (hs1.wI _ _), m_t122 ((hs1.wI _ _).wL _ _), m_t148 (((hs1.wI _ _).wL _ _).wI _ _)]
  rfl
def MtO (M M' : zM) : Rs (List Pr) → Int32 → zM → Prop
  | .inl e, r, M2 => MF e M' ∧ r = (-10 : Int32) - nI e.2 ∧ M2 = zsI M' 146 13 (nI 0)
  | .inr x, r, M2 => zI M' 146 18 = nI 0 ∧ x.1.length ≤ 4 ∧ r = nI x.1.length ∧ M2 = txM M' x.1.length ∧ ∀ j y, x.1[j]? = some y → PrM y j M'
theorem m_text {d L w N : Nat} {β : Nat → Nat} {pt : Nat → Int64} {M : zM} (hN : N ≤ 200) (hd : 9 ≤ d) (hk : tkOk (tok β N) N) (hE : EM L w N β pt M) : ∃ M' r M2, zV d n_Mo_text [.ref 146] M = some (some (.int r), M2) ∧ fTm 0 M M' ∧ MtO M M' (sTt (tok β N) pt) r M2 := by
  obtain ⟨d, rfl, hd1⟩ := zdep hd
  have hK : zK M 146 = (11, 52) := by rw [hE.1.2.1]; rfl
  have f0 : fMo M (zsI (zsI M 146 18 (nI 0)) 146 14 (nI 0)) := (fMo_s M (j := 18) (by omega) _).trans (fMo_s _ (j := 14) (by omega) _)
  obtain ⟨M1, e1, f1, hm⟩ := m_reads (d := d) (i := 0) (M := zsI (zsI M 146 18 (nI 0)) 146 14 (nI 0)) (by omega) hE.1 (tapeM_fr hE.2.1 f0) (Nat.zero_le N) rfl rfl
  have f2 : fMo M M1 := f0.trans f1
  have hE1 := EM_fr hE (f2.mc (D := 0))
  have hK1 : zK M1 146 = (11, 52) := by rw [hE1.1.2.1]; rfl
  have fT : fTm 0 M M1 := (f2.pr (p := 0)).tm
  have ev : zV (d + 1) n_Mo_text [.ref 146] M = t16 d 0 M1 := by
    rw [ze_Mo_text]
    unfold zx_Mo_text t16
    clear hE f0 f1 hm f2 hE1 fT hk
    simp (disch := omega) only [il, nI_add, nI_mul, nI_sub, nI_div, nI_rem, nI_N, i32_lt, i32_le, nI_toInt, nI_subI, nI_clamp, zinT, zifT, iteT, iteF, zQ, zS, zkc, zI_sI, zL_sL, zI_wI, zL_wL, Nat.reduceEqDiff, Nat.reduceAdd, Nat.reduceMul, Nat.reduceLT, Nat.reduceLeDiff, reduceIte, eq_self, and_self, true_and, and_true, false_and, and_false, true_or, or_true, or_false, false_or, not_true_eq_false, not_false_eq_true, zarr, ne_eq, hK, e1]
  rw [ev]
  unfold sTt
  by_cases h3 : (tok β N 0).1 = 3
  · rw [if_pos h3]
    obtain ⟨b1, b2⟩ := mTok_bad hm h3
    have hf : MF (1, plc (tok β N) 0) M1 := ⟨Nat.zero_lt_one, (show 1 < 10 by decide), b1, b2⟩
    exact ⟨M1, _, _, t16_bad hK1 hf, fT, hf, rfl, rfl⟩
  · rw [if_neg h3]
    obtain ⟨M2, f3, ho⟩ := t16_go (d := d) (L := L) (w := w) (pt := pt) hN hd1 hk 4 0 0 M1 (by omega) hE1 hm h3 (Nat.zero_le N)
    have hs2 := zSh_fr hE1.1 f3.1 f3.2.1 f3.2.2.1
    have ff := fT.trans f3 (Nat.le_refl 0)
    cases hrr : sTx (tok β N) pt 4 0 with
    | inl e =>
      rw [hrr] at ho
      exact ⟨M2, _, _, ho.2, ff, ho.1, rfl, rfl⟩
    | inr x =>
      rw [hrr] at ho
      obtain ⟨q1, q2, q3, q4⟩ := ho
      rw [Nat.zero_add] at q2 q3
      exact ⟨M2, _, _, q3.trans (t68_all hs2), ff, q1, q2, rfl, rfl, fun j y hj => by have := q4 j y hj; rwa [Nat.zero_add] at this⟩
