/-! the reference reads a condition: small steps -/
/-- what the reference may change while it reads a condition, levels below D kept -/
def fMc (D : Nat) (M M' : zM) : Prop := zN M' = zN M ∧ zK M' = zK M ∧ zR M' = zR M ∧ (∀ b, b ≠ 146 → b ≠ 161 → b ≠ 162 → b ≠ 163 → zI M' b = zI M b) ∧ (∀ j, (j < 14 ∨ 20 < j) → j ≠ 27 → zI M' 146 j = zI M 146 j) ∧ (∀ b, b ≠ 159 → b ≠ 160 → b ≠ 164 → zL M' b = zL M b) ∧ (∀ j, j < D → zI M' 161 j = zI M 161 j ∧ zI M' 162 j = zI M 162 j ∧ zI M' 163 j = zI M 163 j) ∧ ∀ j, j < 4 * D → zL M' 159 j = zL M 159 j ∧ zL M' 160 j = zL M 160 j
theorem fMc_rfl (D : Nat) (M : zM) : fMc D M M := ⟨rfl, rfl, rfl, fun _ _ _ _ _ => rfl, fun _ _ _ => rfl, fun _ _ _ _ => rfl, fun _ _ => ⟨rfl, rfl, rfl⟩, fun _ _ => ⟨rfl, rfl⟩⟩
theorem fMc.trans {D D' : Nat} {M M1 M2 : zM} (h : fMc D M M1) (g : fMc D' M1 M2) (hD : D ≤ D') : fMc D M M2 := by
  obtain ⟨a1, a2, a3, a4, a5, a6, a7, a8⟩ := h
  obtain ⟨b1, b2, b3, b4, b5, b6, b7, b8⟩ := g
  exact ⟨b1.trans a1, b2.trans a2, b3.trans a3, fun b h1 h2 h3 h4 => (b4 b h1 h2 h3 h4).trans (a4 b h1 h2 h3 h4), fun j h1 h2 => (b5 j h1 h2).trans (a5 j h1 h2), fun b h1 h2 h3 => (b6 b h1 h2 h3).trans (a6 b h1 h2 h3), fun j hj => ⟨(b7 j (by omega)).1.trans (a7 j hj).1, (b7 j (by omega)).2.1.trans (a7 j hj).2.1, (b7 j (by omega)).2.2.trans (a7 j hj).2.2⟩, fun j hj => ⟨(b8 j (by omega)).1.trans (a8 j hj).1, (b8 j (by omega)).2.trans (a8 j hj).2⟩⟩
theorem fMo.mc {D : Nat} {M M' : zM} (h : fMo M M') : fMc D M M' := ⟨h.1, h.2.1, h.2.2.1, fun b h1 _ _ _ => h.2.2.2.2.1 b h1, fun j h1 _ => h.2.2.2.2.2 j (by omega), fun b _ _ _ => by rw [h.2.2.2.1], fun j _ => ⟨by rw [h.2.2.2.2.1 161 (by omega)], by rw [h.2.2.2.2.1 162 (by omega)], by rw [h.2.2.2.2.1 163 (by omega)]⟩, fun j _ => ⟨by rw [h.2.2.2.1], by rw [h.2.2.2.1]⟩⟩
theorem mTok_ok {x : Tk} {M : zM} (h : mTok x M) (h3 : x.1 ≠ 3) : zI M 146 18 = nI 0 ∧ zI M 146 15 = nI x.2.2.1 ∧ zI M 146 16 = nI (if x.1 < 3 then x.1 else 3) := by
  obtain ⟨c1, c2, c3, c4, c5, c6⟩ := h
  rw [if_neg h3] at c3
  exact ⟨c3, c2, c5 h3⟩
theorem mTok_bad {x : Tk} {M : zM} (h : mTok x M) (h3 : x.1 = 3) : zI M 146 18 = nI 1 ∧ zI M 146 19 = nI x.2.2.1 := by
  obtain ⟨c1, c2, c3, c4, c5, c6⟩ := h
  rw [if_pos h3] at c3
  exact ⟨c3, c4 h3⟩
theorem mTok_I {x : Tk} {M M' : zM} (h : mTok x M) (e : ∀ j, 14 ≤ j → j ≤ 19 → zI M' 146 j = zI M 146 j) : mTok x M' := by
  unfold mTok
  rw [e 14 (by omega) (by omega), e 15 (by omega) (by omega), e 16 (by omega) (by omega), e 17 (by omega) (by omega), e 18 (by omega) (by omega), e 19 (by omega) (by omega)]
  exact h
def EM (L w N : Nat) (β : Nat → Nat) (pt : Nat → Int64) (M : zM) : Prop := zSh L w M ∧ tapeM N β M ∧ ∀ k, k < 6 → zL M 165 k = pt k
theorem EM_fr {L w N D : Nat} {β : Nat → Nat} {pt : Nat → Int64} {M M' : zM} (h : EM L w N β pt M) (f : fMc D M M') : EM L w N β pt M' := by
  obtain ⟨h1, h2, h3⟩ := h
  refine ⟨zSh_fr h1 f.1 f.2.1 f.2.2.1, ?_, by rw [f.2.2.2.2.2.1 165 (by omega) (by omega) (by omega)]; exact h3⟩
  unfold tapeM
  rw [f.2.2.2.2.1 13 (by omega) (by omega), f.2.2.2.1 158 (by omega) (by omega) (by omega) (by omega)]
  exact h2
/-- where a token of a sign begins, that sign stands -/
theorem tok_sign {β : Nat → Nat} {N i : Nat} (hi : i ≤ N) : ((tok β N i).1 = 1 → (tok β N i).2.2.1 < N ∧ β (tok β N i).2.2.1 = (tok β N i).2.1 + 97) ∧ (3 < (tok β N i).1 → (tok β N i).2.2.1 < N ∧ β (tok β N i).2.2.1 = (tok β N i).1) := by
  have hb := skp_b (β := β) (N - i) i
  unfold tok
  generalize skp β (N - i) i = p at *
  unfold tkAt
  by_cases h1 : N ≤ p
  · rw [if_pos h1]
    exact ⟨fun h => absurd h (show ¬ 0 = 1 by decide), fun h => absurd h (show ¬ 3 < 0 by decide)⟩
  · rw [if_neg h1]
    by_cases h2 : 97 ≤ β p ∧ β p ≤ 104
    · rw [if_pos h2]
      exact ⟨fun _ => ⟨by show p < N; omega, by show β p = β p - 97 + 97; omega⟩, fun h => absurd h (show ¬ 3 < 1 by decide)⟩
    · rw [if_neg h2]
      by_cases h3 : 48 ≤ β p ∧ β p ≤ 57
      · rw [if_pos h3]
        by_cases h4 : fgs β (N - (p + 1)) (p + 1) ≤ p + 2
        · rw [if_pos h4]
          exact ⟨fun h => absurd h (show ¬ 2 = 1 by decide), fun h => absurd h (show ¬ 3 < 2 by decide)⟩
        · rw [if_neg h4]
          exact ⟨fun h => absurd h (show ¬ 3 = 1 by decide), fun h => absurd h (show ¬ 3 < 3 by decide)⟩
      · rw [if_neg h3]
        by_cases h4 : isSg (β p) = true
        · rw [if_pos h4]
          exact ⟨fun (h : β p = 1) => by rw [h] at h4; exact absurd h4 (by decide), fun _ => ⟨by show p < N; omega, rfl⟩⟩
        · rw [if_neg h4]
          exact ⟨fun h => absurd h (show ¬ 3 = 1 by decide), fun h => absurd h (show ¬ 3 < 3 by decide)⟩
/-- a sign is asked for -/
theorem m_isSign {d L w N i c : Nat} {β : Nat → Nat} {pt : Nat → Int64} {M : zM} (hd : 2 ≤ d) (hE : EM L w N β pt M) (hk : tkOk (tok β N) N) (hm : mTok (tok β N i) M) (h3 : (tok β N i).1 ≠ 3) (hi : i ≤ N) (hc : 3 < c) (hc2 : c < 128) : zV d n_Mo_isSign [.ref 146, .int (nI c)] M = some (some (.int (nI (if (tok β N i).1 = c then 1 else 0))), M) := by
  obtain ⟨d, rfl, hd1⟩ := zdep hd
  obtain ⟨c18, c15, c16⟩ := mTok_ok hm h3
  have hK : zK M 146 = (11, 52) := by rw [hE.1.2.1]; rfl
  have hkd := (hk i hi).2.2.2.2.2.1
  rw [ze_Mo_isSign]
  unfold zx_Mo_isSign
  by_cases h4 : (tok β N i).1 < 3
  · rw [if_pos h4] at c16
    rw [if_neg (by omega)]
    clear hE hk hm
    generalize (tok β N i).1 = K at *
    simp (disch := omega) only [il, nI_add, nI_mul, nI_sub, nI_div, nI_rem, nI_N, i32_lt, i32_le, nI_toInt, nI_subI, nI_clamp, zinT, zifT, iteT, iteF, zQ, zS, zkc, zI_sI, zL_sL, zI_wI, zL_wL, Nat.reduceEqDiff, Nat.reduceAdd, Nat.reduceMul, Nat.reduceLT, Nat.reduceLeDiff, reduceIte, eq_self, and_self, true_and, and_true, false_and, and_false, true_or, or_true, or_false, false_or, not_true_eq_false, not_false_eq_true, zarr, ne_eq, hK, c18, c16]
  · rw [if_neg h4] at c16
    obtain ⟨b1, b2⟩ := (tok_sign (β := β) hi).2 (by omega)
    have eb := m_byteAt_t (d := d) hd1 hE.1 hE.2.1 b1
    rw [b2] at eb
    by_cases h5 : (tok β N i).1 = c
    · rw [if_pos h5]
      rw [h5] at eb
      clear hE hk hm b2
      simp (disch := omega) only [il, nI_add, nI_mul, nI_sub, nI_div, nI_rem, nI_N, i32_lt, i32_le, nI_toInt, nI_subI, nI_clamp, zinT, zifT, iteT, iteF, zQ, zS, zkc, zI_sI, zL_sL, zI_wI, zL_wL, Nat.reduceEqDiff, Nat.reduceAdd, Nat.reduceMul, Nat.reduceLT, Nat.reduceLeDiff, reduceIte, eq_self, and_self, true_and, and_true, false_and, and_false, true_or, or_true, or_false, false_or, not_true_eq_false, not_false_eq_true, zarr, ne_eq, hK, c18, c16, c15, eb]
    · rw [if_neg h5]
      have hne : ¬ nI (tok β N i).1 = nI c := nI_ne (by omega) (by omega) h5
      clear hE hk hm b2
      simp (disch := omega) only [il, nI_add, nI_mul, nI_sub, nI_div, nI_rem, nI_N, i32_lt, i32_le, nI_toInt, nI_subI, nI_clamp, zinT, zifT, iteT, iteF, zQ, zS, zkc, zI_sI, zL_sL, zI_wI, zL_wL, Nat.reduceEqDiff, Nat.reduceAdd, Nat.reduceMul, Nat.reduceLT, Nat.reduceLeDiff, reduceIte, eq_self, and_self, true_and, and_true, false_and, and_false, true_or, or_true, or_false, false_or, not_true_eq_false, not_false_eq_true, zarr, ne_eq, hK, c18, c16, c15, eb, hne]
theorem m_isSign_b {d f : Nat} {c : Int32} {M : zM} (hd : 1 ≤ d) (hK : zK M 146 = (11, 52)) (h18 : zI M 146 18 = nI f) (hf : 0 < f) (hf2 : f < 100) : zV d n_Mo_isSign [.ref 146, .int c] M = some (some (.int (nI 0)), M) := by
  obtain ⟨d, rfl, hd1⟩ := zdep hd
  rw [ze_Mo_isSign]
  unfold zx_Mo_isSign
  simp (disch := omega) only [il, nI_add, nI_mul, nI_sub, nI_div, nI_rem, nI_N, i32_lt, i32_le, nI_toInt, nI_subI, nI_clamp, zinT, zifT, iteT, iteF, zQ, zS, zkc, zI_sI, zL_sL, zI_wI, zL_wL, Nat.reduceEqDiff, Nat.reduceAdd, Nat.reduceMul, Nat.reduceLT, Nat.reduceLeDiff, reduceIte, eq_self, and_self, true_and, and_true, false_and, and_false, true_or, or_true, or_false, false_or, not_true_eq_false, not_false_eq_true, zarr, ne_eq, hK, h18]
theorem m_opensDepth {d L w l : Nat} {M : zM} (hd : 1 ≤ d) (hs : zSh L w M) (h27 : zI M 146 27 = nI l) (hl : l < 10) : zV d n_Mo_opensDepth [.ref 146] M = some (none, zsI (zsI (zsI M 161 l (nI 0)) 162 l (nI 0)) 163 l (nI 0)) := by
  obtain ⟨d, rfl, hd1⟩ := zdep hd
  obtain ⟨hN, hK, hC, hMo, -⟩ := hs
  rw [ze_Mo_opensDepth]
  unfold zx_Mo_opensDepth
  simp (disch := omega) only [il, nI_add, nI_mul, nI_sub, nI_div, nI_rem, nI_N, i32_lt, i32_le, nI_toInt, nI_subI, nI_clamp, zinT, zifT, iteT, iteF, zQ, zS, zkc, zI_sI, zL_sL, zI_wI, zL_wL, Nat.reduceEqDiff, Nat.reduceAdd, Nat.reduceMul, Nat.reduceLT, Nat.reduceLeDiff, reduceIte, eq_self, and_self, true_and, and_true, false_and, and_false, true_or, or_true, or_false, false_or, not_true_eq_false, not_false_eq_true, zarr, ne_eq, hK, hMo, h27, zbast, nar_z0]
