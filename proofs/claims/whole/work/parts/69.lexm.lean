/-! tokens: the reference reads them -/
def tapeM (N : Nat) (β : Nat → Nat) (M : zM) : Prop := N ≤ 200 ∧ zI M 146 13 = nI N ∧ ∀ i, i < N → zI M 158 i = nI (β i) ∧ β i < 128
def fMo (M M' : zM) : Prop := zN M' = zN M ∧ zK M' = zK M ∧ zR M' = zR M ∧ zL M' = zL M ∧ (∀ b, b ≠ 146 → zI M' b = zI M b) ∧ ∀ j, (j < 14 ∨ 19 < j) → zI M' 146 j = zI M 146 j
theorem fMo_rfl (M : zM) : fMo M M := ⟨rfl, rfl, rfl, rfl, fun _ _ => rfl, fun _ _ => rfl⟩
theorem fMo.trans {M M1 M2 : zM} (h : fMo M M1) (g : fMo M1 M2) : fMo M M2 := by
  obtain ⟨a1, a2, a3, a4, a5, a6⟩ := h
  obtain ⟨b1, b2, b3, b4, b5, b6⟩ := g
  exact ⟨b1.trans a1, b2.trans a2, b3.trans a3, b4.trans a4, fun b hb => (b5 b hb).trans (a5 b hb), fun j hj => (b6 j hj).trans (a6 j hj)⟩
theorem fMo_s (M : zM) {j : Nat} (hj : 14 ≤ j ∧ j ≤ 19) (x : Int32) : fMo M (zsI M 146 j x) := ⟨rfl, rfl, rfl, rfl, fun b hb => zI_ne hb, fun i hi => by rw [zI_sI, if_neg (fun q => by omega)]⟩
theorem tapeM_fr {N : Nat} {β : Nat → Nat} {M M' : zM} (h : tapeM N β M) (f : fMo M M') : tapeM N β M' := by
  unfold tapeM
  rw [f.2.2.2.2.2 13 (by omega), f.2.2.2.2.1 158 (by omega)]
  exact h
/-- the reference stands at a token -/
def mTok (x : Tk) (M : zM) : Prop := zI M 146 14 = nI x.2.2.2 ∧ zI M 146 15 = nI x.2.2.1 ∧ zI M 146 18 = nI (if x.1 = 3 then 1 else 0) ∧ (x.1 = 3 → zI M 146 19 = nI x.2.2.1) ∧ (x.1 ≠ 3 → zI M 146 16 = nI (if x.1 < 3 then x.1 else 3)) ∧ (x.1 = 2 → zI M 146 17 = nI x.2.1)
theorem m_byteAt_t {d L w N p : Nat} {β : Nat → Nat} {M : zM} (hd : 1 ≤ d) (hs : zSh L w M) (hT : tapeM N β M) (hp : p < N) : zV d n_Mo_byteAt [.ref 146, .int (nI p)] M = some (some (.int (nI (β p))), M) := by
  obtain ⟨d, rfl, hd1⟩ := zdep hd
  obtain ⟨hN, hK, hC, hMo, -⟩ := hs
  obtain ⟨T1, T2, T3⟩ := hT
  have b1 := (T3 p hp).1
  rw [ze_Mo_byteAt]
  unfold zx_Mo_byteAt
  clear T3
  simp (disch := omega) only [il, nI_add, nI_mul, nI_sub, nI_div, nI_rem, nI_N, i32_lt, i32_le, nI_toInt, nI_subI, nI_clamp, zinT, zifT, iteT, iteF, zQ, zS, zkc, zI_sI, zL_sL, zI_wI, zL_wL, Nat.reduceEqDiff, Nat.reduceAdd, Nat.reduceMul, Nat.reduceLT, Nat.reduceLeDiff, reduceIte, eq_self, and_self, true_and, and_true, false_and, and_false, true_or, or_true, or_false, false_or, not_true_eq_false, not_false_eq_true, zarr, ne_eq, hK, hMo, T2, b1]
theorem m_byteAt_f {d L w N p : Nat} {β : Nat → Nat} {M : zM} (hd : 1 ≤ d) (hs : zSh L w M) (hT : tapeM N β M) (hp : N ≤ p) (hp2 : p < 1000) : zV d n_Mo_byteAt [.ref 146, .int (nI p)] M = some (some (.int (-nI 1)), M) := by
  obtain ⟨d, rfl, hd1⟩ := zdep hd
  obtain ⟨hN, hK, hC, hMo, -⟩ := hs
  obtain ⟨T1, T2, T3⟩ := hT
  rw [ze_Mo_byteAt]
  unfold zx_Mo_byteAt
  clear T3
  simp (disch := omega) only [il, nI_add, nI_mul, nI_sub, nI_div, nI_rem, nI_N, i32_lt, i32_le, nI_toInt, nI_subI, nI_clamp, zinT, zifT, iteT, iteF, zQ, zS, zkc, zI_sI, zL_sL, zI_wI, zL_wL, Nat.reduceEqDiff, Nat.reduceAdd, Nat.reduceMul, Nat.reduceLT, Nat.reduceLeDiff, reduceIte, eq_self, and_self, true_and, and_true, false_and, and_false, true_or, or_true, or_false, false_or, not_true_eq_false, not_false_eq_true, zarr, ne_eq, hK, hMo, T2]
theorem m_requires_t {d x : Nat} {M : zM} (hd : 1 ≤ d) : zV d n_Mo_requires [.ref 146, .int (nI 1), .int (nI x)] M = some (none, M) := by
  obtain ⟨d, rfl, hd1⟩ := zdep hd
  rw [ze_Mo_requires]
  unfold zx_Mo_requires
  simp (disch := omega) only [il, nI_add, nI_mul, nI_sub, nI_div, nI_rem, nI_N, i32_lt, i32_le, nI_toInt, nI_subI, nI_clamp, zinT, zifT, iteT, iteF, zQ, zS, zkc, zI_sI, zL_sL, zI_wI, zL_wL, Nat.reduceEqDiff, Nat.reduceAdd, Nat.reduceMul, Nat.reduceLT, Nat.reduceLeDiff, reduceIte, eq_self, and_self, true_and, and_true, false_and, and_false, true_or, or_true, or_false, false_or, not_true_eq_false, not_false_eq_true, zarr, ne_eq]
theorem m_requires_f {d x : Nat} {M : zM} (hd : 1 ≤ d) (hk : zK M 146 = (11, 52)) (h18 : zI M 146 18 = nI 0) : zV d n_Mo_requires [.ref 146, .int (nI 0), .int (nI x)] M = some (none, zsI (zsI M 146 18 (nI x)) 146 19 (zI M 146 15)) := by
  obtain ⟨d, rfl, hd1⟩ := zdep hd
  rw [ze_Mo_requires]
  unfold zx_Mo_requires
  simp (disch := omega) only [il, nI_add, nI_mul, nI_sub, nI_div, nI_rem, nI_N, i32_lt, i32_le, nI_toInt, nI_subI, nI_clamp, zinT, zifT, iteT, iteF, zQ, zS, zkc, zI_sI, zL_sL, zI_wI, zL_wL, Nat.reduceEqDiff, Nat.reduceAdd, Nat.reduceMul, Nat.reduceLT, Nat.reduceLeDiff, reduceIte, eq_self, and_self, true_and, and_true, false_and, and_false, true_or, or_true, or_false, false_or, not_true_eq_false, not_false_eq_true, zarr, ne_eq, hk, h18]
theorem m_requires_b {d f : Nat} {x y : Int32} {M : zM} (hd : 1 ≤ d) (hk : zK M 146 = (11, 52)) (h18 : zI M 146 18 = nI f) (hf : 0 < f) (hf2 : f < 100) : zV d n_Mo_requires [.ref 146, .int y, .int x] M = some (none, M) := by
  obtain ⟨d, rfl, hd1⟩ := zdep hd
  rw [ze_Mo_requires]
  unfold zx_Mo_requires
  by_cases hy : y = nI 0
  · subst hy
    simp (disch := omega) only [il, nI_add, nI_mul, nI_sub, nI_div, nI_rem, nI_N, i32_lt, i32_le, nI_toInt, nI_subI, nI_clamp, zinT, zifT, iteT, iteF, zQ, zS, zkc, zI_sI, zL_sL, zI_wI, zL_wL, Nat.reduceEqDiff, Nat.reduceAdd, Nat.reduceMul, Nat.reduceLT, Nat.reduceLeDiff, reduceIte, eq_self, and_self, true_and, and_true, false_and, and_false, true_or, or_true, or_false, false_or, not_true_eq_false, not_false_eq_true, zarr, ne_eq, hk, h18]
  · simp (disch := omega) only [il, nI_add, nI_mul, nI_sub, nI_div, nI_rem, nI_N, i32_lt, i32_le, nI_toInt, nI_subI, nI_clamp, zinT, zifT, iteT, iteF, zQ, zS, zkc, zI_sI, zL_sL, zI_wI, zL_wL, Nat.reduceEqDiff, Nat.reduceAdd, Nat.reduceMul, Nat.reduceLT, Nat.reduceLeDiff, reduceIte, eq_self, and_self, true_and, and_true, false_and, and_false, true_or, or_true, or_false, false_or, not_true_eq_false, not_false_eq_true, zarr, ne_eq, hk, h18, hy]
theorem m_isSignByte {d c : Nat} {M : zM} (hd : 1 ≤ d) (hc : c < 128) : zV d n_Mo_isSignByte [.int (nI c)] M = some (some (.int (nI (isSg c).toNat)), M) := by
  obtain ⟨d, rfl, hd1⟩ := zdep hd
  rw [ze_Mo_isSignByte]
  unfold zx_Mo_isSignByte
  have key : ∀ c : Nat, c < 128 → (if nI c = (33 : Int32) then (1 : Nat) else if nI c = (38 : Int32) then 1 else if nI c = (124 : Int32) then 1 else if nI c = (40 : Int32) then 1 else if nI c = (41 : Int32) then 1 else if nI c = (123 : Int32) then 1 else if nI c = (125 : Int32) then 1 else if nI c = (44 : Int32) then 1 else if nI c = (47 : Int32) then 1 else if nI c = (42 : Int32) then 1 else if nI c = (61 : Int32) then 1 else if nI c = (62 : Int32) then 1 else if nI c = (126 : Int32) then 1 else if nI c ≠ (59 : Int32) then 0 else 1) = (isSg c).toNat := by decide +kernel
  rw [← key c hc]
  have z1 : zif ((1 : Int32) = 0 ∨ (1 : Int32) = 1) (some (some (Value.int (1 : Int32)), M)) = some (some (Value.int (nI 1)), M) := zif_t (Or.inr rfl)
  have z0 : zif ((0 : Int32) = 0 ∨ (0 : Int32) = 1) (some (some (Value.int (0 : Int32)), M)) = some (some (Value.int (nI 0)), M) := zif_t (Or.inl rfl)
  rw [z1, z0]
  by_cases h33 : nI c = (33 : Int32)
  · rw [if_pos h33, if_pos h33]
  rw [if_neg h33, if_neg h33]
  by_cases h38 : nI c = (38 : Int32)
  · rw [if_pos h38, if_pos h38]
  rw [if_neg h38, if_neg h38]
  by_cases h124 : nI c = (124 : Int32)
  · rw [if_pos h124, if_pos h124]
  rw [if_neg h124, if_neg h124]
  by_cases h40 : nI c = (40 : Int32)
  · rw [if_pos h40, if_pos h40]
  rw [if_neg h40, if_neg h40]
  by_cases h41 : nI c = (41 : Int32)
  · rw [if_pos h41, if_pos h41]
  rw [if_neg h41, if_neg h41]
  by_cases h123 : nI c = (123 : Int32)
  · rw [if_pos h123, if_pos h123]
  rw [if_neg h123, if_neg h123]
  by_cases h125 : nI c = (125 : Int32)
  · rw [if_pos h125, if_pos h125]
  rw [if_neg h125, if_neg h125]
  by_cases h44 : nI c = (44 : Int32)
  · rw [if_pos h44, if_pos h44]
  rw [if_neg h44, if_neg h44]
  by_cases h47 : nI c = (47 : Int32)
  · rw [if_pos h47, if_pos h47]
  rw [if_neg h47, if_neg h47]
  by_cases h42 : nI c = (42 : Int32)
  · rw [if_pos h42, if_pos h42]
  rw [if_neg h42, if_neg h42]
  by_cases h61 : nI c = (61 : Int32)
  · rw [if_pos h61, if_pos h61]
  rw [if_neg h61, if_neg h61]
  by_cases h62 : nI c = (62 : Int32)
  · rw [if_pos h62, if_pos h62]
  rw [if_neg h62, if_neg h62]
  by_cases h126 : nI c = (126 : Int32)
  · rw [if_pos h126, if_pos h126]
  rw [if_neg h126, if_neg h126]
  by_cases h59 : nI c = (59 : Int32)
  · rw [if_neg (fun q => q h59), if_neg (fun q => q h59)]
  rw [if_pos h59, if_pos h59]
theorem m1_32 : ¬ -nI 1 = nI 32 := by decide
theorem m_fig_go {d L w N p : Nat} {β : Nat → Nat} (hd : 1 ≤ d) : ∀ k j (M : zM), zSh L w M → tapeM N β M → j + k = N → p ≤ j → j < 1000 → zI M 146 14 = nI j → zI M 146 15 = nI p → zI M 146 16 = nI 2 → zI M 146 18 = nI 0 → 48 ≤ β p → zI M 146 17 = nI (if j = p then 0 else if j = p + 1 then β p - 48 else (β p - 48) * 10 + (β (p + 1) - 48)) →
    ∃ M', zG d n_Mo_reads 87 [some (.ref 146), none] [] M = some (none, M') ∧ fMo M M' ∧ (p < fgs β k j → mTok (if fgs β k j ≤ p + 2 then (2, if fgs β k j = p + 1 then β p - 48 else (β p - 48) * 10 + (β (p + 1) - 48), p, fgs β k j) else (3, 0, p, fgs β k j)) M') := by
  intro k
  have fin : ∀ j (M : zM), zSh L w M → tapeM N β M → p ≤ j → j < 1000 → zI M 146 14 = nI j → zI M 146 15 = nI p → zI M 146 16 = nI 2 → zI M 146 18 = nI 0 → zI M 146 17 = nI (if j = p then 0 else if j = p + 1 then β p - 48 else (β p - 48) * 10 + (β (p + 1) - 48)) → (∃ y, zV d n_Mo_byteAt [.ref 146, .int (nI j)] M = some (some (.int y), M) ∧ (y.toInt < 48 ∨ 57 < y.toInt)) → ∃ M', zG d n_Mo_reads 87 [some (.ref 146), none] [] M = some (none, M') ∧ fMo M M' ∧ (p < j → mTok (if j ≤ p + 2 then (2, if j = p + 1 then β p - 48 else (β p - 48) * 10 + (β (p + 1) - 48), p, j) else (3, 0, p, j)) M') := by
    intro j M hs hT hpj hj1 h14 h15 h16 h18 h17 ⟨y, ey, hy⟩
    have hk : zK M 146 = (11, 52) := by rw [hs.2.1]; rfl
    by_cases hl : j ≤ p + 2
    · refine ⟨M, ?_, fMo_rfl M, fun hpj2 => ?_⟩
      · rw [zg_Mo_reads_87]
        unfold zx_Mo_reads_87
        have e1 := m_requires_t (d := d) (x := 1) (M := M) hd
        clear hT hs
        simp (disch := omega) only [il, nI_add, nI_mul, nI_sub, nI_div, nI_rem, nI_N, i32_lt, i32_le, nI_toInt, nI_subI, nI_clamp, zinT, zifT, iteT, iteF, zQ, zS, zkc, zI_sI, zL_sL, zI_wI, zL_wL, Nat.reduceEqDiff, Nat.reduceAdd, Nat.reduceMul, Nat.reduceLT, Nat.reduceLeDiff, reduceIte, eq_self, and_self, true_and, and_true, false_and, and_false, true_or, or_true, or_false, false_or, not_true_eq_false, not_false_eq_true, zarr, ne_eq, hk, h14, h15, ey, mo_in hd, i64_toInt, zlit64, e1]
      · rw [if_pos hl]
        rw [if_neg (by omega)] at h17
        exact ⟨h14, h15, h18, fun q => absurd q (show ¬ 2 = 3 by decide), fun _ => h16, fun _ => h17⟩
    · have e1 := m_requires_f (d := d) (x := 1) (M := M) hd hk h18
      refine ⟨_, ?_, (fMo_s M (j := 18) (by omega) (nI 1)).trans (fMo_s _ (j := 19) (by omega) (zI M 146 15)), fun _ => ?_⟩
      · rw [zg_Mo_reads_87]
        unfold zx_Mo_reads_87
        clear hT hs
        simp (disch := omega) only [il, nI_add, nI_mul, nI_sub, nI_div, nI_rem, nI_N, i32_lt, i32_le, nI_toInt, nI_subI, nI_clamp, zinT, zifT, iteT, iteF, zQ, zS, zkc, zI_sI, zL_sL, zI_wI, zL_wL, Nat.reduceEqDiff, Nat.reduceAdd, Nat.reduceMul, Nat.reduceLT, Nat.reduceLeDiff, reduceIte, eq_self, and_self, true_and, and_true, false_and, and_false, true_or, or_true, or_false, false_or, not_true_eq_false, not_false_eq_true, zarr, ne_eq, hk, h14, h15, ey, mo_in hd, i64_toInt, zlit64, e1]
      · rw [if_neg hl]
        exact ⟨h14, h15, rfl, fun _ => h15, fun q => absurd rfl q, fun q => absurd q (show ¬ 3 = 2 by decide)⟩
  induction k with
  | zero =>
    intro j M hs hT hj hpj hj1 h14 h15 h16 h18 hb h17
    exact fin j M hs hT hpj hj1 h14 h15 h16 h18 h17 ⟨-nI 1, m_byteAt_f hd hs hT (by omega) hj1, by decide⟩
  | succ k ih =>
    intro j M hs hT hj hpj hj1 h14 h15 h16 h18 hb h17
    have hk : zK M 146 = (11, 52) := by rw [hs.2.1]; rfl
    have eb := m_byteAt_t (d := d) hd hs hT (show j < N by omega)
    have hN2 := hT.1
    have b2 := (hT.2.2 j (by omega)).2
    by_cases hf : 48 ≤ β j ∧ β j ≤ 57
    · have efg : fgs β (k + 1) j = fgs β k (j + 1) := if_pos hf
      rw [efg]
      by_cases hl : p + 2 ≤ j
      · have hself : zsI M 146 17 (zI M 146 17) = M := by
          obtain ⟨a1, a2, a3, a4, a5⟩ := M
          unfold zsI
          congr 3
          funext c q
          unfold zu
          by_cases hc : c = 146 ∧ q = 17
          · rw [if_pos hc, hc.1, hc.2]; rfl
          · rw [if_neg hc]
        obtain ⟨M', e, g1, g2⟩ := ih (j + 1) (zsI M 146 14 (nI (j + 1))) hs (tapeM_fr hT (fMo_s M (j := 14) (by omega) _)) (by omega) (by omega) (by omega) rfl h15 h16 h18 hb (by rw [if_neg (by omega), if_neg (by omega)]; rw [if_neg (by omega), if_neg (by omega)] at h17; exact h17)
        refine ⟨M', ?_, (fMo_s M (j := 14) (by omega) _).trans g1, g2⟩
        rw [← e, zg_Mo_reads_87]
        unfold zx_Mo_reads_87
        clear hT hs ih fin g1 g2 e h17
        simp (disch := omega) only [il, nI_add, nI_mul, nI_sub, nI_div, nI_rem, nI_N, i32_lt, i32_le, nI_toInt, nI_subI, nI_clamp, zinT, zifT, iteT, iteF, zQ, zS, zkc, zI_sI, zL_sL, zI_wI, zL_wL, Nat.reduceEqDiff, Nat.reduceAdd, Nat.reduceMul, Nat.reduceLT, Nat.reduceLeDiff, reduceIte, eq_self, and_self, true_and, and_true, false_and, and_false, true_or, or_true, or_false, false_or, not_true_eq_false, not_false_eq_true, zarr, ne_eq, hk, h14, h15, eb, mo_in hd, i64_toInt, zlit64, hself]
      · have hv : nI 10 * zI M 146 17 + nI (β j) - nI 48 = nI (if j + 1 = p then 0 else if j + 1 = p + 1 then β p - 48 else (β p - 48) * 10 + (β (p + 1) - 48)) := by
          rw [h17, nI_mul, nI_add, nI_sub (by omega)]
          by_cases h1 : j = p
          · subst h1
            rw [if_pos rfl, if_neg (by omega), if_pos rfl]
            congr 1; omega
          · have : j = p + 1 := by omega
            subst this
            rw [if_neg (by omega), if_pos rfl, if_neg (by omega), if_neg (by omega)]
            congr 1; omega
        obtain ⟨M', e, g1, g2⟩ := ih (j + 1) (zsI (zsI M 146 17 (nI (if j + 1 = p then 0 else if j + 1 = p + 1 then β p - 48 else (β p - 48) * 10 + (β (p + 1) - 48)))) 146 14 (nI (j + 1))) hs (tapeM_fr hT ((fMo_s M (j := 17) (by omega) _).trans (fMo_s _ (j := 14) (by omega) _))) (by omega) (by omega) (by omega) rfl h15 h16 h18 hb rfl
        refine ⟨M', ?_, ((fMo_s M (j := 17) (by omega) _).trans (fMo_s _ (j := 14) (by omega) _)).trans g1, g2⟩
        rw [← e, ← hv, zg_Mo_reads_87]
        unfold zx_Mo_reads_87
        clear hT hs ih fin g1 g2 e h17 hv
        simp (disch := omega) only [il, nI_add, nI_mul, nI_sub, nI_div, nI_rem, nI_N, i32_lt, i32_le, nI_toInt, nI_subI, nI_clamp, zinT, zifT, iteT, iteF, zQ, zS, zkc, zI_sI, zL_sL, zI_wI, zL_wL, Nat.reduceEqDiff, Nat.reduceAdd, Nat.reduceMul, Nat.reduceLT, Nat.reduceLeDiff, reduceIte, eq_self, and_self, true_and, and_true, false_and, and_false, true_or, or_true, or_false, false_or, not_true_eq_false, not_false_eq_true, zarr, ne_eq, hk, h14, h15, eb, mo_in hd, i64_toInt, zlit64]
    · have efg : fgs β (k + 1) j = j := if_neg hf
      rw [efg]
      exact fin j M hs hT hpj hj1 h14 h15 h16 h18 h17 ⟨nI (β j), eb, by rw [nI_toInt (by omega)]; omega⟩
theorem m_skip_go {d L w N : Nat} {β : Nat → Nat} (hd : 1 ≤ d) : ∀ k i (M : zM), zSh L w M → tapeM N β M → i + k = N → zI M 146 14 = nI i →
    ∃ M', zG d n_Mo_reads 8 [some (.ref 146), none] [] M = zG d n_Mo_reads 8 [some (.ref 146), none] [] M' ∧ fMo M M' ∧ zI M' 146 14 = nI (skp β k i) ∧ (∀ j, j ≠ 14 → zI M' 146 j = zI M 146 j) ∧ (skp β k i < N → β (skp β k i) ≠ 32) := by
  intro k
  induction k with
  | zero =>
    intro i M hs hT hi h14
    exact ⟨M, rfl, fMo_rfl M, h14, fun _ _ => rfl, fun h => absurd h (by unfold skp; omega)⟩
  | succ k ih =>
    intro i M hs hT hi h14
    have hk : zK M 146 = (11, 52) := by rw [hs.2.1]; rfl
    have hN2 := hT.1
    have eb := m_byteAt_t (d := d) hd hs hT (show i < N by omega)
    by_cases hb : β i = 32
    · obtain ⟨M', e, g1, g2, g3, g4⟩ := ih (i + 1) (zsI M 146 14 (nI (i + 1))) hs (tapeM_fr hT (fMo_s M (j := 14) (by omega) _)) (by omega) rfl
      have es : skp β (k + 1) i = skp β k (i + 1) := if_pos hb
      refine ⟨M', ?_, (fMo_s M (j := 14) (by omega) _).trans g1, by rw [es]; exact g2, fun j hj => (g3 j hj).trans (by rw [zI_sI, if_neg (fun q => hj q.2)]), by rw [es]; exact g4⟩
      rw [← e, zg_Mo_reads_8]
      unfold zx_Mo_reads_8
      rw [hb] at eb
      clear ih e g1 g2 g3 g4 hT hs
      simp (disch := omega) only [il, nI_add, nI_mul, nI_sub, nI_div, nI_rem, nI_N, i32_lt, i32_le, nI_toInt, nI_subI, nI_clamp, zinT, zifT, iteT, iteF, zQ, zS, zkc, zI_sI, zL_sL, zI_wI, zL_wL, Nat.reduceEqDiff, Nat.reduceAdd, Nat.reduceMul, Nat.reduceLT, Nat.reduceLeDiff, reduceIte, eq_self, and_self, true_and, and_true, false_and, and_false, true_or, or_true, or_false, false_or, not_true_eq_false, not_false_eq_true, zarr, ne_eq, hk, h14, eb]
    · have es : skp β (k + 1) i = i := if_neg hb
      exact ⟨M, rfl, fMo_rfl M, by rw [es]; exact h14, fun _ _ => rfl, by rw [es]; exact fun _ => hb⟩
theorem m_reads_b {d f : Nat} {M : zM} (hd : 1 ≤ d) (hk : zK M 146 = (11, 52)) (h18 : zI M 146 18 = nI f) (hf : 0 < f) (hf2 : f < 100) : zV d n_Mo_reads [.ref 146] M = some (none, M) := by
  obtain ⟨d, rfl, hd1⟩ := zdep hd
  rw [ze_Mo_reads]
  unfold zx_Mo_reads
  simp (disch := omega) only [il, nI_add, nI_mul, nI_sub, nI_div, nI_rem, nI_N, i32_lt, i32_le, nI_toInt, nI_subI, nI_clamp, zinT, zifT, iteT, iteF, zQ, zS, zkc, zI_sI, zL_sL, zI_wI, zL_wL, Nat.reduceEqDiff, Nat.reduceAdd, Nat.reduceMul, Nat.reduceLT, Nat.reduceLeDiff, reduceIte, eq_self, and_self, true_and, and_true, false_and, and_false, true_or, or_true, or_false, false_or, not_true_eq_false, not_false_eq_true, zarr, ne_eq, hk, h18]
theorem m_reads {d L w N i : Nat} {β : Nat → Nat} {M : zM} (hd : 2 ≤ d) (hs : zSh L w M) (hT : tapeM N β M) (hi : i ≤ N) (h14 : zI M 146 14 = nI i) (h18 : zI M 146 18 = nI 0) : ∃ M', zV d n_Mo_reads [.ref 146] M = some (none, M') ∧ fMo M M' ∧ mTok (tok β N i) M' := by
  obtain ⟨d, rfl, hd1⟩ := zdep hd
  obtain ⟨M1, e1, f1, g2, g3, g4⟩ := m_skip_go (d := d) hd1 (N - i) i M hs hT (by omega) h14
  have hN2 := hT.1
  have hsb := skp_b (β := β) (N - i) i
  unfold tok
  generalize hp : skp β (N - i) i = p at *
  have hk : zK M 146 = (11, 52) := by rw [hs.2.1]; rfl
  have hs1 := zSh_fr hs f1.1 f1.2.1 f1.2.2.1
  have hk1 : zK M1 146 = (11, 52) := by rw [hs1.2.1]; rfl
  have h181 : zI M1 146 18 = nI 0 := (g3 18 (by decide)).trans h18
  have hT1 := tapeM_fr hT f1
  have e0 : zV (d + 1) n_Mo_reads [.ref 146] M = zG d n_Mo_reads 8 [some (.ref 146), none] [] M1 := by
    rw [← e1, ze_Mo_reads]
    unfold zx_Mo_reads
    clear hT hT1 e1 hs hs1 g3 g4 f1
    simp (disch := omega) only [il, nI_add, nI_mul, nI_sub, nI_div, nI_rem, nI_N, i32_lt, i32_le, nI_toInt, nI_subI, nI_clamp, zinT, zifT, iteT, iteF, zQ, zS, zkc, zI_sI, zL_sL, zI_wI, zL_wL, Nat.reduceEqDiff, Nat.reduceAdd, Nat.reduceMul, Nat.reduceLT, Nat.reduceLeDiff, reduceIte, eq_self, and_self, true_and, and_true, false_and, and_false, true_or, or_true, or_false, false_or, not_true_eq_false, not_false_eq_true, zarr, ne_eq, hk, h18]
  rw [e0]
  unfold tkAt
  by_cases hN : N ≤ p
  · rw [if_pos hN]
    have eb := m_byteAt_f (d := d) (p := p) hd1 hs1 hT1 hN (by omega)
    have eb2 := m_byteAt_f (d := d) (p := p) (M := zsI M1 146 15 (nI p)) hd1 hs1 (tapeM_fr hT1 (fMo_s M1 (j := 15) (by omega) _)) hN (by omega)
    refine ⟨zsI (zsI M1 146 15 (nI p)) 146 16 (nI 0), ?_, f1.trans ((fMo_s M1 (j := 15) (by omega) _).trans (fMo_s _ (j := 16) (by omega) _)), g2, rfl, h181, fun q => absurd q (show ¬ 0 = 3 by decide), fun _ => rfl, fun q => absurd q (show ¬ 0 = 2 by decide)⟩
    rw [zg_Mo_reads_8]
    unfold zx_Mo_reads_8
    clear hT hT1 e1 hs hs1 g3 g4 f1 e0
    simp (disch := omega) only [il, nI_add, nI_mul, nI_sub, nI_div, nI_rem, nI_N, i32_lt, i32_le, nI_toInt, nI_subI, nI_clamp, zinT, zifT, iteT, iteF, zQ, zS, zkc, zI_sI, zL_sL, zI_wI, zL_wL, Nat.reduceEqDiff, Nat.reduceAdd, Nat.reduceMul, Nat.reduceLT, Nat.reduceLeDiff, reduceIte, eq_self, and_self, true_and, and_true, false_and, and_false, true_or, or_true, or_false, false_or, not_true_eq_false, not_false_eq_true, zarr, ne_eq, hk1, g2, eb, m1_32, eb2, m1_neg]
  · rw [if_neg hN]
    have hpN : p < N := by omega
    have b2 := (hT1.2.2 p hpN).2
    have hb32 := g4 hpN
    have eb := m_byteAt_t (d := d) hd1 hs1 hT1 hpN
    have eb2 := m_byteAt_t (d := d) (M := zsI M1 146 15 (nI p)) hd1 hs1 (tapeM_fr hT1 (fMo_s M1 (j := 15) (by omega) _)) hpN
    have f15 := fMo_s M1 (j := 15) (by omega) (nI p)
    have es := fun M => m_isSignByte (d := d) (c := β p) (M := M) hd1 b2
    have hne : ¬ nI (β p) = nI 32 := by rw [nI_eq (by omega) (by omega)]; exact hb32
    by_cases hw1 : 97 ≤ β p ∧ β p ≤ 104
    · rw [if_pos hw1]
      have e5 := m_requires_t (d := d) (x := 1) (M := zsI (zsI M1 146 15 (nI p)) 146 16 (nI 1)) hd1
      refine ⟨zsI (zsI (zsI M1 146 15 (nI p)) 146 16 (nI 1)) 146 14 (nI (p + 1)), ?_, f1.trans (f15.trans ((fMo_s _ (j := 16) (by omega) _).trans (fMo_s _ (j := 14) (by omega) _))), rfl, rfl, h181, fun q => absurd q (show ¬ 1 = 3 by decide), fun _ => rfl, fun q => absurd q (show ¬ 1 = 2 by decide)⟩
      rw [zg_Mo_reads_8]
      unfold zx_Mo_reads_8
      simp only [zg_Mo_reads_210]
      unfold zx_Mo_reads_210
      clear hT hT1 e1 hs hs1 g3 g4 f1 e0 f15 es
      simp (disch := omega) only [il, nI_add, nI_mul, nI_sub, nI_div, nI_rem, nI_N, i32_lt, i32_le, nI_toInt, nI_subI, nI_clamp, zinT, zifT, iteT, iteF, zQ, zS, zkc, zI_sI, zL_sL, zI_wI, zL_wL, Nat.reduceEqDiff, Nat.reduceAdd, Nat.reduceMul, Nat.reduceLT, Nat.reduceLeDiff, reduceIte, eq_self, and_self, true_and, and_true, false_and, and_false, true_or, or_true, or_false, false_or, not_true_eq_false, not_false_eq_true, zarr, ne_eq, hk1, g2, eb, hne, eb2, mo_in hd1, i64_toInt, zlit64, e5]
    · rw [if_neg hw1]
      by_cases hfg : 48 ≤ β p ∧ β p ≤ 57
      · rw [if_pos hfg]
        obtain ⟨M', e2, q1, q2⟩ := m_fig_go (d := d) (L := L) (w := w) (N := N) (p := p) (β := β) hd1 (N - p) p (zsI (zsI (zsI M1 146 15 (nI p)) 146 16 (nI 2)) 146 17 (nI 0)) hs1 (tapeM_fr hT1 (f15.trans ((fMo_s _ (j := 16) (by omega) _).trans (fMo_s _ (j := 17) (by omega) _)))) (by omega) (Nat.le_refl p) (by omega) g2 rfl rfl h181 hfg.1 (by rw [if_pos rfl]; rfl)
        have efg : fgs β (N - p) p = fgs β (N - (p + 1)) (p + 1) := by
          rw [show N - p = (N - (p + 1)) + 1 by omega]
          exact if_pos hfg
        rw [efg] at q2
        have hfb := fgs_b (β := β) (N - (p + 1)) (p + 1)
        refine ⟨M', ?_, f1.trans ((f15.trans ((fMo_s _ (j := 16) (by omega) _).trans (fMo_s _ (j := 17) (by omega) _))).trans q1), q2 (by omega)⟩
        rw [zg_Mo_reads_8]
        unfold zx_Mo_reads_8
        clear hT hT1 e1 hs hs1 g3 g4 f1 e0 f15 es q1 q2 hfb efg
        simp (disch := omega) only [il, nI_add, nI_mul, nI_sub, nI_div, nI_rem, nI_N, i32_lt, i32_le, nI_toInt, nI_subI, nI_clamp, zinT, zifT, iteT, iteF, zQ, zS, zkc, zI_sI, zL_sL, zI_wI, zL_wL, Nat.reduceEqDiff, Nat.reduceAdd, Nat.reduceMul, Nat.reduceLT, Nat.reduceLeDiff, reduceIte, eq_self, and_self, true_and, and_true, false_and, and_false, true_or, or_true, or_false, false_or, not_true_eq_false, not_false_eq_true, zarr, ne_eq, hk1, g2, eb, hne, eb2, mo_in hd1, i64_toInt, zlit64, e2]
      · rw [if_neg hfg]
        cases hsg : isSg (β p)
        · rw [if_neg (by decide)]
          rw [hsg, Bool.toNat_false] at es
          have e5 := m_requires_f (d := d) (x := 1) (M := zsI (zsI M1 146 15 (nI p)) 146 16 (nI 3)) hd1 hk1 h181
          refine ⟨zsI (zsI (zsI (zsI (zsI M1 146 15 (nI p)) 146 16 (nI 3)) 146 18 (nI 1)) 146 19 (nI p)) 146 14 (nI (p + 1)), ?_, f1.trans (f15.trans ((fMo_s _ (j := 16) (by omega) _).trans ((fMo_s _ (j := 18) (by omega) _).trans ((fMo_s _ (j := 19) (by omega) _).trans (fMo_s _ (j := 14) (by omega) _))))), rfl, rfl, rfl, fun _ => rfl, fun q => absurd rfl q, fun q => absurd q (show ¬ 3 = 2 by decide)⟩
          have e6 : zI (zsI (zsI M1 146 15 (nI p)) 146 16 (nI 3)) 146 15 = nI p := rfl
          rw [e6] at e5
          rw [zg_Mo_reads_8]
          unfold zx_Mo_reads_8
          simp only [zg_Mo_reads_210]
          unfold zx_Mo_reads_210
          clear hT hT1 e1 hs hs1 g3 g4 f1 e0 f15
          simp (disch := omega) only [il, nI_add, nI_mul, nI_sub, nI_div, nI_rem, nI_N, i32_lt, i32_le, nI_toInt, nI_subI, nI_clamp, zinT, zifT, iteT, iteF, zQ, zS, zkc, zI_sI, zL_sL, zI_wI, zL_wL, Nat.reduceEqDiff, Nat.reduceAdd, Nat.reduceMul, Nat.reduceLT, Nat.reduceLeDiff, reduceIte, eq_self, and_self, true_and, and_true, false_and, and_false, true_or, or_true, or_false, false_or, not_true_eq_false, not_false_eq_true, zarr, ne_eq, hk1, g2, eb, hne, eb2, mo_in hd1, i64_toInt, zlit64, es, e5]
        · rw [if_pos rfl]
          rw [hsg, Bool.toNat_true] at es
          have hbig : β p ≠ 1 ∧ β p ≠ 2 ∧ β p ≠ 3 ∧ ¬ β p < 3 := (by decide +kernel : ∀ c, c < 128 → isSg c = true → c ≠ 1 ∧ c ≠ 2 ∧ c ≠ 3 ∧ ¬ c < 3) (β p) b2 hsg
          have e5 := m_requires_t (d := d) (x := 1) (M := zsI (zsI M1 146 15 (nI p)) 146 16 (nI 3)) hd1
          refine ⟨zsI (zsI (zsI M1 146 15 (nI p)) 146 16 (nI 3)) 146 14 (nI (p + 1)), ?_, f1.trans (f15.trans ((fMo_s _ (j := 16) (by omega) _).trans (fMo_s _ (j := 14) (by omega) _))), rfl, rfl, by rw [if_neg (show ¬ β p = 3 by omega)]; exact h181, fun q => absurd q (show ¬ β p = 3 by omega), fun _ => by rw [if_neg hbig.2.2.2]; rfl, fun q => absurd q (show ¬ β p = 2 by omega)⟩
          rw [zg_Mo_reads_8]
          unfold zx_Mo_reads_8
          simp only [zg_Mo_reads_210]
          unfold zx_Mo_reads_210
          clear hT hT1 e1 hs hs1 g3 g4 f1 e0 f15
          simp (disch := omega) only [il, nI_add, nI_mul, nI_sub, nI_div, nI_rem, nI_N, i32_lt, i32_le, nI_toInt, nI_subI, nI_clamp, zinT, zifT, iteT, iteF, zQ, zS, zkc, zI_sI, zL_sL, zI_wI, zL_wL, Nat.reduceEqDiff, Nat.reduceAdd, Nat.reduceMul, Nat.reduceLT, Nat.reduceLeDiff, reduceIte, eq_self, and_self, true_and, and_true, false_and, and_false, true_or, or_true, or_false, false_or, not_true_eq_false, not_false_eq_true, zarr, ne_eq, hk1, g2, eb, hne, eb2, mo_in hd1, i64_toInt, zlit64, es, e5]
