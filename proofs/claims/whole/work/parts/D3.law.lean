/-! the law's loop -/
noncomputable def law18 (i : Nat) (M : zM) : zO := zG 100 n_La_law 18 [some (.ref 1), some (.ref 2), some (.ref 146), some (.int (nI i))] [] M
theorem inv_k {L : Nat} {M : zM} (h : Inv L M) : zN M = 182 ∧ zK M = zKc L := by
  obtain ⟨w, n, t, P, tr, hs, -⟩ := h
  exact ⟨hs.1, hs.2.1⟩
theorem law_fx {L : Nat} {M M1 : zM} (h : Inv L M) (f : zfx M M1) : zK M1 1 = (24, L) ∧ zI M1 1 = zI M 1 ∧ zK M1 146 = (11, 52) := by
  obtain ⟨h1, h2⟩ := inv_k h
  obtain ⟨a1, a2⟩ := f.2.1 1 (by omega)
  have k1 : zK M 1 = (24, L) := by rw [h2]; rfl
  refine ⟨a1.trans k1, a2 (by rw [k1]), ?_⟩
  rw [(f.2.1 146 (by omega)).1, h2]
  rfl
theorem law_end {L i : Nat} {M : zM} (h : Inv L M) (hL : L ≤ 2560) (hi : i ≤ 3000) (he : L < i + 5) : law18 i M = some (some (.int 1), M) := by
  have k1 : zK M 1 = (24, L) := by rw [(inv_k h).2]; rfl
  have eL : Int32.ofNat L = nI L := rfl
  unfold law18
  rw [zg_La_law_18]
  unfold zx_La_law_18
  have hlt : (Int32.ofNat L - (5 : Int32)) < nI i := by
    show (nI L - nI 5) < nI i
    rw [i32_lt, nI_subI (by omega) (by omega), nI_toInt (by omega)]
    omega
  rw [zif_t (by rw [k1]; exact (show 20 ≤ 24 by decide)), k1, if_pos hlt, zif_t (by decide)]
theorem law_0 {L i : Nat} {M : zM} (hi : Inv L M) (hl : i + 5 ≤ L) (hL : L ≤ 2560) (hop : zI M 1 i &&& nI 31 = nI 0) : ∃ M2, law18 i M = law18 (i + 5) M2 ∧ Inv L M2 := by
  obtain ⟨kN, kK⟩ := inv_k hi
  have k1 : zK M 1 = (24, L) := by rw [kK]; rfl
  have k2 : zK M 2 = (10, 12) := by rw [kK]; rfl
  have eL : Int32.ofNat L = nI L := rfl
  obtain ⟨r, M1, M2, e1, e2, h2⟩ := st_feed (d := 100) (by omega) hi (zI M 1 (i + 1))
  obtain ⟨q1, q2, q3⟩ := law_fx hi (zE_fx 100 _ _ _ _ _ e1)
  refine ⟨M2, ?_, h2⟩
  unfold law18
  rw [zg_La_law_18]
  unfold zx_La_law_18
  clear hi h2 kN kK
  simp (disch := omega) only [il, nI_add, nI_mul, nI_sub, nI_div, nI_rem, nI_N, i32_lt, i32_le, nI_toInt, nI_subI, nI_clamp, zinT, zifT, iteT, iteF, zQ, zS, zkc, zI_sI, zL_sL, zI_wI, zL_wL, Nat.reduceEqDiff, Nat.reduceAdd, Nat.reduceMul, Nat.reduceLT, Nat.reduceLeDiff, reduceIte, eq_self, and_self, true_and, and_true, false_and, and_false, true_or, or_true, or_false, false_or, not_true_eq_false, not_false_eq_true, zarr, ne_eq, k1, k2, eL, hop, e1, q1, q2, q3, e2]
theorem law_1 {L i : Nat} {M : zM} (hi : Inv L M) (hl : i + 5 ≤ L) (hL : L ≤ 2560) (hop : zI M 1 i &&& nI 31 = nI 1) : ∃ M2, law18 i M = law18 (i + 5) M2 ∧ Inv L M2 := by
  obtain ⟨kN, kK⟩ := inv_k hi
  have k1 : zK M 1 = (24, L) := by rw [kK]; rfl
  have k2 : zK M 2 = (10, 12) := by rw [kK]; rfl
  have eL : Int32.ofNat L = nI L := rfl
  obtain ⟨r, M1, M2, e1, e2, h2⟩ := st_end (d := 100) (by omega) hi (zI M 1 (i + 1))
  obtain ⟨q1, q2, q3⟩ := law_fx hi (zE_fx 100 _ _ _ _ _ e1)
  refine ⟨M2, ?_, h2⟩
  unfold law18
  rw [zg_La_law_18]
  unfold zx_La_law_18
  clear hi h2 kN kK
  simp (disch := omega) only [il, nI_add, nI_mul, nI_sub, nI_div, nI_rem, nI_N, i32_lt, i32_le, nI_toInt, nI_subI, nI_clamp, zinT, zifT, iteT, iteF, zQ, zS, zkc, zI_sI, zL_sL, zI_wI, zL_wL, Nat.reduceEqDiff, Nat.reduceAdd, Nat.reduceMul, Nat.reduceLT, Nat.reduceLeDiff, reduceIte, eq_self, and_self, true_and, and_true, false_and, and_false, true_or, or_true, or_false, false_or, not_true_eq_false, not_false_eq_true, zarr, ne_eq, k1, k2, eL, hop, e1, q1, q2, q3, e2]
theorem law_2 {L i : Nat} {M : zM} (hi : Inv L M) (hl : i + 5 ≤ L) (hL : L ≤ 2560) (hop : zI M 1 i &&& nI 31 = nI 2) : ∃ M2, law18 i M = law18 (i + 5) M2 ∧ Inv L M2 := by
  obtain ⟨kN, kK⟩ := inv_k hi
  have k1 : zK M 1 = (24, L) := by rw [kK]; rfl
  have k2 : zK M 2 = (10, 12) := by rw [kK]; rfl
  have eL : Int32.ofNat L = nI L := rfl
  obtain ⟨r, M1, M2, e1, e2, h2⟩ := st_text (d := 100) (by omega) hi
  obtain ⟨q1, q2, q3⟩ := law_fx hi (zE_fx 100 _ _ _ _ _ e1)
  refine ⟨M2, ?_, h2⟩
  unfold law18
  rw [zg_La_law_18]
  unfold zx_La_law_18
  clear hi h2 kN kK
  simp (disch := omega) only [il, nI_add, nI_mul, nI_sub, nI_div, nI_rem, nI_N, i32_lt, i32_le, nI_toInt, nI_subI, nI_clamp, zinT, zifT, iteT, iteF, zQ, zS, zkc, zI_sI, zL_sL, zI_wI, zL_wL, Nat.reduceEqDiff, Nat.reduceAdd, Nat.reduceMul, Nat.reduceLT, Nat.reduceLeDiff, reduceIte, eq_self, and_self, true_and, and_true, false_and, and_false, true_or, or_true, or_false, false_or, not_true_eq_false, not_false_eq_true, zarr, ne_eq, k1, k2, eL, hop, e1, q1, q2, q3, e2]
theorem law_3 {L i : Nat} {M : zM} (hi : Inv L M) (hl : i + 5 ≤ L) (hL : L ≤ 2560) (hop : zI M 1 i &&& nI 31 = nI 3) : ∃ M2, law18 i M = law18 (i + 5) M2 ∧ Inv L M2 := by
  obtain ⟨kN, kK⟩ := inv_k hi
  have k1 : zK M 1 = (24, L) := by rw [kK]; rfl
  have k2 : zK M 2 = (10, 12) := by rw [kK]; rfl
  have eL : Int32.ofNat L = nI L := rfl
  obtain ⟨r, M1, M2, e1, e2, h2⟩ := st_fault (d := 100) (by omega) hi
  obtain ⟨q1, q2, q3⟩ := law_fx hi (zE_fx 100 _ _ _ _ _ e1)
  refine ⟨M2, ?_, h2⟩
  unfold law18
  rw [zg_La_law_18]
  unfold zx_La_law_18
  clear hi h2 kN kK
  simp (disch := omega) only [il, nI_add, nI_mul, nI_sub, nI_div, nI_rem, nI_N, i32_lt, i32_le, nI_toInt, nI_subI, nI_clamp, zinT, zifT, iteT, iteF, zQ, zS, zkc, zI_sI, zL_sL, zI_wI, zL_wL, Nat.reduceEqDiff, Nat.reduceAdd, Nat.reduceMul, Nat.reduceLT, Nat.reduceLeDiff, reduceIte, eq_self, and_self, true_and, and_true, false_and, and_false, true_or, or_true, or_false, false_or, not_true_eq_false, not_false_eq_true, zarr, ne_eq, k1, k2, eL, hop, e1, q1, q2, q3, e2]
theorem law_4 {L i : Nat} {M : zM} (hi : Inv L M) (hl : i + 5 ≤ L) (hL : L ≤ 2560) (hop : zI M 1 i &&& nI 31 = nI 4) : ∃ M2, law18 i M = law18 (i + 5) M2 ∧ Inv L M2 := by
  obtain ⟨kN, kK⟩ := inv_k hi
  have k1 : zK M 1 = (24, L) := by rw [kK]; rfl
  have k2 : zK M 2 = (10, 12) := by rw [kK]; rfl
  have eL : Int32.ofNat L = nI L := rfl
  obtain ⟨r, M1, M2, e1, e2, h2⟩ := st_rule (d := 100) (by omega) hi (zI M 1 (i + 1))
  obtain ⟨q1, q2, q3⟩ := law_fx hi (zE_fx 100 _ _ _ _ _ e1)
  refine ⟨M2, ?_, h2⟩
  unfold law18
  rw [zg_La_law_18]
  unfold zx_La_law_18
  clear hi h2 kN kK
  simp (disch := omega) only [il, nI_add, nI_mul, nI_sub, nI_div, nI_rem, nI_N, i32_lt, i32_le, nI_toInt, nI_subI, nI_clamp, zinT, zifT, iteT, iteF, zQ, zS, zkc, zI_sI, zL_sL, zI_wI, zL_wL, Nat.reduceEqDiff, Nat.reduceAdd, Nat.reduceMul, Nat.reduceLT, Nat.reduceLeDiff, reduceIte, eq_self, and_self, true_and, and_true, false_and, and_false, true_or, or_true, or_false, false_or, not_true_eq_false, not_false_eq_true, zarr, ne_eq, k1, k2, eL, hop, e1, q1, q2, q3, e2]
theorem law_5 {L i : Nat} {M : zM} (hi : Inv L M) (hl : i + 5 ≤ L) (hL : L ≤ 2560) (hop : zI M 1 i &&& nI 31 = nI 5) : ∃ M2, law18 i M = law18 (i + 5) M2 ∧ Inv L M2 := by
  obtain ⟨kN, kK⟩ := inv_k hi
  have k1 : zK M 1 = (24, L) := by rw [kK]; rfl
  have k2 : zK M 2 = (10, 12) := by rw [kK]; rfl
  have eL : Int32.ofNat L = nI L := rfl
  obtain ⟨r, M1, M2, e1, e2, h2⟩ := st_promise (d := 100) (by omega) hi (zI M 1 (i + 1)) (zI M 1 (i + 2))
  obtain ⟨q1, q2, q3⟩ := law_fx hi (zE_fx 100 _ _ _ _ _ e1)
  refine ⟨M2, ?_, h2⟩
  unfold law18
  rw [zg_La_law_18]
  unfold zx_La_law_18
  clear hi h2 kN kK
  simp (disch := omega) only [il, nI_add, nI_mul, nI_sub, nI_div, nI_rem, nI_N, i32_lt, i32_le, nI_toInt, nI_subI, nI_clamp, zinT, zifT, iteT, iteF, zQ, zS, zkc, zI_sI, zL_sL, zI_wI, zL_wL, Nat.reduceEqDiff, Nat.reduceAdd, Nat.reduceMul, Nat.reduceLT, Nat.reduceLeDiff, reduceIte, eq_self, and_self, true_and, and_true, false_and, and_false, true_or, or_true, or_false, false_or, not_true_eq_false, not_false_eq_true, zarr, ne_eq, k1, k2, eL, hop, e1, q1, q2, q3, e2]
theorem law_6 {L i : Nat} {M : zM} (hi : Inv L M) (hl : i + 5 ≤ L) (hL : L ≤ 2560) (hop : zI M 1 i &&& nI 31 = nI 6) : ∃ M2, law18 i M = law18 (i + 5) M2 ∧ Inv L M2 := by
  obtain ⟨kN, kK⟩ := inv_k hi
  have k1 : zK M 1 = (24, L) := by rw [kK]; rfl
  have k2 : zK M 2 = (10, 12) := by rw [kK]; rfl
  have eL : Int32.ofNat L = nI L := rfl
  obtain ⟨r, M1, M2, e1, e2, h2⟩ := st_fulfils (d := 100) (by omega) hi (zI M 1 (i + 1)) (zI M 1 (i + 2)) (zI M 1 (i + 3)) (zI M 1 (i + 4))
  obtain ⟨q1, q2, q3⟩ := law_fx hi (zE_fx 100 _ _ _ _ _ e1)
  refine ⟨M2, ?_, h2⟩
  unfold law18
  rw [zg_La_law_18]
  unfold zx_La_law_18
  clear hi h2 kN kK
  simp (disch := omega) only [il, nI_add, nI_mul, nI_sub, nI_div, nI_rem, nI_N, i32_lt, i32_le, nI_toInt, nI_subI, nI_clamp, zinT, zifT, iteT, iteF, zQ, zS, zkc, zI_sI, zL_sL, zI_wI, zL_wL, Nat.reduceEqDiff, Nat.reduceAdd, Nat.reduceMul, Nat.reduceLT, Nat.reduceLeDiff, reduceIte, eq_self, and_self, true_and, and_true, false_and, and_false, true_or, or_true, or_false, false_or, not_true_eq_false, not_false_eq_true, zarr, ne_eq, k1, k2, eL, hop, e1, q1, q2, q3, e2]
theorem law_7 {L i : Nat} {M : zM} (hi : Inv L M) (hl : i + 5 ≤ L) (hL : L ≤ 2560) (hop : zI M 1 i &&& nI 31 = nI 7) : ∃ M2, law18 i M = law18 (i + 5) M2 ∧ Inv L M2 := by
  obtain ⟨kN, kK⟩ := inv_k hi
  have k1 : zK M 1 = (24, L) := by rw [kK]; rfl
  have k2 : zK M 2 = (10, 12) := by rw [kK]; rfl
  have eL : Int32.ofNat L = nI L := rfl
  obtain ⟨r, M1, M2, e1, e2, h2⟩ := st_fulfilled (d := 100) (by omega) hi (zI M 1 (i + 1)) (zI M 1 (i + 2)) (zI M 1 (i + 3))
  obtain ⟨q1, q2, q3⟩ := law_fx hi (zE_fx 100 _ _ _ _ _ e1)
  refine ⟨M2, ?_, h2⟩
  unfold law18
  rw [zg_La_law_18]
  unfold zx_La_law_18
  clear hi h2 kN kK
  simp (disch := omega) only [il, nI_add, nI_mul, nI_sub, nI_div, nI_rem, nI_N, i32_lt, i32_le, nI_toInt, nI_subI, nI_clamp, zinT, zifT, iteT, iteF, zQ, zS, zkc, zI_sI, zL_sL, zI_wI, zL_wL, Nat.reduceEqDiff, Nat.reduceAdd, Nat.reduceMul, Nat.reduceLT, Nat.reduceLeDiff, reduceIte, eq_self, and_self, true_and, and_true, false_and, and_false, true_or, or_true, or_false, false_or, not_true_eq_false, not_false_eq_true, zarr, ne_eq, k1, k2, eL, hop, e1, q1, q2, q3, e2]
theorem law_8 {L i : Nat} {M : zM} (hi : Inv L M) (hl : i + 5 ≤ L) (hL : L ≤ 2560) (hop : zI M 1 i &&& nI 31 = nI 8) : ∃ M2, law18 i M = law18 (i + 5) M2 ∧ Inv L M2 := by
  obtain ⟨kN, kK⟩ := inv_k hi
  have k1 : zK M 1 = (24, L) := by rw [kK]; rfl
  have k2 : zK M 2 = (10, 12) := by rw [kK]; rfl
  have eL : Int32.ofNat L = nI L := rfl
  obtain ⟨r, M1, M2, e1, e2, h2⟩ := st_matches (d := 100) (by omega) hi (zI M 1 (i + 1)) (zI M 1 (i + 2)) (zI M 1 (i + 3)) (zI M 1 (i + 4))
  obtain ⟨q1, q2, q3⟩ := law_fx hi (zE_fx 100 _ _ _ _ _ e1)
  refine ⟨M2, ?_, h2⟩
  unfold law18
  rw [zg_La_law_18]
  unfold zx_La_law_18
  clear hi h2 kN kK
  simp (disch := omega) only [il, nI_add, nI_mul, nI_sub, nI_div, nI_rem, nI_N, i32_lt, i32_le, nI_toInt, nI_subI, nI_clamp, zinT, zifT, iteT, iteF, zQ, zS, zkc, zI_sI, zL_sL, zI_wI, zL_wL, Nat.reduceEqDiff, Nat.reduceAdd, Nat.reduceMul, Nat.reduceLT, Nat.reduceLeDiff, reduceIte, eq_self, and_self, true_and, and_true, false_and, and_false, true_or, or_true, or_false, false_or, not_true_eq_false, not_false_eq_true, zarr, ne_eq, k1, k2, eL, hop, e1, q1, q2, q3, e2]
theorem law_9 {L i : Nat} {M : zM} (hi : Inv L M) (hl : i + 5 ≤ L) (hL : L ≤ 2560) (hop : zI M 1 i &&& nI 31 = nI 9) : ∃ M2, law18 i M = law18 (i + 5) M2 ∧ Inv L M2 := by
  obtain ⟨kN, kK⟩ := inv_k hi
  have k1 : zK M 1 = (24, L) := by rw [kK]; rfl
  have k2 : zK M 2 = (10, 12) := by rw [kK]; rfl
  have eL : Int32.ofNat L = nI L := rfl
  obtain ⟨r, M1, M2, e1, e2, h2⟩ := st_might (d := 100) (by omega) hi (zI M 1 (i + 1)) (zI M 1 (i + 2)) (zI M 1 (i + 3))
  obtain ⟨q1, q2, q3⟩ := law_fx hi (zE_fx 100 _ _ _ _ _ e1)
  refine ⟨M2, ?_, h2⟩
  unfold law18
  rw [zg_La_law_18]
  unfold zx_La_law_18
  clear hi h2 kN kK
  simp (disch := omega) only [il, nI_add, nI_mul, nI_sub, nI_div, nI_rem, nI_N, i32_lt, i32_le, nI_toInt, nI_subI, nI_clamp, zinT, zifT, iteT, iteF, zQ, zS, zkc, zI_sI, zL_sL, zI_wI, zL_wL, Nat.reduceEqDiff, Nat.reduceAdd, Nat.reduceMul, Nat.reduceLT, Nat.reduceLeDiff, reduceIte, eq_self, and_self, true_and, and_true, false_and, and_false, true_or, or_true, or_false, false_or, not_true_eq_false, not_false_eq_true, zarr, ne_eq, k1, k2, eL, hop, e1, q1, q2, q3, e2]
theorem law_10 {L i : Nat} {M : zM} (hi : Inv L M) (hl : i + 5 ≤ L) (hL : L ≤ 2560) (hop : zI M 1 i &&& nI 31 = nI 10) : ∃ M2, law18 i M = law18 (i + 5) M2 ∧ Inv L M2 := by
  obtain ⟨kN, kK⟩ := inv_k hi
  have k1 : zK M 1 = (24, L) := by rw [kK]; rfl
  have k2 : zK M 2 = (10, 12) := by rw [kK]; rfl
  have eL : Int32.ofNat L = nI L := rfl
  obtain ⟨r, M1, M2, e1, e2, h2⟩ := st_tick (d := 100) (by omega) hi (zI M 1 (i + 1))
  obtain ⟨q1, q2, q3⟩ := law_fx hi (zE_fx 100 _ _ _ _ _ e1)
  refine ⟨M2, ?_, h2⟩
  unfold law18
  rw [zg_La_law_18]
  unfold zx_La_law_18
  clear hi h2 kN kK
  simp (disch := omega) only [il, nI_add, nI_mul, nI_sub, nI_div, nI_rem, nI_N, i32_lt, i32_le, nI_toInt, nI_subI, nI_clamp, zinT, zifT, iteT, iteF, zQ, zS, zkc, zI_sI, zL_sL, zI_wI, zL_wL, Nat.reduceEqDiff, Nat.reduceAdd, Nat.reduceMul, Nat.reduceLT, Nat.reduceLeDiff, reduceIte, eq_self, and_self, true_and, and_true, false_and, and_false, true_or, or_true, or_false, false_or, not_true_eq_false, not_false_eq_true, zarr, ne_eq, k1, k2, eL, hop, e1, q1, q2, q3, e2]
theorem law_11 {L i : Nat} {M : zM} (hi : Inv L M) (hl : i + 5 ≤ L) (hL : L ≤ 2560) (hop : zI M 1 i &&& nI 31 = nI 11) : ∃ M2, law18 i M = law18 (i + 5) M2 ∧ Inv L M2 := by
  obtain ⟨kN, kK⟩ := inv_k hi
  have k1 : zK M 1 = (24, L) := by rw [kK]; rfl
  have k2 : zK M 2 = (10, 12) := by rw [kK]; rfl
  have eL : Int32.ofNat L = nI L := rfl
  obtain ⟨r, M1, M2, e1, e2, h2⟩ := st_bits (d := 100) (by omega) hi (zI M 1 (i + 1))
  obtain ⟨q1, q2, q3⟩ := law_fx hi (zE_fx 100 _ _ _ _ _ e1)
  refine ⟨M2, ?_, h2⟩
  unfold law18
  rw [zg_La_law_18]
  unfold zx_La_law_18
  clear hi h2 kN kK
  simp (disch := omega) only [il, nI_add, nI_mul, nI_sub, nI_div, nI_rem, nI_N, i32_lt, i32_le, nI_toInt, nI_subI, nI_clamp, zinT, zifT, iteT, iteF, zQ, zS, zkc, zI_sI, zL_sL, zI_wI, zL_wL, Nat.reduceEqDiff, Nat.reduceAdd, Nat.reduceMul, Nat.reduceLT, Nat.reduceLeDiff, reduceIte, eq_self, and_self, true_and, and_true, false_and, and_false, true_or, or_true, or_false, false_or, not_true_eq_false, not_false_eq_true, zarr, ne_eq, k1, k2, eL, hop, e1, q1, q2, q3, e2]
theorem law_12 {L i : Nat} {M : zM} (hi : Inv L M) (hl : i + 5 ≤ L) (hL : L ≤ 2560) (hop : zI M 1 i &&& nI 31 = nI 12) : ∃ M2, law18 i M = law18 (i + 5) M2 ∧ Inv L M2 := by
  obtain ⟨kN, kK⟩ := inv_k hi
  have k1 : zK M 1 = (24, L) := by rw [kK]; rfl
  have k2 : zK M 2 = (10, 12) := by rw [kK]; rfl
  have eL : Int32.ofNat L = nI L := rfl
  obtain ⟨r, M1, M2, e1, e2, h2⟩ := st_put (d := 100) (by omega) hi (zI M 1 (i + 1)) (zI M 1 (i + 2))
  obtain ⟨q1, q2, q3⟩ := law_fx hi (zE_fx 100 _ _ _ _ _ e1)
  refine ⟨M2, ?_, h2⟩
  unfold law18
  rw [zg_La_law_18]
  unfold zx_La_law_18
  clear hi h2 kN kK
  simp (disch := omega) only [il, nI_add, nI_mul, nI_sub, nI_div, nI_rem, nI_N, i32_lt, i32_le, nI_toInt, nI_subI, nI_clamp, zinT, zifT, iteT, iteF, zQ, zS, zkc, zI_sI, zL_sL, zI_wI, zL_wL, Nat.reduceEqDiff, Nat.reduceAdd, Nat.reduceMul, Nat.reduceLT, Nat.reduceLeDiff, reduceIte, eq_self, and_self, true_and, and_true, false_and, and_false, true_or, or_true, or_false, false_or, not_true_eq_false, not_false_eq_true, zarr, ne_eq, k1, k2, eL, hop, e1, q1, q2, q3, e2]
theorem law_13 {L i : Nat} {M : zM} (hi : Inv L M) (hl : i + 5 ≤ L) (hL : L ≤ 2560) (hop : zI M 1 i &&& nI 31 = nI 13) : ∃ M2, law18 i M = law18 (i + 5) M2 ∧ Inv L M2 := by
  obtain ⟨kN, kK⟩ := inv_k hi
  have k1 : zK M 1 = (24, L) := by rw [kK]; rfl
  have k2 : zK M 2 = (10, 12) := by rw [kK]; rfl
  have eL : Int32.ofNat L = nI L := rfl
  obtain ⟨r, M1, M2, e1, e2, h2⟩ := st_keeps (d := 100) (by omega) hi (zI M 1 (i + 1))
  obtain ⟨q1, q2, q3⟩ := law_fx hi (zE_fx 100 _ _ _ _ _ e1)
  refine ⟨M2, ?_, h2⟩
  unfold law18
  rw [zg_La_law_18]
  unfold zx_La_law_18
  clear hi h2 kN kK
  simp (disch := omega) only [il, nI_add, nI_mul, nI_sub, nI_div, nI_rem, nI_N, i32_lt, i32_le, nI_toInt, nI_subI, nI_clamp, zinT, zifT, iteT, iteF, zQ, zS, zkc, zI_sI, zL_sL, zI_wI, zL_wL, Nat.reduceEqDiff, Nat.reduceAdd, Nat.reduceMul, Nat.reduceLT, Nat.reduceLeDiff, reduceIte, eq_self, and_self, true_and, and_true, false_and, and_false, true_or, or_true, or_false, false_or, not_true_eq_false, not_false_eq_true, zarr, ne_eq, k1, k2, eL, hop, e1, q1, q2, q3, e2]
theorem law_14 {L i : Nat} {M : zM} (hi : Inv L M) (hl : i + 5 ≤ L) (hL : L ≤ 2560) (hop : zI M 1 i &&& nI 31 = nI 14) : ∃ M2, law18 i M = law18 (i + 5) M2 ∧ Inv L M2 := by
  obtain ⟨kN, kK⟩ := inv_k hi
  have k1 : zK M 1 = (24, L) := by rw [kK]; rfl
  have k2 : zK M 2 = (10, 12) := by rw [kK]; rfl
  have eL : Int32.ofNat L = nI L := rfl
  obtain ⟨r, M1, M2, e1, e2, h2⟩ := st_draw (d := 100) (by omega) hi (zI M 1 (i + 1)) (zI M 1 (i + 2))
  obtain ⟨q1, q2, q3⟩ := law_fx hi (zE_fx 100 _ _ _ _ _ e1)
  refine ⟨M2, ?_, h2⟩
  unfold law18
  rw [zg_La_law_18]
  unfold zx_La_law_18
  clear hi h2 kN kK
  simp (disch := omega) only [il, nI_add, nI_mul, nI_sub, nI_div, nI_rem, nI_N, i32_lt, i32_le, nI_toInt, nI_subI, nI_clamp, zinT, zifT, iteT, iteF, zQ, zS, zkc, zI_sI, zL_sL, zI_wI, zL_wL, Nat.reduceEqDiff, Nat.reduceAdd, Nat.reduceMul, Nat.reduceLT, Nat.reduceLeDiff, reduceIte, eq_self, and_self, true_and, and_true, false_and, and_false, true_or, or_true, or_false, false_or, not_true_eq_false, not_false_eq_true, zarr, ne_eq, k1, k2, eL, hop, e1, q1, q2, q3, e2]
theorem law_15 {L i : Nat} {M : zM} (hi : Inv L M) (hl : i + 5 ≤ L) (hL : L ≤ 2560) (hop : zI M 1 i &&& nI 31 = nI 15) : ∃ M2, law18 i M = law18 (i + 5) M2 ∧ Inv L M2 := by
  obtain ⟨kN, kK⟩ := inv_k hi
  have k1 : zK M 1 = (24, L) := by rw [kK]; rfl
  have k2 : zK M 2 = (10, 12) := by rw [kK]; rfl
  have eL : Int32.ofNat L = nI L := rfl
  obtain ⟨r, M1, M2, e1, e2, h2⟩ := st_verdict (d := 100) (by omega) hi (zI M 1 (i + 1)) (zI M 1 (i + 2))
  obtain ⟨q1, q2, q3⟩ := law_fx hi (zE_fx 100 _ _ _ _ _ e1)
  refine ⟨M2, ?_, h2⟩
  unfold law18
  rw [zg_La_law_18]
  unfold zx_La_law_18
  clear hi h2 kN kK
  simp (disch := omega) only [il, nI_add, nI_mul, nI_sub, nI_div, nI_rem, nI_N, i32_lt, i32_le, nI_toInt, nI_subI, nI_clamp, zinT, zifT, iteT, iteF, zQ, zS, zkc, zI_sI, zL_sL, zI_wI, zL_wL, Nat.reduceEqDiff, Nat.reduceAdd, Nat.reduceMul, Nat.reduceLT, Nat.reduceLeDiff, reduceIte, eq_self, and_self, true_and, and_true, false_and, and_false, true_or, or_true, or_false, false_or, not_true_eq_false, not_false_eq_true, zarr, ne_eq, k1, k2, eL, hop, e1, q1, q2, q3, e2]
theorem law_16 {L i : Nat} {M : zM} (hi : Inv L M) (hl : i + 5 ≤ L) (hL : L ≤ 2560) (hop : zI M 1 i &&& nI 31 = nI 16) : ∃ M2, law18 i M = law18 (i + 5) M2 ∧ Inv L M2 := by
  obtain ⟨kN, kK⟩ := inv_k hi
  have k1 : zK M 1 = (24, L) := by rw [kK]; rfl
  have k2 : zK M 2 = (10, 12) := by rw [kK]; rfl
  have eL : Int32.ofNat L = nI L := rfl
  obtain ⟨r, M1, M2, e1, e2, h2⟩ := st_decided (d := 100) (by omega) hi (zI M 1 (i + 1)) (zI M 1 (i + 2))
  obtain ⟨q1, q2, q3⟩ := law_fx hi (zE_fx 100 _ _ _ _ _ e1)
  refine ⟨M2, ?_, h2⟩
  unfold law18
  rw [zg_La_law_18]
  unfold zx_La_law_18
  clear hi h2 kN kK
  simp (disch := omega) only [il, nI_add, nI_mul, nI_sub, nI_div, nI_rem, nI_N, i32_lt, i32_le, nI_toInt, nI_subI, nI_clamp, zinT, zifT, iteT, iteF, zQ, zS, zkc, zI_sI, zL_sL, zI_wI, zL_wL, Nat.reduceEqDiff, Nat.reduceAdd, Nat.reduceMul, Nat.reduceLT, Nat.reduceLeDiff, reduceIte, eq_self, and_self, true_and, and_true, false_and, and_false, true_or, or_true, or_false, false_or, not_true_eq_false, not_false_eq_true, zarr, ne_eq, k1, k2, eL, hop, e1, q1, q2, q3, e2]
theorem law_17 {L i : Nat} {M : zM} (hi : Inv L M) (hl : i + 5 ≤ L) (hL : L ≤ 2560) (hop : zI M 1 i &&& nI 31 = nI 17) : ∃ M2, law18 i M = law18 (i + 5) M2 ∧ Inv L M2 := by
  obtain ⟨kN, kK⟩ := inv_k hi
  have k1 : zK M 1 = (24, L) := by rw [kK]; rfl
  have k2 : zK M 2 = (10, 12) := by rw [kK]; rfl
  have eL : Int32.ofNat L = nI L := rfl
  obtain ⟨r, M1, M2, e1, e2, h2⟩ := st_duties (d := 100) (by omega) hi (zI M 1 (i + 1)) (zI M 1 (i + 2))
  obtain ⟨q1, q2, q3⟩ := law_fx hi (zE_fx 100 _ _ _ _ _ e1)
  refine ⟨M2, ?_, h2⟩
  unfold law18
  rw [zg_La_law_18]
  unfold zx_La_law_18
  clear hi h2 kN kK
  simp (disch := omega) only [il, nI_add, nI_mul, nI_sub, nI_div, nI_rem, nI_N, i32_lt, i32_le, nI_toInt, nI_subI, nI_clamp, zinT, zifT, iteT, iteF, zQ, zS, zkc, zI_sI, zL_sL, zI_wI, zL_wL, Nat.reduceEqDiff, Nat.reduceAdd, Nat.reduceMul, Nat.reduceLT, Nat.reduceLeDiff, reduceIte, eq_self, and_self, true_and, and_true, false_and, and_false, true_or, or_true, or_false, false_or, not_true_eq_false, not_false_eq_true, zarr, ne_eq, k1, k2, eL, hop, e1, q1, q2, q3, e2]
theorem law_18 {L i : Nat} {M : zM} (hi : Inv L M) (hl : i + 5 ≤ L) (hL : L ≤ 2560) (hop : zI M 1 i &&& nI 31 = nI 18) : ∃ M2, law18 i M = law18 (i + 5) M2 ∧ Inv L M2 := by
  obtain ⟨kN, kK⟩ := inv_k hi
  have k1 : zK M 1 = (24, L) := by rw [kK]; rfl
  have k2 : zK M 2 = (10, 12) := by rw [kK]; rfl
  have eL : Int32.ofNat L = nI L := rfl
  obtain ⟨r, M1, M2, e1, e2, h2⟩ := st_duty (d := 100) (by omega) hi (zI M 1 (i + 1)) (zI M 1 (i + 2)) (zI M 1 (i + 3)) (zI M 1 (i + 4))
  obtain ⟨q1, q2, q3⟩ := law_fx hi (zE_fx 100 _ _ _ _ _ e1)
  refine ⟨M2, ?_, h2⟩
  unfold law18
  rw [zg_La_law_18]
  unfold zx_La_law_18
  clear hi h2 kN kK
  simp (disch := omega) only [il, nI_add, nI_mul, nI_sub, nI_div, nI_rem, nI_N, i32_lt, i32_le, nI_toInt, nI_subI, nI_clamp, zinT, zifT, iteT, iteF, zQ, zS, zkc, zI_sI, zL_sL, zI_wI, zL_wL, Nat.reduceEqDiff, Nat.reduceAdd, Nat.reduceMul, Nat.reduceLT, Nat.reduceLeDiff, reduceIte, eq_self, and_self, true_and, and_true, false_and, and_false, true_or, or_true, or_false, false_or, not_true_eq_false, not_false_eq_true, zarr, ne_eq, k1, k2, eL, hop, e1, q1, q2, q3, e2]
theorem law_19 {L i : Nat} {M : zM} (hi : Inv L M) (hl : i + 5 ≤ L) (hL : L ≤ 2560) (hop : zI M 1 i &&& nI 31 = nI 19) : ∃ M2, law18 i M = law18 (i + 5) M2 ∧ Inv L M2 := by
  obtain ⟨kN, kK⟩ := inv_k hi
  have k1 : zK M 1 = (24, L) := by rw [kK]; rfl
  have k2 : zK M 2 = (10, 12) := by rw [kK]; rfl
  have eL : Int32.ofNat L = nI L := rfl
  obtain ⟨r, M1, M2, e1, e2, h2⟩ := st_tries (d := 100) (by omega) hi (zI M 1 (i + 1)) (zI M 1 (i + 2))
  obtain ⟨q1, q2, q3⟩ := law_fx hi (zE_fx 100 _ _ _ _ _ e1)
  refine ⟨M2, ?_, h2⟩
  unfold law18
  rw [zg_La_law_18]
  unfold zx_La_law_18
  clear hi h2 kN kK
  simp (disch := omega) only [il, nI_add, nI_mul, nI_sub, nI_div, nI_rem, nI_N, i32_lt, i32_le, nI_toInt, nI_subI, nI_clamp, zinT, zifT, iteT, iteF, zQ, zS, zkc, zI_sI, zL_sL, zI_wI, zL_wL, Nat.reduceEqDiff, Nat.reduceAdd, Nat.reduceMul, Nat.reduceLT, Nat.reduceLeDiff, reduceIte, eq_self, and_self, true_and, and_true, false_and, and_false, true_or, or_true, or_false, false_or, not_true_eq_false, not_false_eq_true, zarr, ne_eq, k1, k2, eL, hop, e1, q1, q2, q3, e2]
theorem law_20 {L i : Nat} {M : zM} (hi : Inv L M) (hl : i + 5 ≤ L) (hL : L ≤ 2560) (hop : zI M 1 i &&& nI 31 = nI 20) : ∃ M2, law18 i M = law18 (i + 5) M2 ∧ Inv L M2 := by
  obtain ⟨kN, kK⟩ := inv_k hi
  have k1 : zK M 1 = (24, L) := by rw [kK]; rfl
  have k2 : zK M 2 = (10, 12) := by rw [kK]; rfl
  have eL : Int32.ofNat L = nI L := rfl
  obtain ⟨r, M1, M2, e1, e2, h2⟩ := st_first (d := 100) (by omega) hi (zI M 1 (i + 1)) (zI M 1 (i + 2))
  obtain ⟨q1, q2, q3⟩ := law_fx hi (zE_fx 100 _ _ _ _ _ e1)
  refine ⟨M2, ?_, h2⟩
  unfold law18
  rw [zg_La_law_18]
  unfold zx_La_law_18
  clear hi h2 kN kK
  simp (disch := omega) only [il, nI_add, nI_mul, nI_sub, nI_div, nI_rem, nI_N, i32_lt, i32_le, nI_toInt, nI_subI, nI_clamp, zinT, zifT, iteT, iteF, zQ, zS, zkc, zI_sI, zL_sL, zI_wI, zL_wL, Nat.reduceEqDiff, Nat.reduceAdd, Nat.reduceMul, Nat.reduceLT, Nat.reduceLeDiff, reduceIte, eq_self, and_self, true_and, and_true, false_and, and_false, true_or, or_true, or_false, false_or, not_true_eq_false, not_false_eq_true, zarr, ne_eq, k1, k2, eL, hop, e1, q1, q2, q3, e2]
theorem law_21 {L i : Nat} {M : zM} (hi : Inv L M) (hl : i + 5 ≤ L) (hL : L ≤ 2560) (hop : zI M 1 i &&& nI 31 = nI 21) : ∃ M2, law18 i M = law18 (i + 5) M2 ∧ Inv L M2 := by
  obtain ⟨kN, kK⟩ := inv_k hi
  have k1 : zK M 1 = (24, L) := by rw [kK]; rfl
  have k2 : zK M 2 = (10, 12) := by rw [kK]; rfl
  have eL : Int32.ofNat L = nI L := rfl
  obtain ⟨r, M1, M2, e1, e2, h2⟩ := st_keep (d := 100) (by omega) hi (zI M 1 (i + 1))
  obtain ⟨q1, q2, q3⟩ := law_fx hi (zE_fx 100 _ _ _ _ _ e1)
  refine ⟨M2, ?_, h2⟩
  unfold law18
  rw [zg_La_law_18]
  unfold zx_La_law_18
  clear hi h2 kN kK
  simp (disch := omega) only [il, nI_add, nI_mul, nI_sub, nI_div, nI_rem, nI_N, i32_lt, i32_le, nI_toInt, nI_subI, nI_clamp, zinT, zifT, iteT, iteF, zQ, zS, zkc, zI_sI, zL_sL, zI_wI, zL_wL, Nat.reduceEqDiff, Nat.reduceAdd, Nat.reduceMul, Nat.reduceLT, Nat.reduceLeDiff, reduceIte, eq_self, and_self, true_and, and_true, false_and, and_false, true_or, or_true, or_false, false_or, not_true_eq_false, not_false_eq_true, zarr, ne_eq, k1, k2, eL, hop, e1, q1, q2, q3, e2]
theorem law_22 {L i : Nat} {M : zM} (hi : Inv L M) (hl : i + 5 ≤ L) (hL : L ≤ 2560) (hop : zI M 1 i &&& nI 31 = nI 22) : ∃ M2, law18 i M = law18 (i + 5) M2 ∧ Inv L M2 := by
  obtain ⟨kN, kK⟩ := inv_k hi
  have k1 : zK M 1 = (24, L) := by rw [kK]; rfl
  have k2 : zK M 2 = (10, 12) := by rw [kK]; rfl
  have eL : Int32.ofNat L = nI L := rfl
  obtain ⟨r, M1, M2, e1, e2, h2⟩ := st_back (d := 100) (by omega) hi (zI M 1 (i + 1))
  obtain ⟨q1, q2, q3⟩ := law_fx hi (zE_fx 100 _ _ _ _ _ e1)
  refine ⟨M2, ?_, h2⟩
  unfold law18
  rw [zg_La_law_18]
  unfold zx_La_law_18
  clear hi h2 kN kK
  simp (disch := omega) only [il, nI_add, nI_mul, nI_sub, nI_div, nI_rem, nI_N, i32_lt, i32_le, nI_toInt, nI_subI, nI_clamp, zinT, zifT, iteT, iteF, zQ, zS, zkc, zI_sI, zL_sL, zI_wI, zL_wL, Nat.reduceEqDiff, Nat.reduceAdd, Nat.reduceMul, Nat.reduceLT, Nat.reduceLeDiff, reduceIte, eq_self, and_self, true_and, and_true, false_and, and_false, true_or, or_true, or_false, false_or, not_true_eq_false, not_false_eq_true, zarr, ne_eq, k1, k2, eL, hop, e1, q1, q2, q3, e2]
theorem law_23 {L i : Nat} {M : zM} (hi : Inv L M) (hl : i + 5 ≤ L) (hL : L ≤ 2560) (hop : zI M 1 i &&& nI 31 = nI 23) : ∃ M2, law18 i M = law18 (i + 5) M2 ∧ Inv L M2 := by
  obtain ⟨kN, kK⟩ := inv_k hi
  have k1 : zK M 1 = (24, L) := by rw [kK]; rfl
  have k2 : zK M 2 = (10, 12) := by rw [kK]; rfl
  have eL : Int32.ofNat L = nI L := rfl
  obtain ⟨r, M1, M2, e1, e2, h2⟩ := st_sheet (d := 100) (by omega) hi (zI M 1 (i + 1)) (zI M 1 (i + 2)) (zI M 1 (i + 3))
  obtain ⟨q1, q2, q3⟩ := law_fx hi (zE_fx 100 _ _ _ _ _ e1)
  refine ⟨M2, ?_, h2⟩
  unfold law18
  rw [zg_La_law_18]
  unfold zx_La_law_18
  clear hi h2 kN kK
  simp (disch := omega) only [il, nI_add, nI_mul, nI_sub, nI_div, nI_rem, nI_N, i32_lt, i32_le, nI_toInt, nI_subI, nI_clamp, zinT, zifT, iteT, iteF, zQ, zS, zkc, zI_sI, zL_sL, zI_wI, zL_wL, Nat.reduceEqDiff, Nat.reduceAdd, Nat.reduceMul, Nat.reduceLT, Nat.reduceLeDiff, reduceIte, eq_self, and_self, true_and, and_true, false_and, and_false, true_or, or_true, or_false, false_or, not_true_eq_false, not_false_eq_true, zarr, ne_eq, k1, k2, eL, hop, e1, q1, q2, q3, e2]
theorem law_24 {L i : Nat} {M : zM} (hi : Inv L M) (hl : i + 5 ≤ L) (hL : L ≤ 2560) (hop : zI M 1 i &&& nI 31 = nI 24) : ∃ M2, law18 i M = law18 (i + 5) M2 ∧ Inv L M2 := by
  obtain ⟨kN, kK⟩ := inv_k hi
  have k1 : zK M 1 = (24, L) := by rw [kK]; rfl
  have k2 : zK M 2 = (10, 12) := by rw [kK]; rfl
  have eL : Int32.ofNat L = nI L := rfl
  obtain ⟨r, M1, M2, e1, e2, h2⟩ := st_lay (d := 100) (by omega) hi (zI M 1 (i + 1)) (zI M 1 (i + 2)) (zI M 1 (i + 3))
  obtain ⟨q1, q2, q3⟩ := law_fx hi (zE_fx 100 _ _ _ _ _ e1)
  refine ⟨M2, ?_, h2⟩
  unfold law18
  rw [zg_La_law_18]
  unfold zx_La_law_18
  clear hi h2 kN kK
  simp (disch := omega) only [il, nI_add, nI_mul, nI_sub, nI_div, nI_rem, nI_N, i32_lt, i32_le, nI_toInt, nI_subI, nI_clamp, zinT, zifT, iteT, iteF, zQ, zS, zkc, zI_sI, zL_sL, zI_wI, zL_wL, Nat.reduceEqDiff, Nat.reduceAdd, Nat.reduceMul, Nat.reduceLT, Nat.reduceLeDiff, reduceIte, eq_self, and_self, true_and, and_true, false_and, and_false, true_or, or_true, or_false, false_or, not_true_eq_false, not_false_eq_true, zarr, ne_eq, k1, k2, eL, hop, e1, q1, q2, q3, e2]
theorem law_25 {L i : Nat} {M : zM} (hi : Inv L M) (hl : i + 5 ≤ L) (hL : L ≤ 2560) (hop : zI M 1 i &&& nI 31 = nI 25) : ∃ M2, law18 i M = law18 (i + 5) M2 ∧ Inv L M2 := by
  obtain ⟨kN, kK⟩ := inv_k hi
  have k1 : zK M 1 = (24, L) := by rw [kK]; rfl
  have k2 : zK M 2 = (10, 12) := by rw [kK]; rfl
  have eL : Int32.ofNat L = nI L := rfl
  obtain ⟨r, M1, M2, e1, e2, h2⟩ := st_run (d := 100) (by omega) hi (zI M 1 (i + 1)) (zI M 1 (i + 2)) (zI M 1 (i + 3)) (zI M 1 (i + 4))
  obtain ⟨q1, q2, q3⟩ := law_fx hi (zE_fx 100 _ _ _ _ _ e1)
  refine ⟨M2, ?_, h2⟩
  unfold law18
  rw [zg_La_law_18]
  unfold zx_La_law_18
  clear hi h2 kN kK
  simp (disch := omega) only [il, nI_add, nI_mul, nI_sub, nI_div, nI_rem, nI_N, i32_lt, i32_le, nI_toInt, nI_subI, nI_clamp, zinT, zifT, iteT, iteF, zQ, zS, zkc, zI_sI, zL_sL, zI_wI, zL_wL, Nat.reduceEqDiff, Nat.reduceAdd, Nat.reduceMul, Nat.reduceLT, Nat.reduceLeDiff, reduceIte, eq_self, and_self, true_and, and_true, false_and, and_false, true_or, or_true, or_false, false_or, not_true_eq_false, not_false_eq_true, zarr, ne_eq, k1, k2, eL, hop, e1, q1, q2, q3, e2]
theorem law_26 {L i : Nat} {M : zM} (hi : Inv L M) (hl : i + 5 ≤ L) (hL : L ≤ 2560) (hop : zI M 1 i &&& nI 31 = nI 26) : ∃ M2, law18 i M = law18 (i + 5) M2 ∧ Inv L M2 := by
  obtain ⟨kN, kK⟩ := inv_k hi
  have k1 : zK M 1 = (24, L) := by rw [kK]; rfl
  have k2 : zK M 2 = (10, 12) := by rw [kK]; rfl
  have eL : Int32.ofNat L = nI L := rfl
  obtain ⟨r, M1, M2, e1, e2, h2⟩ := st_torn (d := 100) (by omega) hi
  obtain ⟨q1, q2, q3⟩ := law_fx hi (zE_fx 100 _ _ _ _ _ e1)
  refine ⟨M2, ?_, h2⟩
  unfold law18
  rw [zg_La_law_18]
  unfold zx_La_law_18
  clear hi h2 kN kK
  simp (disch := omega) only [il, nI_add, nI_mul, nI_sub, nI_div, nI_rem, nI_N, i32_lt, i32_le, nI_toInt, nI_subI, nI_clamp, zinT, zifT, iteT, iteF, zQ, zS, zkc, zI_sI, zL_sL, zI_wI, zL_wL, Nat.reduceEqDiff, Nat.reduceAdd, Nat.reduceMul, Nat.reduceLT, Nat.reduceLeDiff, reduceIte, eq_self, and_self, true_and, and_true, false_and, and_false, true_or, or_true, or_false, false_or, not_true_eq_false, not_false_eq_true, zarr, ne_eq, k1, k2, eL, hop, e1, q1, q2, q3, e2]
theorem law_27 {L i : Nat} {M : zM} (hi : Inv L M) (hl : i + 5 ≤ L) (hL : L ≤ 2560) (hop : zI M 1 i &&& nI 31 = nI 27) : ∃ M2, law18 i M = law18 (i + 5) M2 ∧ Inv L M2 := by
  obtain ⟨kN, kK⟩ := inv_k hi
  have k1 : zK M 1 = (24, L) := by rw [kK]; rfl
  have k2 : zK M 2 = (10, 12) := by rw [kK]; rfl
  have eL : Int32.ofNat L = nI L := rfl
  obtain ⟨r, M1, M2, e1, e2, h2⟩ := st_count (d := 100) (by omega) hi (zI M 1 (i + 1))
  obtain ⟨q1, q2, q3⟩ := law_fx hi (zE_fx 100 _ _ _ _ _ e1)
  refine ⟨M2, ?_, h2⟩
  unfold law18
  rw [zg_La_law_18]
  unfold zx_La_law_18
  clear hi h2 kN kK
  simp (disch := omega) only [il, nI_add, nI_mul, nI_sub, nI_div, nI_rem, nI_N, i32_lt, i32_le, nI_toInt, nI_subI, nI_clamp, zinT, zifT, iteT, iteF, zQ, zS, zkc, zI_sI, zL_sL, zI_wI, zL_wL, Nat.reduceEqDiff, Nat.reduceAdd, Nat.reduceMul, Nat.reduceLT, Nat.reduceLeDiff, reduceIte, eq_self, and_self, true_and, and_true, false_and, and_false, true_or, or_true, or_false, false_or, not_true_eq_false, not_false_eq_true, zarr, ne_eq, k1, k2, eL, hop, e1, q1, q2, q3, e2]
theorem law_no {L i : Nat} {M : zM} (hi : Inv L M) (hl : i + 5 ≤ L) (hL : L ≤ 2560) (n0 : ¬ zI M 1 i &&& nI 31 = nI 0) (n1 : ¬ zI M 1 i &&& nI 31 = nI 1) (n2 : ¬ zI M 1 i &&& nI 31 = nI 2) (n3 : ¬ zI M 1 i &&& nI 31 = nI 3) (n4 : ¬ zI M 1 i &&& nI 31 = nI 4) (n5 : ¬ zI M 1 i &&& nI 31 = nI 5) (n6 : ¬ zI M 1 i &&& nI 31 = nI 6) (n7 : ¬ zI M 1 i &&& nI 31 = nI 7) (n8 : ¬ zI M 1 i &&& nI 31 = nI 8) (n9 : ¬ zI M 1 i &&& nI 31 = nI 9) (n10 : ¬ zI M 1 i &&& nI 31 = nI 10) (n11 : ¬ zI M 1 i &&& nI 31 = nI 11) (n12 : ¬ zI M 1 i &&& nI 31 = nI 12) (n13 : ¬ zI M 1 i &&& nI 31 = nI 13) (n14 : ¬ zI M 1 i &&& nI 31 = nI 14) (n15 : ¬ zI M 1 i &&& nI 31 = nI 15) (n16 : ¬ zI M 1 i &&& nI 31 = nI 16) (n17 : ¬ zI M 1 i &&& nI 31 = nI 17) (n18 : ¬ zI M 1 i &&& nI 31 = nI 18) (n19 : ¬ zI M 1 i &&& nI 31 = nI 19) (n20 : ¬ zI M 1 i &&& nI 31 = nI 20) (n21 : ¬ zI M 1 i &&& nI 31 = nI 21) (n22 : ¬ zI M 1 i &&& nI 31 = nI 22) (n23 : ¬ zI M 1 i &&& nI 31 = nI 23) (n24 : ¬ zI M 1 i &&& nI 31 = nI 24) (n25 : ¬ zI M 1 i &&& nI 31 = nI 25) (n26 : ¬ zI M 1 i &&& nI 31 = nI 26) (n27 : ¬ zI M 1 i &&& nI 31 = nI 27) : law18 i M = law18 (i + 5) M := by
  have k1 : zK M 1 = (24, L) := by rw [(inv_k hi).2]; rfl
  have eL : Int32.ofNat L = nI L := rfl
  unfold law18
  rw [zg_La_law_18]
  unfold zx_La_law_18
  clear hi
  simp (disch := omega) only [il, nI_add, nI_mul, nI_sub, nI_div, nI_rem, nI_N, i32_lt, i32_le, nI_toInt, nI_subI, nI_clamp, zinT, zifT, iteT, iteF, zQ, zS, zkc, zI_sI, zL_sL, zI_wI, zL_wL, Nat.reduceEqDiff, Nat.reduceAdd, Nat.reduceMul, Nat.reduceLT, Nat.reduceLeDiff, reduceIte, eq_self, and_self, true_and, and_true, false_and, and_false, true_or, or_true, or_false, false_or, not_true_eq_false, not_false_eq_true, zarr, ne_eq, k1, eL, n0, n1, n2, n3, n4, n5, n6, n7, n8, n9, n10, n11, n12, n13, n14, n15, n16, n17, n18, n19, n20, n21, n22, n23, n24, n25, n26, n27]
theorem law_step {L i : Nat} {M : zM} (hi : Inv L M) (hl : i + 5 ≤ L) (hL : L ≤ 2560) : ∃ M2, law18 i M = law18 (i + 5) M2 ∧ Inv L M2 := by
  by_cases n0 : zI M 1 i &&& nI 31 = nI 0
  · exact law_0 hi hl hL n0
  by_cases n1 : zI M 1 i &&& nI 31 = nI 1
  · exact law_1 hi hl hL n1
  by_cases n2 : zI M 1 i &&& nI 31 = nI 2
  · exact law_2 hi hl hL n2
  by_cases n3 : zI M 1 i &&& nI 31 = nI 3
  · exact law_3 hi hl hL n3
  by_cases n4 : zI M 1 i &&& nI 31 = nI 4
  · exact law_4 hi hl hL n4
  by_cases n5 : zI M 1 i &&& nI 31 = nI 5
  · exact law_5 hi hl hL n5
  by_cases n6 : zI M 1 i &&& nI 31 = nI 6
  · exact law_6 hi hl hL n6
  by_cases n7 : zI M 1 i &&& nI 31 = nI 7
  · exact law_7 hi hl hL n7
  by_cases n8 : zI M 1 i &&& nI 31 = nI 8
  · exact law_8 hi hl hL n8
  by_cases n9 : zI M 1 i &&& nI 31 = nI 9
  · exact law_9 hi hl hL n9
  by_cases n10 : zI M 1 i &&& nI 31 = nI 10
  · exact law_10 hi hl hL n10
  by_cases n11 : zI M 1 i &&& nI 31 = nI 11
  · exact law_11 hi hl hL n11
  by_cases n12 : zI M 1 i &&& nI 31 = nI 12
  · exact law_12 hi hl hL n12
  by_cases n13 : zI M 1 i &&& nI 31 = nI 13
  · exact law_13 hi hl hL n13
  by_cases n14 : zI M 1 i &&& nI 31 = nI 14
  · exact law_14 hi hl hL n14
  by_cases n15 : zI M 1 i &&& nI 31 = nI 15
  · exact law_15 hi hl hL n15
  by_cases n16 : zI M 1 i &&& nI 31 = nI 16
  · exact law_16 hi hl hL n16
  by_cases n17 : zI M 1 i &&& nI 31 = nI 17
  · exact law_17 hi hl hL n17
  by_cases n18 : zI M 1 i &&& nI 31 = nI 18
  · exact law_18 hi hl hL n18
  by_cases n19 : zI M 1 i &&& nI 31 = nI 19
  · exact law_19 hi hl hL n19
  by_cases n20 : zI M 1 i &&& nI 31 = nI 20
  · exact law_20 hi hl hL n20
  by_cases n21 : zI M 1 i &&& nI 31 = nI 21
  · exact law_21 hi hl hL n21
  by_cases n22 : zI M 1 i &&& nI 31 = nI 22
  · exact law_22 hi hl hL n22
  by_cases n23 : zI M 1 i &&& nI 31 = nI 23
  · exact law_23 hi hl hL n23
  by_cases n24 : zI M 1 i &&& nI 31 = nI 24
  · exact law_24 hi hl hL n24
  by_cases n25 : zI M 1 i &&& nI 31 = nI 25
  · exact law_25 hi hl hL n25
  by_cases n26 : zI M 1 i &&& nI 31 = nI 26
  · exact law_26 hi hl hL n26
  by_cases n27 : zI M 1 i &&& nI 31 = nI 27
  · exact law_27 hi hl hL n27
  exact ⟨M, law_no hi hl hL n0 n1 n2 n3 n4 n5 n6 n7 n8 n9 n10 n11 n12 n13 n14 n15 n16 n17 n18 n19 n20 n21 n22 n23 n24 n25 n26 n27, hi⟩
theorem law_go {L : Nat} (hL : L ≤ 2560) : ∀ n i M, L ≤ i + n → i ≤ 3000 → Inv L M → ∃ M', law18 i M = some (some (.int 1), M') ∧ Inv L M' := by
  intro n
  induction n with
  | zero =>
    intro i M h1 h2 h3
    exact ⟨M, law_end h3 hL h2 (by omega), h3⟩
  | succ n ih =>
    intro i M h1 h2 h3
    by_cases he : L < i + 5
    · exact ⟨M, law_end h3 hL h2 he, h3⟩
    · obtain ⟨M2, e, h4⟩ := law_step (i := i) h3 (by omega) hL
      obtain ⟨M', e', h5⟩ := ih (i + 5) M2 (by omega) (by omega) h4
      exact ⟨M', e.trans e', h5⟩
theorem zsz_c {L : Nat} {M : zM} (h : Inv L M) (hL : L ≤ 2560) : zsz M ≤ 7302250 := by
  obtain ⟨h1, h2⟩ := inv_k h
  unfold zsz
  rw [h1, h2, show List.range 182 = 0 :: 1 :: List.range' 2 180 from by decide +kernel, List.map_cons, List.map_cons, List.sum_cons, List.sum_cons]
  have e : (List.range' 2 180).map (fun a => (zKc L a).2) = (List.range' 2 180).map (fun a => (zKc 0 a).2) := by
    apply List.map_congr_left
    intro a ha
    rw [zKc_ne (L := L) (a := a) (by
      have := List.mem_range'_1.mp ha
      omega)]
  have hS : ((List.range' 2 180).map (fun a => (zKc 0 a).2)).sum ≤ 100000 := by decide +kernel
  rw [e]
  show 6 + (L + _) ≤ 7302250
  omega
theorem zpure_holds : zPure := by
  intro L xs hL
  obtain ⟨M2, M4, v1, n2, v2, hx, hI⟩ := ctor_ok L xs
  obtain ⟨M', e, hI'⟩ := law_go hL L 0 M4 (by omega) (by omega) hI
  refine ⟨M', ?_, ?_, zsz_c hI' hL⟩
  · show zV (100 + 1) n_La_law [.ref 1] (zM0 L xs) = _
    rw [ze_La_law]
    unfold zx_La_law
    show zbV (zV 100 n_PT_init [.ref 2] (znew (zM0 L xs) 10 12)) _ = _
    rw [v1, zbV_S]
    show zbV (zV 100 n_Mo_init [.ref (zN M2)] (znew M2 11 52)) (fun M4 => zG 100 n_La_law 18 [some (.ref 1), some (.ref 2), some (.ref (zN M2)), some (.int (nI 0))] [] M4) = _
    rw [n2, v2, zbV_S]
    exact e
  · rw [(inv_k hI').1]
    decide
