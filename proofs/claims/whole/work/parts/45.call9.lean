/-! run -/
theorem nI_and255 (x : Int32) : ∃ v, v < 256 ∧ x &&& nI 255 = nI v := by
  refine ⟨x.toBitVec.toNat &&& 255, Nat.lt_of_le_of_lt Nat.and_le_right (by decide), ?_⟩
  apply Int32.toBitVec_inj.mp
  rw [Int32.toBitVec_and]
  apply BitVec.eq_of_toNat_eq
  rw [BitVec.toNat_and]
  show x.toBitVec.toNat &&& 255 = (BitVec.ofNat 32 _).toNat
  rw [BitVec.toNat_ofNat]
  exact (Nat.mod_eq_of_lt (Nat.lt_of_le_of_lt Nat.and_le_right (by decide))).symm
/-- the class goes J ticks -/
theorem pt_run_loop {d L w t k l m f n J : Nat} {M : zM} (hd : 1 ≤ d) (hs : zSh L w M) (hk : k < 4) (ht : zI M 19 1 = nI t) (hl : zI M (138 + 2 * k) 1 = nI l) (hm : zI M (138 + 2 * k) 2 = nI m) (hm2 : m ≤ 40) (hto : zI M 2 11 = nI 0) (h1 : t + J ≤ 48) (h2 : f + J ≤ m) (h3 : J ≤ n) (hn : n ≤ 20) : ∃ M', zG d n_PT_run 47 [some (.ref 2), none, some (.int (nI l)), none, some (.int (nI n)), some (.ref (138 + 2 * k)), some (.int (nI f)), some (.int (nI 0))] [] M = zG d n_PT_run 47 [some (.ref 2), none, some (.int (nI l)), none, some (.int (nI n)), some (.ref (138 + 2 * k)), some (.int (nI (f + J))), some (.int (nI J))] [] M' ∧ zN M' = zN M ∧ zK M' = zK M ∧ zR M' = zR M ∧ zL M' = zL M ∧ (∀ b, b ≠ 2 → b ≠ 19 → b ≠ 20 → zI M' b = zI M b) ∧ (∀ c, c ≠ 11 → zI M' 2 c = zI M 2 c) ∧ zI M' 2 11 = nI 0 ∧ zI M' 19 1 = nI (t + J) ∧ (∀ i, i < t → zI M' 20 i = zI M 20 i) ∧ ∀ i, i < J → zI M' 20 (t + i) = zI M (138 + 2 * k + 1) (f + i) &&& nI 255 := by
  exact zloopE (n := J) (g := fun j M => zG d n_PT_run 47 [some (.ref 2), none, some (.int (nI l)), none, some (.int (nI n)), some (.ref (138 + 2 * k)), some (.int (nI (f + j))), some (.int (nI j))] [] M) (P := fun j M' => zN M' = zN M ∧ zK M' = zK M ∧ zR M' = zR M ∧ zL M' = zL M ∧ (∀ b, b ≠ 2 → b ≠ 19 → b ≠ 20 → zI M' b = zI M b) ∧ (∀ c, c ≠ 11 → zI M' 2 c = zI M 2 c) ∧ zI M' 2 11 = nI 0 ∧ zI M' 19 1 = nI (t + j) ∧ (∀ i, i < t → zI M' 20 i = zI M 20 i) ∧ ∀ i, i < j → zI M' 20 (t + i) = zI M (138 + 2 * k + 1) (f + i) &&& nI 255) (by
    intro j M' hj ⟨a1, a2, a3, a4, a5, a9, a10, a6, a7, a8⟩
    have hs' := zSh_fr hs a1 a2 a3
    have hs2 : zSh L w (zsI M' 2 11 (nI 0)) := hs'
    have hK := hs'.2.1
    have hC := hs'.2.2.1
    obtain ⟨s1, s2, s3⟩ : zShe M' (138 + 2 * k) := (hs'.2.2.2.2.1.1 k hk).2.2.2.2.2.2.2
    have r3 := s1
    have r4 := s2
    rw [hK] at r3 r4
    have g1 : zI M' (138 + 2 * k) 1 = nI l := by rw [a5 _ (by omega) (by omega) (by omega)]; exact hl
    have g2 : zI M' (138 + 2 * k) 2 = nI m := by rw [a5 _ (by omega) (by omega) (by omega)]; exact hm
    have e1 : zV d n_Sh_tearAt [.ref (138 + 2 * k), .int (nI l), .int (nI (f + j))] M' = some (some (.int (nI 0)), M') := by
      obtain ⟨d, rfl, hd1⟩ := zdep hd
      rw [ze_Sh_tearAt]
      unfold zx_Sh_tearAt
      simp (disch := omega) only [il, nI_add, nI_mul, nI_sub, nI_div, nI_rem, nI_N, i32_lt, i32_le, nI_toInt, nI_subI, nI_clamp, zinT, zifT, iteT, iteF, zQ, zS, zkc, zI_sI, zL_sL, zI_wI, zL_wL, Nat.reduceEqDiff, Nat.reduceAdd, Nat.reduceMul, Nat.reduceLT, Nat.reduceLeDiff, reduceIte, eq_self, and_self, true_and, and_true, false_and, and_false, true_or, or_true, or_false, false_or, not_true_eq_false, not_false_eq_true, zarr, ne_eq, hK, r3, g1, g2]
    have n1 : ¬ (138 + 2 * k + 1 = 2) := by omega
    have e2 := tr_add hd (M := zsI M' 2 11 (nI 0)) hs2.2.2.2.2.1.2.2.1 (t := t + j) a6 (by omega) (zI M' (138 + 2 * k + 1) (f + j) &&& nI 255)
    refine ⟨zsI (zsI (zsI M' 2 11 (nI 0)) 20 (t + j) (zI M' (138 + 2 * k + 1) (f + j) &&& nI 255)) 19 1 (nI (t + j + 1)), ?_, a1, a2, a3, a4, ?_, ?_, ?_, ?_, ?_, ?_⟩
    · show zG d n_PT_run 47 [some (.ref 2), none, some (.int (nI l)), none, some (.int (nI n)), some (.ref (138 + 2 * k)), some (.int (nI (f + j))), some (.int (nI j))] [] M' = _
      rw [zg_PT_run_47]
      unfold zx_PT_run_47
      simp (disch := omega) only [il, nI_add, nI_mul, nI_sub, nI_div, nI_rem, nI_N, i32_lt, i32_le, nI_toInt, nI_subI, nI_clamp, zinT, zifT, iteT, iteF, zQ, zS, zkc, zI_sI, zL_sL, zI_wI, zL_wL, Nat.reduceEqDiff, Nat.reduceAdd, Nat.reduceMul, Nat.reduceLT, Nat.reduceLeDiff, reduceIte, eq_self, and_self, true_and, and_true, false_and, and_false, true_or, or_true, or_false, false_or, not_true_eq_false, not_false_eq_true, zarr, ne_eq, hK, hC, a6, r3, r4, s3, e1, n1, e2]
      rfl
    · intro b h1 h2 h3
      rw [zI_ne h2, zI_ne h3, zI_ne h1]; exact a5 b h1 h2 h3
    · intro c hc
      rw [zI_ne (by omega), zI_ne (by omega), zI_sI, if_neg (fun q => hc q.2)]; exact a9 c hc
    · rw [zI_ne (by omega), zI_ne (by omega), zI_sI, if_pos ⟨rfl, rfl⟩]
    · rw [zI_sI, if_pos ⟨rfl, rfl⟩]; rfl
    · intro i hi
      rw [zI_ne (by omega), zI_sI, if_neg (by omega), zI_ne (by omega)]; exact a7 i hi
    · intro i hi
      rw [zI_ne (by omega), zI_sI]
      by_cases h : i = j
      · subst h; rw [if_pos ⟨rfl, rfl⟩, a5 (138 + 2 * k + 1) (by omega) (by omega) (by omega)]
      · rw [if_neg (by omega), zI_ne (by omega)]; exact a8 i (by omega)) (s0 := M) ⟨rfl, rfl, rfl, rfl, fun _ _ _ _ => rfl, fun _ _ => rfl, hto, ht, fun _ _ => rfl, fun _ h => absurd h (by omega)⟩
theorem i64_add (x y : Int32) : (x.toInt64 + y.toInt64).toInt = x.toInt + y.toInt := lg_i2l_add x y
theorem i64_addc {f j : Nat} : ((nI f).toInt64 + (nI j).toInt64).toInt32 = nI (f + j) := by
  rw [lg_l2i_add, lg_l2i_i2l, lg_l2i_i2l, nI_add]
/-- the reference goes J ticks -/
theorem mo_run_loop {d L w t k l m f n J : Nat} {M : zM} (hd : 1 ≤ d) (hs : zSh L w M) (hk : k < 4) (ht : zI M 155 0 = nI t) (hl : zI M 179 k = nI l) (hl3 : l < 3) (hm : zI M 180 k = nI m) (hm2 : m ≤ 40) (hto : zI M 146 51 = nI 0) (h1 : t + J ≤ 48) (h2 : f + J ≤ m) (h3 : J ≤ n) (hn : n ≤ 20) : ∃ M', zG d n_Mo_run 31 [some (.ref 146), some (.int (nI k)), some (.int (nI l)), some (.int (nI f)), some (.int (nI n)), some (.int (nI 0)), none, none] [] M = zG d n_Mo_run 31 [some (.ref 146), some (.int (nI k)), some (.int (nI l)), some (.int (nI f)), some (.int (nI n)), some (.int (nI J)), none, none] [] M' ∧ zN M' = zN M ∧ zK M' = zK M ∧ zR M' = zR M ∧ zL M' = zL M ∧ (∀ b, b ≠ 146 → b ≠ 155 → zI M' b = zI M b) ∧ (∀ c, c ≠ 51 → zI M' 146 c = zI M 146 c) ∧ zI M' 146 51 = nI 0 ∧ zI M' 155 0 = nI (t + J) ∧ (∀ i, i < t → zI M' 155 (1 + i) = zI M 155 (1 + i)) ∧ ∀ i, i < J → zI M' 155 (1 + (t + i)) = zI M 181 (40 * k + (f + i)) &&& nI 255 := by
  exact zloopE (n := J) (g := fun j M => zG d n_Mo_run 31 [some (.ref 146), some (.int (nI k)), some (.int (nI l)), some (.int (nI f)), some (.int (nI n)), some (.int (nI j)), none, none] [] M) (P := fun j M' => zN M' = zN M ∧ zK M' = zK M ∧ zR M' = zR M ∧ zL M' = zL M ∧ (∀ b, b ≠ 146 → b ≠ 155 → zI M' b = zI M b) ∧ (∀ c, c ≠ 51 → zI M' 146 c = zI M 146 c) ∧ zI M' 146 51 = nI 0 ∧ zI M' 155 0 = nI (t + j) ∧ (∀ i, i < t → zI M' 155 (1 + i) = zI M 155 (1 + i)) ∧ ∀ i, i < j → zI M' 155 (1 + (t + i)) = zI M 181 (40 * k + (f + i)) &&& nI 255) (by
    intro j M' hj ⟨a1, a2, a3, a4, a5, a9, a10, a6, a7, a8⟩
    have hs' := zSh_fr hs a1 a2 a3
    have hK := hs'.2.1
    have hMo := hs'.2.2.2.1
    have g1 : zI M' 179 k = nI l := by rw [a5 _ (by omega) (by omega)]; exact hl
    have g2 : zI M' 180 k = nI m := by rw [a5 _ (by omega) (by omega)]; exact hm
    have n1 : ¬ (0 = 1 + (t + j)) := by omega
    refine ⟨zsI (zsI (zsI M' 146 51 (nI 0)) 155 (1 + (t + j)) (zI M' 181 (40 * k + (f + j)) &&& nI 255)) 155 0 (nI (t + j + 1)), ?_, a1, a2, a3, a4, ?_, ?_, ?_, ?_, ?_, ?_⟩
    · show zG d n_Mo_run 31 [some (.ref 146), some (.int (nI k)), some (.int (nI l)), some (.int (nI f)), some (.int (nI n)), some (.int (nI j)), none, none] [] M' = _
      rw [zg_Mo_run_31]
      unfold zx_Mo_run_31
      simp (disch := omega) only [il, nI_add, nI_mul, nI_sub, nI_div, nI_rem, nI_N, i32_lt, i32_le, nI_toInt, nI_subI, nI_clamp, zinT, zifT, iteT, iteF, zQ, zS, zkc, zI_sI, zL_sL, zI_wI, zL_wL, Nat.reduceEqDiff, Nat.reduceAdd, Nat.reduceMul, Nat.reduceLT, Nat.reduceLeDiff, reduceIte, eq_self, and_self, true_and, and_true, false_and, and_false, true_or, or_true, or_false, false_or, not_true_eq_false, not_false_eq_true, zarr, ne_eq, hK, hMo, a6, a10, g1, g2, nI_n4, mo_in hd, i64_toInt, i64_add, zlit64]
      rw [zg_Mo_run_117]
      unfold zx_Mo_run_117
      simp (disch := omega) only [il, nI_add, nI_mul, nI_sub, nI_div, nI_rem, nI_N, i32_lt, i32_le, nI_toInt, nI_subI, nI_clamp, zinT, zifT, iteT, iteF, zQ, zS, zkc, zI_sI, zL_sL, zI_wI, zL_wL, Nat.reduceEqDiff, Nat.reduceAdd, Nat.reduceMul, Nat.reduceLT, Nat.reduceLeDiff, reduceIte, eq_self, and_self, true_and, and_true, false_and, and_false, true_or, or_true, or_false, false_or, not_true_eq_false, not_false_eq_true, zarr, ne_eq, hK, hMo, a6, i64_addc, n1]
    · intro b h1 h2
      rw [zI_ne h2, zI_ne h2, zI_ne h1]; exact a5 b h1 h2
    · intro c hc
      rw [zI_ne (by omega), zI_ne (by omega), zI_sI, if_neg (fun q => hc q.2)]; exact a9 c hc
    · rw [zI_ne (by omega), zI_ne (by omega), zI_sI, if_pos ⟨rfl, rfl⟩]
    · rw [zI_sI, if_pos ⟨rfl, rfl⟩]; rfl
    · intro i hi
      rw [zI_sI, if_neg (by omega), zI_sI, if_neg (by omega), zI_ne (by omega)]; exact a7 i hi
    · intro i hi
      rw [zI_sI, if_neg (by omega), zI_sI]
      by_cases h : i = j
      · subst h; rw [if_pos ⟨rfl, rfl⟩, a5 181 (by omega) (by omega)]
      · rw [if_neg (by omega), zI_ne (by omega)]; exact a8 i (by omega)) (s0 := M) ⟨rfl, rfl, rfl, rfl, fun _ _ _ => rfl, fun _ _ => rfl, hto, ht, fun _ _ => rfl, fun _ h => absurd h (by omega)⟩
