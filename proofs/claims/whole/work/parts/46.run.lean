/-! run, whole -/
/-- one step that stops: the class -/
theorem pt_run_stop {d L w t k l n J : Nat} {M : zM} {f : Int32} (hd : 1 ≤ d) (hs : zSh L w M) (hk : k < 4) (hl : l < 3) (ht : zI M 19 1 = nI t) (ht2 : t ≤ 48) (hsh : iSheet M k) (hn : n ≤ 20) (hJ : J ≤ n) (hto : zI M 2 11 = nI 0) (v : Nat)
    (hv : (J = n ∨ t = 48) ∧ v = 0 ∨ J < n ∧ t < 48 ∧ (v = 1 ∧ zI M (138 + 2 * k) 2 = -1 ∨ v = 2 ∧ (∃ l' m, zI M (138 + 2 * k) 1 = nI l' ∧ l' < 3 ∧ l' ≠ l ∧ zI M (138 + 2 * k) 2 = nI m ∧ m ≤ 40) ∨ v = 3 ∧ ∃ m, zI M (138 + 2 * k) 1 = nI l ∧ zI M (138 + 2 * k) 2 = nI m ∧ m ≤ 40 ∧ (f.toInt < 0 ∨ (m : Int) ≤ f.toInt))) :
    ∃ M', zG d n_PT_run 47 [some (.ref 2), none, some (.int (nI l)), none, some (.int (nI n)), some (.ref (138 + 2 * k)), some (.int f), some (.int (nI J))] [] M = some (some (.int (nI J)), M') ∧ M' = zsI M 2 11 (nI v) := by
  have hK := hs.2.1
  have hC := hs.2.2.1
  obtain ⟨s1, s2, s3⟩ : zShe M (138 + 2 * k) := (hs.2.2.2.2.1.1 k hk).2.2.2.2.2.2.2
  have r3 := s1
  rw [hK] at r3
  refine ⟨_, ?_, rfl⟩
  rw [zg_PT_run_47]
  unfold zx_PT_run_47
  rcases hv with ⟨h1, rfl⟩ | ⟨h1, h2, h3⟩
  · have e : zsI M 2 11 (nI 0) = M := by
      have : zsI M 2 11 (zI M 2 11) = M := by
        unfold zsI
        obtain ⟨a, b, c, d, e⟩ := M
        congr 3
        funext i j
        unfold zu zI
        by_cases h : i = 2 ∧ j = 11
        · rw [if_pos h, h.1, h.2]
        · rw [if_neg h]
      rw [hto] at this
      exact this
    rw [e]
    by_cases h2 : J = n
    · subst h2
      simp (disch := omega) only [il, nI_add, nI_mul, nI_sub, nI_div, nI_rem, nI_N, i32_lt, i32_le, nI_toInt, nI_subI, nI_clamp, zinT, zifT, iteT, iteF, zQ, zS, zkc, zI_sI, zL_sL, zI_wI, zL_wL, Nat.reduceEqDiff, Nat.reduceAdd, Nat.reduceMul, Nat.reduceLT, Nat.reduceLeDiff, reduceIte, eq_self, and_self, true_and, and_true, false_and, and_false, true_or, or_true, or_false, false_or, not_true_eq_false, not_false_eq_true, zarr, ne_eq]
    · have h3 : t = 48 := by omega
      subst h3
      simp (disch := omega) only [il, nI_add, nI_mul, nI_sub, nI_div, nI_rem, nI_N, i32_lt, i32_le, nI_toInt, nI_subI, nI_clamp, zinT, zifT, iteT, iteF, zQ, zS, zkc, zI_sI, zL_sL, zI_wI, zL_wL, Nat.reduceEqDiff, Nat.reduceAdd, Nat.reduceMul, Nat.reduceLT, Nat.reduceLeDiff, reduceIte, eq_self, and_self, true_and, and_true, false_and, and_false, true_or, or_true, or_false, false_or, not_true_eq_false, not_false_eq_true, zarr, ne_eq, hK, hC, ht]
  · have e1 : zV d n_Sh_tearAt [.ref (138 + 2 * k), .int (nI l), .int f] M = some (some (.int (nI v)), M) := by
      obtain ⟨d, rfl, hd1⟩ := zdep hd
      rw [ze_Sh_tearAt]
      unfold zx_Sh_tearAt
      rcases h3 with ⟨rfl, g⟩ | ⟨rfl, l', m, g1, g2, g3, g4, g5⟩ | ⟨rfl, m, g1, g2, g3, g4⟩
      · have g' : zI M (138 + 2 * k) 2 = -nI 1 := g
        simp (disch := omega) only [il, nI_add, nI_mul, nI_sub, nI_div, nI_rem, nI_N, i32_lt, i32_le, nI_toInt, nI_subI, nI_clamp, zinT, zifT, iteT, iteF, zQ, zS, zkc, zI_sI, zL_sL, zI_wI, zL_wL, Nat.reduceEqDiff, Nat.reduceAdd, Nat.reduceMul, Nat.reduceLT, Nat.reduceLeDiff, reduceIte, eq_self, and_self, true_and, and_true, false_and, and_false, true_or, or_true, or_false, false_or, not_true_eq_false, not_false_eq_true, zarr, ne_eq, hK, r3, g', neg1_toInt]
      · simp (disch := omega) only [il, nI_add, nI_mul, nI_sub, nI_div, nI_rem, nI_N, i32_lt, i32_le, nI_toInt, nI_subI, nI_clamp, zinT, zifT, iteT, iteF, zQ, zS, zkc, zI_sI, zL_sL, zI_wI, zL_wL, Nat.reduceEqDiff, Nat.reduceAdd, Nat.reduceMul, Nat.reduceLT, Nat.reduceLeDiff, reduceIte, eq_self, and_self, true_and, and_true, false_and, and_false, true_or, or_true, or_false, false_or, not_true_eq_false, not_false_eq_true, zarr, ne_eq, hK, r3, g1, g4]
      · by_cases h : f.toInt < 0
        · simp (disch := omega) only [il, nI_add, nI_mul, nI_sub, nI_div, nI_rem, nI_N, i32_lt, i32_le, nI_toInt, nI_subI, nI_clamp, zinT, zifT, iteT, iteF, zQ, zS, zkc, zI_sI, zL_sL, zI_wI, zL_wL, Nat.reduceEqDiff, Nat.reduceAdd, Nat.reduceMul, Nat.reduceLT, Nat.reduceLeDiff, reduceIte, eq_self, and_self, true_and, and_true, false_and, and_false, true_or, or_true, or_false, false_or, not_true_eq_false, not_false_eq_true, zarr, ne_eq, hK, r3, g1, g2]
        · simp (disch := omega) only [il, nI_add, nI_mul, nI_sub, nI_div, nI_rem, nI_N, i32_lt, i32_le, nI_toInt, nI_subI, nI_clamp, zinT, zifT, iteT, iteF, zQ, zS, zkc, zI_sI, zL_sL, zI_wI, zL_wL, Nat.reduceEqDiff, Nat.reduceAdd, Nat.reduceMul, Nat.reduceLT, Nat.reduceLeDiff, reduceIte, eq_self, and_self, true_and, and_true, false_and, and_false, true_or, or_true, or_false, false_or, not_true_eq_false, not_false_eq_true, zarr, ne_eq, hK, r3, g1, g2]
    have hv1 : v = 1 ∨ v = 2 ∨ v = 3 := by
      rcases h3 with ⟨h, -⟩ | ⟨h, -⟩ | ⟨h, -⟩ <;> omega
    have hv0 : ¬ v = 0 := by omega
    simp (disch := omega) only [il, nI_add, nI_mul, nI_sub, nI_div, nI_rem, nI_N, i32_lt, i32_le, nI_toInt, nI_subI, nI_clamp, zinT, zifT, iteT, iteF, zQ, zS, zkc, zI_sI, zL_sL, zI_wI, zL_wL, Nat.reduceEqDiff, Nat.reduceAdd, Nat.reduceMul, Nat.reduceLT, Nat.reduceLeDiff, reduceIte, eq_self, and_self, true_and, and_true, false_and, and_false, true_or, or_true, or_false, false_or, not_true_eq_false, not_false_eq_true, zarr, ne_eq, hK, hC, ht, r3, e1, hv0]
theorem zsI_id {M : zM} {a i : Nat} {x : Int32} (h : zI M a i = x) : zsI M a i x = M := by
  subst h
  unfold zsI
  obtain ⟨a', b, c, d, e⟩ := M
  congr 3
  funext p j
  unfold zu zI
  by_cases h : p = a ∧ j = i
  · rw [if_pos h, h.1, h.2]
  · rw [if_neg h]
/-- one step that stops: the reference -/
theorem mo_run_stop {d L w t k l n J : Nat} {M : zM} {f : Int32} (hd : 1 ≤ d) (hs : zSh L w M) (hk : k < 4) (hl : l < 3) (ht : zI M 155 0 = nI t) (ht2 : t ≤ 48) (hn : n ≤ 20) (hJ : J ≤ n) (hto : zI M 146 51 = nI 0) (v : Nat)
    (hv : (J = n ∨ t = 48) ∧ v = 0 ∨ J < n ∧ t < 48 ∧ (v = 1 ∧ zI M 179 k = -4 ∨ v = 2 ∧ (∃ l', zI M 179 k = nI l' ∧ l' < 3 ∧ l' ≠ l) ∨ v = 3 ∧ ∃ m, zI M 179 k = nI l ∧ zI M 180 k = nI m ∧ m ≤ 40 ∧ (f.toInt + J < 0 ∨ (m : Int) ≤ f.toInt + J))) :
    zG d n_Mo_run 31 [some (.ref 146), some (.int (nI k)), some (.int (nI l)), some (.int f), some (.int (nI n)), some (.int (nI J)), none, none] [] M = some (some (.int (nI J)), zsI M 146 51 (nI v)) := by
  have hK := hs.2.1
  have hMo := hs.2.2.2.1
  rw [zg_Mo_run_31]
  unfold zx_Mo_run_31
  rcases hv with ⟨h1, rfl⟩ | ⟨h1, h2, h3⟩
  · rw [zsI_id hto]
    by_cases h2 : J = n
    · subst h2
      simp (disch := omega) only [il, nI_add, nI_mul, nI_sub, nI_div, nI_rem, nI_N, i32_lt, i32_le, nI_toInt, nI_subI, nI_clamp, zinT, zifT, iteT, iteF, zQ, zS, zkc, zI_sI, zL_sL, zI_wI, zL_wL, Nat.reduceEqDiff, Nat.reduceAdd, Nat.reduceMul, Nat.reduceLT, Nat.reduceLeDiff, reduceIte, eq_self, and_self, true_and, and_true, false_and, and_false, true_or, or_true, or_false, false_or, not_true_eq_false, not_false_eq_true, zarr, ne_eq]
    · have h3 : t = 48 := by omega
      subst h3
      simp (disch := omega) only [il, nI_add, nI_mul, nI_sub, nI_div, nI_rem, nI_N, i32_lt, i32_le, nI_toInt, nI_subI, nI_clamp, zinT, zifT, iteT, iteF, zQ, zS, zkc, zI_sI, zL_sL, zI_wI, zL_wL, Nat.reduceEqDiff, Nat.reduceAdd, Nat.reduceMul, Nat.reduceLT, Nat.reduceLeDiff, reduceIte, eq_self, and_self, true_and, and_true, false_and, and_false, true_or, or_true, or_false, false_or, not_true_eq_false, not_false_eq_true, zarr, ne_eq, hK, hMo, ht, hto]
  · have last : ∀ l6 : Int64, v ≠ 0 → v < 4 → zG d n_Mo_run 117 [some (.ref 146), some (.int (nI k)), some (.int (nI l)), some (.int f), some (.int (nI n)), some (.int (nI J)), some (.long l6), none] [.int (nI v), .ref 146] M = some (some (.int (nI J)), zsI M 146 51 (nI v)) := by
      intro l6 hv0 hv4
      rw [zg_Mo_run_117]
      unfold zx_Mo_run_117
      simp (disch := omega) only [il, nI_add, nI_mul, nI_sub, nI_div, nI_rem, nI_N, i32_lt, i32_le, nI_toInt, nI_subI, nI_clamp, zinT, zifT, iteT, iteF, zQ, zS, zkc, zI_sI, zL_sL, zI_wI, zL_wL, Nat.reduceEqDiff, Nat.reduceAdd, Nat.reduceMul, Nat.reduceLT, Nat.reduceLeDiff, reduceIte, eq_self, and_self, true_and, and_true, false_and, and_false, true_or, or_true, or_false, false_or, not_true_eq_false, not_false_eq_true, zarr, ne_eq, hK, hMo, hv0]
      rw [zg_Mo_run_31]
      unfold zx_Mo_run_31
      simp (disch := omega) only [il, nI_add, nI_mul, nI_sub, nI_div, nI_rem, nI_N, i32_lt, i32_le, nI_toInt, nI_subI, nI_clamp, zinT, zifT, iteT, iteF, zQ, zS, zkc, zI_sI, zL_sL, zI_wI, zL_wL, Nat.reduceEqDiff, Nat.reduceAdd, Nat.reduceMul, Nat.reduceLT, Nat.reduceLeDiff, reduceIte, eq_self, and_self, true_and, and_true, false_and, and_false, true_or, or_true, or_false, false_or, not_true_eq_false, not_false_eq_true, zarr, ne_eq, hK, hMo, hv0]
    rcases h3 with ⟨rfl, g⟩ | ⟨rfl, l', g1, g2, g3⟩ | ⟨rfl, m, g1, g2, g3, g4⟩
    · have g' : zI M 179 k = -nI 4 := g
      simp (disch := omega) only [il, nI_add, nI_mul, nI_sub, nI_div, nI_rem, nI_N, i32_lt, i32_le, nI_toInt, nI_subI, nI_clamp, zinT, zifT, iteT, iteF, zQ, zS, zkc, zI_sI, zL_sL, zI_wI, zL_wL, Nat.reduceEqDiff, Nat.reduceAdd, Nat.reduceMul, Nat.reduceLT, Nat.reduceLeDiff, reduceIte, eq_self, and_self, true_and, and_true, false_and, and_false, true_or, or_true, or_false, false_or, not_true_eq_false, not_false_eq_true, zarr, ne_eq, hK, hMo, ht, hto, g']
      exact last _ (by omega) (by omega)
    · simp (disch := omega) only [il, nI_add, nI_mul, nI_sub, nI_div, nI_rem, nI_N, i32_lt, i32_le, nI_toInt, nI_subI, nI_clamp, zinT, zifT, iteT, iteF, zQ, zS, zkc, zI_sI, zL_sL, zI_wI, zL_wL, Nat.reduceEqDiff, Nat.reduceAdd, Nat.reduceMul, Nat.reduceLT, Nat.reduceLeDiff, reduceIte, eq_self, and_self, true_and, and_true, false_and, and_false, true_or, or_true, or_false, false_or, not_true_eq_false, not_false_eq_true, zarr, ne_eq, hK, hMo, ht, hto, g1, nI_n4]
      exact last _ (by omega) (by omega)
    · simp (disch := omega) only [il, nI_add, nI_mul, nI_sub, nI_div, nI_rem, nI_N, i32_lt, i32_le, nI_toInt, nI_subI, nI_clamp, zinT, zifT, iteT, iteF, zQ, zS, zkc, zI_sI, zL_sL, zI_wI, zL_wL, Nat.reduceEqDiff, Nat.reduceAdd, Nat.reduceMul, Nat.reduceLT, Nat.reduceLeDiff, reduceIte, eq_self, and_self, true_and, and_true, false_and, and_false, true_or, or_true, or_false, false_or, not_true_eq_false, not_false_eq_true, zarr, ne_eq, hK, hMo, ht, hto, g1, g2, nI_n4, mo_in hd, i64_toInt, i64_add, zlit64]
      exact last _ (by omega) (by omega)
theorem run_fin {L w n t P J v : Nat} {tr : Nat → Nat} {M M1 M2 : zM} {val : Nat → Int32} (hs : zSh L w M) (hT : iTape n M) (hfa : zI M 2 10 = zI M 146 18) (hpt : pat M) (htr : iTrace t tr M) (him : ∀ k, k < 2 → iImage M k) (hsh : ∀ k, k < 4 → iSheet M k) (hp : iProm w t P tr M) (hJ : t + J ≤ 48)
    (a1 : zN M1 = zN M) (a2 : zK M1 = zK M) (a3 : zR M1 = zR M) (a4 : zL M1 = zL M) (a5 : ∀ b, b ≠ 2 → b ≠ 19 → b ≠ 20 → zI M1 b = zI M b) (a9 : ∀ c, c ≠ 11 → zI M1 2 c = zI M 2 c) (a10 : zI M1 2 11 = nI v) (a6 : zI M1 19 1 = nI (t + J)) (a7 : ∀ i, i < t → zI M1 20 i = zI M 20 i) (a8 : ∀ i, i < J → zI M1 20 (t + i) = val i &&& nI 255)
    (b1 : zN M2 = zN M1) (b2 : zK M2 = zK M1) (b3 : zR M2 = zR M1) (b4 : zL M2 = zL M1) (b5 : ∀ b, b ≠ 146 → b ≠ 155 → zI M2 b = zI M1 b) (b9 : ∀ c, c ≠ 51 → zI M2 146 c = zI M1 146 c) (b10 : zI M2 146 51 = nI v) (b6 : zI M2 155 0 = nI (t + J)) (b7 : ∀ i, i < t → zI M2 155 (1 + i) = zI M1 155 (1 + i)) (b8 : ∀ i, i < J → zI M2 155 (1 + (t + i)) = val i &&& nI 255) : Inv L M2 := by
  obtain ⟨t1, t2, t3, t4⟩ := htr
  have hw := hs.2.2.2.2.2.1
  have r : ∀ b, b ≠ 2 → b ≠ 19 → b ≠ 20 → b ≠ 146 → b ≠ 155 → zI M2 b = zI M b := fun b h1 h2 h3 h4 h5 => by rw [b5 b h4 h5, a5 b h1 h2 h3]
  have r146 : ∀ f, f ≠ 51 → zI M2 146 f = zI M 146 f := fun f hf => by rw [b9 f hf, a5 146 (by omega) (by omega) (by omega)]
  have r2 : ∀ f, f ≠ 11 → zI M2 2 f = zI M 2 f := fun f hf => by rw [b5 2 (by omega) (by omega), a9 f hf]
  have rL : zL M2 = zL M := by rw [b4]; exact a4
  let vf : Nat → Nat := fun i => Classical.choose (nI_and255 (val i))
  have hvf : ∀ i, vf i < 256 ∧ val i &&& nI 255 = nI (vf i) := fun i => Classical.choose_spec (nI_and255 (val i))
  refine Inv_tr (P' := P) (t' := t + J) (tr' := fun i => if i < t then tr i else vf (i - t)) hs hT hfa him hsh (fun b _ _ _ _ _ _ => r b (by omega) (by omega) (by omega) (by omega) (by omega)) (b1.trans a1) (b2.trans a2) (b3.trans a3) (r2 10 (by omega)) ⟨by rw [b10, b5 2 (by omega) (by omega), a10], by unfold pat; rw [rL]; exact hpt⟩ (r146 18 (by omega)) (r146 13 (by omega)) ?_ ?_
  · refine ⟨hJ, ?_, b6, ?_⟩
    · rw [b5 19 (by omega) (by omega)]; exact a6
    · intro i hi2
      by_cases h : i < t
      · simp only [h, if_true]
        refine ⟨(t4 i h).1, ?_, ?_⟩
        · rw [b5 20 (by omega) (by omega), a7 i h]; exact (t4 i h).2.1
        · rw [b7 i h, a5 155 (by omega) (by omega) (by omega)]; exact (t4 i h).2.2
      · simp only [h, if_false]
        have e : i = t + (i - t) := by omega
        refine ⟨(hvf _).1, ?_, ?_⟩
        · rw [b5 20 (by omega) (by omega), ← (hvf _).2]
          have := a8 (i - t) (by omega)
          rw [← e] at this; exact this
        · rw [← (hvf _).2]
          have := b8 (i - t) (by omega)
          rw [← e] at this; exact this
  · exact iProm_fr hw hp ⟨fun b _ _ => ⟨r b (by omega) (by omega) (by omega) (by omega) (by omega), by rw [rL]⟩, r2 9 (by omega), r146 8 (by omega), r 147 (by omega) (by omega) (by omega) (by omega) (by omega), r 151 (by omega) (by omega) (by omega) (by omega) (by omega), by rw [rL], by rw [rL]⟩ (by omega) (fun i hi => if_pos hi)
theorem st_run {d L : Nat} {M : zM} (hd : 3 ≤ d) (hi : Inv L M) (x y f z : Int32) : Cal d n_PT_run n_Mo_run L [.int x, .int y, .int f, .int z] M := by
  have hi0 := hi
  obtain ⟨w, nn, t, P, tr, hs, hT, hfa, hto, htr, him, hsh, hp⟩ := hi
  obtain ⟨d, rfl, hd1⟩ := zdep hd
  have hs1 := hs
  have htr1 := htr
  obtain ⟨hN, hK, hC, hMo, hF, hw, -⟩ := hs1
  obtain ⟨t1, t2, t3, t4⟩ := htr1
  unfold Cal
  rw [ze_PT_run]
  simp only [ze_Mo_run]
  unfold zx_PT_run zx_Mo_run
  rcases i_cases x 4 (by omega) with ⟨k, hk, rfl⟩ | hx
  · rcases i_cases y 3 (by omega) with ⟨l, hl, rfl⟩ | hy
    · rcases i_cases z 21 (by omega) with ⟨n, hn, rfl⟩ | hz
      · have r1 := (hF.1 k hk).2.2.2.1
        have main : ∃ J v M1 M2, zG d n_PT_run 47 [some (.ref 2), none, some (.int (nI l)), none, some (.int (nI n)), some (.ref (138 + 2 * k)), some (.int f), some (.int (nI 0))] [] (zsI M 2 11 (nI 0)) = some (some (.int (nI J)), M1) ∧ zK M1 = zKc L ∧ zG d n_Mo_run 31 [some (.ref 146), some (.int (nI k)), some (.int (nI l)), some (.int f), some (.int (nI n)), some (.int (nI 0)), none, none] [] (zsI M1 146 51 (nI 0)) = some (some (.int (nI J)), M2) ∧ Inv L M2 ∧ v = J := by
          by_cases hc : ∃ m f0, zI M (138 + 2 * k) 1 = nI l ∧ zI M 179 k = nI l ∧ zI M (138 + 2 * k) 2 = nI m ∧ zI M 180 k = nI m ∧ m ≤ 40 ∧ f0 < m ∧ f = nI f0 ∧ ∀ i, i < 40 → zI M (139 + 2 * k) i = zI M 181 (40 * k + i)
          · obtain ⟨m, f0, c1, c2, c3, c4, c5, c6, rfl, c8⟩ := hc
            obtain ⟨J, hJ⟩ : ∃ J, J = min n (min (48 - t) (m - f0)) := ⟨_, rfl⟩
            obtain ⟨v, hv⟩ : ∃ v, v = if J = n ∨ t + J = 48 then 0 else 3 := ⟨_, rfl⟩
            have hJ1 : J ≤ n := by omega
            have hJ2 : t + J ≤ 48 := by omega
            have hJ3 : f0 + J ≤ m := by omega
            obtain ⟨Mc, e1, a1, a2, a3, a4, a5, a9, a10, a6, a7, a8⟩ := pt_run_loop (d := d) (M := zsI M 2 11 (nI 0)) (by omega) hs hk t2 (by rw [zI_ne (by omega)]; exact c1) (by rw [zI_ne (by omega)]; exact c3) c5 rfl hJ2 hJ3 hJ1 (by omega)
            have hsc : zSh L w Mc := zSh_fr hs a1 a2 a3
            have g1 : zI Mc (138 + 2 * k) 1 = nI l := by rw [a5 _ (by omega) (by omega) (by omega), zI_ne (by omega)]; exact c1
            have g2 : zI Mc (138 + 2 * k) 2 = nI m := by rw [a5 _ (by omega) (by omega) (by omega), zI_ne (by omega)]; exact c3
            have stopc : (J = n ∨ t + J = 48) ∧ v = 0 ∨ J < n ∧ t + J < 48 ∧ v = 3 := by
              by_cases h : J = n ∨ t + J = 48
              · rw [if_pos h] at hv; exact Or.inl ⟨h, hv⟩
              · rw [if_neg h] at hv; exact Or.inr ⟨by omega, by omega, hv⟩
            obtain ⟨M1, e2, rfl⟩ := pt_run_stop (d := d) (M := Mc) (f := nI (f0 + J)) (J := J) (n := n) (t := t + J) (by omega) hsc hk hl a6 hJ2 (Or.inr ⟨l, m, hl, c5, g1, by rw [a5 _ (by omega) (by omega) (by omega), zI_ne (by omega)]; exact c2, g2, by rw [a5 _ (by omega) (by omega) (by omega), zI_ne (by omega)]; exact c4, fun i hi => by rw [a5 _ (by omega) (by omega) (by omega), zI_ne (by omega), a5 181 (by omega) (by omega) (by omega), zI_ne (by omega)]; exact c8 i hi⟩) (by omega) hJ1 a10 v (by
              rcases stopc with h | ⟨h1, h2, h3⟩
              · exact Or.inl h
              · exact Or.inr ⟨h1, h2, Or.inr (Or.inr ⟨h3, m, g1, g2, c5, Or.inr (by rw [nI_toInt (by omega)]; omega)⟩)⟩)
            have hs1c : zSh L w (zsI (zsI Mc 2 11 (nI v)) 146 51 (nI 0)) := hsc
            have rr : ∀ b, b ≠ 2 → b ≠ 19 → b ≠ 20 → b ≠ 146 → zI (zsI (zsI Mc 2 11 (nI v)) 146 51 (nI 0)) b = zI M b := fun b h1 h2 h3 h4 => by rw [zI_ne h4, zI_ne h1, a5 b h1 h2 h3, zI_ne h1]
            obtain ⟨Md, e3, b1, b2, b3, b4, b5, b9, b10, b6, b7, b8⟩ := mo_run_loop (d := d) (M := zsI (zsI Mc 2 11 (nI v)) 146 51 (nI 0)) (t := t) (f := f0) (m := m) (n := n) (J := J) (by omega) hs1c hk (by rw [rr 155 (by omega) (by omega) (by omega) (by omega)]; exact t3) (by rw [rr 179 (by omega) (by omega) (by omega) (by omega)]; exact c2) hl (by rw [rr 180 (by omega) (by omega) (by omega) (by omega)]; exact c4) c5 (by rw [zI_sI, if_pos ⟨rfl, rfl⟩]) hJ2 hJ3 hJ1 (by omega)
            have hsd : zSh L w Md := zSh_fr hs1c b1 b2 b3
            have e4 := mo_run_stop (d := d) (M := Md) (f := nI f0) (J := J) (n := n) (t := t + J) (by omega) hsd hk hl b6 hJ2 (by omega) hJ1 b10 v (by
              rcases stopc with h | ⟨h1, h2, h3⟩
              · exact Or.inl h
              · exact Or.inr ⟨h1, h2, Or.inr (Or.inr ⟨h3, m, by rw [b5 179 (by omega) (by omega), rr 179 (by omega) (by omega) (by omega) (by omega)]; exact c2, by rw [b5 180 (by omega) (by omega), rr 180 (by omega) (by omega) (by omega) (by omega)]; exact c4, c5, Or.inr (by rw [nI_toInt (by omega)]; omega)⟩)⟩)
            refine ⟨J, J, zsI Mc 2 11 (nI v), zsI Md 146 51 (nI v), e1.trans e2, hsc.2.1, e3.trans e4, ?_, rfl⟩
            refine run_fin (M1 := zsI Mc 2 11 (nI v)) (J := J) (v := v) (val := fun i => zI M (138 + 2 * k + 1) (f0 + i)) hs hT hfa hto.2 htr him hsh hp hJ2 a1 a2 a3 a4 ?_ ?_ (by rw [zI_sI, if_pos ⟨rfl, rfl⟩]) (by rw [zI_ne (by omega)]; exact a6) ?_ ?_ b1 b2 b3 b4 ?_ ?_ (by rw [zI_sI, if_pos ⟨rfl, rfl⟩]) (by rw [zI_ne (by omega)]; exact b6) ?_ ?_
            · intro b h1 h2 h3
              rw [zI_ne h1, a5 b h1 h2 h3, zI_ne h1]
            · intro c hc
              rw [zI_sI, if_neg (fun q => hc q.2), a9 c hc, zI_sI, if_neg (fun q => hc q.2)]
            · intro i hi
              rw [zI_ne (by omega), a7 i hi, zI_ne (by omega)]
            · intro i hi
              rw [zI_ne (by omega), a8 i hi, zI_ne (by omega)]
            · intro b h1 h2
              rw [zI_ne h1, b5 b h1 h2, zI_ne h1]
            · intro c hc
              rw [zI_sI, if_neg (fun q => hc q.2), b9 c hc, zI_sI, if_neg (fun q => hc q.2)]
            · intro i hi
              rw [zI_ne (by omega), b7 i hi, zI_ne (by omega)]
            · intro i hi
              rw [zI_ne (by omega), b8 i hi, rr 181 (by omega) (by omega) (by omega) (by omega), ← c8 (f0 + i) (by omega), show 138 + 2 * k + 1 = 139 + 2 * k by omega]
          · obtain ⟨u, hu, hu2⟩ : ∃ u, (u = 1 ∧ zI M (138 + 2 * k) 2 = -1 ∨ u = 2 ∧ (∃ l' m, zI M (138 + 2 * k) 1 = nI l' ∧ l' < 3 ∧ l' ≠ l ∧ zI M (138 + 2 * k) 2 = nI m ∧ m ≤ 40) ∨ u = 3 ∧ ∃ m, zI M (138 + 2 * k) 1 = nI l ∧ zI M (138 + 2 * k) 2 = nI m ∧ m ≤ 40 ∧ (f.toInt < 0 ∨ (m : Int) ≤ f.toInt)) ∧ (u = 1 ∧ zI M 179 k = -4 ∨ u = 2 ∧ (∃ l', zI M 179 k = nI l' ∧ l' < 3 ∧ l' ≠ l) ∨ u = 3 ∧ ∃ m, zI M 179 k = nI l ∧ zI M 180 k = nI m ∧ m ≤ 40 ∧ (f.toInt + (0 : Nat) < 0 ∨ (m : Int) ≤ f.toInt + (0 : Nat))) := by
              rcases hsh k hk with ⟨g1, g2⟩ | ⟨l', m, g1, g2, g3, g4, g5, g6, g7⟩
              · exact ⟨1, Or.inl ⟨rfl, g1⟩, Or.inl ⟨rfl, g2⟩⟩
              · by_cases h : l' = l
                · subst h
                  have hf : f.toInt < 0 ∨ (m : Int) ≤ f.toInt := by
                    rcases i_cases f m (by omega) with ⟨f0, h0, e⟩ | h
                    · exact absurd ⟨m, f0, g3, g4, g5, g6, g2, h0, e, g7⟩ hc
                    · exact h
                  exact ⟨3, Or.inr (Or.inr ⟨rfl, m, g3, g5, g2, hf⟩), Or.inr (Or.inr ⟨rfl, m, g4, g6, g2, by omega⟩)⟩
                · exact ⟨2, Or.inr (Or.inl ⟨rfl, l', m, g3, g1, h, g5, g2⟩), Or.inr (Or.inl ⟨rfl, l', g4, g1, h⟩)⟩
            obtain ⟨v, hv⟩ : ∃ v, v = if 0 = n ∨ t = 48 then 0 else u := ⟨_, rfl⟩
            have stopc : (0 = n ∨ t = 48) ∧ v = 0 ∨ 0 < n ∧ t < 48 ∧ v = u := by
              by_cases h : 0 = n ∨ t = 48
              · rw [if_pos h] at hv; exact Or.inl ⟨h, hv⟩
              · rw [if_neg h] at hv; exact Or.inr ⟨by omega, by omega, hv⟩
            obtain ⟨M1, e2, rfl⟩ := pt_run_stop (d := d) (M := zsI M 2 11 (nI 0)) (f := f) (J := 0) (n := n) (t := t) (by omega) hs hk hl t2 t1 (iSheet_fr2 (hsh k hk) (by rw [zI_ne (by omega)]) (by rw [zI_ne (by omega)]) (by rw [zI_ne (by omega)]) (by rw [zI_ne (by omega)]) (fun c hc => by rw [zI_ne (by omega)])) (by omega) (by omega) (by rw [zI_sI, if_pos ⟨rfl, rfl⟩]) v (by
              rcases stopc with h | ⟨h1, h2, rfl⟩
              · exact Or.inl h
              · rw [zI_ne (by omega)]; exact Or.inr ⟨h1, h2, hu⟩)
            have e4 := mo_run_stop (d := d) (M := zsI (zsI (zsI M 2 11 (nI 0)) 2 11 (nI v)) 146 51 (nI 0)) (f := f) (J := 0) (n := n) (t := t) (by omega) hs hk hl t3 t1 (by omega) (by omega) (by rw [zI_sI, if_pos ⟨rfl, rfl⟩]) v (by
              rcases stopc with h | ⟨h1, h2, rfl⟩
              · exact Or.inl h
              · rw [zI_ne (b := 179) (by omega), zI_ne (b := 179) (by omega), zI_ne (b := 179) (by omega), zI_ne (b := 180) (by omega), zI_ne (b := 180) (by omega), zI_ne (b := 180) (by omega)]; exact Or.inr ⟨h1, h2, hu2⟩)
            refine ⟨0, 0, _, _, e2, hK, e4, ?_, rfl⟩
            refine run_fin (M1 := zsI (zsI M 2 11 (nI 0)) 2 11 (nI v)) (J := 0) (v := v) (val := fun _ => 0) hs hT hfa hto.2 htr him hsh hp t1 rfl rfl rfl rfl ?_ ?_ (by rw [zI_sI, if_pos ⟨rfl, rfl⟩]) t2 (fun _ _ => rfl) (fun i hi => absurd hi (by omega)) rfl rfl rfl rfl ?_ ?_ (by rw [zI_sI, if_pos ⟨rfl, rfl⟩]) t3 (fun _ _ => rfl) (fun i hi => absurd hi (by omega))
            · intro b h1 h2 h3
              rw [zI_ne h1, zI_ne h1]
            · intro c hc
              rw [zI_sI, if_neg (fun q => hc q.2), zI_sI, if_neg (fun q => hc q.2)]
            · intro b h1 h2
              rw [zI_ne h1, zI_ne h1]
            · intro c hc
              rw [zI_sI, if_neg (fun q => hc q.2), zI_sI, if_neg (fun q => hc q.2)]
        obtain ⟨J, v, M1, M2, e1, hK1, e2, h3, -⟩ := main
        refine ⟨nI J, M1, M2, ?_, ?_, h3⟩
        · simp (disch := omega) only [il, nI_add, nI_mul, nI_sub, nI_div, nI_rem, nI_N, i32_lt, i32_le, nI_toInt, nI_subI, nI_clamp, zinT, zifT, iteT, iteF, zQ, zS, zkc, zI_sI, zL_sL, zI_wI, zL_wL, Nat.reduceEqDiff, Nat.reduceAdd, Nat.reduceMul, Nat.reduceLT, Nat.reduceLeDiff, reduceIte, eq_self, and_self, true_and, and_true, false_and, and_false, true_or, or_true, or_false, false_or, not_true_eq_false, not_false_eq_true, zarr, ne_eq, hK, hC, q_isSheet_t (show 1 ≤ d by omega) hk, q_isLane_t (show 1 ≤ d by omega) hl, r1, e1]
        · simp (disch := omega) only [il, nI_add, nI_mul, nI_sub, nI_div, nI_rem, nI_N, i32_lt, i32_le, nI_toInt, nI_subI, nI_clamp, zinT, zifT, iteT, iteF, zQ, zS, zkc, zI_sI, zL_sL, zI_wI, zL_wL, Nat.reduceEqDiff, Nat.reduceAdd, Nat.reduceMul, Nat.reduceLT, Nat.reduceLeDiff, reduceIte, eq_self, and_self, true_and, and_true, false_and, and_false, true_or, or_true, or_false, false_or, not_true_eq_false, not_false_eq_true, zarr, ne_eq, hK1, m_isSheet_t hd1 hk hl, mo_in (show 1 ≤ d by omega), i64_toInt, zlit64, e2]
      · refine ⟨-1, M, M, ?_, ?_, hi0⟩
        · by_cases h1 : z.toInt < 0
          · simp (disch := omega) only [il, nI_add, nI_mul, nI_sub, nI_div, nI_rem, nI_N, i32_lt, i32_le, nI_toInt, nI_subI, nI_clamp, zinT, zifT, iteT, iteF, zQ, zS, zkc, zI_sI, zL_sL, zI_wI, zL_wL, Nat.reduceEqDiff, Nat.reduceAdd, Nat.reduceMul, Nat.reduceLT, Nat.reduceLeDiff, reduceIte, eq_self, and_self, true_and, and_true, false_and, and_false, true_or, or_true, or_false, false_or, not_true_eq_false, not_false_eq_true, zarr, ne_eq, q_isSheet_t (show 1 ≤ d by omega) hk, q_isLane_t (show 1 ≤ d by omega) hl]
          · simp (disch := omega) only [il, nI_add, nI_mul, nI_sub, nI_div, nI_rem, nI_N, i32_lt, i32_le, nI_toInt, nI_subI, nI_clamp, zinT, zifT, iteT, iteF, zQ, zS, zkc, zI_sI, zL_sL, zI_wI, zL_wL, Nat.reduceEqDiff, Nat.reduceAdd, Nat.reduceMul, Nat.reduceLT, Nat.reduceLeDiff, reduceIte, eq_self, and_self, true_and, and_true, false_and, and_false, true_or, or_true, or_false, false_or, not_true_eq_false, not_false_eq_true, zarr, ne_eq, q_isSheet_t (show 1 ≤ d by omega) hk, q_isLane_t (show 1 ≤ d by omega) hl]
        · simp (disch := omega) only [il, nI_add, nI_mul, nI_sub, nI_div, nI_rem, nI_N, i32_lt, i32_le, nI_toInt, nI_subI, nI_clamp, zinT, zifT, iteT, iteF, zQ, zS, zkc, zI_sI, zL_sL, zI_wI, zL_wL, Nat.reduceEqDiff, Nat.reduceAdd, Nat.reduceMul, Nat.reduceLT, Nat.reduceLeDiff, reduceIte, eq_self, and_self, true_and, and_true, false_and, and_false, true_or, or_true, or_false, false_or, not_true_eq_false, not_false_eq_true, zarr, ne_eq, m_isSheet_t hd1 hk hl, mo_in (show 1 ≤ d by omega), i64_toInt, zlit64]
    · refine ⟨-1, M, M, ?_, ?_, hi0⟩
      · simp (disch := omega) only [il, nI_add, nI_mul, nI_sub, nI_div, nI_rem, nI_N, i32_lt, i32_le, nI_toInt, nI_subI, nI_clamp, zinT, zifT, iteT, iteF, zQ, zS, zkc, zI_sI, zL_sL, zI_wI, zL_wL, Nat.reduceEqDiff, Nat.reduceAdd, Nat.reduceMul, Nat.reduceLT, Nat.reduceLeDiff, reduceIte, eq_self, and_self, true_and, and_true, false_and, and_false, true_or, or_true, or_false, false_or, not_true_eq_false, not_false_eq_true, zarr, ne_eq, q_isSheet_t (show 1 ≤ d by omega) hk, q_isLane_f (show 1 ≤ d by omega) hy]
      · simp (disch := omega) only [il, nI_add, nI_mul, nI_sub, nI_div, nI_rem, nI_N, i32_lt, i32_le, nI_toInt, nI_subI, nI_clamp, zinT, zifT, iteT, iteF, zQ, zS, zkc, zI_sI, zL_sL, zI_wI, zL_wL, Nat.reduceEqDiff, Nat.reduceAdd, Nat.reduceMul, Nat.reduceLT, Nat.reduceLeDiff, reduceIte, eq_self, and_self, true_and, and_true, false_and, and_false, true_or, or_true, or_false, false_or, not_true_eq_false, not_false_eq_true, zarr, ne_eq, m_isSheet_f2 hd1 hk hy]
  · refine ⟨-1, M, M, ?_, ?_, hi0⟩
    · simp (disch := omega) only [il, nI_add, nI_mul, nI_sub, nI_div, nI_rem, nI_N, i32_lt, i32_le, nI_toInt, nI_subI, nI_clamp, zinT, zifT, iteT, iteF, zQ, zS, zkc, zI_sI, zL_sL, zI_wI, zL_wL, Nat.reduceEqDiff, Nat.reduceAdd, Nat.reduceMul, Nat.reduceLT, Nat.reduceLeDiff, reduceIte, eq_self, and_self, true_and, and_true, false_and, and_false, true_or, or_true, or_false, false_or, not_true_eq_false, not_false_eq_true, zarr, ne_eq, q_isSheet_f (show 1 ≤ d by omega) hx]
    · simp (disch := omega) only [il, nI_add, nI_mul, nI_sub, nI_div, nI_rem, nI_N, i32_lt, i32_le, nI_toInt, nI_subI, nI_clamp, zinT, zifT, iteT, iteF, zQ, zS, zkc, zI_sI, zL_sL, zI_wI, zL_wL, Nat.reduceEqDiff, Nat.reduceAdd, Nat.reduceMul, Nat.reduceLT, Nat.reduceLeDiff, reduceIte, eq_self, and_self, true_and, and_true, false_and, and_false, true_or, or_true, or_false, false_or, not_true_eq_false, not_false_eq_true, zarr, ne_eq, m_isSheet_f1 hd1 hx]
