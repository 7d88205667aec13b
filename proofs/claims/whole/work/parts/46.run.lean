/-! run, whole -/
/-- one step that stops: the class -/
theorem pt_run_stop {d L w t k l n J : Nat} {M : zM} {f : Int32} (hd : 1 ≤ d) (hs : zSh L w M) (hk : k < 4) (hl : l < 3) (ht : zI M 19 1 = nI t) (ht2 : t ≤ 48) (hsh : iSheet M k) (hn : n ≤ 20) (hJ : J ≤ n) (hto : zI M 2 11 = nI 0) (v : Nat)
    (hv : (J = n ∨ t = 48) ∧ v = 0 ∨ J < n ∧ t < 48 ∧ (v = 1 ∧ zI M (138 + 2 * k) 2 = -1 ∨ v = 2 ∧ (∃ l' m, zI M (138 + 2 * k) 1 = nI l' ∧ l' < 3 ∧ l' ≠ l ∧ zI M (138 + 2 * k) 2 = nI m ∧ m ≤ 40) ∨ v = 3 ∧ ∃ m, zI M (138 + 2 * k) 1 = nI l ∧ zI M (138 + 2 * k) 2 = nI m ∧ m ≤ 40 ∧ (f.toInt < 0 ∨ (m : Int) ≤ f.toInt))) :
    ∃ M', zG d n_PT_run 47 [some (.ref 2), none, some (.int (nI l)), none, some (.int (nI n)), some (.ref (138 + 2 * k)), some (.int f), some (.int (nI J))] [] M = some (some (.int (nI J)), M') ∧ M' = zsI M 2 11 (nI v) := by
  have hK := hs.2.1
  have hC := hs.2.2.1
  obtain ⟨s1, s2, s3⟩ : zShe M (138 + 2 * k) := (hs.2.2.2.2.1.1 k hk).2.2.2.2.2.2.2
  have r3 := s1
  rw [hK] at r3
  refine ⟨_, ?_, rfl⟩
  rw [zg_PT_run_47]
  unfold zx_PT_run_47
  rcases hv with ⟨h1, rfl⟩ | ⟨h1, h2, h3⟩
  · have e : zsI M 2 11 (nI 0) = M := by
      have : zsI M 2 11 (zI M 2 11) = M := by
        unfold zsI
        obtain ⟨a, b, c, d, e⟩ := M
        congr 3
        funext i j
        unfold zu zI
        by_cases h : i = 2 ∧ j = 11
        · rw [if_pos h, h.1, h.2]
        · rw [if_neg h]
      rw [hto] at this
      exact this
    rw [e]
    by_cases h2 : J = n
    · subst h2
      simp (disch := omega) only [il, nI_add, nI_mul, nI_sub, nI_div, nI_rem, nI_N, i32_lt, i32_le, nI_toInt, nI_subI, nI_clamp, zinT, zifT, iteT, iteF, zQ, zS, zkc, zI_sI, zL_sL, zI_wI, zL_wL, Nat.reduceEqDiff, Nat.reduceAdd, Nat.reduceMul, Nat.reduceLT, Nat.reduceLeDiff, reduceIte, eq_self, and_self, true_and, and_true, false_and, and_false, true_or, or_true, or_false, false_or, not_true_eq_false, not_false_eq_true, zarr, ne_eq]
    · have h3 : t = 48 := by omega
      subst h3
      simp (disch := omega) only [il, nI_add, nI_mul, nI_sub, nI_div, nI_rem, nI_N, i32_lt, i32_le, nI_toInt, nI_subI, nI_clamp, zinT, zifT, iteT, iteF, zQ, zS, zkc, zI_sI, zL_sL, zI_wI, zL_wL, Nat.reduceEqDiff, Nat.reduceAdd, Nat.reduceMul, Nat.reduceLT, Nat.reduceLeDiff, reduceIte, eq_self, and_self, true_and, and_true, false_and, and_false, true_or, or_true, or_false, false_or, not_true_eq_false, not_false_eq_true, zarr, ne_eq, hK, hC, ht]
  · have e1 : zV d n_Sh_tearAt [.ref (138 + 2 * k), .int (nI l), .int f] M = some (some (.int (nI v)), M) := by
      obtain ⟨d, rfl, hd1⟩ := zdep hd
      rw [ze_Sh_tearAt]
      unfold zx_Sh_tearAt
      rcases h3 with ⟨rfl, g⟩ | ⟨rfl, l', m, g1, g2, g3, g4, g5⟩ | ⟨rfl, m, g1, g2, g3, g4⟩
      · have g' : zI M (138 + 2 * k) 2 = -nI 1 := g
        simp (disch := omega) only [il, nI_add, nI_mul, nI_sub, nI_div, nI_rem, nI_N, i32_lt, i32_le, nI_toInt, nI_subI, nI_clamp, zinT, zifT, iteT, iteF, zQ, zS, zkc, zI_sI, zL_sL, zI_wI, zL_wL, Nat.reduceEqDiff, Nat.reduceAdd, Nat.reduceMul, Nat.reduceLT, Nat.reduceLeDiff, reduceIte, eq_self, and_self, true_and, and_true, false_and, and_false, true_or, or_true, or_false, false_or, not_true_eq_false, not_false_eq_true, zarr, ne_eq, hK, r3, g', neg1_toInt]
      · simp (disch := omega) only [il, nI_add, nI_mul, nI_sub, nI_div, nI_rem, nI_N, i32_lt, i32_le, nI_toInt, nI_subI, nI_clamp, zinT, zifT, iteT, iteF, zQ, zS, zkc, zI_sI, zL_sL, zI_wI, zL_wL, Nat.reduceEqDiff, Nat.reduceAdd, Nat.reduceMul, Nat.reduceLT, Nat.reduceLeDiff, reduceIte, eq_self, and_self, true_and, and_true, false_and, and_false, true_or, or_true, or_false, false_or, not_true_eq_false, not_false_eq_true, zarr, ne_eq, hK, r3, g1, g4]
      · by_cases h : f.toInt < 0
        · simp (disch := omega) only [il, nI_add, nI_mul, nI_sub, nI_div, nI_rem, nI_N, i32_lt, i32_le, nI_toInt, nI_subI, nI_clamp, zinT, zifT, iteT, iteF, zQ, zS, zkc, zI_sI, zL_sL, zI_wI, zL_wL, Nat.reduceEqDiff, Nat.reduceAdd, Nat.reduceMul, Nat.reduceLT, Nat.reduceLeDiff, reduceIte, eq_self, and_self, true_and, and_true, false_and, and_false, true_or, or_true, or_false, false_or, not_true_eq_false, not_false_eq_true, zarr, ne_eq, hK, r3, g1, g2]
        · simp (disch := omega) only [il, nI_add, nI_mul, nI_sub, nI_div, nI_rem, nI_N, i32_lt, i32_le, nI_toInt, nI_subI, nI_clamp, zinT, zifT, iteT, iteF, zQ, zS, zkc, zI_sI, zL_sL, zI_wI, zL_wL, Nat.reduceEqDiff, Nat.reduceAdd, Nat.reduceMul, Nat.reduceLT, Nat.reduceLeDiff, reduceIte, eq_self, and_self, true_and, and_true, false_and, and_false, true_or, or_true, or_false, false_or, not_true_eq_false, not_false_eq_true, zarr, ne_eq, hK, r3, g1, g2]
    have hv1 : v = 1 ∨ v = 2 ∨ v = 3 := by
      rcases h3 with ⟨h, -⟩ | ⟨h, -⟩ | ⟨h, -⟩ <;> omega
    have hv0 : ¬ v = 0 := by omega
    simp (disch := omega) only [il, nI_add, nI_mul, nI_sub, nI_div, nI_rem, nI_N, i32_lt, i32_le, nI_toInt, nI_subI, nI_clamp, zinT, zifT, iteT, iteF, zQ, zS, zkc, zI_sI, zL_sL, zI_wI, zL_wL, Nat.reduceEqDiff, Nat.reduceAdd, Nat.reduceMul, Nat.reduceLT, Nat.reduceLeDiff, reduceIte, eq_self, and_self, true_and, and_true, false_and, and_false, true_or, or_true, or_false, false_or, not_true_eq_false, not_false_eq_true, zarr, ne_eq, hK, hC, ht, r3, e1, hv0]
theorem zsI_id {M : zM} {a i : Nat} {x : Int32} (h : zI M a i = x) : zsI M a i x = M := by
  subst h
  unfold zsI
  obtain ⟨a', b, c, d, e⟩ := M
  congr 3
  funext p j
  unfold zu zI
  by_cases h : p = a ∧ j = i
  · rw [if_pos h, h.1, h.2]
  · rw [if_neg h]
/-- one step that stops: the reference -/
theorem mo_run_stop {d L w t k l n J : Nat} {M : zM} {f : Int32} (hd : 1 ≤ d) (hs : zSh L w M) (hk : k < 4) (hl : l < 3) (ht : zI M 155 0 = nI t) (ht2 : t ≤ 48) (hn : n ≤ 20) (hJ : J ≤ n) (hto : zI M 146 51 = nI 0) (v : Nat)
    (hv : (J = n ∨ t = 48) ∧ v = 0 ∨ J < n ∧ t < 48 ∧ (v = 1 ∧ zI M 179 k = -4 ∨ v = 2 ∧ (∃ l', zI M 179 k = nI l' ∧ l' < 3 ∧ l' ≠ l) ∨ v = 3 ∧ ∃ m, zI M 179 k = nI l ∧ zI M 180 k = nI m ∧ m ≤ 40 ∧ (f.toInt + J < 0 ∨ (m : Int) ≤ f.toInt + J))) :
    zG d n_Mo_run 31 [some (.ref 146), some (.int (nI k)), some (.int (nI l)), some (.int f), some (.int (nI n)), some (.int (nI J)), none, none] [] M = some (some (.int (nI J)), zsI M 146 51 (nI v)) := by
  have hK := hs.2.1
  have hMo := hs.2.2.2.1
  rw [zg_Mo_run_31]
  unfold zx_Mo_run_31
  rcases hv with ⟨h1, rfl⟩ | ⟨h1, h2, h3⟩
  · rw [zsI_id hto]
    by_cases h2 : J = n
    · subst h2
      simp (disch := omega) only [il, nI_add, nI_mul, nI_sub, nI_div, nI_rem, nI_N, i32_lt, i32_le, nI_toInt, nI_subI, nI_clamp, zinT, zifT, iteT, iteF, zQ, zS, zkc, zI_sI, zL_sL, zI_wI, zL_wL, Nat.reduceEqDiff, Nat.reduceAdd, Nat.reduceMul, Nat.reduceLT, Nat.reduceLeDiff, reduceIte, eq_self, and_self, true_and, and_true, false_and, and_false, true_or, or_true, or_false, false_or, not_true_eq_false, not_false_eq_true, zarr, ne_eq]
    · have h3 : t = 48 := by omega
      subst h3
      simp (disch := omega) only [il, nI_add, nI_mul, nI_sub, nI_div, nI_rem, nI_N, i32_lt, i32_le, nI_toInt, nI_subI, nI_clamp, zinT, zifT, iteT, iteF, zQ, zS, zkc, zI_sI, zL_sL, zI_wI, zL_wL, Nat.reduceEqDiff, Nat.reduceAdd, Nat.reduceMul, Nat.reduceLT, Nat.reduceLeDiff, reduceIte, eq_self, and_self, true_and, and_true, false_and, and_false, true_or, or_true, or_false, false_or, not_true_eq_false, not_false_eq_true, zarr, ne_eq, hK, hMo, ht, hto]
  · have last : ∀ l6 : Int64, v ≠ 0 → v < 4 → zG d n_Mo_run 117 [some (.ref 146), some (.int (nI k)), some (.int (nI l)), some (.int f), some (.int (nI n)), some (.int (nI J)), some (.long l6), none] [.int (nI v), .ref 146] M = some (some (.int (nI J)), zsI M 146 51 (nI v)) := by
      intro l6 hv0 hv4
      rw [zg_Mo_run_117]
      unfold zx_Mo_run_117
      simp (disch := omega) only [il, nI_add, nI_mul, nI_sub, nI_div, nI_rem, nI_N, i32_lt, i32_le, nI_toInt, nI_subI, nI_clamp, zinT, zifT, iteT, iteF, zQ, zS, zkc, zI_sI, zL_sL, zI_wI, zL_wL, Nat.reduceEqDiff, Nat.reduceAdd, Nat.reduceMul, Nat.reduceLT, Nat.reduceLeDiff, reduceIte, eq_self, and_self, true_and, and_true, false_and, and_false, true_or, or_true, or_false, false_or, not_true_eq_false, not_false_eq_true, zarr, ne_eq, hK, hMo, hv0]
      rw [zg_Mo_run_31]
      unfold zx_Mo_run_31
      simp (disch := omega) only [il, nI_add, nI_mul, nI_sub, nI_div, nI_rem, nI_N, i32_lt, i32_le, nI_toInt, nI_subI, nI_clamp, zinT, zifT, iteT, iteF, zQ, zS, zkc, zI_sI, zL_sL, zI_wI, zL_wL, Nat.reduceEqDiff, Nat.reduceAdd, Nat.reduceMul, Nat.reduceLT, Nat.reduceLeDiff, reduceIte, eq_self, and_self, true_and, and_true, false_and, and_false, true_or, or_true, or_false, false_or, not_true_eq_false, not_false_eq_true, zarr, ne_eq, hK, hMo, hv0]
    rcases h3 with ⟨rfl, g⟩ | ⟨rfl, l', g1, g2, g3⟩ | ⟨rfl, m, g1, g2, g3, g4⟩
    · have g' : zI M 179 k = -nI 4 := g
      simp (disch := omega) only [il, nI_add, nI_mul, nI_sub, nI_div, nI_rem, nI_N, i32_lt, i32_le, nI_toInt, nI_subI, nI_clamp, zinT, zifT, iteT, iteF, zQ, zS, zkc, zI_sI, zL_sL, zI_wI, zL_wL, Nat.reduceEqDiff, Nat.reduceAdd, Nat.reduceMul, Nat.reduceLT, Nat.reduceLeDiff, reduceIte, eq_self, and_self, true_and, and_true, false_and, and_false, true_or, or_true, or_false, false_or, not_true_eq_false, not_false_eq_true, zarr, ne_eq, hK, hMo, ht, hto, g']
      exact last _ (by omega) (by omega)
    · simp (disch := omega) only [il, nI_add, nI_mul, nI_sub, nI_div, nI_rem, nI_N, i32_lt, i32_le, nI_toInt, nI_subI, nI_clamp, zinT, zifT, iteT, iteF, zQ, zS, zkc, zI_sI, zL_sL, zI_wI, zL_wL, Nat.reduceEqDiff, Nat.reduceAdd, Nat.reduceMul, Nat.reduceLT, Nat.reduceLeDiff, reduceIte, eq_self, and_self, true_and, and_true, false_and, and_false, true_or, or_true, or_false, false_or, not_true_eq_false, not_false_eq_true, zarr, ne_eq, hK, hMo, ht, hto, g1, nI_n4]
      exact last _ (by omega) (by omega)
    · simp (disch := omega) only [il, nI_add, nI_mul, nI_sub, nI_div, nI_rem, nI_N, i32_lt, i32_le, nI_toInt, nI_subI, nI_clamp, zinT, zifT, iteT, iteF, zQ, zS, zkc, zI_sI, zL_sL, zI_wI, zL_wL, Nat.reduceEqDiff, Nat.reduceAdd, Nat.reduceMul, Nat.reduceLT, Nat.reduceLeDiff, reduceIte, eq_self, and_self, true_and, and_true, false_and, and_false, true_or, or_true, or_false, false_or, not_true_eq_false, not_false_eq_true, zarr, ne_eq, hK, hMo, ht, hto, g1, g2, nI_n4, mo_in hd, i64_toInt, i64_add, zlit64]
      exact last _ (by omega) (by omega)
theorem run_fin {L w n t P J v : Nat} {tr : Nat → Nat} {M M1 M2 : zM} {val : Nat → Int32} (hs : zSh L w M) (hT : iTape n M) (hfa : zI M 2 10 = zI M 146 18) (htr : iTrace t tr M) (him : ∀ k, k < 2 → iImage M k) (hsh : ∀ k, k < 4 → iSheet M k) (hp : iProm w t P tr M) (hJ : t + J ≤ 48)
    (a1 : zN M1 = zN M) (a2 : zK M1 = zK M) (a3 : zR M1 = zR M) (a4 : zL M1 = zL M) (a5 : ∀ b, b ≠ 2 → b ≠ 19 → b ≠ 20 → zI M1 b = zI M b) (a9 : ∀ c, c ≠ 11 → zI M1 2 c = zI M 2 c) (a10 : zI M1 2 11 = nI v) (a6 : zI M1 19 1 = nI (t + J)) (a7 : ∀ i, i < t → zI M1 20 i = zI M 20 i) (a8 : ∀ i, i < J → zI M1 20 (t + i) = val i &&& nI 255)
    (b1 : zN M2 = zN M1) (b2 : zK M2 = zK M1) (b3 : zR M2 = zR M1) (b4 : zL M2 = zL M1) (b5 : ∀ b, b ≠ 146 → b ≠ 155 → zI M2 b = zI M1 b) (b9 : ∀ c, c ≠ 51 → zI M2 146 c = zI M1 146 c) (b10 : zI M2 146 51 = nI v) (b6 : zI M2 155 0 = nI (t + J)) (b7 : ∀ i, i < t → zI M2 155 (1 + i) = zI M1 155 (1 + i)) (b8 : ∀ i, i < J → zI M2 155 (1 + (t + i)) = val i &&& nI 255) : Inv L M2 := by
  obtain ⟨t1, t2, t3, t4⟩ := htr
  have hw := hs.2.2.2.2.2.1
  have r : ∀ b, b ≠ 2 → b ≠ 19 → b ≠ 20 → b ≠ 146 → b ≠ 155 → zI M2 b = zI M b := fun b h1 h2 h3 h4 h5 => by rw [b5 b h4 h5, a5 b h1 h2 h3]
  have r146 : ∀ f, f ≠ 51 → zI M2 146 f = zI M 146 f := fun f hf => by rw [b9 f hf, a5 146 (by omega) (by omega) (by omega)]
  have r2 : ∀ f, f ≠ 11 → zI M2 2 f = zI M 2 f := fun f hf => by rw [b5 2 (by omega) (by omega), a9 f hf]
  have rL : zL M2 = zL M := by rw [b4]; exact a4
  let vf : Nat → Nat := fun i => Classical.choose (nI_and255 (val i))
  have hvf : ∀ i, vf i < 256 ∧ val i &&& nI 255 = nI (vf i) := fun i => Classical.choose_spec (nI_and255 (val i))
  refine Inv_tr (P' := P) (t' := t + J) (tr' := fun i => if i < t then tr i else vf (i - t)) hs hT hfa him hsh (fun b _ _ _ _ _ _ => r b (by omega) (by omega) (by omega) (by omega) (by omega)) (b1.trans a1) (b2.trans a2) (b3.trans a3) (r2 10 (by omega)) (by rw [b10, b5 2 (by omega) (by omega), a10]) (r146 18 (by omega)) (r146 13 (by omega)) ?_ ?_
  · refine ⟨hJ, ?_, b6, ?_⟩
    · rw [b5 19 (by omega) (by omega)]; exact a6
    · intro i hi2
      by_cases h : i < t
      · simp only [h, if_true]
        refine ⟨(t4 i h).1, ?_, ?_⟩
        · rw [b5 20 (by omega) (by omega), a7 i h]; exact (t4 i h).2.1
        · rw [b7 i h, a5 155 (by omega) (by omega) (by omega)]; exact (t4 i h).2.2
      · simp only [h, if_false]
        have e : i = t + (i - t) := by omega
        refine ⟨(hvf _).1, ?_, ?_⟩
        · rw [b5 20 (by omega) (by omega), ← (hvf _).2]
          have := a8 (i - t) (by omega)
          rw [← e] at this; exact this
        · rw [← (hvf _).2]
          have := b8 (i - t) (by omega)
          rw [← e] at this; exact this
  · exact iProm_fr hw hp ⟨fun b _ _ => ⟨r b (by omega) (by omega) (by omega) (by omega) (by omega), by rw [rL]⟩, r2 9 (by omega), r146 8 (by omega), r 147 (by omega) (by omega) (by omega) (by omega) (by omega), r 151 (by omega) (by omega) (by omega) (by omega) (by omega), by rw [rL], by rw [rL]⟩ (by omega) (fun i hi => if_pos hi)
