/-! the class's sequences while they are made -/
theorem ts_moveTop {d D a e n : Nat} {M : zM} (hd : 1 ≤ d) (k6 : zK M 6 = (8, 2)) (k7 : zK M 7 = (23, 76)) (r6 : zR M 6 0 = some 7) (ka : zK M a = (23, n)) (ha : a ≠ 7) (hn : 4 * e + 3 < n) (hn2 : n < 1000) (hD : D < 19) (h1 : zI M 6 1 = nI (D + 1)) : zV d n_TS_moveTop [.ref 6, .ref a, .int (nI e)] M = some (none, zwL (zsI M 6 1 (nI D)) a (fil (4 * e) (zL M a) (fun q => zL M 7 (4 * D + q)) 4)) := by
  obtain ⟨d, rfl, hd1⟩ := zdep hd
  have hD4 : D * 4 = 4 * D := Nat.mul_comm D 4
  have he4 : e * 4 = 4 * e := Nat.mul_comm e 4
  have key := zloop (n := 4) (g := fun k => zG d n_TS_moveTop 21 [some (.ref 6), some (.ref a), some (.int (nI e)), some (.int (nI k))] [] (zwL (zsI M 6 1 (nI D)) a (fil (4 * e) (zL M a) (fun q => zL M 7 (4 * D + q)) k))) (by
    intro k hk
    show zG d n_TS_moveTop 21 [some (.ref 6), some (.ref a), some (.int (nI e)), some (.int (nI k))] [] (zwL (zsI M 6 1 (nI D)) a (fil (4 * e) (zL M a) (fun q => zL M 7 (4 * D + q)) k)) = zG d n_TS_moveTop 21 [some (.ref 6), some (.ref a), some (.int (nI e)), some (.int (nI (k + 1)))] [] (zwL (zsI M 6 1 (nI D)) a (fil (4 * e) (zL M a) (fun q => zL M 7 (4 * D + q)) (k + 1)))
    have hf := zsL_fil (zsI M 6 1 (nI D)) a (4 * e) k (zL M a) (fun q => zL M 7 (4 * D + q)) (zL M 7 (4 * D + k)) rfl
    rw [zg_TS_moveTop_21]
    unfold zx_TS_moveTop_21
    simp (disch := omega) only [il, nI_add, nI_mul, nI_sub, nI_div, nI_rem, nI_N, i32_lt, i32_le, nI_toInt, nI_subI, nI_clamp, zinT, zifT, iteT, iteF, zQ, zS, zkc, zI_sI, zL_sL, zI_wI, zL_wL, Nat.reduceEqDiff, Nat.reduceAdd, Nat.reduceMul, Nat.reduceLT, Nat.reduceLeDiff, reduceIte, eq_self, and_self, true_and, and_true, false_and, and_false, true_or, or_true, or_false, false_or, not_true_eq_false, not_false_eq_true, zarr, ne_eq, k6, k7, r6, ka, hD4, he4, hf])
  have e9 : zG d n_TS_moveTop 21 [some (.ref 6), some (.ref a), some (.int (nI e)), some (.int (nI 4))] [] (zwL (zsI M 6 1 (nI D)) a (fil (4 * e) (zL M a) (fun q => zL M 7 (4 * D + q)) 4)) = some (none, zwL (zsI M 6 1 (nI D)) a (fil (4 * e) (zL M a) (fun q => zL M 7 (4 * D + q)) 4)) := by
    rw [zg_TS_moveTop_21]
    unfold zx_TS_moveTop_21
    simp (disch := omega) only [il, nI_add, nI_mul, nI_sub, nI_div, nI_rem, nI_N, i32_lt, i32_le, nI_toInt, nI_subI, nI_clamp, zinT, zifT, iteT, iteF, zQ, zS, zkc, zI_sI, zL_sL, zI_wI, zL_wL, Nat.reduceEqDiff, Nat.reduceAdd, Nat.reduceMul, Nat.reduceLT, Nat.reduceLeDiff, reduceIte, eq_self, and_self, true_and, and_true, false_and, and_false, true_or, or_true, or_false, false_or, not_true_eq_false, not_false_eq_true, zarr, ne_eq]
  have e10 := Eq.trans key e9
  have e11 : zwL (zsI M 6 1 (nI D)) a (fil (4 * e) (zL M a) (fun q => zL M 7 (4 * D + q)) 0) = zsI M 6 1 (nI D) := by
    rw [fil_0]
    exact zwL_self (zsI M 6 1 (nI D)) a
  simp only [e11] at e10
  rw [ze_TS_moveTop]
  unfold zx_TS_moveTop
  clear key e9
  simp (disch := omega) only [il, nI_add, nI_mul, nI_sub, nI_div, nI_rem, nI_N, i32_lt, i32_le, nI_toInt, nI_subI, nI_clamp, zinT, zifT, iteT, iteF, zQ, zS, zkc, zI_sI, zL_sL, zI_wI, zL_wL, Nat.reduceEqDiff, Nat.reduceAdd, Nat.reduceMul, Nat.reduceLT, Nat.reduceLeDiff, reduceIte, eq_self, and_self, true_and, and_true, false_and, and_false, true_or, or_true, or_false, false_or, not_true_eq_false, not_false_eq_true, zarr, ne_eq, k6, h1, Nat.add_sub_cancel]
  exact e10
theorem ts_drop {d D : Nat} {M : zM} (hd : 1 ≤ d) (k6 : zK M 6 = (8, 2)) (hD : D < 19) (h1 : zI M 6 1 = nI (D + 1)) : zV d n_TS_drop [.ref 6] M = some (none, zsI M 6 1 (nI D)) := by
  obtain ⟨d, rfl, hd1⟩ := zdep hd
  rw [ze_TS_drop]
  unfold zx_TS_drop
  simp (disch := omega) only [il, nI_add, nI_mul, nI_sub, nI_div, nI_rem, nI_N, i32_lt, i32_le, nI_toInt, nI_subI, nI_clamp, zinT, zifT, iteT, iteF, zQ, zS, zkc, zI_sI, zL_sL, zI_wI, zL_wL, Nat.reduceEqDiff, Nat.reduceAdd, Nat.reduceMul, Nat.reduceLT, Nat.reduceLeDiff, reduceIte, eq_self, and_self, true_and, and_true, false_and, and_false, true_or, or_true, or_false, false_or, not_true_eq_false, not_false_eq_true, zarr, ne_eq, k6, h1, Nat.add_sub_cancel]
/-- what comes behind: from the positions in fr to those in to -/
def lnk (fr to : Int64) (f : Nat → Int64) (k : Nat) : Nat → Int64 := fun q => if q < k ∧ zb fr q = true then f q ||| to else f q
theorem lnk_q {fr to : Int64} {f : Nat → Int64} {q : Nat} : lnk fr to f q q = f q := if_neg (fun h => absurd h.1 (Nat.lt_irrefl q))
theorem lnk_f {fr to : Int64} {f : Nat → Int64} {q : Nat} (h : zb fr q = false) : lnk fr to f (q + 1) = lnk fr to f q := by
  funext j
  unfold lnk
  by_cases hj : j < q
  · simp only [hj, show j < q + 1 by omega]
  · by_cases hq : j = q
    · subst hq
      rw [if_neg (fun z => by rw [h] at z; exact absurd z.2 (by decide)), if_neg (fun z => hj z.1)]
    · rw [if_neg (fun z => by omega), if_neg (fun z => hj z.1)]
theorem lnk_t {M : zM} {a : Nat} {fr to : Int64} {q : Nat} (h : zb fr q = true) : zsL (zwL M a (lnk fr to (zL M a) q)) a q (zL M a q ||| to) = zwL M a (lnk fr to (zL M a) (q + 1)) := by
  rw [zsL_wL]
  congr 1
  funext j
  unfold lnk
  by_cases hq : j = q
  · subst hq
    rw [if_pos rfl, if_pos ⟨Nat.lt_succ_self j, h⟩]
  · rw [if_neg hq]
    by_cases hj : j < q
    · simp only [hj, show j < q + 1 by omega]
    · rw [if_neg (fun z => hj z.1), if_neg (fun z => by omega)]
theorem lnk_0 {M : zM} {a : Nat} {fr to : Int64} : zwL M a (lnk fr to (zL M a) 0) = M := by
  have : lnk fr to (zL M a) 0 = zL M a := by
    funext j
    exact if_neg (fun z => absurd z.1 (Nat.not_lt_zero j))
  rw [this]
  exact zwL_self M a
theorem se_link_go {d s p : Nat} {M : zM} (hs : zSeq M s) (hp : p ≤ 40) (h7 : zI M s 7 = nI p) (fr to : Int64) : ∀ k q (l5 : Int64), q + k = p + 1 → (∀ i, zb l5 i = zb fr (q + i)) → zG d n_Se_link 6 [some (.ref s), none, none, some (.long to), none, some (.long l5), none, some (.int (nI q))] [] (zwL M (s + 1) (lnk fr to (zL M (s + 1)) q)) = some (none, zwL M (s + 1) (lnk fr to (zL M (s + 1)) (p + 1))) := by
  obtain ⟨k1, k2, k3, k4, r1, r2, r3⟩ := hs
  intro k
  induction k with
  | zero =>
    intro q l5 hq hl
    rw [zg_Se_link_6]
    unfold zx_Se_link_6
    have : q = p + 1 := by omega
    subst this
    simp (disch := omega) only [il, nI_add, nI_mul, nI_sub, nI_div, nI_rem, nI_N, i32_lt, i32_le, nI_toInt, nI_subI, nI_clamp, zinT, zifT, iteT, iteF, zQ, zS, zkc, zI_sI, zL_sL, zI_wI, zL_wL, Nat.reduceEqDiff, Nat.reduceAdd, Nat.reduceMul, Nat.reduceLT, Nat.reduceLeDiff, reduceIte, eq_self, and_self, true_and, and_true, false_and, and_false, true_or, or_true, or_false, false_or, not_true_eq_false, not_false_eq_true, zarr, ne_eq, k1, h7]
  | succ k ih =>
    intro q l5 hq hl
    rw [zg_Se_link_6]
    unfold zx_Se_link_6
    by_cases h0 : l5 = 0
    · have e : lnk fr to (zL M (s + 1)) q = lnk fr to (zL M (s + 1)) (p + 1) := by
        funext j
        unfold lnk
        by_cases hj : j < q
        · simp only [hj, show j < p + 1 by omega]
        · have := hl (j - q)
          rw [h0, zb_0, show q + (j - q) = j by omega] at this
          simp only [← this, Bool.false_eq_true, and_false, if_false]
      rw [e]
      simp (disch := omega) only [il, nI_add, nI_mul, nI_sub, nI_div, nI_rem, nI_N, i32_lt, i32_le, nI_toInt, nI_subI, nI_clamp, zinT, zifT, iteT, iteF, zQ, zS, zkc, zI_sI, zL_sL, zI_wI, zL_wL, Nat.reduceEqDiff, Nat.reduceAdd, Nat.reduceMul, Nat.reduceLT, Nat.reduceLeDiff, reduceIte, eq_self, and_self, true_and, and_true, false_and, and_false, true_or, or_true, or_false, false_or, not_true_eq_false, not_false_eq_true, zarr, ne_eq, k1, h7, t_n, h0]
    · have ih2 := ih (q + 1) ((Int64.toUInt64 l5 >>> (Int64.toUInt64 (Int32.toInt64 (nI 1)) &&& Int64.toUInt64 63)).toInt64) (by omega) (fun i => by rw [zb_ushr (by omega), hl]; congr 1; omega)
      have e0 := hl 0
      rw [Nat.add_zero] at e0
      cases hb : zb fr q
      · rw [hb] at e0
        rw [lnk_f hb] at ih2
        simp (disch := omega) only [il, nI_add, nI_mul, nI_sub, nI_div, nI_rem, nI_N, i32_lt, i32_le, nI_toInt, nI_subI, nI_clamp, zinT, zifT, iteT, iteF, zQ, zS, zkc, zI_sI, zL_sL, zI_wI, zL_wL, Nat.reduceEqDiff, Nat.reduceAdd, Nat.reduceMul, Nat.reduceLT, Nat.reduceLeDiff, reduceIte, eq_self, and_self, true_and, and_true, false_and, and_false, true_or, or_true, or_false, false_or, not_true_eq_false, not_false_eq_true, zarr, ne_eq, k1, h7, t_n, h0, z_1, e0, ih2]
      · rw [hb] at e0
        simp (disch := omega) only [il, nI_add, nI_mul, nI_sub, nI_div, nI_rem, nI_N, i32_lt, i32_le, nI_toInt, nI_subI, nI_clamp, zinT, zifT, iteT, iteF, zQ, zS, zkc, zI_sI, zL_sL, zI_wI, zL_wL, Nat.reduceEqDiff, Nat.reduceAdd, Nat.reduceMul, Nat.reduceLT, Nat.reduceLeDiff, reduceIte, eq_self, and_self, true_and, and_true, false_and, and_false, true_or, or_true, or_false, false_or, not_true_eq_false, not_false_eq_true, zarr, ne_eq, k1, k2, r1, h7, t_n, h0, z_1, e0, lnk_q, lnk_t hb, ih2, reduceCtorEq]
theorem se_link {d s p : Nat} {M : zM} (hd : 1 ≤ d) (hs : zSeq M s) (hp : p ≤ 40) (h7 : zI M s 7 = nI p) (fr to : Int64) : zV d n_Se_link [.ref s, .long fr, .long to] M = some (none, zwL M (s + 1) (lnk fr to (zL M (s + 1)) (p + 1))) := by
  obtain ⟨d, rfl, hd1⟩ := zdep hd
  rw [ze_Se_link]
  unfold zx_Se_link
  have := se_link_go (d := d) hs hp h7 fr to (p + 1) 0 fr (by omega) (fun i => by rw [Nat.zero_add])
  rw [lnk_0] at this
  exact this
theorem se_addCond {d s c p D : Nat} {M : zM} (hd : 2 ≤ d) (k6 : zK M 6 = (8, 2)) (k7 : zK M 7 = (23, 76)) (r6 : zR M 6 0 = some 7) (hs : zSeq M s) (hs26 : 26 ≤ s) (hp : p < 40) (hc : c < 40) (h7 : zI M s 7 = nI p) (h6 : zI M s 6 = nI c) (h10 : zI M s 10 = nI 0) (hD : D < 19) (h1 : zI M 6 1 = nI (D + 1)) : zV d n_Se_addCondition [.ref s, .ref 6] M = some (some (.long (b1 (p + 1))), zsI (zsL (zsL (zsI (zwL (zsI M 6 1 (nI D)) (s + 3) (fil (4 * c) (zL M (s + 3)) (fun q => zL M 7 (4 * D + q)) 4)) s 7 (nI (p + 1))) (s + 1) (p + 1) 0) (s + 2) c (b1 (p + 1))) s 6 (nI (c + 1))) := by
  obtain ⟨d, rfl, hd1⟩ := zdep hd
  obtain ⟨k1, k2, k3, k4, r1, r2, r3⟩ := hs
  have e := ts_moveTop (d := d) (a := s + 3) (e := c) (by omega) k6 k7 r6 k4 (by omega) (by omega) (by omega) hD h1
  have e2 : zG d n_Se_addCondition 23 [some (.ref s), some (.ref 6)] [] M = some (some (.long (b1 (p + 1))), zsI (zsL (zsL (zsI (zwL (zsI M 6 1 (nI D)) (s + 3) (fil (4 * c) (zL M (s + 3)) (fun q => zL M 7 (4 * D + q)) 4)) s 7 (nI (p + 1))) (s + 1) (p + 1) 0) (s + 2) c (b1 (p + 1))) s 6 (nI (c + 1))) := by
    rw [zg_Se_addCondition_23]
    unfold zx_Se_addCondition_23 b1
    simp (disch := omega) only [il, nI_add, nI_mul, nI_sub, nI_div, nI_rem, nI_N, i32_lt, i32_le, nI_toInt, nI_subI, nI_clamp, zinT, zifT, iteT, iteF, zQ, zS, zkc, zI_sI, zL_sL, zI_wI, zL_wL, Nat.reduceEqDiff, Nat.reduceAdd, Nat.reduceMul, Nat.reduceLT, Nat.reduceLeDiff, reduceIte, eq_self, and_self, true_and, and_true, false_and, and_false, true_or, or_true, or_false, false_or, not_true_eq_false, not_false_eq_true, zarr, ne_eq, k1, k2, k3, k4, k6, r1, r2, r3, h6, h7, h10, e]
  rw [ze_Se_addCondition]
  unfold zx_Se_addCondition
  clear e
  simp (disch := omega) only [il, nI_add, nI_mul, nI_sub, nI_div, nI_rem, nI_N, i32_lt, i32_le, nI_toInt, nI_subI, nI_clamp, zinT, zifT, iteT, iteF, zQ, zS, zkc, zI_sI, zL_sL, zI_wI, zL_wL, Nat.reduceEqDiff, Nat.reduceAdd, Nat.reduceMul, Nat.reduceLT, Nat.reduceLeDiff, reduceIte, eq_self, and_self, true_and, and_true, false_and, and_false, true_or, or_true, or_false, false_or, not_true_eq_false, not_false_eq_true, zarr, ne_eq, k1, h6, h7, e2]
theorem se_addCond_o {d s c p D o : Nat} {M : zM} (hd : 2 ≤ d) (k6 : zK M 6 = (8, 2)) (hs : zSeq M s) (hs26 : 26 ≤ s) (hp : p ≤ 40) (hc : c ≤ 40) (h7 : zI M s 7 = nI p) (h6 : zI M s 6 = nI c) (ho : o < 2) (h10 : zI M s 10 = nI o) (hov : o = 1 ∨ p = 40) (hD : D < 19) (h1 : zI M 6 1 = nI (D + 1)) : ∃ M', zV d n_Se_addCondition [.ref s, .ref 6] M = some (some (.long 0), M') ∧ zN M' = zN M ∧ zK M' = zK M ∧ zR M' = zR M ∧ zL M' = zL M ∧ (∀ b, b ≠ 6 → b ≠ s → zI M' b = zI M b) ∧ zI M' 6 1 = nI D ∧ (∀ j, j ≠ 10 → zI M' s j = zI M s j) ∧ zI M' s 10 = nI 1 := by
  obtain ⟨d, rfl, hd1⟩ := zdep hd
  obtain ⟨k1, k2, k3, k4, r1, r2, r3⟩ := hs
  have e2 : ∀ M1 : zM, zK M1 6 = (8, 2) → zK M1 s = (4, 11) → zI M1 6 1 = nI (D + 1) → zI M1 s 10 = nI 1 → zG d n_Se_addCondition 23 [some (.ref s), some (.ref 6)] [] M1 = some (some (.long 0), zsI M1 6 1 (nI D)) := by
    intro M1 j6 js g1 g10
    have e := ts_drop (d := d) (M := M1) (by omega) j6 hD g1
    rw [zg_Se_addCondition_23]
    unfold zx_Se_addCondition_23
    simp (disch := omega) only [il, nI_add, nI_mul, nI_sub, nI_div, nI_rem, nI_N, i32_lt, i32_le, nI_toInt, nI_subI, nI_clamp, zinT, zifT, iteT, iteF, zQ, zS, zkc, zI_sI, zL_sL, zI_wI, zL_wL, Nat.reduceEqDiff, Nat.reduceAdd, Nat.reduceMul, Nat.reduceLT, Nat.reduceLeDiff, reduceIte, eq_self, and_self, true_and, and_true, false_and, and_false, true_or, or_true, or_false, false_or, not_true_eq_false, not_false_eq_true, zarr, ne_eq, js, j6, g10, e]
  have hz : ∀ M1 : zM, zN M1 = zN M → zK M1 = zK M → zR M1 = zR M → zL M1 = zL M → (∀ b, b ≠ 6 → b ≠ s → zI M1 b = zI M b) → (∀ j, j ≠ 10 → zI M1 s j = zI M s j) → zI M1 s 10 = nI 1 → zN (zsI M1 6 1 (nI D)) = zN M ∧ zK (zsI M1 6 1 (nI D)) = zK M ∧ zR (zsI M1 6 1 (nI D)) = zR M ∧ zL (zsI M1 6 1 (nI D)) = zL M ∧ (∀ b, b ≠ 6 → b ≠ s → zI (zsI M1 6 1 (nI D)) b = zI M b) ∧ zI (zsI M1 6 1 (nI D)) 6 1 = nI D ∧ (∀ j, j ≠ 10 → zI (zsI M1 6 1 (nI D)) s j = zI M s j) ∧ zI (zsI M1 6 1 (nI D)) s 10 = nI 1 := by
    intro M1 g1 g2 g3 g4 g5 g6 g7
    exact ⟨g1, g2, g3, g4, fun b x y => (zI_ne x).trans (g5 b x y), by rw [zI_sI, if_pos ⟨rfl, rfl⟩], fun j hj => by rw [zI_ne (by omega)]; exact g6 j hj, by rw [zI_ne (by omega)]; exact g7⟩
  have hw : zI (zsI M s 10 (nI 1)) 6 1 = nI (D + 1) := by rw [zI_ne (by omega)]; exact h1
  have hw2 : zI (zsI M s 10 (nI 1)) s 10 = nI 1 := by rw [zI_sI, if_pos ⟨rfl, rfl⟩]
  by_cases hg : p = 40 ∨ c = 40
  · refine ⟨zsI (zsI M s 10 (nI 1)) 6 1 (nI D), ?_, hz _ rfl rfl rfl rfl (fun b x y => zI_ne y) (fun j hj => by rw [zI_sI, if_neg (fun z => hj z.2)]) hw2⟩
    have e3 := e2 (zsI M s 10 (nI 1)) k6 k1 hw hw2
    rw [ze_Se_addCondition]
    unfold zx_Se_addCondition
    by_cases h40 : p = 40
    · subst h40
      simp (disch := omega) only [il, nI_add, nI_mul, nI_sub, nI_div, nI_rem, nI_N, i32_lt, i32_le, nI_toInt, nI_subI, nI_clamp, zinT, zifT, iteT, iteF, zQ, zS, zkc, zI_sI, zL_sL, zI_wI, zL_wL, Nat.reduceEqDiff, Nat.reduceAdd, Nat.reduceMul, Nat.reduceLT, Nat.reduceLeDiff, reduceIte, eq_self, and_self, true_and, and_true, false_and, and_false, true_or, or_true, or_false, false_or, not_true_eq_false, not_false_eq_true, zarr, ne_eq, k1, h6, h7, e3]
    · have hc40 : c = 40 := by omega
      subst hc40
      simp (disch := omega) only [il, nI_add, nI_mul, nI_sub, nI_div, nI_rem, nI_N, i32_lt, i32_le, nI_toInt, nI_subI, nI_clamp, zinT, zifT, iteT, iteF, zQ, zS, zkc, zI_sI, zL_sL, zI_wI, zL_wL, Nat.reduceEqDiff, Nat.reduceAdd, Nat.reduceMul, Nat.reduceLT, Nat.reduceLeDiff, reduceIte, eq_self, and_self, true_and, and_true, false_and, and_false, true_or, or_true, or_false, false_or, not_true_eq_false, not_false_eq_true, zarr, ne_eq, k1, h6, h7, e3]
  · have ho1 : o = 1 := by omega
    subst ho1
    refine ⟨zsI M 6 1 (nI D), ?_, hz _ rfl rfl rfl rfl (fun _ _ _ => rfl) (fun _ _ => rfl) h10⟩
    have e3 := e2 M k6 k1 h1 h10
    rw [ze_Se_addCondition]
    unfold zx_Se_addCondition
    simp (disch := omega) only [il, nI_add, nI_mul, nI_sub, nI_div, nI_rem, nI_N, i32_lt, i32_le, nI_toInt, nI_subI, nI_clamp, zinT, zifT, iteT, iteF, zQ, zS, zkc, zI_sI, zL_sL, zI_wI, zL_wL, Nat.reduceEqDiff, Nat.reduceAdd, Nat.reduceMul, Nat.reduceLT, Nat.reduceLeDiff, reduceIte, eq_self, and_self, true_and, and_true, false_and, and_false, true_or, or_true, or_false, false_or, not_true_eq_false, not_false_eq_true, zarr, ne_eq, k1, h6, h7, e3]
