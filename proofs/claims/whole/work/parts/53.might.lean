/-! might -/
theorem m_might_go {d L w p sd t n i : Nat} {C : Nat → Nat} {M : zM} {tr : Nat → Nat} {f : Nat → Int64} (hd : 2 ≤ d) (hs : zSh L w M) (hp : p < 4) (hsd : sd < 2) (hm : SM (2 * p + sd) n C M) (ht : t ≤ 48) (t3 : zI M 155 0 = nI t) (hf : ∀ u, u < t → f (48 * sd + u) = mFul n C (mT M (2 * p + sd)) (tr u)) (hi : i ≤ t) :
    zG d n_Mo_might 52 [some (.ref 146), some (.int (nI p)), some (.int (nI sd)), none, some (.long (zL M 149 (203 * (2 * p + sd)))), none, some (.int (nI i))] [] (zwL M 174 f) = some (some (.int (nI (if mWalk (mB M (2 * p + sd)) n (mFul n C (mT M (2 * p + sd))) (seg tr i t) (zL M 149 (203 * (2 * p + sd))) &&& zL M 149 (203 * (2 * p + sd) + 2) = 0 then 0 else 1))), zwL M 174 f) := by
  have hsw := hs.wL 174 f
  have hs1 := hsw
  obtain ⟨hN, hK, hC, hMo, -⟩ := hs1
  have key := zloop (n := t - i) (g := fun k => zG d n_Mo_might 52 [some (.ref 146), some (.int (nI p)), some (.int (nI sd)), none, some (.long (mWalk (mB M (2 * p + sd)) n (mFul n C (mT M (2 * p + sd))) (seg tr i (i + k)) (zL M 149 (203 * (2 * p + sd))))), none, some (.int (nI (i + k)))] [] (zwL M 174 f)) (by
    intro k hk
    show zG d n_Mo_might 52 [some (.ref 146), some (.int (nI p)), some (.int (nI sd)), none, some (.long (mWalk (mB M (2 * p + sd)) n (mFul n C (mT M (2 * p + sd))) (seg tr i (i + k)) (zL M 149 (203 * (2 * p + sd))))), none, some (.int (nI (i + k)))] [] (zwL M 174 f) = zG d n_Mo_might 52 [some (.ref 146), some (.int (nI p)), some (.int (nI sd)), none, some (.long (mWalk (mB M (2 * p + sd)) n (mFul n C (mT M (2 * p + sd))) (seg tr i (i + k + 1)) (zL M 149 (203 * (2 * p + sd))))), none, some (.int (nI (i + k + 1)))] [] (zwL M 174 f)
    rw [zg_Mo_might_52]
    unfold zx_Mo_might_52
    have e3 := hf (i + k) (by omega)
    rw [mWalk_seg (by omega)]
    generalize mWalk (mB M (2 * p + sd)) n (mFul n C (mT M (2 * p + sd))) (seg tr i (i + k)) (zL M 149 (203 * (2 * p + sd))) = X
    have e1 : zV d n_Mo_nextOf [.ref 146, .int (nI (2 * p + sd)), .long (X &&& mFul n C (mT M (2 * p + sd)) (tr (i + k)))] (zwL M 174 f) = some (some (.long (mNext n (mB M (2 * p + sd)) (X &&& mFul n C (mT M (2 * p + sd)) (tr (i + k))))), zwL M 174 f) := m_nextOf (d := d) (i := 2 * p + sd) (n := n) (C := C) (by omega) hsw hm (by omega) _
    simp (disch := omega) only [il, nI_add, nI_mul, nI_sub, nI_div, nI_rem, nI_N, i32_lt, i32_le, nI_toInt, nI_subI, nI_clamp, zinT, zifT, iteT, iteF, zQ, zS, zkc, zI_sI, zL_sL, zI_wI, zL_wL, Nat.reduceEqDiff, Nat.reduceAdd, Nat.reduceMul, Nat.reduceLT, Nat.reduceLeDiff, reduceIte, eq_self, and_self, true_and, and_true, false_and, and_false, true_or, or_true, or_false, false_or, not_true_eq_false, not_false_eq_true, zarr, ne_eq, hK, hMo, t3, e1, e3])
  simp only [Nat.add_zero, seg_nil (Nat.le_refl i)] at key
  refine Eq.trans key ?_
  rw [show i + (t - i) = t by omega]
  rw [zg_Mo_might_52]
  unfold zx_Mo_might_52
  have e1 := m_canEnd (d := d) (i := 2 * p + sd) (by omega) hsw (by omega) (mWalk (mB M (2 * p + sd)) n (mFul n C (mT M (2 * p + sd))) (seg tr i t) (zL M 149 (203 * (2 * p + sd))))
  simp (disch := omega) only [il, nI_add, nI_mul, nI_sub, nI_div, nI_rem, nI_N, i32_lt, i32_le, nI_toInt, nI_subI, nI_clamp, zinT, zifT, iteT, iteF, zQ, zS, zkc, zI_sI, zL_sL, zI_wI, zL_wL, Nat.reduceEqDiff, Nat.reduceAdd, Nat.reduceMul, Nat.reduceLT, Nat.reduceLeDiff, reduceIte, eq_self, and_self, true_and, and_true, false_and, and_false, true_or, or_true, or_false, false_or, not_true_eq_false, not_false_eq_true, zarr, ne_eq, hK, hMo, t3, e1, mo_flag (show 1 ≤ d by omega)]
  rw [← n_dflag]
  by_cases h : mWalk (mB M (2 * p + sd)) n (mFul n C (mT M (2 * p + sd))) (seg tr i t) (zL M 149 (203 * (2 * p + sd))) &&& zL M 149 (203 * (2 * p + sd) + 2) = 0
  · simp only [h, if_true]
  · simp only [h, if_false]; rfl
set_option maxHeartbeats 8000000 in
theorem st_might {d L : Nat} {M : zM} (hd : 5 ≤ d) (hi : Inv L M) (x y z : Int32) : Cal d n_PT_might n_Mo_might L [.int x, .int y, .int z] M := by
  have hi0 := hi
  obtain ⟨w, n, t, P, tr, hs, hT, hfa, hto, htr, him, hsh, hp⟩ := hi
  obtain ⟨d, rfl, hd1⟩ := zdep hd
  have hs1 := hs
  have htr1 := htr
  obtain ⟨hN, hK, hC, hMo, hF, hw, h7, h8⟩ := hs1
  have hkk := zkc L; rw [← hK] at hkk
  obtain ⟨t1, t2, t3, t4⟩ := htr1
  obtain ⟨p1, p2, p3, p4⟩ := hp
  unfold Cal
  rw [ze_PT_might]
  simp only [ze_Mo_might]
  unfold zx_PT_might zx_Mo_might
  clear hfa hto him hsh hT htr
  rcases i_cases x P (by omega) with ⟨p, hk, rfl⟩ | hx
  · have e1 := q_isPromise_t (d := d) (by omega) hs p1 p2 hk
    have e2 := m_isPromise_t (d := d) (by omega) hs p1 p3 hk
    rcases i_cases y 2 (by omega) with ⟨sd, hsd, rfl⟩ | hy
    · have e3 := q_isSide_t (d := d) (M := M) (by omega) hsd
      have e4 := m_isSide_t (d := d) (M := M) (by omega) hsd
      rcases i_cases z (t + 1) (by omega) with ⟨i, hi, rfl⟩ | hz
      · obtain ⟨A, B, ki, ho, j, hj, hpl, -⟩ := p4 p hk
        obtain ⟨q1, q2, q3⟩ := told hs (p := p) (by omega)
        obtain ⟨S, c1, c2, c3, c4⟩ := side hpl q3 hsd
        have q31 := q3.1
        have e5 := pl_sideOf (d := d) (M := M) (by omega) q3 hsd
        generalize 26 + 10 * w + 27 * p + 1 + 4 * sd = s at *
        obtain ⟨b1, b2, b3, b4, b5, b6, b7, b8, b9⟩ := c1
        have hbt : ∀ i, i < t → tr i < 256 := fun i h => (t4 i h).1
        have k19 : zK M 19 = (7, 2) := by rw [hK]; rfl
        have k20 : zK M 20 = (20, 48) := by rw [hK]; rfl
        have r19 : zR M 19 0 = some 20 := by simp only [hC]
        have e6 := se_walk (d := d) (i := i) (j := t) (by omega) c4 b1 b2 b5 b6 k19 k20 r19 t1 (fun i h => ⟨(t4 i h).1, (t4 i h).2.1⟩) (Nat.le_refl t) (show i ≤ t by omega)
        have c41 := c4.1
        have e7 := se_goesOn (d := d) (by omega) c4 (cWalk (zL M (s + 1)) S.long (cOpen S.cond (zL M (s + 3)) (zL M (s + 2)) (zL M s 4)) (seg tr i t) 1)
        obtain ⟨n, C, m1, m2⟩ := SeqM_SM c2
        obtain ⟨n0, C0, m10, -⟩ := SeqM_SM hpl.2.1
        obtain ⟨n1, C1, m11, -⟩ := SeqM_SM hpl.2.2.2.1
        have hmm : ∃ f, zV d n_Mo_findsFulfilling [.ref 146, .int (nI p)] M = some (none, zwL M 174 f) ∧ ∀ u, u < t → f (48 * sd + u) = mFul n C (mT M (2 * p + sd)) (tr u) := by
          have : sd = 0 ∨ sd = 1 := by omega
          rcases this with rfl | rfl
          · obtain ⟨f, f1, f2, -⟩ := m_findsFulfilling (d := d) (by omega) hs (show p < 4 by omega) (by exact m1) m11 t1 t3 (fun i h => ⟨(t4 i h).1, (t4 i h).2.2⟩)
            exact ⟨f, f1, fun u hu => by rw [Nat.mul_zero, Nat.zero_add]; exact f2 u hu⟩
          · obtain ⟨f, f1, -, f2⟩ := m_findsFulfilling (d := d) (by omega) hs (show p < 4 by omega) m10 (by exact m1) t1 t3 (fun i h => ⟨(t4 i h).1, (t4 i h).2.2⟩)
            exact ⟨f, f1, fun u hu => f2 u hu⟩
        obtain ⟨f, f1, f2⟩ := hmm
        have e8 := m_might_go (d := d) (by omega) hs (show p < 4 by omega) hsd m1 t1 t3 f2 (show i ≤ t by omega)
        have e9 : zV d n_Mo_firstOf [.ref 146, .int (nI (2 * p + sd))] (zwL M 174 f) = some (some (.long (zL M 149 (203 * (2 * p + sd)))), zwL M 174 f) := m_firstOf (d := d) (i := 2 * p + sd) (by omega) (hs.wL 174 f) (by omega)
        have eq1 : (if mWalk (mB M (2 * p + sd)) n (mFul n C (mT M (2 * p + sd))) (seg tr i t) (zL M 149 (203 * (2 * p + sd))) &&& zL M 149 (203 * (2 * p + sd) + 2) = 0 then 0 else 1) = (if cWalk (zL M (s + 1)) S.long (cOpen S.cond (zL M (s + 3)) (zL M (s + 2)) (zL M s 4)) (seg tr i t) 1 &&& zL M s 5 = 0 then 0 else 1) := by
          apply nflag
          have g1 := (b9 (seg tr i t) (bts_seg hbt (Nat.le_refl t))).2
          have g2 := (m2 (seg tr i t) (bts_seg hbt (Nat.le_refl t))).1
          rw [z_andc] at g2
          exact nn_iff (g2.trans g1.symm)
        rw [eq1] at e8
        clear eq1 m1 m2 m10 m11 b9 f2 c2 c3 p4
        generalize cWalk (zL M (s + 1)) S.long (cOpen S.cond (zL M (s + 3)) (zL M (s + 2)) (zL M s 4)) (seg tr i t) 1 = X at *
        refine ⟨nI (if X &&& zL M s 5 = 0 then 0 else 1), M, zwL M 174 f, ?_, ?_, Inv_scr hi0 rfl rfl rfl (fun b _ _ => rfl) (fun b _ => zLw_ne (by omega)) (fun _ _ _ => rfl)⟩
        · simp (disch := omega) only [il, nI_add, nI_mul, nI_sub, nI_div, nI_rem, nI_N, i32_lt, i32_le, nI_toInt, nI_subI, nI_clamp, zinT, zifT, iteT, iteF, zQ, zS, zkc, zI_sI, zL_sL, zI_wI, zL_wL, Nat.reduceEqDiff, Nat.reduceAdd, Nat.reduceMul, Nat.reduceLT, Nat.reduceLeDiff, reduceIte, eq_self, and_self, true_and, and_true, false_and, and_false, true_or, or_true, or_false, false_or, not_true_eq_false, not_false_eq_true, zarr, ne_eq, hkk, hC, h7, e1, e3, t2, q1, q2, q31, e5, c41, e6, e7]
          by_cases h : X &&& zL M s 5 = 0
          · simp only [h, if_true]
          · simp only [h, if_false, nI_10.2]
        · simp (disch := omega) only [il, nI_add, nI_mul, nI_sub, nI_div, nI_rem, nI_N, i32_lt, i32_le, nI_toInt, nI_subI, nI_clamp, zinT, zifT, iteT, iteF, zQ, zS, zkc, zI_sI, zL_sL, zI_wI, zL_wL, Nat.reduceEqDiff, Nat.reduceAdd, Nat.reduceMul, Nat.reduceLT, Nat.reduceLeDiff, reduceIte, eq_self, and_self, true_and, and_true, false_and, and_false, true_or, or_true, or_false, false_or, not_true_eq_false, not_false_eq_true, zarr, ne_eq, hkk, hMo, e2, e4, t3, mo_in (show 1 ≤ d by omega), i64_toInt, zlit64, f1, e9, e8]
      · refine ⟨-1, M, M, ?_, ?_, hi0⟩
        · by_cases h1 : z.toInt < 0
          · simp (disch := omega) only [il, nI_add, nI_mul, nI_sub, nI_div, nI_rem, nI_N, i32_lt, i32_le, nI_toInt, nI_subI, nI_clamp, zinT, zifT, iteT, iteF, zQ, zS, zkc, zI_sI, zL_sL, zI_wI, zL_wL, Nat.reduceEqDiff, Nat.reduceAdd, Nat.reduceMul, Nat.reduceLT, Nat.reduceLeDiff, reduceIte, eq_self, and_self, true_and, and_true, false_and, and_false, true_or, or_true, or_false, false_or, not_true_eq_false, not_false_eq_true, zarr, ne_eq, hkk, hC, e1, e3, t2]
          · simp (disch := omega) only [il, nI_add, nI_mul, nI_sub, nI_div, nI_rem, nI_N, i32_lt, i32_le, nI_toInt, nI_subI, nI_clamp, zinT, zifT, iteT, iteF, zQ, zS, zkc, zI_sI, zL_sL, zI_wI, zL_wL, Nat.reduceEqDiff, Nat.reduceAdd, Nat.reduceMul, Nat.reduceLT, Nat.reduceLeDiff, reduceIte, eq_self, and_self, true_and, and_true, false_and, and_false, true_or, or_true, or_false, false_or, not_true_eq_false, not_false_eq_true, zarr, ne_eq, hkk, hC, e1, e3, t2]
        · simp (disch := omega) only [il, nI_add, nI_mul, nI_sub, nI_div, nI_rem, nI_N, i32_lt, i32_le, nI_toInt, nI_subI, nI_clamp, zinT, zifT, iteT, iteF, zQ, zS, zkc, zI_sI, zL_sL, zI_wI, zL_wL, Nat.reduceEqDiff, Nat.reduceAdd, Nat.reduceMul, Nat.reduceLT, Nat.reduceLeDiff, reduceIte, eq_self, and_self, true_and, and_true, false_and, and_false, true_or, or_true, or_false, false_or, not_true_eq_false, not_false_eq_true, zarr, ne_eq, hkk, hMo, e2, e4, t3, mo_in (show 1 ≤ d by omega), i64_toInt, zlit64]
    · have e3 := q_isSide_f (d := d) (M := M) (by omega) hy
      have e4 := m_isSide_f (d := d) (M := M) (by omega) hy
      refine ⟨-1, M, M, ?_, ?_, hi0⟩
      · simp (disch := omega) only [il, nI_add, nI_mul, nI_sub, nI_div, nI_rem, nI_N, i32_lt, i32_le, nI_toInt, nI_subI, nI_clamp, zinT, zifT, iteT, iteF, zQ, zS, zkc, zI_sI, zL_sL, zI_wI, zL_wL, Nat.reduceEqDiff, Nat.reduceAdd, Nat.reduceMul, Nat.reduceLT, Nat.reduceLeDiff, reduceIte, eq_self, and_self, true_and, and_true, false_and, and_false, true_or, or_true, or_false, false_or, not_true_eq_false, not_false_eq_true, zarr, ne_eq, hkk, hC, e1, e3]
      · simp (disch := omega) only [il, nI_add, nI_mul, nI_sub, nI_div, nI_rem, nI_N, i32_lt, i32_le, nI_toInt, nI_subI, nI_clamp, zinT, zifT, iteT, iteF, zQ, zS, zkc, zI_sI, zL_sL, zI_wI, zL_wL, Nat.reduceEqDiff, Nat.reduceAdd, Nat.reduceMul, Nat.reduceLT, Nat.reduceLeDiff, reduceIte, eq_self, and_self, true_and, and_true, false_and, and_false, true_or, or_true, or_false, false_or, not_true_eq_false, not_false_eq_true, zarr, ne_eq, hkk, hMo, e2, e4]
  · have e1 := q_isPromise_f (d := d) (by omega) hs p1 p2 hx
    have e2 := m_isPromise_f (d := d) (by omega) hs p1 p3 hx
    refine ⟨-1, M, M, ?_, ?_, hi0⟩
    · simp (disch := omega) only [il, nI_add, nI_mul, nI_sub, nI_div, nI_rem, nI_N, i32_lt, i32_le, nI_toInt, nI_subI, nI_clamp, zinT, zifT, iteT, iteF, zQ, zS, zkc, zI_sI, zL_sL, zI_wI, zL_wL, Nat.reduceEqDiff, Nat.reduceAdd, Nat.reduceMul, Nat.reduceLT, Nat.reduceLeDiff, reduceIte, eq_self, and_self, true_and, and_true, false_and, and_false, true_or, or_true, or_false, false_or, not_true_eq_false, not_false_eq_true, zarr, ne_eq, hkk, hC, e1]
    · simp (disch := omega) only [il, nI_add, nI_mul, nI_sub, nI_div, nI_rem, nI_N, i32_lt, i32_le, nI_toInt, nI_subI, nI_clamp, zinT, zifT, iteT, iteF, zQ, zS, zkc, zI_sI, zL_sL, zI_wI, zL_wL, Nat.reduceEqDiff, Nat.reduceAdd, Nat.reduceMul, Nat.reduceLT, Nat.reduceLeDiff, reduceIte, eq_self, and_self, true_and, and_true, false_and, and_false, true_or, or_true, or_false, false_or, not_true_eq_false, not_false_eq_true, zarr, ne_eq, hkk, hMo, e2]
