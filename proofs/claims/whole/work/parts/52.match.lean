/-! matches, might -/
theorem side {A B : Sq} {ki ho g p sd : Nat} {M : zM} (h : iPled A B ki ho M g p) (hg : zPle M g) (hs : sd < 2) : ∃ S, SeqC S M (g + 1 + 4 * sd) ∧ SeqM S M (2 * p + sd) ∧ ¬ S.acc [] ∧ zSeq M (g + 1 + 4 * sd) := by
  obtain ⟨a1, a2, a3, a4, a5, a6, -⟩ := h
  obtain ⟨-, -, -, -, -, g6, g7⟩ := hg
  have : sd = 0 ∨ sd = 1 := by omega
  rcases this with rfl | rfl
  · exact ⟨A, a1, a2, a5, g6⟩
  · exact ⟨B, a3, a4, a6, g7⟩
theorem nn_iff {a b : Prop} (h : ¬ a ↔ ¬ b) : a ↔ b := ⟨fun x => Classical.byContradiction fun y => h.mpr y x, fun x => Classical.byContradiction fun y => h.mp y x⟩
def mSome (B G : Nat → Int64) (n : Nat) (tr : Nat → Nat) (i : Nat) (first : Int64) : Nat → Int64
  | 0 => 0
  | k + 1 => mWalk B n G (seg tr i (i + k)) first &&& G (tr (i + k))
theorem m_matches_go {d L w p sd t n i jj : Nat} {C : Nat → Nat} {M : zM} {tr : Nat → Nat} {f : Nat → Int64} (hd : 2 ≤ d) (hs : zSh L w M) (hp : p < 4) (hsd : sd < 2) (hm : SM (2 * p + sd) n C M) (ht : t ≤ 48) (hf : ∀ u, u < t → f (48 * sd + u) = mFul n C (mT M (2 * p + sd)) (tr u)) (hi : i ≤ jj) (hj : jj ≤ t) :
    zG d n_Mo_matches 63 [some (.ref 146), some (.int (nI p)), some (.int (nI sd)), some (.int (nI i)), some (.int (nI jj - nI 1)), some (.long 0), none, some (.int (nI i))] [] (zwL M 174 f) = some (some (.int (nI (if mSome (mB M (2 * p + sd)) (mFul n C (mT M (2 * p + sd))) n tr i (zL M 149 (203 * (2 * p + sd))) (jj - i) &&& zL M 149 (203 * (2 * p + sd) + 1) = 0 then 0 else 1))), zwL M 174 f) := by
  have hsw := hs.wL 174 f
  have hs1 := hsw
  obtain ⟨hN, hK, hC, hMo, -⟩ := hs1
  have key := zloop (n := jj - i) (g := fun k => zG d n_Mo_matches 63 [some (.ref 146), some (.int (nI p)), some (.int (nI sd)), some (.int (nI i)), some (.int (nI jj - nI 1)), some (.long (mSome (mB M (2 * p + sd)) (mFul n C (mT M (2 * p + sd))) n tr i (zL M 149 (203 * (2 * p + sd))) k)), none, some (.int (nI (i + k)))] [] (zwL M 174 f)) (by
    intro k hk
    show zG d n_Mo_matches 63 [some (.ref 146), some (.int (nI p)), some (.int (nI sd)), some (.int (nI i)), some (.int (nI jj - nI 1)), some (.long (mSome (mB M (2 * p + sd)) (mFul n C (mT M (2 * p + sd))) n tr i (zL M 149 (203 * (2 * p + sd))) k)), none, some (.int (nI (i + k)))] [] (zwL M 174 f) = zG d n_Mo_matches 63 [some (.ref 146), some (.int (nI p)), some (.int (nI sd)), some (.int (nI i)), some (.int (nI jj - nI 1)), some (.long (mSome (mB M (2 * p + sd)) (mFul n C (mT M (2 * p + sd))) n tr i (zL M 149 (203 * (2 * p + sd))) (k + 1))), none, some (.int (nI (i + k + 1)))] [] (zwL M 174 f)
    rw [zg_Mo_matches_63]
    unfold zx_Mo_matches_63
    have h1 : ¬ (nI jj - nI 1 < nI (i + k)) := by rw [i32_lt, nI_subI (by omega) (by omega), nI_toInt (by omega)]; omega
    rw [if_neg h1]
    have e3 := hf (i + k) (by omega)
    cases k with
    | zero =>
      have e1 := m_firstOf (d := d) (i := 2 * p + sd) (by omega) hsw (by omega)
      have e4 : mSome (mB M (2 * p + sd)) (mFul n C (mT M (2 * p + sd))) n tr i (zL M 149 (203 * (2 * p + sd))) (0 + 1) = zL M 149 (203 * (2 * p + sd)) &&& mFul n C (mT M (2 * p + sd)) (tr (i + 0)) := by
        show mWalk _ _ _ (seg tr i (i + 0)) _ &&& _ = _
        rw [seg_nil (by omega)]; rfl
      rw [e4]
      rw [Nat.add_zero] at *
      simp (disch := omega) only [il, nI_add, nI_mul, nI_sub, nI_div, nI_rem, nI_N, i32_lt, i32_le, nI_toInt, nI_subI, nI_clamp, zinT, zifT, iteT, iteF, zQ, zS, zkc, zI_sI, zL_sL, zI_wI, zL_wL, Nat.reduceEqDiff, Nat.reduceAdd, Nat.reduceMul, Nat.reduceLT, Nat.reduceLeDiff, reduceIte, eq_self, and_self, true_and, and_true, false_and, and_false, true_or, or_true, or_false, false_or, not_true_eq_false, not_false_eq_true, zarr, ne_eq, hK, hMo, e1, e3]
    | succ k =>
      have e1 : zV d n_Mo_nextOf [.ref 146, .int (nI (2 * p + sd)), .long (mSome (mB M (2 * p + sd)) (mFul n C (mT M (2 * p + sd))) n tr i (zL M 149 (203 * (2 * p + sd))) (k + 1))] (zwL M 174 f) = some (some (.long (mNext n (mB M (2 * p + sd)) (mSome (mB M (2 * p + sd)) (mFul n C (mT M (2 * p + sd))) n tr i (zL M 149 (203 * (2 * p + sd))) (k + 1)))), zwL M 174 f) := m_nextOf (d := d) (i := 2 * p + sd) (n := n) (C := C) (by omega) hsw hm (by omega) (mSome (mB M (2 * p + sd)) (mFul n C (mT M (2 * p + sd))) n tr i (zL M 149 (203 * (2 * p + sd))) (k + 1))
      have e4 : mSome (mB M (2 * p + sd)) (mFul n C (mT M (2 * p + sd))) n tr i (zL M 149 (203 * (2 * p + sd))) (k + 1 + 1) = mNext n (mB M (2 * p + sd)) (mSome (mB M (2 * p + sd)) (mFul n C (mT M (2 * p + sd))) n tr i (zL M 149 (203 * (2 * p + sd))) (k + 1)) &&& mFul n C (mT M (2 * p + sd)) (tr (i + (k + 1))) := by
        show mWalk _ _ _ (seg tr i (i + k + 1)) _ &&& _ = _
        rw [mWalk_seg (by omega)]; rfl
      have h2 : ¬ (nI (i + (k + 1)) = nI i) := by rw [nI_N (by omega) (by omega)]; omega
      rw [e4]
      simp (disch := omega) only [il, nI_add, nI_mul, nI_sub, nI_div, nI_rem, nI_N, i32_lt, i32_le, nI_toInt, nI_subI, nI_clamp, zinT, zifT, iteT, iteF, zQ, zS, zkc, zI_sI, zL_sL, zI_wI, zL_wL, Nat.reduceEqDiff, Nat.reduceAdd, Nat.reduceMul, Nat.reduceLT, Nat.reduceLeDiff, reduceIte, eq_self, and_self, true_and, and_true, false_and, and_false, true_or, or_true, or_false, false_or, not_true_eq_false, not_false_eq_true, zarr, ne_eq, hK, hMo, e1, h2, e3])
  refine Eq.trans key ?_
  show zG d n_Mo_matches 63 [some (.ref 146), some (.int (nI p)), some (.int (nI sd)), some (.int (nI i)), some (.int (nI jj - nI 1)), some (.long (mSome (mB M (2 * p + sd)) (mFul n C (mT M (2 * p + sd))) n tr i (zL M 149 (203 * (2 * p + sd))) (jj - i))), none, some (.int (nI (i + (jj - i))))] [] (zwL M 174 f) = _
  rw [zg_Mo_matches_63]
  unfold zx_Mo_matches_63
  have h1 : nI jj - nI 1 < nI (i + (jj - i)) := by rw [i32_lt, nI_subI (by omega) (by omega), nI_toInt (by omega)]; omega
  rw [if_pos h1]
  have e1 := m_isEnd (d := d) (i := 2 * p + sd) (by omega) hsw (by omega) (mSome (mB M (2 * p + sd)) (mFul n C (mT M (2 * p + sd))) n tr i (zL M 149 (203 * (2 * p + sd))) (jj - i))
  simp (disch := omega) only [il, nI_add, nI_mul, nI_sub, nI_div, nI_rem, nI_N, i32_lt, i32_le, nI_toInt, nI_subI, nI_clamp, zinT, zifT, iteT, iteF, zQ, zS, zkc, zI_sI, zL_sL, zI_wI, zL_wL, Nat.reduceEqDiff, Nat.reduceAdd, Nat.reduceMul, Nat.reduceLT, Nat.reduceLeDiff, reduceIte, eq_self, and_self, true_and, and_true, false_and, and_false, true_or, or_true, or_false, false_or, not_true_eq_false, not_false_eq_true, zarr, ne_eq, hK, hMo, e1, mo_flag (show 1 ≤ d by omega)]
  rw [← n_dflag]
  by_cases h : mSome (mB M (2 * p + sd)) (mFul n C (mT M (2 * p + sd))) n tr i (zL M 149 (203 * (2 * p + sd))) (jj - i) &&& zL M 149 (203 * (2 * p + sd) + 1) = 0
  · simp only [h, if_true]
  · simp only [h, if_false]; rfl
set_option maxHeartbeats 8000000 in
theorem st_matches {d L : Nat} {M : zM} (hd : 5 ≤ d) (hi : Inv L M) (x y z u : Int32) : Cal d n_PT_matches n_Mo_matches L [.int x, .int y, .int z, .int u] M := by
  have hi0 := hi
  obtain ⟨w, n, t, P, tr, hs, hT, hfa, hto, htr, him, hsh, hp⟩ := hi
  obtain ⟨d, rfl, hd1⟩ := zdep hd
  have hs1 := hs
  have htr1 := htr
  obtain ⟨hN, hK, hC, hMo, hF, hw, h7, h8⟩ := hs1
  have hkk := zkc L; rw [← hK] at hkk
  obtain ⟨t1, t2, t3, t4⟩ := htr1
  obtain ⟨p1, p2, p3, p4⟩ := hp
  unfold Cal
  rw [ze_PT_matches]
  simp only [ze_Mo_matches]
  unfold zx_PT_matches zx_Mo_matches
  rcases i_cases x P (by omega) with ⟨p, hk, rfl⟩ | hx
  · have e1 := q_isPromise_t (d := d) (by omega) hs p1 p2 hk
    have e2 := m_isPromise_t (d := d) (by omega) hs p1 p3 hk
    rcases i_cases y 2 (by omega) with ⟨sd, hsd, rfl⟩ | hy
    · have e3 := q_isSide_t (d := d) (M := M) (by omega) hsd
      have e4 := m_isSide_t (d := d) (M := M) (by omega) hsd
      rcases i_cases z (t + 1) (by omega) with ⟨i, hi, rfl⟩ | hz
      · by_cases hu : u.toInt < (i : Int) - 1 ∨ (t : Int) ≤ u.toInt
        · refine ⟨-1, M, M, ?_, ?_, hi0⟩
          · by_cases hu1 : u.toInt < (i : Int) - 1
            · simp (disch := omega) only [il, nI_add, nI_mul, nI_sub, nI_div, nI_rem, nI_N, i32_lt, i32_le, nI_toInt, nI_subI, nI_clamp, zinT, zifT, iteT, iteF, zQ, zS, zkc, zI_sI, zL_sL, zI_wI, zL_wL, Nat.reduceEqDiff, Nat.reduceAdd, Nat.reduceMul, Nat.reduceLT, Nat.reduceLeDiff, reduceIte, eq_self, and_self, true_and, and_true, false_and, and_false, true_or, or_true, or_false, false_or, not_true_eq_false, not_false_eq_true, zarr, ne_eq, hkk, hC, e1, e3, t2]
            · simp (disch := omega) only [il, nI_add, nI_mul, nI_sub, nI_div, nI_rem, nI_N, i32_lt, i32_le, nI_toInt, nI_subI, nI_clamp, zinT, zifT, iteT, iteF, zQ, zS, zkc, zI_sI, zL_sL, zI_wI, zL_wL, Nat.reduceEqDiff, Nat.reduceAdd, Nat.reduceMul, Nat.reduceLT, Nat.reduceLeDiff, reduceIte, eq_self, and_self, true_and, and_true, false_and, and_false, true_or, or_true, or_false, false_or, not_true_eq_false, not_false_eq_true, zarr, ne_eq, hkk, hC, e1, e3, t2]
          · by_cases hu1 : u.toInt < (i : Int) - 1
            · simp (disch := omega) only [il, nI_add, nI_mul, nI_sub, nI_div, nI_rem, nI_N, i32_lt, i32_le, nI_toInt, nI_subI, nI_clamp, zinT, zifT, iteT, iteF, zQ, zS, zkc, zI_sI, zL_sL, zI_wI, zL_wL, Nat.reduceEqDiff, Nat.reduceAdd, Nat.reduceMul, Nat.reduceLT, Nat.reduceLeDiff, reduceIte, eq_self, and_self, true_and, and_true, false_and, and_false, true_or, or_true, or_false, false_or, not_true_eq_false, not_false_eq_true, zarr, ne_eq, hkk, hMo, e2, e4, t3, mo_in (show 1 ≤ d by omega), i64_toInt, zlit64]
            · simp (disch := omega) only [il, nI_add, nI_mul, nI_sub, nI_div, nI_rem, nI_N, i32_lt, i32_le, nI_toInt, nI_subI, nI_clamp, zinT, zifT, iteT, iteF, zQ, zS, zkc, zI_sI, zL_sL, zI_wI, zL_wL, Nat.reduceEqDiff, Nat.reduceAdd, Nat.reduceMul, Nat.reduceLT, Nat.reduceLeDiff, reduceIte, eq_self, and_self, true_and, and_true, false_and, and_false, true_or, or_true, or_false, false_or, not_true_eq_false, not_false_eq_true, zarr, ne_eq, hkk, hMo, e2, e4, t3, mo_in (show 1 ≤ d by omega), i64_toInt, zlit64]
        · obtain ⟨jj, hjj⟩ : ∃ jj : Nat, u.toInt + 1 = jj := ⟨(u.toInt + 1).toNat, by omega⟩
          have eu : u = nI jj - nI 1 := by
            apply Int32.toInt_inj.mp
            rw [nI_subI (by omega) (by omega)]; omega
          have eu1 : nI jj - nI 1 + nI 1 = nI jj := Int32.sub_add_cancel _ _
          subst eu
          have hjt : i ≤ jj ∧ jj ≤ t := by omega
          obtain ⟨A, B, ki, ho, j, hj, hpl, -⟩ := p4 p hk
          obtain ⟨q1, q2, q3⟩ := told hs (p := p) (by omega)
          obtain ⟨S, c1, c2, c3, c4⟩ := side hpl q3 hsd
          have q31 := q3.1
          have e5 := pl_sideOf (d := d) (M := M) (by omega) q3 hsd
          generalize 26 + 10 * w + 27 * p + 1 + 4 * sd = s at *
          obtain ⟨b1, b2, b3, b4, b5, b6, b7, b8, b9⟩ := c1
          have hbt : ∀ i, i < t → tr i < 256 := fun i h => (t4 i h).1
          have k19 : zK M 19 = (7, 2) := by rw [hK]; rfl
          have k20 : zK M 20 = (20, 48) := by rw [hK]; rfl
          have r19 : zR M 19 0 = some 20 := by simp only [hC]
          have e6 := se_walk (d := d) (i := i) (j := jj) (by omega) c4 b1 b2 b5 b6 k19 k20 r19 t1 (fun i h => ⟨(t4 i h).1, (t4 i h).2.1⟩) hjt.2 hjt.1
          have c41 := c4.1
          have e7 := se_hasEnded (d := d) (by omega) c4 (cWalk (zL M (s + 1)) S.long (cOpen S.cond (zL M (s + 3)) (zL M (s + 2)) (zL M s 4)) (seg tr i jj) 1)
          obtain ⟨n, C, m1, m2⟩ := SeqM_SM c2
          obtain ⟨n0, C0, m10, -⟩ := SeqM_SM hpl.2.1
          obtain ⟨n1, C1, m11, -⟩ := SeqM_SM hpl.2.2.2.1
          have hmm : ∃ f, zV d n_Mo_findsFulfilling [.ref 146, .int (nI p)] M = some (none, zwL M 174 f) ∧ ∀ u, u < t → f (48 * sd + u) = mFul n C (mT M (2 * p + sd)) (tr u) := by
            have : sd = 0 ∨ sd = 1 := by omega
            rcases this with rfl | rfl
            · obtain ⟨f, f1, f2, -⟩ := m_findsFulfilling (d := d) (by omega) hs (show p < 4 by omega) (by exact m1) m11 t1 t3 (fun i h => ⟨(t4 i h).1, (t4 i h).2.2⟩)
              exact ⟨f, f1, fun u hu => by rw [Nat.mul_zero, Nat.zero_add]; exact f2 u hu⟩
            · obtain ⟨f, f1, -, f2⟩ := m_findsFulfilling (d := d) (by omega) hs (show p < 4 by omega) m10 (by exact m1) t1 t3 (fun i h => ⟨(t4 i h).1, (t4 i h).2.2⟩)
              exact ⟨f, f1, fun u hu => f2 u hu⟩
          obtain ⟨f, f1, f2⟩ := hmm
          have e8 := m_matches_go (d := d) (by omega) hs (show p < 4 by omega) hsd m1 t1 f2 hjt.1 hjt.2
          have eq1 : (if mSome (mB M (2 * p + sd)) (mFul n C (mT M (2 * p + sd))) n tr i (zL M 149 (203 * (2 * p + sd))) (jj - i) &&& zL M 149 (203 * (2 * p + sd) + 1) = 0 then 0 else 1) = (if cWalk (zL M (s + 1)) S.long (cOpen S.cond (zL M (s + 3)) (zL M (s + 2)) (zL M s 4)) (seg tr i jj) 1 &&& zL M s 3 = 0 then 0 else 1) := by
            apply nflag
            have g1 := (b9 (seg tr i jj) (bts_seg hbt hjt.2)).1
            cases hk : jj - i with
            | zero =>
              have : seg tr i jj = [] := seg_nil (by omega)
              rw [this] at g1 ⊢
              unfold mSome
              rw [z_0and]
              exact ⟨fun _ => Classical.byContradiction fun q => c3 (g1.mp q), fun _ => rfl⟩
            | succ k =>
              have e9 : jj = i + k + 1 := by omega
              rw [e9] at g1 ⊢
              unfold mSome
              have g2 := (m2 (seg tr i (i + k)) (bts_seg hbt (by omega))).2 (tr (i + k)) (hbt _ (by omega))
              rw [← seg_snoc (by omega), z_andc] at g2
              exact nn_iff (g2.trans g1.symm)
          rw [eq1] at e8
          refine ⟨nI (if cWalk (zL M (s + 1)) S.long (cOpen S.cond (zL M (s + 3)) (zL M (s + 2)) (zL M s 4)) (seg tr i jj) 1 &&& zL M s 3 = 0 then 0 else 1), M, zwL M 174 f, ?_, ?_, Inv_scr hi0 rfl rfl rfl (fun b _ _ => rfl) (fun b _ => zLw_ne (by omega)) (fun _ _ _ => rfl)⟩
          · simp (disch := omega) only [il, nI_add, nI_mul, nI_sub, nI_div, nI_rem, nI_N, i32_lt, i32_le, nI_toInt, nI_subI, nI_clamp, zinT, zifT, iteT, iteF, zQ, zS, zkc, zI_sI, zL_sL, zI_wI, zL_wL, Nat.reduceEqDiff, Nat.reduceAdd, Nat.reduceMul, Nat.reduceLT, Nat.reduceLeDiff, reduceIte, eq_self, and_self, true_and, and_true, false_and, and_false, true_or, or_true, or_false, false_or, not_true_eq_false, not_false_eq_true, zarr, ne_eq, hkk, hC, h7, e1, e3, t2, eu1, q1, q2, q31, e5, c41, e6, e7]
            by_cases h : cWalk (zL M (s + 1)) S.long (cOpen S.cond (zL M (s + 3)) (zL M (s + 2)) (zL M s 4)) (seg tr i jj) 1 &&& zL M s 3 = 0
            · simp only [h, if_true]
            · simp only [h, if_false, nI_10.2]
          · simp (disch := omega) only [il, nI_add, nI_mul, nI_sub, nI_div, nI_rem, nI_N, i32_lt, i32_le, nI_toInt, nI_subI, nI_clamp, zinT, zifT, iteT, iteF, zQ, zS, zkc, zI_sI, zL_sL, zI_wI, zL_wL, Nat.reduceEqDiff, Nat.reduceAdd, Nat.reduceMul, Nat.reduceLT, Nat.reduceLeDiff, reduceIte, eq_self, and_self, true_and, and_true, false_and, and_false, true_or, or_true, or_false, false_or, not_true_eq_false, not_false_eq_true, zarr, ne_eq, hkk, hMo, e2, e4, t3, mo_in (show 1 ≤ d by omega), i64_toInt, zlit64, f1, e8]
      · refine ⟨-1, M, M, ?_, ?_, hi0⟩
        · by_cases h1 : z.toInt < 0
          · simp (disch := omega) only [il, nI_add, nI_mul, nI_sub, nI_div, nI_rem, nI_N, i32_lt, i32_le, nI_toInt, nI_subI, nI_clamp, zinT, zifT, iteT, iteF, zQ, zS, zkc, zI_sI, zL_sL, zI_wI, zL_wL, Nat.reduceEqDiff, Nat.reduceAdd, Nat.reduceMul, Nat.reduceLT, Nat.reduceLeDiff, reduceIte, eq_self, and_self, true_and, and_true, false_and, and_false, true_or, or_true, or_false, false_or, not_true_eq_false, not_false_eq_true, zarr, ne_eq, hkk, hC, e1, e3, t2]
          · simp (disch := omega) only [il, nI_add, nI_mul, nI_sub, nI_div, nI_rem, nI_N, i32_lt, i32_le, nI_toInt, nI_subI, nI_clamp, zinT, zifT, iteT, iteF, zQ, zS, zkc, zI_sI, zL_sL, zI_wI, zL_wL, Nat.reduceEqDiff, Nat.reduceAdd, Nat.reduceMul, Nat.reduceLT, Nat.reduceLeDiff, reduceIte, eq_self, and_self, true_and, and_true, false_and, and_false, true_or, or_true, or_false, false_or, not_true_eq_false, not_false_eq_true, zarr, ne_eq, hkk, hC, e1, e3, t2]
        · simp (disch := omega) only [il, nI_add, nI_mul, nI_sub, nI_div, nI_rem, nI_N, i32_lt, i32_le, nI_toInt, nI_subI, nI_clamp, zinT, zifT, iteT, iteF, zQ, zS, zkc, zI_sI, zL_sL, zI_wI, zL_wL, Nat.reduceEqDiff, Nat.reduceAdd, Nat.reduceMul, Nat.reduceLT, Nat.reduceLeDiff, reduceIte, eq_self, and_self, true_and, and_true, false_and, and_false, true_or, or_true, or_false, false_or, not_true_eq_false, not_false_eq_true, zarr, ne_eq, hkk, hMo, e2, e4, t3, mo_in (show 1 ≤ d by omega), i64_toInt, zlit64]
    · have e3 := q_isSide_f (d := d) (M := M) (by omega) hy
      have e4 := m_isSide_f (d := d) (M := M) (by omega) hy
      refine ⟨-1, M, M, ?_, ?_, hi0⟩
      · simp (disch := omega) only [il, nI_add, nI_mul, nI_sub, nI_div, nI_rem, nI_N, i32_lt, i32_le, nI_toInt, nI_subI, nI_clamp, zinT, zifT, iteT, iteF, zQ, zS, zkc, zI_sI, zL_sL, zI_wI, zL_wL, Nat.reduceEqDiff, Nat.reduceAdd, Nat.reduceMul, Nat.reduceLT, Nat.reduceLeDiff, reduceIte, eq_self, and_self, true_and, and_true, false_and, and_false, true_or, or_true, or_false, false_or, not_true_eq_false, not_false_eq_true, zarr, ne_eq, hkk, hC, e1, e3]
      · simp (disch := omega) only [il, nI_add, nI_mul, nI_sub, nI_div, nI_rem, nI_N, i32_lt, i32_le, nI_toInt, nI_subI, nI_clamp, zinT, zifT, iteT, iteF, zQ, zS, zkc, zI_sI, zL_sL, zI_wI, zL_wL, Nat.reduceEqDiff, Nat.reduceAdd, Nat.reduceMul, Nat.reduceLT, Nat.reduceLeDiff, reduceIte, eq_self, and_self, true_and, and_true, false_and, and_false, true_or, or_true, or_false, false_or, not_true_eq_false, not_false_eq_true, zarr, ne_eq, hkk, hMo, e2, e4]
  · have e1 := q_isPromise_f (d := d) (by omega) hs p1 p2 hx
    have e2 := m_isPromise_f (d := d) (by omega) hs p1 p3 hx
    refine ⟨-1, M, M, ?_, ?_, hi0⟩
    · simp (disch := omega) only [il, nI_add, nI_mul, nI_sub, nI_div, nI_rem, nI_N, i32_lt, i32_le, nI_toInt, nI_subI, nI_clamp, zinT, zifT, iteT, iteF, zQ, zS, zkc, zI_sI, zL_sL, zI_wI, zL_wL, Nat.reduceEqDiff, Nat.reduceAdd, Nat.reduceMul, Nat.reduceLT, Nat.reduceLeDiff, reduceIte, eq_self, and_self, true_and, and_true, false_and, and_false, true_or, or_true, or_false, false_or, not_true_eq_false, not_false_eq_true, zarr, ne_eq, hkk, hC, e1]
    · simp (disch := omega) only [il, nI_add, nI_mul, nI_sub, nI_div, nI_rem, nI_N, i32_lt, i32_le, nI_toInt, nI_subI, nI_clamp, zinT, zifT, iteT, iteF, zQ, zS, zkc, zI_sI, zL_sL, zI_wI, zL_wL, Nat.reduceEqDiff, Nat.reduceAdd, Nat.reduceMul, Nat.reduceLT, Nat.reduceLeDiff, reduceIte, eq_self, and_self, true_and, and_true, false_and, and_false, true_or, or_true, or_false, false_or, not_true_eq_false, not_false_eq_true, zarr, ne_eq, hkk, hMo, e2]
