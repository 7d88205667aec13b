/-! the class reads a promise -/
theorem re_promise {d L w N i g : Nat} {β : Nat → Nat} {pt : Nat → Int64} {M : zM} (hd : 44 ≤ d) (hk : tkOk (tok β N) N) (hE : EC L w N β pt M) (hg : zPle M g) (hg26 : 26 ≤ g) (hc : cTok (tok β N i) M) (h3 : (tok β N i).1 ≠ 3) (hi : i ≤ N) (hD : zI M 6 1 = nI 0) : ∃ M' b, zV d n_Re_readPromise [.ref 3, .ref g] M = some (some (.int b), M') ∧ OutP (tok β N) N g M M' b (sPr (tok β N) pt i) := by
  obtain ⟨d, rfl, hd1⟩ := zdep hd
  obtain ⟨k3, k4, k6, r0, r1⟩ := c_k4 hE
  obtain ⟨k8, r2⟩ := c_k8 hE
  obtain ⟨M1, M2, b, e1, e2, hE1, hE2, f2, hcase⟩ := re_side (d := d) (s := g + 1) hd1 hk hE hg.2.2.2.2.2.1 (by omega) hc h3 hi hD
  have ff2 : fPg g M M2 := f2.pg (by omega) (by omega)
  rw [ze_Re_readPromise]
  unfold zx_Re_readPromise sPr
  rw [zif_t (by rw [k3]), r2, zoR_S, zif_t (by rw [hg.1]), hg.2.2.1, zoR_S, zif_t (by rw [k8]), e1, zbV_S, zif_t (by rw [(c_k4 hE1).1]), show (0 : Int32) = nI 0 from rfl, e2, zbI_S]
  rcases hcase with ⟨rfl, e, s1, s2, s3, s4, s5⟩ | ⟨rfl, M3, e3, hE3, f3, hcase⟩
  · rw [s1]
    refine ⟨M2, nI 0, ?_, ff2, s2, s3, s4, s5, Or.inl rfl⟩
    rw [if_neg (by decide), zif_t (by decide)]
  · have hg3 : zPle M3 g := zPle_made hg hg26 f3.2.1 f3.2.2.1
    have ff3 : fPg g M M3 := f3.pg (by omega) (by omega)
    obtain ⟨k33, k43, k63, r03, r13⟩ := c_k4 hE3
    rw [if_pos (by decide), zif_t (by rw [(c_k4 hE2).1]), (c_k8 hE2).2, zoR_S, zif_t (by rw [(c_k8 hE2).1]), e3, zbV_S]
    rcases hcase with ⟨e, s1, s2, s3, s4, s5, s6⟩ | ⟨x, j, s1, s2, s3, s4, s5, s6⟩
    · rw [s1]
      have er := ta_refuse1 (d := d) (x := nI 2) (by omega) k43 s4 s2 (by omega)
      refine ⟨M3, nI 0, ?_, ff3, s2, s3, s4, s5, Or.inl rfl⟩
      clear hE hE1 hE2 hE3 hc hk f2 f3 ff2 ff3 s4 s5
      simp (disch := omega) only [il, nI_add, nI_mul, nI_sub, nI_div, nI_rem, nI_N, i32_lt, i32_le, nI_toInt, nI_subI, nI_clamp, zinT, zifT, iteT, iteF, zQ, zS, zkc, zI_sI, zL_sL, zI_wI, zL_wL, Nat.reduceEqDiff, Nat.reduceAdd, Nat.reduceMul, Nat.reduceLT, Nat.reduceLeDiff, reduceIte, eq_self, and_self, true_and, and_true, false_and, and_false, true_or, or_true, or_false, false_or, not_true_eq_false, not_false_eq_true, zarr, ne_eq, k33, k43, r03, s6, er]
    · rw [s1]
      obtain ⟨c6, c3, c5⟩ := cTok_ok s3 s4
      have hkj := hk j s2
      show ∃ M' b, _ ∧ OutP (tok β N) N g M M' b (if (tok β N j).1 = 61 then sPr2 (tok β N) pt x 0 j else if (tok β N j).1 = 62 then sPr2 (tok β N) pt x 1 j else .inl (2, plc (tok β N) j))
      by_cases h61 : (tok β N j).1 = 61
      · rw [if_pos h61]
        have c61 : zI M3 4 3 = nI 61 := by rw [c3, h61]
        obtain ⟨M', b', e4, ho⟩ := re_p79 (d := d) (ki := 0) hd1 hk hE3 hg3 hg26 s3 s4 s2 s5 s6 (by omega)
        refine ⟨M', b', ?_, OutP_pre ff3 ho⟩
        rw [← e4]
        clear hE hE1 hE2 hE3 hc hk f2 f3 ff2 ff3 s3 s6 e4 ho hkj
        simp (disch := omega) only [il, nI_add, nI_mul, nI_sub, nI_div, nI_rem, nI_N, i32_lt, i32_le, nI_toInt, nI_subI, nI_clamp, zinT, zifT, iteT, iteF, zQ, zS, zkc, zI_sI, zL_sL, zI_wI, zL_wL, Nat.reduceEqDiff, Nat.reduceAdd, Nat.reduceMul, Nat.reduceLT, Nat.reduceLeDiff, reduceIte, eq_self, and_self, true_and, and_true, false_and, and_false, true_or, or_true, or_false, false_or, not_true_eq_false, not_false_eq_true, zarr, ne_eq, k33, k43, r03, c61]
      · rw [if_neg h61]
        have n61 : ¬ zI M3 4 3 = nI 61 := by rw [c3]; exact nI_ne (by omega) (by omega) h61
        by_cases h62 : (tok β N j).1 = 62
        · rw [if_pos h62]
          have c62 : zI M3 4 3 = nI 62 := by rw [c3, h62]
          obtain ⟨M', b', e4, ho⟩ := re_p79 (d := d) (ki := 1) hd1 hk hE3 hg3 hg26 s3 s4 s2 s5 s6 (by omega)
          refine ⟨M', b', ?_, OutP_pre ff3 ho⟩
          rw [← e4]
          clear hE hE1 hE2 hE3 hc hk f2 f3 ff2 ff3 s3 s6 e4 ho hkj
          simp (disch := omega) only [il, nI_add, nI_mul, nI_sub, nI_div, nI_rem, nI_N, i32_lt, i32_le, nI_toInt, nI_subI, nI_clamp, zinT, zifT, iteT, iteF, zQ, zS, zkc, zI_sI, zL_sL, zI_wI, zL_wL, Nat.reduceEqDiff, Nat.reduceAdd, Nat.reduceMul, Nat.reduceLT, Nat.reduceLeDiff, reduceIte, eq_self, and_self, true_and, and_true, false_and, and_false, true_or, or_true, or_false, false_or, not_true_eq_false, not_false_eq_true, zarr, ne_eq, k33, k43, r03, c62]
        · rw [if_neg h62]
          have n62 : ¬ zI M3 4 3 = nI 62 := by rw [c3]; exact nI_ne (by omega) (by omega) h62
          obtain ⟨M', e4, ho⟩ := out_refP (d := d) (x := 2) (g := g) (by omega) hE3 s3 s4 (by omega) (by omega) hg26
          refine ⟨M', nI 0, ?_, OutP_pre ff3 ho⟩
          clear hE hE1 hE2 hE3 hc hk f2 f3 ff2 ff3 s3 s6 ho hkj
          simp (disch := omega) only [il, nI_add, nI_mul, nI_sub, nI_div, nI_rem, nI_N, i32_lt, i32_le, nI_toInt, nI_subI, nI_clamp, zinT, zifT, iteT, iteF, zQ, zS, zkc, zI_sI, zL_sL, zI_wI, zL_wL, Nat.reduceEqDiff, Nat.reduceAdd, Nat.reduceMul, Nat.reduceLT, Nat.reduceLeDiff, reduceIte, eq_self, and_self, true_and, and_true, false_and, and_false, true_or, or_true, or_false, false_or, not_true_eq_false, not_false_eq_true, zarr, ne_eq, k33, k43, r03, n61, n62, e4]
