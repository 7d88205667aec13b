/-! the class reads a condition: the loops -/
theorem re_all_bad1 {d L w N f n x2 : Nat} {β : Nat → Nat} {pt : Nat → Int64} {M : zM} (h : EC L w N β pt M) (h3 : zI M 4 3 = nI 3) (hx : x2 ≤ 200) : zG d n_Re_readAllOf 12 [some (.ref 3), some (.int (nI n)), some (.int (nI x2))] [] M = some (some (.int (nI 1)), M) := by
  obtain ⟨k3, k4, k6, r0, r1⟩ := c_k4 h
  rw [zg_Re_readAllOf_12]
  unfold zx_Re_readAllOf_12
  clear h
  by_cases h200 : x2 = 200
  · subst h200
    simp (disch := omega) only [il, nI_add, nI_mul, nI_sub, nI_div, nI_rem, nI_N, i32_lt, i32_le, nI_toInt, nI_subI, nI_clamp, zinT, zifT, iteT, iteF, zQ, zS, zkc, zI_sI, zL_sL, zI_wI, zL_wL, Nat.reduceEqDiff, Nat.reduceAdd, Nat.reduceMul, Nat.reduceLT, Nat.reduceLeDiff, reduceIte, eq_self, and_self, true_and, and_true, false_and, and_false, true_or, or_true, or_false, false_or, not_true_eq_false, not_false_eq_true, zarr, ne_eq]
  · simp (disch := omega) only [il, nI_add, nI_mul, nI_sub, nI_div, nI_rem, nI_N, i32_lt, i32_le, nI_toInt, nI_subI, nI_clamp, zinT, zifT, iteT, iteF, zQ, zS, zkc, zI_sI, zL_sL, zI_wI, zL_wL, Nat.reduceEqDiff, Nat.reduceAdd, Nat.reduceMul, Nat.reduceLT, Nat.reduceLeDiff, reduceIte, eq_self, and_self, true_and, and_true, false_and, and_false, true_or, or_true, or_false, false_or, not_true_eq_false, not_false_eq_true, zarr, ne_eq, k3, k4, r0, h3]
theorem re_all_go {L w N n c d0 : Nat} {β : Nat → Nat} {pt : Nat → Int64} {R : Option (Nat → Rs T4)} (hk : tkOk (tok β N) N) (hd0 : 3 ≤ d0) (hP : RM n_Re_readCondition L w N β pt n c d0 (sNeg (tok β N) pt R 200 false)) : ∀ f d i D M t, f ≤ 200 → d0 ≤ d → EC L w N β pt M → cTok (tok β N i) M → (tok β N i).1 ≠ 3 → i ≤ N → zI M 6 1 = nI (D + 1) → (∀ q, q < 4 → zL M 7 (4 * D + q) = t q) → D + 1 + c ≤ 19 → 1 ≤ c → ∃ M' b, zG d n_Re_readAllOf 12 [some (.ref 3), some (.int (nI n)), some (.int (nI (200 - f)))] [] M = some (some (.int b), M') ∧ OutC (tok β N) N D M M' b (sAlL (tok β N) pt R f t i) := by
  intro f
  induction f with
  | zero =>
    intro d i D M t hf hd hE hc h3 hi hD ht hDc hc1
    refine ⟨M, nI 1, ?_, fCo_rfl D M, rfl, hi, hc, h3, hD, ht⟩
    rw [zg_Re_readAllOf_12]
    unfold zx_Re_readAllOf_12
    clear hP hE hc ht hk
    simp (disch := omega) only [il, nI_add, nI_mul, nI_sub, nI_div, nI_rem, nI_N, i32_lt, i32_le, nI_toInt, nI_subI, nI_clamp, zinT, zifT, iteT, iteF, zQ, zS, zkc, zI_sI, zL_sL, zI_wI, zL_wL, Nat.reduceEqDiff, Nat.reduceAdd, Nat.reduceMul, Nat.reduceLT, Nat.reduceLeDiff, reduceIte, eq_self, and_self, true_and, and_true, false_and, and_false, true_or, or_true, or_false, false_or, not_true_eq_false, not_false_eq_true, zarr, ne_eq]
  | succ f ih =>
    intro d i D M t hf hd hE hc h3 hi hD ht hDc hc1
    obtain ⟨k3, k4, k6, r0, r1⟩ := c_k4 hE
    obtain ⟨c6, c3, c5⟩ := cTok_ok hc h3
    have hkd := (hk i hi).2.2.2.2.2.1
    by_cases hop : (tok β N i).1 = 38
    · have es : sAlL (tok β N) pt R (f + 1) t i = nxt (tok β N) i (fun j => rb (sNeg (tok β N) pt R 200 false j) (fun u k => sAlL (tok β N) pt R f (anT t u) k)) := if_pos hop
      rw [es]
      have cop : zI M 4 3 = nI 38 := by rw [c3, hop]
      obtain ⟨M1, e1, f1, hc1'⟩ := c_adv (d := d) (by omega) hE hk hc h3 hi
      have hE1 := EC_fr hE (f1.co (D := D))
      obtain ⟨k31, k41, k61, r01, r11⟩ := c_k4 hE1
      have hD1 : zI M1 6 1 = nI (D + 1) := by rw [f1.2.2.2.2.1 6 (by omega)]; exact hD
      by_cases hb : (tok β N (tok β N i).2.2.2).1 = 3
      · rw [nxt_t hb]
        obtain ⟨b1, b2, b3⟩ := cTok_bad hc1' hb
        have e2 := re_cond_bad (d := d) (n := n) (by omega) hE1 b1 b2 (by omega) (by omega)
        refine ⟨M1, nI 0, ?_, f1.co, Nat.zero_lt_one, (show 1 < 10 by decide), b2, b3, Or.inl rfl⟩
        rw [zg_Re_readAllOf_12]
        unfold zx_Re_readAllOf_12
        clear ih hP hE hE1 hc hc1' f1 hk ht
        simp (disch := omega) only [il, nI_add, nI_mul, nI_sub, nI_div, nI_rem, nI_N, i32_lt, i32_le, nI_toInt, nI_subI, nI_clamp, zinT, zifT, iteT, iteF, zQ, zS, zkc, zI_sI, zL_sL, zI_wI, zL_wL, Nat.reduceEqDiff, Nat.reduceAdd, Nat.reduceMul, Nat.reduceLT, Nat.reduceLeDiff, reduceIte, eq_self, and_self, true_and, and_true, false_and, and_false, true_or, or_true, or_false, false_or, not_true_eq_false, not_false_eq_true, zarr, ne_eq, k3, k4, r0, cop, e1, k31, e2]
      · rw [nxt_f hb]
        obtain ⟨M2, b, e2, ho⟩ := hP d _ (D + 1) M1 hd hE1 hc1' hb (hk i hi).1 hD1 (by omega)
        cases hrr : sNeg (tok β N) pt R 200 false (tok β N i).2.2.2 with
        | inl e =>
          rw [hrr] at ho
          obtain ⟨o1, o2, o3, o4, o5, o6⟩ := ho
          have hE2 := EC_fr hE1 o1
          obtain ⟨k32, k42, k62, r02, r12⟩ := c_k4 hE2
          have fM2 : fCo D M M2 := (f1.co (D := D)).trans o1 (by omega)
          rcases o6 with rfl | ⟨rfl, o7, o8⟩
          · refine ⟨M2, nI 0, ?_, fM2, o2, o3, o4, o5, Or.inl rfl⟩
            rw [zg_Re_readAllOf_12]
            unfold zx_Re_readAllOf_12
            clear ih hP hE hE1 hc hc1' f1 hk ht o1 hE2 fM2 o4 o5
            simp (disch := omega) only [il, nI_add, nI_mul, nI_sub, nI_div, nI_rem, nI_N, i32_lt, i32_le, nI_toInt, nI_subI, nI_clamp, zinT, zifT, iteT, iteF, zQ, zS, zkc, zI_sI, zL_sL, zI_wI, zL_wL, Nat.reduceEqDiff, Nat.reduceAdd, Nat.reduceMul, Nat.reduceLT, Nat.reduceLeDiff, reduceIte, eq_self, and_self, true_and, and_true, false_and, and_false, true_or, or_true, or_false, false_or, not_true_eq_false, not_false_eq_true, zarr, ne_eq, k3, k4, r0, cop, e1, k31, e2]
          · obtain ⟨M3, e3, g1, g2, g3, g4⟩ := ts_joinTwo (d := d) (D := D) (x := 1) (M := M2) (t := fun q => zL M2 7 (4 * D + q)) (u := fun q => zL M2 7 (4 * (D + 1) + q)) (by omega) hE2.1 (by omega) (by omega) o8 (fun _ _ => rfl) (fun _ _ => rfl)
            have hE3 := EC_fr hE2 g1
            have e4 := re_all_bad1 (d := d) (n := n) (f := 0) (x2 := 200 - f) hE3 (by rw [g2]; exact o7) (by omega)
            refine ⟨M3, nI 1, ?_, fM2.trans g1 (Nat.le_refl D), o2, o3, by rw [g2]; exact o4, by rw [g2]; exact o5, Or.inr ⟨rfl, by rw [g2]; exact o7, g3⟩⟩
            rw [← e4, zg_Re_readAllOf_12]
            unfold zx_Re_readAllOf_12
            have hx : 200 - (f + 1) + 1 = 200 - f := by omega
            clear ih hP hE hE1 hc hc1' f1 hk ht o1 hE2 fM2 o4 o5 g1 g2 g4 hE3 e4
            simp (disch := omega) only [il, nI_add, nI_mul, nI_sub, nI_div, nI_rem, nI_N, i32_lt, i32_le, nI_toInt, nI_subI, nI_clamp, zinT, zifT, iteT, iteF, zQ, zS, zkc, zI_sI, zL_sL, zI_wI, zL_wL, Nat.reduceEqDiff, Nat.reduceAdd, Nat.reduceMul, Nat.reduceLT, Nat.reduceLeDiff, reduceIte, eq_self, and_self, true_and, and_true, false_and, and_false, true_or, or_true, or_false, false_or, not_true_eq_false, not_false_eq_true, zarr, ne_eq, k3, k4, r0, cop, e1, k31, e2, k32, k62, r12, e3, hx]
        | inr x =>
          rw [hrr] at ho
          obtain ⟨o1, o2, o3, o4, o5, o6, o7⟩ := ho
          subst o2
          have hE2 := EC_fr hE1 o1
          obtain ⟨k32, k42, k62, r02, r12⟩ := c_k4 hE2
          have fM2 : fCo D M M2 := (f1.co (D := D)).trans o1 (by omega)
          have ht2 : ∀ q, q < 4 → zL M2 7 (4 * D + q) = t q := by
            intro q hq
            rw [o1.2.2.2.2.2.2 (4 * D + q) (by omega), f1.2.2.2.1]
            exact ht q hq
          obtain ⟨M3, e3, g1, g2, g3, g4⟩ := ts_joinTwo (d := d) (D := D) (x := 1) (M := M2) (t := t) (u := x.1) (by omega) hE2.1 (by omega) (by omega) o6 ht2 o7
          have hE3 := EC_fr hE2 g1
          obtain ⟨M', b', e4, ho4⟩ := ih d x.2 D M3 (anT t x.1) (by omega) hd hE3 (cTok_I o4 g2) o5 o3 g3 (fun q hq => by rw [g4 q hq]; rfl) hDc hc1
          refine ⟨M', b', ?_, OutC_pre (fM2.trans g1 (Nat.le_refl D)) ho4⟩
          rw [← e4, zg_Re_readAllOf_12]
          unfold zx_Re_readAllOf_12
          have hx : 200 - (f + 1) + 1 = 200 - f := by omega
          clear ih hP hE hE1 hc hc1' f1 hk ht o1 hE2 fM2 o4 o7 g1 g2 g4 hE3 e4 ht2 ho4
          simp (disch := omega) only [il, nI_add, nI_mul, nI_sub, nI_div, nI_rem, nI_N, i32_lt, i32_le, nI_toInt, nI_subI, nI_clamp, zinT, zifT, iteT, iteF, zQ, zS, zkc, zI_sI, zL_sL, zI_wI, zL_wL, Nat.reduceEqDiff, Nat.reduceAdd, Nat.reduceMul, Nat.reduceLT, Nat.reduceLeDiff, reduceIte, eq_self, and_self, true_and, and_true, false_and, and_false, true_or, or_true, or_false, false_or, not_true_eq_false, not_false_eq_true, zarr, ne_eq, k3, k4, r0, cop, e1, k31, e2, k32, k62, r12, e3, hx]
    · have es : sAlL (tok β N) pt R (f + 1) t i = .inr (t, i) := if_neg hop
      rw [es]
      have nop : ¬ zI M 4 3 = nI 38 := by rw [c3]; exact nI_ne (by omega) (by omega) hop
      refine ⟨M, nI 1, ?_, fCo_rfl D M, rfl, hi, hc, h3, hD, ht⟩
      rw [zg_Re_readAllOf_12]
      unfold zx_Re_readAllOf_12
      clear ih hP hE hc ht hk
      simp (disch := omega) only [il, nI_add, nI_mul, nI_sub, nI_div, nI_rem, nI_N, i32_lt, i32_le, nI_toInt, nI_subI, nI_clamp, zinT, zifT, iteT, iteF, zQ, zS, zkc, zI_sI, zL_sL, zI_wI, zL_wL, Nat.reduceEqDiff, Nat.reduceAdd, Nat.reduceMul, Nat.reduceLT, Nat.reduceLeDiff, reduceIte, eq_self, and_self, true_and, and_true, false_and, and_false, true_or, or_true, or_false, false_or, not_true_eq_false, not_false_eq_true, zarr, ne_eq, k3, k4, r0, nop]
theorem re_all {L w N n c d0 : Nat} {β : Nat → Nat} {pt : Nat → Int64} {R : Option (Nat → Rs T4)} (hk : tkOk (tok β N) N) (hc1 : 1 ≤ c) (hd0 : 3 ≤ d0) (hP : RM n_Re_readCondition L w N β pt n c d0 (sNeg (tok β N) pt R 200 false)) : RM n_Re_readAllOf L w N β pt n (c + 1) (d0 + 1) (sAl (tok β N) pt R) := by
  intro d i D M hd hE hc h3 hi hD hDc
  obtain ⟨d, rfl, hd1⟩ := zdep (show d0 + 1 ≤ d by omega)
  obtain ⟨k3, k4, k6, r0, r1⟩ := c_k4 hE
  obtain ⟨M1, b, e1, ho⟩ := hP d i D M hd1 hE hc h3 hi hD (by omega)
  rw [ze_Re_readAllOf]
  unfold zx_Re_readAllOf sAl
  cases hrr : sNeg (tok β N) pt R 200 false i with
  | inl e =>
    rw [hrr] at ho
    obtain ⟨o1, o2, o3, o4, o5, o6⟩ := ho
    have hE1 := EC_fr hE o1
    rcases o6 with rfl | ⟨rfl, o7, o8⟩
    · refine ⟨M1, nI 0, ?_, o1, o2, o3, o4, o5, Or.inl rfl⟩
      clear hE hc hk hP o1 hE1 o4 o5
      simp (disch := omega) only [il, nI_add, nI_mul, nI_sub, nI_div, nI_rem, nI_N, i32_lt, i32_le, nI_toInt, nI_subI, nI_clamp, zinT, zifT, iteT, iteF, zQ, zS, zkc, zI_sI, zL_sL, zI_wI, zL_wL, Nat.reduceEqDiff, Nat.reduceAdd, Nat.reduceMul, Nat.reduceLT, Nat.reduceLeDiff, reduceIte, eq_self, and_self, true_and, and_true, false_and, and_false, true_or, or_true, or_false, false_or, not_true_eq_false, not_false_eq_true, zarr, ne_eq, k3, e1]
    · have e4 := re_all_bad1 (d := d) (n := n) (f := 0) (x2 := 0) hE1 o7 (by omega)
      refine ⟨M1, nI 1, ?_, o1, o2, o3, o4, o5, Or.inr ⟨rfl, o7, o8⟩⟩
      clear hE hc hk hP o1 hE1 o4 o5
      simp (disch := omega) only [il, nI_add, nI_mul, nI_sub, nI_div, nI_rem, nI_N, i32_lt, i32_le, nI_toInt, nI_subI, nI_clamp, zinT, zifT, iteT, iteF, zQ, zS, zkc, zI_sI, zL_sL, zI_wI, zL_wL, Nat.reduceEqDiff, Nat.reduceAdd, Nat.reduceMul, Nat.reduceLT, Nat.reduceLeDiff, reduceIte, eq_self, and_self, true_and, and_true, false_and, and_false, true_or, or_true, or_false, false_or, not_true_eq_false, not_false_eq_true, zarr, ne_eq, k3, e1, e4]
  | inr x =>
    rw [hrr] at ho
    obtain ⟨o1, o2, o3, o4, o5, o6, o7⟩ := ho
    subst o2
    have hE1 := EC_fr hE o1
    obtain ⟨M', b', e4, ho4⟩ := re_all_go hk hd0 hP 200 d x.2 D M1 x.1 (Nat.le_refl _) hd1 hE1 o4 o5 o3 o6 o7 (by omega) hc1
    refine ⟨M', b', ?_, OutC_pre o1 ho4⟩
    rw [← e4]
    clear hE hc hk hP o1 hE1 o4 o7 e4 ho4
    simp (disch := omega) only [il, nI_add, nI_mul, nI_sub, nI_div, nI_rem, nI_N, i32_lt, i32_le, nI_toInt, nI_subI, nI_clamp, zinT, zifT, iteT, iteF, zQ, zS, zkc, zI_sI, zL_sL, zI_wI, zL_wL, Nat.reduceEqDiff, Nat.reduceAdd, Nat.reduceMul, Nat.reduceLT, Nat.reduceLeDiff, reduceIte, eq_self, and_self, true_and, and_true, false_and, and_false, true_or, or_true, or_false, false_or, not_true_eq_false, not_false_eq_true, zarr, ne_eq, k3, e1]
theorem re_any_bad1 {d L w N f n x2 : Nat} {β : Nat → Nat} {pt : Nat → Int64} {M : zM} (h : EC L w N β pt M) (h3 : zI M 4 3 = nI 3) (hx : x2 ≤ 200) : zG d n_Re_readAnyOf 12 [some (.ref 3), some (.int (nI n)), some (.int (nI x2))] [] M = some (some (.int (nI 1)), M) := by
  obtain ⟨k3, k4, k6, r0, r1⟩ := c_k4 h
  rw [zg_Re_readAnyOf_12]
  unfold zx_Re_readAnyOf_12
  clear h
  by_cases h200 : x2 = 200
  · subst h200
    simp (disch := omega) only [il, nI_add, nI_mul, nI_sub, nI_div, nI_rem, nI_N, i32_lt, i32_le, nI_toInt, nI_subI, nI_clamp, zinT, zifT, iteT, iteF, zQ, zS, zkc, zI_sI, zL_sL, zI_wI, zL_wL, Nat.reduceEqDiff, Nat.reduceAdd, Nat.reduceMul, Nat.reduceLT, Nat.reduceLeDiff, reduceIte, eq_self, and_self, true_and, and_true, false_and, and_false, true_or, or_true, or_false, false_or, not_true_eq_false, not_false_eq_true, zarr, ne_eq]
  · simp (disch := omega) only [il, nI_add, nI_mul, nI_sub, nI_div, nI_rem, nI_N, i32_lt, i32_le, nI_toInt, nI_subI, nI_clamp, zinT, zifT, iteT, iteF, zQ, zS, zkc, zI_sI, zL_sL, zI_wI, zL_wL, Nat.reduceEqDiff, Nat.reduceAdd, Nat.reduceMul, Nat.reduceLT, Nat.reduceLeDiff, reduceIte, eq_self, and_self, true_and, and_true, false_and, and_false, true_or, or_true, or_false, false_or, not_true_eq_false, not_false_eq_true, zarr, ne_eq, k3, k4, r0, h3]
theorem re_any_go {L w N n c d0 : Nat} {β : Nat → Nat} {pt : Nat → Int64} {R : Option (Nat → Rs T4)} (hk : tkOk (tok β N) N) (hd0 : 4 ≤ d0) (hP : RM n_Re_readAllOf L w N β pt n c d0 (sAl (tok β N) pt R)) : ∀ f d i D M t, f ≤ 200 → d0 ≤ d → EC L w N β pt M → cTok (tok β N i) M → (tok β N i).1 ≠ 3 → i ≤ N → zI M 6 1 = nI (D + 1) → (∀ q, q < 4 → zL M 7 (4 * D + q) = t q) → D + 1 + c ≤ 19 → 1 ≤ c → ∃ M' b, zG d n_Re_readAnyOf 12 [some (.ref 3), some (.int (nI n)), some (.int (nI (200 - f)))] [] M = some (some (.int b), M') ∧ OutC (tok β N) N D M M' b (sAnL (tok β N) pt R f t i) := by
  intro f
  induction f with
  | zero =>
    intro d i D M t hf hd hE hc h3 hi hD ht hDc hc1
    refine ⟨M, nI 1, ?_, fCo_rfl D M, rfl, hi, hc, h3, hD, ht⟩
    rw [zg_Re_readAnyOf_12]
    unfold zx_Re_readAnyOf_12
    clear hP hE hc ht hk
    simp (disch := omega) only [il, nI_add, nI_mul, nI_sub, nI_div, nI_rem, nI_N, i32_lt, i32_le, nI_toInt, nI_subI, nI_clamp, zinT, zifT, iteT, iteF, zQ, zS, zkc, zI_sI, zL_sL, zI_wI, zL_wL, Nat.reduceEqDiff, Nat.reduceAdd, Nat.reduceMul, Nat.reduceLT, Nat.reduceLeDiff, reduceIte, eq_self, and_self, true_and, and_true, false_and, and_false, true_or, or_true, or_false, false_or, not_true_eq_false, not_false_eq_true, zarr, ne_eq]
  | succ f ih =>
    intro d i D M t hf hd hE hc h3 hi hD ht hDc hc1
    obtain ⟨k3, k4, k6, r0, r1⟩ := c_k4 hE
    obtain ⟨c6, c3, c5⟩ := cTok_ok hc h3
    have hkd := (hk i hi).2.2.2.2.2.1
    by_cases hop : (tok β N i).1 = 124
    · have es : sAnL (tok β N) pt R (f + 1) t i = nxt (tok β N) i (fun j => rb (sAl (tok β N) pt R j) (fun u k => sAnL (tok β N) pt R f (orT t u) k)) := if_pos hop
      rw [es]
      have cop : zI M 4 3 = nI 124 := by rw [c3, hop]
      obtain ⟨M1, e1, f1, hc1'⟩ := c_adv (d := d) (by omega) hE hk hc h3 hi
      have hE1 := EC_fr hE (f1.co (D := D))
      obtain ⟨k31, k41, k61, r01, r11⟩ := c_k4 hE1
      have hD1 : zI M1 6 1 = nI (D + 1) := by rw [f1.2.2.2.2.1 6 (by omega)]; exact hD
      by_cases hb : (tok β N (tok β N i).2.2.2).1 = 3
      · rw [nxt_t hb]
        obtain ⟨b1, b2, b3⟩ := cTok_bad hc1' hb
        have e2 := re_all_bad (d := d) (n := n) (by omega) hE1 b1 b2 (by omega) (by omega)
        refine ⟨M1, nI 0, ?_, f1.co, Nat.zero_lt_one, (show 1 < 10 by decide), b2, b3, Or.inl rfl⟩
        rw [zg_Re_readAnyOf_12]
        unfold zx_Re_readAnyOf_12
        clear ih hP hE hE1 hc hc1' f1 hk ht
        simp (disch := omega) only [il, nI_add, nI_mul, nI_sub, nI_div, nI_rem, nI_N, i32_lt, i32_le, nI_toInt, nI_subI, nI_clamp, zinT, zifT, iteT, iteF, zQ, zS, zkc, zI_sI, zL_sL, zI_wI, zL_wL, Nat.reduceEqDiff, Nat.reduceAdd, Nat.reduceMul, Nat.reduceLT, Nat.reduceLeDiff, reduceIte, eq_self, and_self, true_and, and_true, false_and, and_false, true_or, or_true, or_false, false_or, not_true_eq_false, not_false_eq_true, zarr, ne_eq, k3, k4, r0, cop, e1, k31, e2]
      · rw [nxt_f hb]
        obtain ⟨M2, b, e2, ho⟩ := hP d _ (D + 1) M1 hd hE1 hc1' hb (hk i hi).1 hD1 (by omega)
        cases hrr : sAl (tok β N) pt R (tok β N i).2.2.2 with
        | inl e =>
          rw [hrr] at ho
          obtain ⟨o1, o2, o3, o4, o5, o6⟩ := ho
          have hE2 := EC_fr hE1 o1
          obtain ⟨k32, k42, k62, r02, r12⟩ := c_k4 hE2
          have fM2 : fCo D M M2 := (f1.co (D := D)).trans o1 (by omega)
          rcases o6 with rfl | ⟨rfl, o7, o8⟩
          · refine ⟨M2, nI 0, ?_, fM2, o2, o3, o4, o5, Or.inl rfl⟩
            rw [zg_Re_readAnyOf_12]
            unfold zx_Re_readAnyOf_12
            clear ih hP hE hE1 hc hc1' f1 hk ht o1 hE2 fM2 o4 o5
            simp (disch := omega) only [il, nI_add, nI_mul, nI_sub, nI_div, nI_rem, nI_N, i32_lt, i32_le, nI_toInt, nI_subI, nI_clamp, zinT, zifT, iteT, iteF, zQ, zS, zkc, zI_sI, zL_sL, zI_wI, zL_wL, Nat.reduceEqDiff, Nat.reduceAdd, Nat.reduceMul, Nat.reduceLT, Nat.reduceLeDiff, reduceIte, eq_self, and_self, true_and, and_true, false_and, and_false, true_or, or_true, or_false, false_or, not_true_eq_false, not_false_eq_true, zarr, ne_eq, k3, k4, r0, cop, e1, k31, e2]
          · obtain ⟨M3, e3, g1, g2, g3, g4⟩ := ts_joinTwo (d := d) (D := D) (x := 0) (M := M2) (t := fun q => zL M2 7 (4 * D + q)) (u := fun q => zL M2 7 (4 * (D + 1) + q)) (by omega) hE2.1 (by omega) (by omega) o8 (fun _ _ => rfl) (fun _ _ => rfl)
            have hE3 := EC_fr hE2 g1
            have e4 := re_any_bad1 (d := d) (n := n) (f := 0) (x2 := 200 - f) hE3 (by rw [g2]; exact o7) (by omega)
            refine ⟨M3, nI 1, ?_, fM2.trans g1 (Nat.le_refl D), o2, o3, by rw [g2]; exact o4, by rw [g2]; exact o5, Or.inr ⟨rfl, by rw [g2]; exact o7, g3⟩⟩
            rw [← e4, zg_Re_readAnyOf_12]
            unfold zx_Re_readAnyOf_12
            have hx : 200 - (f + 1) + 1 = 200 - f := by omega
            clear ih hP hE hE1 hc hc1' f1 hk ht o1 hE2 fM2 o4 o5 g1 g2 g4 hE3 e4
            simp (disch := omega) only [il, nI_add, nI_mul, nI_sub, nI_div, nI_rem, nI_N, i32_lt, i32_le, nI_toInt, nI_subI, nI_clamp, zinT, zifT, iteT, iteF, zQ, zS, zkc, zI_sI, zL_sL, zI_wI, zL_wL, Nat.reduceEqDiff, Nat.reduceAdd, Nat.reduceMul, Nat.reduceLT, Nat.reduceLeDiff, reduceIte, eq_self, and_self, true_and, and_true, false_and, and_false, true_or, or_true, or_false, false_or, not_true_eq_false, not_false_eq_true, zarr, ne_eq, k3, k4, r0, cop, e1, k31, e2, k32, k62, r12, e3, hx]
        | inr x =>
          rw [hrr] at ho
          obtain ⟨o1, o2, o3, o4, o5, o6, o7⟩ := ho
          subst o2
          have hE2 := EC_fr hE1 o1
          obtain ⟨k32, k42, k62, r02, r12⟩ := c_k4 hE2
          have fM2 : fCo D M M2 := (f1.co (D := D)).trans o1 (by omega)
          have ht2 : ∀ q, q < 4 → zL M2 7 (4 * D + q) = t q := by
            intro q hq
            rw [o1.2.2.2.2.2.2 (4 * D + q) (by omega), f1.2.2.2.1]
            exact ht q hq
          obtain ⟨M3, e3, g1, g2, g3, g4⟩ := ts_joinTwo (d := d) (D := D) (x := 0) (M := M2) (t := t) (u := x.1) (by omega) hE2.1 (by omega) (by omega) o6 ht2 o7
          have hE3 := EC_fr hE2 g1
          obtain ⟨M', b', e4, ho4⟩ := ih d x.2 D M3 (orT t x.1) (by omega) hd hE3 (cTok_I o4 g2) o5 o3 g3 (fun q hq => by rw [g4 q hq]; rfl) hDc hc1
          refine ⟨M', b', ?_, OutC_pre (fM2.trans g1 (Nat.le_refl D)) ho4⟩
          rw [← e4, zg_Re_readAnyOf_12]
          unfold zx_Re_readAnyOf_12
          have hx : 200 - (f + 1) + 1 = 200 - f := by omega
          clear ih hP hE hE1 hc hc1' f1 hk ht o1 hE2 fM2 o4 o7 g1 g2 g4 hE3 e4 ht2 ho4
          simp (disch := omega) only [il, nI_add, nI_mul, nI_sub, nI_div, nI_rem, nI_N, i32_lt, i32_le, nI_toInt, nI_subI, nI_clamp, zinT, zifT, iteT, iteF, zQ, zS, zkc, zI_sI, zL_sL, zI_wI, zL_wL, Nat.reduceEqDiff, Nat.reduceAdd, Nat.reduceMul, Nat.reduceLT, Nat.reduceLeDiff, reduceIte, eq_self, and_self, true_and, and_true, false_and, and_false, true_or, or_true, or_false, false_or, not_true_eq_false, not_false_eq_true, zarr, ne_eq, k3, k4, r0, cop, e1, k31, e2, k32, k62, r12, e3, hx]
    · have es : sAnL (tok β N) pt R (f + 1) t i = .inr (t, i) := if_neg hop
      rw [es]
      have nop : ¬ zI M 4 3 = nI 124 := by rw [c3]; exact nI_ne (by omega) (by omega) hop
      refine ⟨M, nI 1, ?_, fCo_rfl D M, rfl, hi, hc, h3, hD, ht⟩
      rw [zg_Re_readAnyOf_12]
      unfold zx_Re_readAnyOf_12
      clear ih hP hE hc ht hk
      simp (disch := omega) only [il, nI_add, nI_mul, nI_sub, nI_div, nI_rem, nI_N, i32_lt, i32_le, nI_toInt, nI_subI, nI_clamp, zinT, zifT, iteT, iteF, zQ, zS, zkc, zI_sI, zL_sL, zI_wI, zL_wL, Nat.reduceEqDiff, Nat.reduceAdd, Nat.reduceMul, Nat.reduceLT, Nat.reduceLeDiff, reduceIte, eq_self, and_self, true_and, and_true, false_and, and_false, true_or, or_true, or_false, false_or, not_true_eq_false, not_false_eq_true, zarr, ne_eq, k3, k4, r0, nop]
theorem re_any {L w N n c d0 : Nat} {β : Nat → Nat} {pt : Nat → Int64} {R : Option (Nat → Rs T4)} (hk : tkOk (tok β N) N) (hc1 : 1 ≤ c) (hd0 : 4 ≤ d0) (hP : RM n_Re_readAllOf L w N β pt n c d0 (sAl (tok β N) pt R)) : RM n_Re_readAnyOf L w N β pt n (c + 1) (d0 + 1) (sAnB (tok β N) pt R) := by
  intro d i D M hd hE hc h3 hi hD hDc
  obtain ⟨d, rfl, hd1⟩ := zdep (show d0 + 1 ≤ d by omega)
  obtain ⟨k3, k4, k6, r0, r1⟩ := c_k4 hE
  obtain ⟨M1, b, e1, ho⟩ := hP d i D M hd1 hE hc h3 hi hD (by omega)
  rw [ze_Re_readAnyOf]
  unfold zx_Re_readAnyOf sAnB
  cases hrr : sAl (tok β N) pt R i with
  | inl e =>
    rw [hrr] at ho
    obtain ⟨o1, o2, o3, o4, o5, o6⟩ := ho
    have hE1 := EC_fr hE o1
    rcases o6 with rfl | ⟨rfl, o7, o8⟩
    · refine ⟨M1, nI 0, ?_, o1, o2, o3, o4, o5, Or.inl rfl⟩
      clear hE hc hk hP o1 hE1 o4 o5
      simp (disch := omega) only [il, nI_add, nI_mul, nI_sub, nI_div, nI_rem, nI_N, i32_lt, i32_le, nI_toInt, nI_subI, nI_clamp, zinT, zifT, iteT, iteF, zQ, zS, zkc, zI_sI, zL_sL, zI_wI, zL_wL, Nat.reduceEqDiff, Nat.reduceAdd, Nat.reduceMul, Nat.reduceLT, Nat.reduceLeDiff, reduceIte, eq_self, and_self, true_and, and_true, false_and, and_false, true_or, or_true, or_false, false_or, not_true_eq_false, not_false_eq_true, zarr, ne_eq, k3, e1]
    · have e4 := re_any_bad1 (d := d) (n := n) (f := 0) (x2 := 0) hE1 o7 (by omega)
      refine ⟨M1, nI 1, ?_, o1, o2, o3, o4, o5, Or.inr ⟨rfl, o7, o8⟩⟩
      clear hE hc hk hP o1 hE1 o4 o5
      simp (disch := omega) only [il, nI_add, nI_mul, nI_sub, nI_div, nI_rem, nI_N, i32_lt, i32_le, nI_toInt, nI_subI, nI_clamp, zinT, zifT, iteT, iteF, zQ, zS, zkc, zI_sI, zL_sL, zI_wI, zL_wL, Nat.reduceEqDiff, Nat.reduceAdd, Nat.reduceMul, Nat.reduceLT, Nat.reduceLeDiff, reduceIte, eq_self, and_self, true_and, and_true, false_and, and_false, true_or, or_true, or_false, false_or, not_true_eq_false, not_false_eq_true, zarr, ne_eq, k3, e1, e4]
  | inr x =>
    rw [hrr] at ho
    obtain ⟨o1, o2, o3, o4, o5, o6, o7⟩ := ho
    subst o2
    have hE1 := EC_fr hE o1
    obtain ⟨M', b', e4, ho4⟩ := re_any_go hk hd0 hP 200 d x.2 D M1 x.1 (Nat.le_refl _) hd1 hE1 o4 o5 o3 o6 o7 (by omega) hc1
    refine ⟨M', b', ?_, OutC_pre o1 ho4⟩
    rw [← e4]
    clear hE hc hk hP o1 hE1 o4 o7 e4 ho4
    simp (disch := omega) only [il, nI_add, nI_mul, nI_sub, nI_div, nI_rem, nI_N, i32_lt, i32_le, nI_toInt, nI_subI, nI_clamp, zinT, zifT, iteT, iteF, zQ, zS, zkc, zI_sI, zL_sL, zI_wI, zL_wL, Nat.reduceEqDiff, Nat.reduceAdd, Nat.reduceMul, Nat.reduceLT, Nat.reduceLeDiff, reduceIte, eq_self, and_self, true_and, and_true, false_and, and_false, true_or, or_true, or_false, false_or, not_true_eq_false, not_false_eq_true, zarr, ne_eq, k3, e1]
/-- the class reads conditions, at every depth -/
theorem re_any_all {L w N : Nat} {β : Nat → Nat} {pt : Nat → Int64} (hk : tkOk (tok β N) N) : ∀ k n, n + k = 8 → RM n_Re_readPlain L w N β pt n (2 * k + 1) (4 * k + 6) (sPl (tok β N) pt (rK (tok β N) pt k)) ∧ RM n_Re_readAnyOf L w N β pt n (2 * k + 3) (4 * k + 9) (sAn (tok β N) pt k) := by
  intro k
  induction k with
  | zero =>
    intro n hn
    have hp : RM n_Re_readPlain L w N β pt n (2 * 0 + 1) (4 * 0 + 6) (sPl (tok β N) pt (rK (tok β N) pt 0)) := by
      have := re_plain (L := L) (w := w) (N := N) (n := n) (d0 := 5) (β := β) (pt := pt) (R := none) hk (by omega) (by omega) (Or.inl ⟨by omega, rfl⟩)
      rw [show 8 - n = 0 by omega] at this
      exact this
    refine ⟨hp, ?_⟩
    rw [sAn_eq]
    exact re_any hk (by omega) (by omega) (re_all hk (by omega) (by omega) (re_cond hk (by omega) (by omega) hp))
  | succ k ih =>
    intro n hn
    have hp : RM n_Re_readPlain L w N β pt n (2 * (k + 1) + 1) (4 * (k + 1) + 6) (sPl (tok β N) pt (rK (tok β N) pt (k + 1))) := by
      have h1 := (ih (n + 1) (by omega)).2
      have := re_plain (L := L) (w := w) (N := N) (n := n) (d0 := 4 * k + 9) (β := β) (pt := pt) (R := some (sAn (tok β N) pt k)) hk (by omega) (by omega) (Or.inr ⟨by omega, _, rfl, by rw [show 2 * (8 - n) + 1 = 2 * k + 3 by omega]; exact h1⟩)
      rw [show 8 - n = k + 1 by omega] at this
      exact this
    refine ⟨hp, ?_⟩
    rw [sAn_eq]
    exact re_any hk (by omega) (by omega) (re_all hk (by omega) (by omega) (re_cond hk (by omega) (by omega) hp))
theorem re_condition {L w N : Nat} {β : Nat → Nat} {pt : Nat → Int64} (hk : tkOk (tok β N) N) (k n : Nat) (hn : n + k = 8) : RM n_Re_readCondition L w N β pt n (2 * k + 1) (4 * k + 7) (sNeg (tok β N) pt (rK (tok β N) pt k) 200 false) := re_cond hk (by omega) (by omega) (re_any_all hk k n hn).1
