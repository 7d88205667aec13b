/-! the class reads sequences -/
theorem re_chain_bad1 {d L w N n x2 : Nat} {β : Nat → Nat} {pt : Nat → Int64} {M : zM} (h : EC L w N β pt M) (h3 : zI M 4 3 = nI 3) (hx : x2 ≤ 200) : zG d n_Re_readChain 12 [some (.ref 3), some (.int (nI n)), some (.int (nI x2))] [] M = some (some (.int (nI 1)), M) := by
  obtain ⟨k3, k4, k6, r0, r1⟩ := c_k4 h
  rw [zg_Re_readChain_12]
  unfold zx_Re_readChain_12
  clear h
  by_cases h200 : x2 = 200
  · subst h200
    simp (disch := omega) only [il, nI_add, nI_mul, nI_sub, nI_div, nI_rem, nI_N, i32_lt, i32_le, nI_toInt, nI_subI, nI_clamp, zinT, zifT, iteT, iteF, zQ, zS, zkc, zI_sI, zL_sL, zI_wI, zL_wL, Nat.reduceEqDiff, Nat.reduceAdd, Nat.reduceMul, Nat.reduceLT, Nat.reduceLeDiff, reduceIte, eq_self, and_self, true_and, and_true, false_and, and_false, true_or, or_true, or_false, false_or, not_true_eq_false, not_false_eq_true, zarr, ne_eq]
  · simp (disch := omega) only [il, nI_add, nI_mul, nI_sub, nI_div, nI_rem, nI_N, i32_lt, i32_le, nI_toInt, nI_subI, nI_clamp, zinT, zifT, iteT, iteF, zQ, zS, zkc, zI_sI, zL_sL, zI_wI, zL_wL, Nat.reduceEqDiff, Nat.reduceAdd, Nat.reduceMul, Nat.reduceLT, Nat.reduceLeDiff, reduceIte, eq_self, and_self, true_and, and_true, false_and, and_false, true_or, or_true, or_false, false_or, not_true_eq_false, not_false_eq_true, zarr, ne_eq, k3, k4, r0, h3]
set_option maxHeartbeats 4000000 in
theorem re_chain_go {L w N n s c d0 : Nat} {β : Nat → Nat} {pt : Nat → Int64} {R : Option (Nat → Rs Pc)} {C : Nat → Rs T4} (hk : tkOk (tok β N) N) (hs26 : 26 ≤ s) (hc1 : 1 ≤ c) (hd0 : 6 ≤ d0) (hP : RB n_Re_readRepeated L w N β pt s n c d0 (sRp (tok β N) R C)) : ∀ f d i l M x, f ≤ 200 → d0 ≤ d → EC L w N β pt M → zSeq M s → cTok (tok β N i) M → (tok β N i).1 ≠ 3 → i ≤ N → zI M 6 1 = nI 0 → Bst s (l ++ [x]) M → l.length + 1 + c ≤ 19 → ∃ M' b, zG d n_Re_readChain 12 [some (.ref 3), some (.int (nI n)), some (.int (nI (200 - f)))] [] M = some (some (.int b), M') ∧ OutB (tok β N) N s l M M' b (sChL (tok β N) R C f x i) := by
  intro f
  induction f with
  | zero =>
    intro d i l M x hf hd hE hq hc h3 hi hD hB hDc
    refine ⟨M, nI 1, ?_, fBu_rfl s M, rfl, hi, hc, h3, hD, hB⟩
    rw [zg_Re_readChain_12]
    unfold zx_Re_readChain_12
    clear hP hE hc hk hB
    simp (disch := omega) only [il, nI_add, nI_mul, nI_sub, nI_div, nI_rem, nI_N, i32_lt, i32_le, nI_toInt, nI_subI, nI_clamp, zinT, zifT, iteT, iteF, zQ, zS, zkc, zI_sI, zL_sL, zI_wI, zL_wL, Nat.reduceEqDiff, Nat.reduceAdd, Nat.reduceMul, Nat.reduceLT, Nat.reduceLeDiff, reduceIte, eq_self, and_self, true_and, and_true, false_and, and_false, true_or, or_true, or_false, false_or, not_true_eq_false, not_false_eq_true, zarr, ne_eq, Nat.sub_zero]
  | succ f ih =>
    intro d i l M x hf hd hE hq hc h3 hi hD hB hDc
    obtain ⟨k3, k4, k6, r0, r1⟩ := c_k4 hE
    obtain ⟨c6, c3, c5⟩ := cTok_ok hc h3
    have hki := hk i hi
    have hx : 200 - (f + 1) + 1 = 200 - f := by omega
    by_cases hop : (tok β N i).1 = 44
    · have es : sChL (tok β N) R C (f + 1) x i = nxt (tok β N) i (fun j => rb (sRp (tok β N) R C j) (fun y k => sChL (tok β N) R C f (chP x y) k)) := if_pos hop
      rw [es]
      have cop : zI M 4 3 = nI 44 := by rw [c3, hop]
      obtain ⟨M1, e1, f1, hc1'⟩ := c_adv (d := d) (by omega) hE hk hc h3 hi
      have hE1 := EC_fr hE (f1.co (D := 0))
      obtain ⟨k31, k41, k61, r01, r11⟩ := c_k4 hE1
      have hD1 : zI M1 6 1 = nI 0 := by rw [f1.2.2.2.2.1 6 (by omega)]; exact hD
      by_cases hb : (tok β N (tok β N i).2.2.2).1 = 3
      · rw [nxt_t hb]
        obtain ⟨b1, b2, b3⟩ := cTok_bad hc1' hb
        have e2 := re_rep_bad (d := d) (n := n) (by omega) hE1 b1 b2 (by omega) (by omega)
        refine ⟨M1, nI 0, ?_, f1.bu, Nat.zero_lt_one, (show 1 < 10 by decide), b2, b3, Or.inl rfl⟩
        rw [zg_Re_readChain_12]
        unfold zx_Re_readChain_12
        clear ih hP hE hE1 hc hc1' f1 hk hB hki es
        simp (disch := omega) only [il, nI_add, nI_mul, nI_sub, nI_div, nI_rem, nI_N, i32_lt, i32_le, nI_toInt, nI_subI, nI_clamp, zinT, zifT, iteT, iteF, zQ, zS, zkc, zI_sI, zL_sL, zI_wI, zL_wL, Nat.reduceEqDiff, Nat.reduceAdd, Nat.reduceMul, Nat.reduceLT, Nat.reduceLeDiff, reduceIte, eq_self, and_self, true_and, and_true, false_and, and_false, true_or, or_true, or_false, false_or, not_true_eq_false, not_false_eq_true, zarr, ne_eq, k3, k4, r0, cop, e1, k31, e2]
      · rw [nxt_f hb]
        obtain ⟨M2, b, e2, ho⟩ := hP d _ (l ++ [x]) M1 hd hE1 (zSeq_fr hq f1.2.1 f1.2.2.1) hc1' hb hki.1 hD1 (Bst_co (D := 0) hs26 hB f1.co) (by rw [List.length_append]; exact hDc)
        cases hrr : sRp (tok β N) R C (tok β N i).2.2.2 with
        | inl e =>
          rw [hrr] at ho
          obtain ⟨o1, o2, o3, o4, o5, o6⟩ := ho
          have hE2 := EC_bu hs26 hE1 o1
          obtain ⟨k32, k42, k62, r02, r12⟩ := c_k4 hE2
          obtain ⟨k82, r22⟩ := c_k8 hE2
          have fM2 : fBu s M M2 := f1.bu.trans o1
          rcases o6 with rfl | ⟨rfl, o7, o8, y, o9⟩
          · refine ⟨M2, nI 0, ?_, fM2, o2, o3, o4, o5, Or.inl rfl⟩
            rw [zg_Re_readChain_12]
            unfold zx_Re_readChain_12
            clear ih hP hE hE1 hc hc1' f1 hk hB hki es o1 hE2 fM2 o4 o5
            simp (disch := omega) only [il, nI_add, nI_mul, nI_sub, nI_div, nI_rem, nI_N, i32_lt, i32_le, nI_toInt, nI_subI, nI_clamp, zinT, zifT, iteT, iteF, zQ, zS, zkc, zI_sI, zL_sL, zI_wI, zL_wL, Nat.reduceEqDiff, Nat.reduceAdd, Nat.reduceMul, Nat.reduceLT, Nat.reduceLeDiff, reduceIte, eq_self, and_self, true_and, and_true, false_and, and_false, true_or, or_true, or_false, false_or, not_true_eq_false, not_false_eq_true, zarr, ne_eq, k3, k4, r0, cop, e1, k31, e2]
          · rw [List.append_assoc] at o9
            obtain ⟨M3, e3, g1, g2, g3, g4⟩ := bu_chain (d := d) (by omega) hE2.1 (zSeq_fr hq fM2.2.1 fM2.2.2.1) hs26 o9 (by omega)
            have hE3 := EC_bu hs26 hE2 g1
            have e4 := re_chain_bad1 (d := d) (n := n) (x2 := 200 - f) hE3 (by rw [g2]; exact o7) (by omega)
            refine ⟨M3, nI 1, ?_, fM2.trans g1, o2, o3, by rw [g2]; exact o4, by rw [g2]; exact o5, Or.inr ⟨rfl, by rw [g2]; exact o7, by rw [g3]; exact o8, _, g4⟩⟩
            rw [← e4, zg_Re_readChain_12]
            unfold zx_Re_readChain_12
            clear ih hP hE hE1 hc hc1' f1 hk hB hki es o1 hE2 fM2 o4 o5 o9 g1 g2 g3 g4 hE3 e4
            simp (disch := omega) only [il, nI_add, nI_mul, nI_sub, nI_div, nI_rem, nI_N, i32_lt, i32_le, nI_toInt, nI_subI, nI_clamp, zinT, zifT, iteT, iteF, zQ, zS, zkc, zI_sI, zL_sL, zI_wI, zL_wL, Nat.reduceEqDiff, Nat.reduceAdd, Nat.reduceMul, Nat.reduceLT, Nat.reduceLeDiff, reduceIte, eq_self, and_self, true_and, and_true, false_and, and_false, true_or, or_true, or_false, false_or, not_true_eq_false, not_false_eq_true, zarr, ne_eq, k3, k4, r0, cop, e1, k31, e2, k32, k82, r22, e3, hx]
        | inr z =>
          rw [hrr] at ho
          obtain ⟨o1, o2, o3, o4, o5, o6, o7⟩ := ho
          subst o2
          have hE2 := EC_bu hs26 hE1 o1
          obtain ⟨k32, k42, k62, r02, r12⟩ := c_k4 hE2
          obtain ⟨k82, r22⟩ := c_k8 hE2
          have fM2 : fBu s M M2 := f1.bu.trans o1
          rw [List.append_assoc] at o7
          obtain ⟨M3, e3, g1, g2, g3, g4⟩ := bu_chain (d := d) (by omega) hE2.1 (zSeq_fr hq fM2.2.1 fM2.2.2.1) hs26 o7 (by omega)
          have hE3 := EC_bu hs26 hE2 g1
          have fM3 := fM2.trans g1
          obtain ⟨M', b', e4, ho4⟩ := ih d z.2 l M3 (chP x z.1) (by omega) hd hE3 (zSeq_fr hq fM3.2.1 fM3.2.2.1) (cTok_I o4 g2) o5 o3 (by rw [g3]; exact o6) g4 hDc
          refine ⟨M', b', ?_, OutB_pre fM3 ho4⟩
          rw [← e4, zg_Re_readChain_12]
          unfold zx_Re_readChain_12
          clear ih hP hE hE1 hc hc1' f1 hk hB hki es o1 hE2 fM2 fM3 o4 o7 g1 g2 g3 g4 hE3 e4 ho4
          simp (disch := omega) only [il, nI_add, nI_mul, nI_sub, nI_div, nI_rem, nI_N, i32_lt, i32_le, nI_toInt, nI_subI, nI_clamp, zinT, zifT, iteT, iteF, zQ, zS, zkc, zI_sI, zL_sL, zI_wI, zL_wL, Nat.reduceEqDiff, Nat.reduceAdd, Nat.reduceMul, Nat.reduceLT, Nat.reduceLeDiff, reduceIte, eq_self, and_self, true_and, and_true, false_and, and_false, true_or, or_true, or_false, false_or, not_true_eq_false, not_false_eq_true, zarr, ne_eq, k3, k4, r0, cop, e1, k31, e2, k32, k82, r22, e3, hx]
    · have es : sChL (tok β N) R C (f + 1) x i = .inr (x, i) := if_neg hop
      rw [es]
      have nop : ¬ zI M 4 3 = nI 44 := by rw [c3]; exact nI_ne (by omega) (by omega) hop
      refine ⟨M, nI 1, ?_, fBu_rfl s M, rfl, hi, hc, h3, hD, hB⟩
      rw [zg_Re_readChain_12]
      unfold zx_Re_readChain_12
      clear ih hP hE hc hk hB hki es
      simp (disch := omega) only [il, nI_add, nI_mul, nI_sub, nI_div, nI_rem, nI_N, i32_lt, i32_le, nI_toInt, nI_subI, nI_clamp, zinT, zifT, iteT, iteF, zQ, zS, zkc, zI_sI, zL_sL, zI_wI, zL_wL, Nat.reduceEqDiff, Nat.reduceAdd, Nat.reduceMul, Nat.reduceLT, Nat.reduceLeDiff, reduceIte, eq_self, and_self, true_and, and_true, false_and, and_false, true_or, or_true, or_false, false_or, not_true_eq_false, not_false_eq_true, zarr, ne_eq, k3, k4, r0, nop]
theorem re_chain {L w N n s c d0 : Nat} {β : Nat → Nat} {pt : Nat → Int64} {R : Option (Nat → Rs Pc)} {C : Nat → Rs T4} (hk : tkOk (tok β N) N) (hs26 : 26 ≤ s) (hc1 : 1 ≤ c) (hd0 : 6 ≤ d0) (hP : RB n_Re_readRepeated L w N β pt s n c d0 (sRp (tok β N) R C)) : RB n_Re_readChain L w N β pt s n (c + 1) (d0 + 1) (sCh (tok β N) R C) := by
  intro d i l M hd hE hq hc h3 hi hD hB hDc
  obtain ⟨d, rfl, hd1⟩ := zdep (show d0 + 1 ≤ d by omega)
  obtain ⟨k3, k4, k6, r0, r1⟩ := c_k4 hE
  obtain ⟨M1, b, e1, ho⟩ := hP d i l M hd1 hE hq hc h3 hi hD hB (by omega)
  rw [ze_Re_readChain]
  unfold zx_Re_readChain sCh
  cases hrr : sRp (tok β N) R C i with
  | inl e =>
    rw [hrr] at ho
    obtain ⟨o1, o2, o3, o4, o5, o6⟩ := ho
    have hE1 := EC_bu hs26 hE o1
    rcases o6 with rfl | ⟨rfl, o7, o8, o9⟩
    · refine ⟨M1, nI 0, ?_, o1, o2, o3, o4, o5, Or.inl rfl⟩
      clear hE hc hk hP o1 hE1 o4 o5 hB
      simp (disch := omega) only [il, nI_add, nI_mul, nI_sub, nI_div, nI_rem, nI_N, i32_lt, i32_le, nI_toInt, nI_subI, nI_clamp, zinT, zifT, iteT, iteF, zQ, zS, zkc, zI_sI, zL_sL, zI_wI, zL_wL, Nat.reduceEqDiff, Nat.reduceAdd, Nat.reduceMul, Nat.reduceLT, Nat.reduceLeDiff, reduceIte, eq_self, and_self, true_and, and_true, false_and, and_false, true_or, or_true, or_false, false_or, not_true_eq_false, not_false_eq_true, zarr, ne_eq, k3, e1]
    · have e4 := re_chain_bad1 (d := d) (n := n) (x2 := 0) hE1 o7 (by omega)
      refine ⟨M1, nI 1, ?_, o1, o2, o3, o4, o5, Or.inr ⟨rfl, o7, o8, o9⟩⟩
      clear hE hc hk hP o1 hE1 o4 o5 o9 hB
      simp (disch := omega) only [il, nI_add, nI_mul, nI_sub, nI_div, nI_rem, nI_N, i32_lt, i32_le, nI_toInt, nI_subI, nI_clamp, zinT, zifT, iteT, iteF, zQ, zS, zkc, zI_sI, zL_sL, zI_wI, zL_wL, Nat.reduceEqDiff, Nat.reduceAdd, Nat.reduceMul, Nat.reduceLT, Nat.reduceLeDiff, reduceIte, eq_self, and_self, true_and, and_true, false_and, and_false, true_or, or_true, or_false, false_or, not_true_eq_false, not_false_eq_true, zarr, ne_eq, k3, e1, e4]
  | inr z =>
    rw [hrr] at ho
    obtain ⟨o1, o2, o3, o4, o5, o6, o7⟩ := ho
    subst o2
    have hE1 := EC_bu hs26 hE o1
    obtain ⟨M', b', e4, ho4⟩ := re_chain_go hk hs26 hc1 hd0 hP 200 d z.2 l M1 z.1 (Nat.le_refl _) hd1 hE1 (zSeq_fr hq o1.2.1 o1.2.2.1) o4 o5 o3 o6 o7 (by omega)
    refine ⟨M', b', ?_, OutB_pre o1 ho4⟩
    rw [← e4]
    clear hE hc hk hP o1 hE1 o4 o7 e4 ho4 hB
    simp (disch := omega) only [il, nI_add, nI_mul, nI_sub, nI_div, nI_rem, nI_N, i32_lt, i32_le, nI_toInt, nI_subI, nI_clamp, zinT, zifT, iteT, iteF, zQ, zS, zkc, zI_sI, zL_sL, zI_wI, zL_wL, Nat.reduceEqDiff, Nat.reduceAdd, Nat.reduceMul, Nat.reduceLT, Nat.reduceLeDiff, reduceIte, eq_self, and_self, true_and, and_true, false_and, and_false, true_or, or_true, or_false, false_or, not_true_eq_false, not_false_eq_true, zarr, ne_eq, k3, e1]
theorem re_choice_bad1 {d L w N n x2 : Nat} {β : Nat → Nat} {pt : Nat → Int64} {M : zM} (h : EC L w N β pt M) (h3 : zI M 4 3 = nI 3) (hx : x2 ≤ 200) : zG d n_Re_readChoice 12 [some (.ref 3), some (.int (nI n)), some (.int (nI x2))] [] M = some (some (.int (nI 1)), M) := by
  obtain ⟨k3, k4, k6, r0, r1⟩ := c_k4 h
  rw [zg_Re_readChoice_12]
  unfold zx_Re_readChoice_12
  clear h
  by_cases h200 : x2 = 200
  · subst h200
    simp (disch := omega) only [il, nI_add, nI_mul, nI_sub, nI_div, nI_rem, nI_N, i32_lt, i32_le, nI_toInt, nI_subI, nI_clamp, zinT, zifT, iteT, iteF, zQ, zS, zkc, zI_sI, zL_sL, zI_wI, zL_wL, Nat.reduceEqDiff, Nat.reduceAdd, Nat.reduceMul, Nat.reduceLT, Nat.reduceLeDiff, reduceIte, eq_self, and_self, true_and, and_true, false_and, and_false, true_or, or_true, or_false, false_or, not_true_eq_false, not_false_eq_true, zarr, ne_eq]
  · simp (disch := omega) only [il, nI_add, nI_mul, nI_sub, nI_div, nI_rem, nI_N, i32_lt, i32_le, nI_toInt, nI_subI, nI_clamp, zinT, zifT, iteT, iteF, zQ, zS, zkc, zI_sI, zL_sL, zI_wI, zL_wL, Nat.reduceEqDiff, Nat.reduceAdd, Nat.reduceMul, Nat.reduceLT, Nat.reduceLeDiff, reduceIte, eq_self, and_self, true_and, and_true, false_and, and_false, true_or, or_true, or_false, false_or, not_true_eq_false, not_false_eq_true, zarr, ne_eq, k3, k4, r0, h3]
set_option maxHeartbeats 4000000 in
theorem re_choice_go {L w N n s c d0 : Nat} {β : Nat → Nat} {pt : Nat → Int64} {R : Option (Nat → Rs Pc)} {C : Nat → Rs T4} (hk : tkOk (tok β N) N) (hs26 : 26 ≤ s) (hc1 : 1 ≤ c) (hd0 : 6 ≤ d0) (hP : RB n_Re_readChain L w N β pt s n c d0 (sCh (tok β N) R C)) : ∀ f d i l M x, f ≤ 200 → d0 ≤ d → EC L w N β pt M → zSeq M s → cTok (tok β N i) M → (tok β N i).1 ≠ 3 → i ≤ N → zI M 6 1 = nI 0 → Bst s (l ++ [x]) M → l.length + 1 + c ≤ 19 → ∃ M' b, zG d n_Re_readChoice 12 [some (.ref 3), some (.int (nI n)), some (.int (nI (200 - f)))] [] M = some (some (.int b), M') ∧ OutB (tok β N) N s l M M' b (sSqL (tok β N) R C f x i) := by
  intro f
  induction f with
  | zero =>
    intro d i l M x hf hd hE hq hc h3 hi hD hB hDc
    refine ⟨M, nI 1, ?_, fBu_rfl s M, rfl, hi, hc, h3, hD, hB⟩
    rw [zg_Re_readChoice_12]
    unfold zx_Re_readChoice_12
    clear hP hE hc hk hB
    simp (disch := omega) only [il, nI_add, nI_mul, nI_sub, nI_div, nI_rem, nI_N, i32_lt, i32_le, nI_toInt, nI_subI, nI_clamp, zinT, zifT, iteT, iteF, zQ, zS, zkc, zI_sI, zL_sL, zI_wI, zL_wL, Nat.reduceEqDiff, Nat.reduceAdd, Nat.reduceMul, Nat.reduceLT, Nat.reduceLeDiff, reduceIte, eq_self, and_self, true_and, and_true, false_and, and_false, true_or, or_true, or_false, false_or, not_true_eq_false, not_false_eq_true, zarr, ne_eq, Nat.sub_zero]
  | succ f ih =>
    intro d i l M x hf hd hE hq hc h3 hi hD hB hDc
    obtain ⟨k3, k4, k6, r0, r1⟩ := c_k4 hE
    obtain ⟨c6, c3, c5⟩ := cTok_ok hc h3
    have hki := hk i hi
    have hx : 200 - (f + 1) + 1 = 200 - f := by omega
    by_cases hop : (tok β N i).1 = 47
    · have es : sSqL (tok β N) R C (f + 1) x i = nxt (tok β N) i (fun j => rb (sCh (tok β N) R C j) (fun y k => sSqL (tok β N) R C f (orP x y) k)) := if_pos hop
      rw [es]
      have cop : zI M 4 3 = nI 47 := by rw [c3, hop]
      obtain ⟨M1, e1, f1, hc1'⟩ := c_adv (d := d) (by omega) hE hk hc h3 hi
      have hE1 := EC_fr hE (f1.co (D := 0))
      obtain ⟨k31, k41, k61, r01, r11⟩ := c_k4 hE1
      have hD1 : zI M1 6 1 = nI 0 := by rw [f1.2.2.2.2.1 6 (by omega)]; exact hD
      by_cases hb : (tok β N (tok β N i).2.2.2).1 = 3
      · rw [nxt_t hb]
        obtain ⟨b1, b2, b3⟩ := cTok_bad hc1' hb
        have e2 := re_chain_bad (d := d) (n := n) (by omega) hE1 b1 b2 (by omega) (by omega)
        refine ⟨M1, nI 0, ?_, f1.bu, Nat.zero_lt_one, (show 1 < 10 by decide), b2, b3, Or.inl rfl⟩
        rw [zg_Re_readChoice_12]
        unfold zx_Re_readChoice_12
        clear ih hP hE hE1 hc hc1' f1 hk hB hki es
        simp (disch := omega) only [il, nI_add, nI_mul, nI_sub, nI_div, nI_rem, nI_N, i32_lt, i32_le, nI_toInt, nI_subI, nI_clamp, zinT, zifT, iteT, iteF, zQ, zS, zkc, zI_sI, zL_sL, zI_wI, zL_wL, Nat.reduceEqDiff, Nat.reduceAdd, Nat.reduceMul, Nat.reduceLT, Nat.reduceLeDiff, reduceIte, eq_self, and_self, true_and, and_true, false_and, and_false, true_or, or_true, or_false, false_or, not_true_eq_false, not_false_eq_true, zarr, ne_eq, k3, k4, r0, cop, e1, k31, e2]
      · rw [nxt_f hb]
        obtain ⟨M2, b, e2, ho⟩ := hP d _ (l ++ [x]) M1 hd hE1 (zSeq_fr hq f1.2.1 f1.2.2.1) hc1' hb hki.1 hD1 (Bst_co (D := 0) hs26 hB f1.co) (by rw [List.length_append]; exact hDc)
        cases hrr : sCh (tok β N) R C (tok β N i).2.2.2 with
        | inl e =>
          rw [hrr] at ho
          obtain ⟨o1, o2, o3, o4, o5, o6⟩ := ho
          have hE2 := EC_bu hs26 hE1 o1
          obtain ⟨k32, k42, k62, r02, r12⟩ := c_k4 hE2
          obtain ⟨k82, r22⟩ := c_k8 hE2
          have fM2 : fBu s M M2 := f1.bu.trans o1
          rcases o6 with rfl | ⟨rfl, o7, o8, y, o9⟩
          · refine ⟨M2, nI 0, ?_, fM2, o2, o3, o4, o5, Or.inl rfl⟩
            rw [zg_Re_readChoice_12]
            unfold zx_Re_readChoice_12
            clear ih hP hE hE1 hc hc1' f1 hk hB hki es o1 hE2 fM2 o4 o5
            simp (disch := omega) only [il, nI_add, nI_mul, nI_sub, nI_div, nI_rem, nI_N, i32_lt, i32_le, nI_toInt, nI_subI, nI_clamp, zinT, zifT, iteT, iteF, zQ, zS, zkc, zI_sI, zL_sL, zI_wI, zL_wL, Nat.reduceEqDiff, Nat.reduceAdd, Nat.reduceMul, Nat.reduceLT, Nat.reduceLeDiff, reduceIte, eq_self, and_self, true_and, and_true, false_and, and_false, true_or, or_true, or_false, false_or, not_true_eq_false, not_false_eq_true, zarr, ne_eq, k3, k4, r0, cop, e1, k31, e2]
          · rw [List.append_assoc] at o9
            obtain ⟨M3, e3, g1, g2, g3, g4⟩ := bu_choose (d := d) (by omega) hE2.1 hs26 o9 (by omega)
            have hE3 := EC_bu hs26 hE2 g1
            have e4 := re_choice_bad1 (d := d) (n := n) (x2 := 200 - f) hE3 (by rw [g2]; exact o7) (by omega)
            refine ⟨M3, nI 1, ?_, fM2.trans g1, o2, o3, by rw [g2]; exact o4, by rw [g2]; exact o5, Or.inr ⟨rfl, by rw [g2]; exact o7, by rw [g3]; exact o8, _, g4⟩⟩
            rw [← e4, zg_Re_readChoice_12]
            unfold zx_Re_readChoice_12
            clear ih hP hE hE1 hc hc1' f1 hk hB hki es o1 hE2 fM2 o4 o5 o9 g1 g2 g3 g4 hE3 e4
            simp (disch := omega) only [il, nI_add, nI_mul, nI_sub, nI_div, nI_rem, nI_N, i32_lt, i32_le, nI_toInt, nI_subI, nI_clamp, zinT, zifT, iteT, iteF, zQ, zS, zkc, zI_sI, zL_sL, zI_wI, zL_wL, Nat.reduceEqDiff, Nat.reduceAdd, Nat.reduceMul, Nat.reduceLT, Nat.reduceLeDiff, reduceIte, eq_self, and_self, true_and, and_true, false_and, and_false, true_or, or_true, or_false, false_or, not_true_eq_false, not_false_eq_true, zarr, ne_eq, k3, k4, r0, cop, e1, k31, e2, k32, k82, r22, e3, hx]
        | inr z =>
          rw [hrr] at ho
          obtain ⟨o1, o2, o3, o4, o5, o6, o7⟩ := ho
          subst o2
          have hE2 := EC_bu hs26 hE1 o1
          obtain ⟨k32, k42, k62, r02, r12⟩ := c_k4 hE2
          obtain ⟨k82, r22⟩ := c_k8 hE2
          have fM2 : fBu s M M2 := f1.bu.trans o1
          rw [List.append_assoc] at o7
          obtain ⟨M3, e3, g1, g2, g3, g4⟩ := bu_choose (d := d) (by omega) hE2.1 hs26 o7 (by omega)
          have hE3 := EC_bu hs26 hE2 g1
          have fM3 := fM2.trans g1
          obtain ⟨M', b', e4, ho4⟩ := ih d z.2 l M3 (orP x z.1) (by omega) hd hE3 (zSeq_fr hq fM3.2.1 fM3.2.2.1) (cTok_I o4 g2) o5 o3 (by rw [g3]; exact o6) g4 hDc
          refine ⟨M', b', ?_, OutB_pre fM3 ho4⟩
          rw [← e4, zg_Re_readChoice_12]
          unfold zx_Re_readChoice_12
          clear ih hP hE hE1 hc hc1' f1 hk hB hki es o1 hE2 fM2 fM3 o4 o7 g1 g2 g3 g4 hE3 e4 ho4
          simp (disch := omega) only [il, nI_add, nI_mul, nI_sub, nI_div, nI_rem, nI_N, i32_lt, i32_le, nI_toInt, nI_subI, nI_clamp, zinT, zifT, iteT, iteF, zQ, zS, zkc, zI_sI, zL_sL, zI_wI, zL_wL, Nat.reduceEqDiff, Nat.reduceAdd, Nat.reduceMul, Nat.reduceLT, Nat.reduceLeDiff, reduceIte, eq_self, and_self, true_and, and_true, false_and, and_false, true_or, or_true, or_false, false_or, not_true_eq_false, not_false_eq_true, zarr, ne_eq, k3, k4, r0, cop, e1, k31, e2, k32, k82, r22, e3, hx]
    · have es : sSqL (tok β N) R C (f + 1) x i = .inr (x, i) := if_neg hop
      rw [es]
      have nop : ¬ zI M 4 3 = nI 47 := by rw [c3]; exact nI_ne (by omega) (by omega) hop
      refine ⟨M, nI 1, ?_, fBu_rfl s M, rfl, hi, hc, h3, hD, hB⟩
      rw [zg_Re_readChoice_12]
      unfold zx_Re_readChoice_12
      clear ih hP hE hc hk hB hki es
      simp (disch := omega) only [il, nI_add, nI_mul, nI_sub, nI_div, nI_rem, nI_N, i32_lt, i32_le, nI_toInt, nI_subI, nI_clamp, zinT, zifT, iteT, iteF, zQ, zS, zkc, zI_sI, zL_sL, zI_wI, zL_wL, Nat.reduceEqDiff, Nat.reduceAdd, Nat.reduceMul, Nat.reduceLT, Nat.reduceLeDiff, reduceIte, eq_self, and_self, true_and, and_true, false_and, and_false, true_or, or_true, or_false, false_or, not_true_eq_false, not_false_eq_true, zarr, ne_eq, k3, k4, r0, nop]
theorem re_choice {L w N n s c d0 : Nat} {β : Nat → Nat} {pt : Nat → Int64} {R : Option (Nat → Rs Pc)} {C : Nat → Rs T4} (hk : tkOk (tok β N) N) (hs26 : 26 ≤ s) (hc1 : 1 ≤ c) (hd0 : 6 ≤ d0) (hP : RB n_Re_readChain L w N β pt s n c d0 (sCh (tok β N) R C)) : RB n_Re_readChoice L w N β pt s n (c + 1) (d0 + 1) (sSqB (tok β N) R C) := by
  intro d i l M hd hE hq hc h3 hi hD hB hDc
  obtain ⟨d, rfl, hd1⟩ := zdep (show d0 + 1 ≤ d by omega)
  obtain ⟨k3, k4, k6, r0, r1⟩ := c_k4 hE
  obtain ⟨M1, b, e1, ho⟩ := hP d i l M hd1 hE hq hc h3 hi hD hB (by omega)
  rw [ze_Re_readChoice]
  unfold zx_Re_readChoice sSqB
  cases hrr : sCh (tok β N) R C i with
  | inl e =>
    rw [hrr] at ho
    obtain ⟨o1, o2, o3, o4, o5, o6⟩ := ho
    have hE1 := EC_bu hs26 hE o1
    rcases o6 with rfl | ⟨rfl, o7, o8, o9⟩
    · refine ⟨M1, nI 0, ?_, o1, o2, o3, o4, o5, Or.inl rfl⟩
      clear hE hc hk hP o1 hE1 o4 o5 hB
      simp (disch := omega) only [il, nI_add, nI_mul, nI_sub, nI_div, nI_rem, nI_N, i32_lt, i32_le, nI_toInt, nI_subI, nI_clamp, zinT, zifT, iteT, iteF, zQ, zS, zkc, zI_sI, zL_sL, zI_wI, zL_wL, Nat.reduceEqDiff, Nat.reduceAdd, Nat.reduceMul, Nat.reduceLT, Nat.reduceLeDiff, reduceIte, eq_self, and_self, true_and, and_true, false_and, and_false, true_or, or_true, or_false, false_or, not_true_eq_false, not_false_eq_true, zarr, ne_eq, k3, e1]
    · have e4 := re_choice_bad1 (d := d) (n := n) (x2 := 0) hE1 o7 (by omega)
      refine ⟨M1, nI 1, ?_, o1, o2, o3, o4, o5, Or.inr ⟨rfl, o7, o8, o9⟩⟩
      clear hE hc hk hP o1 hE1 o4 o5 o9 hB
      simp (disch := omega) only [il, nI_add, nI_mul, nI_sub, nI_div, nI_rem, nI_N, i32_lt, i32_le, nI_toInt, nI_subI, nI_clamp, zinT, zifT, iteT, iteF, zQ, zS, zkc, zI_sI, zL_sL, zI_wI, zL_wL, Nat.reduceEqDiff, Nat.reduceAdd, Nat.reduceMul, Nat.reduceLT, Nat.reduceLeDiff, reduceIte, eq_self, and_self, true_and, and_true, false_and, and_false, true_or, or_true, or_false, false_or, not_true_eq_false, not_false_eq_true, zarr, ne_eq, k3, e1, e4]
  | inr z =>
    rw [hrr] at ho
    obtain ⟨o1, o2, o3, o4, o5, o6, o7⟩ := ho
    subst o2
    have hE1 := EC_bu hs26 hE o1
    obtain ⟨M', b', e4, ho4⟩ := re_choice_go hk hs26 hc1 hd0 hP 200 d z.2 l M1 z.1 (Nat.le_refl _) hd1 hE1 (zSeq_fr hq o1.2.1 o1.2.2.1) o4 o5 o3 o6 o7 (by omega)
    refine ⟨M', b', ?_, OutB_pre o1 ho4⟩
    rw [← e4]
    clear hE hc hk hP o1 hE1 o4 o7 e4 ho4 hB
    simp (disch := omega) only [il, nI_add, nI_mul, nI_sub, nI_div, nI_rem, nI_N, i32_lt, i32_le, nI_toInt, nI_subI, nI_clamp, zinT, zifT, iteT, iteF, zQ, zS, zkc, zI_sI, zL_sL, zI_wI, zL_wL, Nat.reduceEqDiff, Nat.reduceAdd, Nat.reduceMul, Nat.reduceLT, Nat.reduceLeDiff, reduceIte, eq_self, and_self, true_and, and_true, false_and, and_false, true_or, or_true, or_false, false_or, not_true_eq_false, not_false_eq_true, zarr, ne_eq, k3, e1]
/-- the class reads sequences, at every depth -/
theorem re_seq_all {L w N s : Nat} {β : Nat → Nat} {pt : Nat → Int64} (hk : tkOk (tok β N) N) (hs26 : 26 ≤ s) : ∀ k n, n + k = 8 → RB n_Re_readChoice L w N β pt s n (2 * k + 3) (4 * k + 11) (sSq (tok β N) pt k) := by
  intro k
  induction k with
  | zero =>
    intro n hn
    rw [sSq_eq]
    exact re_choice hk hs26 (by omega) (by omega) (re_chain hk hs26 (by omega) (by omega) (re_rep hk hs26 (by omega) (by omega) (re_part (k := 0) (d0 := 7) (c := 1) (R := qK (tok β N) pt 0) hk hs26 hn (by omega) (by omega) (by omega) (Or.inl ⟨by omega, rfl⟩))))
  | succ k ih =>
    intro n hn
    rw [sSq_eq]
    exact re_choice hk hs26 (by omega) (by omega) (re_chain hk hs26 (by omega) (by omega) (re_rep hk hs26 (by omega) (by omega) (re_part (k := k + 1) (d0 := 4 * k + 11) (c := 2 * k + 3) (R := qK (tok β N) pt (k + 1)) hk hs26 hn (by omega) (by omega) (by omega) (Or.inr ⟨by omega, _, rfl, ih (n + 1) (by omega)⟩))))
