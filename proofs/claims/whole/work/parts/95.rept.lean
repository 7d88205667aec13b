/-! the class reads numbers, and a repeated part -/
theorem re_num_bad {d L w N f : Nat} {x : Int32} {β : Nat → Nat} {pt : Nat → Int64} {M : zM} (hd : 2 ≤ d) (h : EC L w N β pt M) (h3 : zI M 4 3 = nI 3) (h6 : zI M 4 6 = nI f) (hf : 0 < f) (hf2 : f < 100) : zV d n_Re_readNumber [.ref 3, .int x] M = some (some (.int (nI 0)), M) := by
  obtain ⟨d, rfl, hd1⟩ := zdep hd
  obtain ⟨k3, k4, k6, r0, r1⟩ := c_k4 h
  have e := ta_refuse1 (d := d) (x := nI 2) hd1 k4 h6 hf hf2
  rw [ze_Re_readNumber]
  unfold zx_Re_readNumber
  clear h
  simp (disch := omega) only [il, nI_add, nI_mul, nI_sub, nI_div, nI_rem, nI_N, i32_lt, i32_le, nI_toInt, nI_subI, nI_clamp, zinT, zifT, iteT, iteF, zQ, zS, zkc, zI_sI, zL_sL, zI_wI, zL_wL, Nat.reduceEqDiff, Nat.reduceAdd, Nat.reduceMul, Nat.reduceLT, Nat.reduceLeDiff, reduceIte, eq_self, and_self, true_and, and_true, false_and, and_false, true_or, or_true, or_false, false_or, not_true_eq_false, not_false_eq_true, zarr, ne_eq, k3, k4, r0, h3, e]
theorem re_number {d L w N i lo : Nat} {β : Nat → Nat} {pt : Nat → Int64} {M : zM} (hd : 4 ≤ d) (hE : EC L w N β pt M) (hk : tkOk (tok β N) N) (hc : cTok (tok β N i) M) (h3 : (tok β N i).1 ≠ 3) (hi : i ≤ N) (hlo : lo < 1000) : ∃ M' b, zV d n_Re_readNumber [.ref 3, .int (nI lo)] M = some (some (.int b), M') ∧ fTa M M' ∧ ((b = nI 0 ∧ (tok β N i).1 ≠ 2 ∧ zI M' 4 6 = nI 2 ∧ zI M' 4 7 = nI (plc (tok β N) i)) ∨ (b = nI 0 ∧ (tok β N i).1 = 2 ∧ ((tok β N i).2.1 < lo ∨ 9 < (tok β N i).2.1) ∧ zI M' 4 6 = nI 3 ∧ zI M' 4 7 = nI (plc (tok β N) i)) ∨ (b = nI 1 ∧ (tok β N i).1 = 2 ∧ ¬ ((tok β N i).2.1 < lo ∨ 9 < (tok β N i).2.1) ∧ cTok (tok β N (tok β N i).2.2.2) M')) := by
  obtain ⟨d, rfl, hd1⟩ := zdep hd
  obtain ⟨k3, k4, k6, r0, r1⟩ := c_k4 hE
  obtain ⟨c6, c3, c5⟩ := cTok_ok hc h3
  have hki := hk i hi
  have fr : ∀ x, fTa M (zsI (zsI M 4 6 (nI x)) 4 7 (zI M 4 5)) := fun x => (fTa_s M (j := 6) (by decide) (nI x)).trans (fTa_s _ (j := 7) (by decide) (zI M 4 5))
  by_cases h2 : (tok β N i).1 = 2
  · have c2 : zI M 4 3 = nI 2 := by rw [c3, h2]
    have c4 : zI M 4 4 = nI (tok β N i).2.1 := hc.2.2.2.1 (Or.inr h2)
    have h100 := hki.2.2.2.2.1 h2
    by_cases hb : (tok β N i).2.1 < lo ∨ 9 < (tok β N i).2.1
    · have e := ta_refuse0 (d := d) (x := 3) (M := M) (by omega) k4 c6
      refine ⟨_, nI 0, ?_, fr 3, Or.inr (Or.inl ⟨rfl, h2, hb, rfl, c5⟩)⟩
      rw [ze_Re_readNumber]
      unfold zx_Re_readNumber
      generalize (tok β N i).2.1 = v at *
      clear hE hc hk hki fr
      by_cases hv : v < lo
      · simp (disch := omega) only [il, nI_add, nI_mul, nI_sub, nI_div, nI_rem, nI_N, i32_lt, i32_le, nI_toInt, nI_subI, nI_clamp, zinT, zifT, iteT, iteF, zQ, zS, zkc, zI_sI, zL_sL, zI_wI, zL_wL, Nat.reduceEqDiff, Nat.reduceAdd, Nat.reduceMul, Nat.reduceLT, Nat.reduceLeDiff, reduceIte, eq_self, and_self, true_and, and_true, false_and, and_false, true_or, or_true, or_false, false_or, not_true_eq_false, not_false_eq_true, zarr, ne_eq, k3, k4, r0, c2, c4, e]
      · have hv9 : 9 < v := by omega
        clear hb
        simp (disch := omega) only [il, nI_add, nI_mul, nI_sub, nI_div, nI_rem, nI_N, i32_lt, i32_le, nI_toInt, nI_subI, nI_clamp, zinT, zifT, iteT, iteF, zQ, zS, zkc, zI_sI, zL_sL, zI_wI, zL_wL, Nat.reduceEqDiff, Nat.reduceAdd, Nat.reduceMul, Nat.reduceLT, Nat.reduceLeDiff, reduceIte, eq_self, and_self, true_and, and_true, false_and, and_false, true_or, or_true, or_false, false_or, not_true_eq_false, not_false_eq_true, zarr, ne_eq, k3, k4, r0, c2, c4, e]
    · obtain ⟨M1, e1, f1, hc1⟩ := c_adv (d := d) (by omega) hE hk hc h3 hi
      refine ⟨M1, nI 1, ?_, f1, Or.inr (Or.inr ⟨rfl, h2, hb, hc1⟩)⟩
      rw [ze_Re_readNumber]
      unfold zx_Re_readNumber
      clear hE hc hk hki fr hc1 f1
      generalize (tok β N i).2.1 = v at *
      simp (disch := omega) only [il, nI_add, nI_mul, nI_sub, nI_div, nI_rem, nI_N, i32_lt, i32_le, nI_toInt, nI_subI, nI_clamp, zinT, zifT, iteT, iteF, zQ, zS, zkc, zI_sI, zL_sL, zI_wI, zL_wL, Nat.reduceEqDiff, Nat.reduceAdd, Nat.reduceMul, Nat.reduceLT, Nat.reduceLeDiff, reduceIte, eq_self, and_self, true_and, and_true, false_and, and_false, true_or, or_true, or_false, false_or, not_true_eq_false, not_false_eq_true, zarr, ne_eq, k3, k4, r0, c2, c4, e1]
  · have n2 : ¬ zI M 4 3 = nI 2 := by rw [c3]; exact nI_ne (by omega) (by omega) h2
    have e := ta_refuse0 (d := d) (x := 2) (M := M) (by omega) k4 c6
    refine ⟨_, nI 0, ?_, fr 2, Or.inl ⟨rfl, h2, rfl, c5⟩⟩
    rw [ze_Re_readNumber]
    unfold zx_Re_readNumber
    clear hE hc hk hki fr
    simp (disch := omega) only [il, nI_add, nI_mul, nI_sub, nI_div, nI_rem, nI_N, i32_lt, i32_le, nI_toInt, nI_subI, nI_clamp, zinT, zifT, iteT, iteF, zQ, zS, zkc, zI_sI, zL_sL, zI_wI, zL_wL, Nat.reduceEqDiff, Nat.reduceAdd, Nat.reduceMul, Nat.reduceLT, Nat.reduceLeDiff, reduceIte, eq_self, and_self, true_and, and_true, false_and, and_false, true_or, or_true, or_false, false_or, not_true_eq_false, not_false_eq_true, zarr, ne_eq, k3, k4, r0, n2, e]
set_option maxHeartbeats 4000000 in
theorem re_rep {L w N n s c d0 : Nat} {β : Nat → Nat} {pt : Nat → Int64} {r : Nat → Rs Pc} (hk : tkOk (tok β N) N) (hs26 : 26 ≤ s) (hc1 : 1 ≤ c) (hd0 : 5 ≤ d0) (hP : RB n_Re_readPart L w N β pt s n c d0 r) : RB n_Re_readRepeated L w N β pt s n c (d0 + 1) (fun i => rb (r i) (sRpB (tok β N))) := by
  intro d i l M hd hE hq hc h3 hi hD hB hDc
  obtain ⟨d, rfl, hd1⟩ := zdep (show d0 + 1 ≤ d by omega)
  obtain ⟨k3, k4, k6, r0, r1⟩ := c_k4 hE
  obtain ⟨M1, b, e1, ho⟩ := hP d i l M hd1 hE hq hc h3 hi hD hB hDc
  show ∃ M' b, _ ∧ OutB (tok β N) N s l M M' b (rb (r i) (sRpB (tok β N)))
  cases hrr : r i with
  | inl e =>
    rw [hrr] at ho
    obtain ⟨o1, o2, o3, o4, o5, o6⟩ := ho
    have hE1 := EC_bu hs26 hE o1
    obtain ⟨k31, k41, k61, r01, r11⟩ := c_k4 hE1
    rcases o6 with rfl | ⟨rfl, o7, o8, o9⟩
    · refine ⟨M1, nI 0, ?_, o1, o2, o3, o4, o5, Or.inl rfl⟩
      rw [ze_Re_readRepeated]
      unfold zx_Re_readRepeated
      clear hP hE hE1 hc hk hB o1 o4 o5
      simp (disch := omega) only [il, nI_add, nI_mul, nI_sub, nI_div, nI_rem, nI_N, i32_lt, i32_le, nI_toInt, nI_subI, nI_clamp, zinT, zifT, iteT, iteF, zQ, zS, zkc, zI_sI, zL_sL, zI_wI, zL_wL, Nat.reduceEqDiff, Nat.reduceAdd, Nat.reduceMul, Nat.reduceLT, Nat.reduceLeDiff, reduceIte, eq_self, and_self, true_and, and_true, false_and, and_false, true_or, or_true, or_false, false_or, not_true_eq_false, not_false_eq_true, zarr, ne_eq, k3, e1]
    · refine ⟨M1, nI 1, ?_, o1, o2, o3, o4, o5, Or.inr ⟨rfl, o7, o8, o9⟩⟩
      rw [ze_Re_readRepeated]
      unfold zx_Re_readRepeated
      clear hP hE hE1 hc hk hB o1 o4 o5 o9
      simp (disch := omega) only [il, nI_add, nI_mul, nI_sub, nI_div, nI_rem, nI_N, i32_lt, i32_le, nI_toInt, nI_subI, nI_clamp, zinT, zifT, iteT, iteF, zQ, zS, zkc, zI_sI, zL_sL, zI_wI, zL_wL, Nat.reduceEqDiff, Nat.reduceAdd, Nat.reduceMul, Nat.reduceLT, Nat.reduceLeDiff, reduceIte, eq_self, and_self, true_and, and_true, false_and, and_false, true_or, or_true, or_false, false_or, not_true_eq_false, not_false_eq_true, zarr, ne_eq, k3, e1, k31, k41, r01, o7]
  | inr x =>
    rw [hrr] at ho
    obtain ⟨o1, o2, o3, o4, o5, o6, o7⟩ := ho
    subst o2
    have hE1 := EC_bu hs26 hE o1
    obtain ⟨k31, k41, k61, r01, r11⟩ := c_k4 hE1
    obtain ⟨c61, c31, c51⟩ := cTok_ok o4 o5
    have hkx := hk x.2 o3
    show ∃ M' b, _ ∧ OutB (tok β N) N s l M M' b (sRpB (tok β N) x.1 x.2)
    unfold sRpB
    by_cases h42 : (tok β N x.2).1 = 42
    · rw [if_pos h42]
      have c42 : zI M1 4 3 = nI 42 := by rw [c31, h42]
      obtain ⟨M2, e2, f2, hc2⟩ := c_adv (d := d) (by omega) hE1 hk o4 o5 o3
      have hE2 := EC_fr hE1 (f2.co (D := 0))
      obtain ⟨k32, k42, k62, r02, r12⟩ := c_k4 hE2
      by_cases hb : (tok β N (tok β N x.2).2.2.2).1 = 3
      · rw [nxt_t hb]
        obtain ⟨b1, b2, b3⟩ := cTok_bad hc2 hb
        have e3 := re_num_bad (d := d) (x := nI 0) (by omega) hE2 b1 b2 (by omega) (by omega)
        refine ⟨M2, nI 0, ?_, o1.trans f2.bu, Nat.zero_lt_one, (show 1 < 10 by decide), b2, b3, Or.inl rfl⟩
        rw [ze_Re_readRepeated]
        unfold zx_Re_readRepeated
        clear hP hE hE1 hE2 hc hk hB o1 o4 o7 hkx f2 hc2
        simp (disch := omega) only [il, nI_add, nI_mul, nI_sub, nI_div, nI_rem, nI_N, i32_lt, i32_le, nI_toInt, nI_subI, nI_clamp, zinT, zifT, iteT, iteF, zQ, zS, zkc, zI_sI, zL_sL, zI_wI, zL_wL, Nat.reduceEqDiff, Nat.reduceAdd, Nat.reduceMul, Nat.reduceLT, Nat.reduceLeDiff, reduceIte, eq_self, and_self, true_and, and_true, false_and, and_false, true_or, or_true, or_false, false_or, not_true_eq_false, not_false_eq_true, zarr, ne_eq, k3, e1, k31, k41, r01, c42, e2, k32, k42, r02, e3]
      · rw [nxt_f hb]
        obtain ⟨M3, b3, e3, f3, h3c⟩ := re_number (d := d) (lo := 0) (by omega) hE2 hk hc2 hb hkx.1 (by omega)
        have hk2 := hk (tok β N x.2).2.2.2 hkx.1
        have ff3 : fBu s M M3 := o1.trans (f2.bu.trans f3.bu)
        unfold sNum
        rcases h3c with ⟨rfl, n1, n2, n3⟩ | ⟨rfl, n1, n2, n3, n4⟩ | ⟨rfl, n1, n2, hc3⟩
        · rw [if_neg n1]
          refine ⟨M3, nI 0, ?_, ff3, (show 0 < 2 by decide), (show 2 < 10 by decide), n2, n3, Or.inl rfl⟩
          rw [ze_Re_readRepeated]
          unfold zx_Re_readRepeated
          clear hP hE hE1 hE2 hc hk hB o1 o4 o7 hkx f2 hc2 f3 ff3 hk2 n2 n3
          simp (disch := omega) only [il, nI_add, nI_mul, nI_sub, nI_div, nI_rem, nI_N, i32_lt, i32_le, nI_toInt, nI_subI, nI_clamp, zinT, zifT, iteT, iteF, zQ, zS, zkc, zI_sI, zL_sL, zI_wI, zL_wL, Nat.reduceEqDiff, Nat.reduceAdd, Nat.reduceMul, Nat.reduceLT, Nat.reduceLeDiff, reduceIte, eq_self, and_self, true_and, and_true, false_and, and_false, true_or, or_true, or_false, false_or, not_true_eq_false, not_false_eq_true, zarr, ne_eq, k3, e1, k31, k41, r01, c42, e2, k32, k42, r02, e3]
        · rw [if_pos n1, if_pos n2]
          refine ⟨M3, nI 0, ?_, ff3, (show 0 < 3 by decide), (show 3 < 10 by decide), n3, n4, Or.inl rfl⟩
          rw [ze_Re_readRepeated]
          unfold zx_Re_readRepeated
          clear hP hE hE1 hE2 hc hk hB o1 o4 o7 hkx f2 hc2 f3 ff3 hk2 n2 n3 n4
          simp (disch := omega) only [il, nI_add, nI_mul, nI_sub, nI_div, nI_rem, nI_N, i32_lt, i32_le, nI_toInt, nI_subI, nI_clamp, zinT, zifT, iteT, iteF, zQ, zS, zkc, zI_sI, zL_sL, zI_wI, zL_wL, Nat.reduceEqDiff, Nat.reduceAdd, Nat.reduceMul, Nat.reduceLT, Nat.reduceLeDiff, reduceIte, eq_self, and_self, true_and, and_true, false_and, and_false, true_or, or_true, or_false, false_or, not_true_eq_false, not_false_eq_true, zarr, ne_eq, k3, e1, k31, k41, r01, c42, e2, k32, k42, r02, e3]
        · rw [if_pos n1, if_neg n2]
          have c42' : zI M2 4 4 = nI (tok β N (tok β N x.2).2.2.2).2.1 := hc2.2.2.2.1 (Or.inr n1)
          have hE3 := EC_fr hE2 (f3.co (D := 0))
          obtain ⟨k33, k43, k63, r03, r13⟩ := c_k4 hE3
          by_cases hb3 : (tok β N (tok β N (tok β N x.2).2.2.2).2.2.2).1 = 3
          · rw [nxt_t hb3]
            obtain ⟨b1, b2, b3⟩ := cTok_bad hc3 hb3
            have e4 : ∀ y : Int32, zV d n_Re_readNumber [.ref 3, .int y] M3 = some (some (.int (nI 0)), M3) := fun y => re_num_bad (d := d) (x := y) (by omega) hE3 b1 b2 (by omega) (by omega)
            refine ⟨M3, nI 0, ?_, ff3, Nat.zero_lt_one, (show 1 < 10 by decide), b2, b3, Or.inl rfl⟩
            rw [ze_Re_readRepeated]
            unfold zx_Re_readRepeated
            clear hP hE hE1 hE2 hE3 hc hk hB o1 o4 o7 hkx f2 hc2 f3 ff3 hk2 n2 hc3 c42'
            simp (disch := omega) only [il, nI_add, nI_mul, nI_sub, nI_div, nI_rem, nI_N, i32_lt, i32_le, nI_toInt, nI_subI, nI_clamp, zinT, zifT, iteT, iteF, zQ, zS, zkc, zI_sI, zL_sL, zI_wI, zL_wL, Nat.reduceEqDiff, Nat.reduceAdd, Nat.reduceMul, Nat.reduceLT, Nat.reduceLeDiff, reduceIte, eq_self, and_self, true_and, and_true, false_and, and_false, true_or, or_true, or_false, false_or, not_true_eq_false, not_false_eq_true, zarr, ne_eq, k3, e1, k31, k41, r01, c42, e2, k32, k42, r02, e3, k33, k43, r03, e4]
          · rw [nxt_f hb3]
            have hm9 : (tok β N (tok β N x.2).2.2.2).2.1 ≤ 9 := by omega
            generalize hmv : (tok β N (tok β N x.2).2.2.2).2.1 = mv at *
            obtain ⟨M4, b4, e4, f4, h4c⟩ := re_number (d := d) (lo := max 1 mv) (by omega) hE3 hk hc3 hb3 hk2.1 (by omega)
            have hk3 := hk (tok β N (tok β N x.2).2.2.2).2.2.2 hk2.1
            have ff4 : fBu s M M4 := ff3.trans f4.bu
            have emax : (if (1 : Int32) < nI mv then nI mv else (1 : Int32)) = nI (max 1 mv) := by
              by_cases h : 1 < mv
              · rw [if_pos (by show nI 1 < nI mv; rw [nI_L (by omega) (by omega)]; exact h), Nat.max_eq_right (by omega)]
              · rw [if_neg (by show ¬ nI 1 < nI mv; rw [nI_L (by omega) (by omega)]; exact h), Nat.max_eq_left (by omega)]; rfl
            have emax2 : (if (1 : Int32) < zI M2 4 4 then zI M2 4 4 else (1 : Int32)) = nI (max 1 mv) := by rw [c42']; exact emax
            have base : zV (d + 1) n_Re_readRepeated [.ref 3, .int (nI n)] M = (if b4 ≠ 0 then (zif ((zK M4 3).1 = 3) (zoR (zR M4 3 2) fun q5 => zif ((zK M4 q5).1 = 1) (zbV (zV d n_Bu_repeat [.ref q5, .int (nI mv), .int (zI M3 4 4)] M4) fun M5 => zif ((1 : Int32) = 0 ∨ (1 : Int32) = 1) (some (some (.int (1 : Int32)), M5))))) else zif ((0 : Int32) = 0 ∨ (0 : Int32) = 1) (some (some (.int (0 : Int32)), M4))) := by
              rw [ze_Re_readRepeated]
              unfold zx_Re_readRepeated
              rw [zif_t (by rw [k3]), e1, zbI_S, if_pos (by decide), zif_t (by rw [k31]), r01, zoR_S, zif_t (by rw [k41]), if_pos (show zI M1 4 3 = (42 : Int32) from c42), zif_t (by rw [k31]), zoR_S, zif_t (by rw [k41]), e2, zbV_S, zif_t (by rw [k32]), r02, zoR_S, zif_t (by rw [k42]), zbi_S, zif_t (by rw [k32])]
              rw [show (0 : Int32) = nI 0 from rfl, e3, zbI_S, if_pos (by decide), zif_t (by rw [k33]), r03, zoR_S, zif_t (by rw [k43]), zbi_S, zif_t (by rw [k33])]
              rw [emax2, e4, zbI_S, c42']
            dsimp only
            rcases h4c with ⟨rfl, n5, n6, n7⟩ | ⟨rfl, n5, n6, n7, n8⟩ | ⟨rfl, n5, n6, hc4⟩
            · rw [if_neg n5]
              refine ⟨M4, nI 0, ?_, ff4, (show 0 < 2 by decide), (show 2 < 10 by decide), n6, n7, Or.inl rfl⟩
              rw [base, if_neg (by decide), zif_t (by decide)]; rfl
            · rw [if_pos n5, if_pos n6]
              refine ⟨M4, nI 0, ?_, ff4, (show 0 < 3 by decide), (show 3 < 10 by decide), n7, n8, Or.inl rfl⟩
              rw [base, if_neg (by decide), zif_t (by decide)]; rfl
            · rw [if_pos n5, if_neg n6]
              have c43 : zI M3 4 4 = nI (tok β N (tok β N (tok β N x.2).2.2.2).2.2.2).2.1 := hc3.2.2.2.1 (Or.inr n5)
              have hE4 := EC_fr hE3 (f4.co (D := 0))
              obtain ⟨k34, k44, k64, r04, r14⟩ := c_k4 hE4
              obtain ⟨k84, r24⟩ := c_k8 hE4
              generalize hnv : (tok β N (tok β N (tok β N x.2).2.2.2).2.2.2).2.1 = nv at *
              have hq4 : zSeq M4 s := zSeq_fr hq ff4.2.1 ff4.2.2.1
              have hB4 : Bst s (l ++ [x.1]) M4 := Bst_co (D := 0) hs26 (Bst_co (D := 0) hs26 (Bst_co (D := 0) hs26 o7 f2.co) f3.co) f4.co
              obtain ⟨M5, e5, g1, g2, g3, g4⟩ := bu_repeat (d := d) (mm := mv) (n := nv) (by omega) hE4.1 hq4 hs26 hB4 (by omega) (by omega) (by omega) (by omega)
              have hD4 : zI M4 6 1 = nI 0 := by rw [f4.2.2.2.2.1 6 (by omega), f3.2.2.2.2.1 6 (by omega), f2.2.2.2.2.1 6 (by omega)]; exact o6
              have ev : zV (d + 1) n_Re_readRepeated [.ref 3, .int (nI n)] M = some (some (.int (nI 1)), M5) := by
                rw [base, if_pos (by decide), zif_t (by rw [k34]), r24, zoR_S, zif_t (by rw [k84]), c43, e5, zbV_S, zif_t (by decide)]; rfl
              refine ⟨M5, nI 1, ev, ?_⟩
              by_cases hb4 : (tok β N (tok β N (tok β N (tok β N x.2).2.2.2).2.2.2).2.2.2).1 = 3
              · rw [nxt_t hb4]
                obtain ⟨b1, b2, b3⟩ := cTok_bad hc4 hb4
                exact ⟨ff4.trans g1, Nat.zero_lt_one, (show 1 < 10 by decide), by rw [g2]; exact b2, by rw [g2]; exact b3, Or.inr ⟨rfl, by rw [g2]; exact b1, by rw [g3]; exact hD4, _, g4⟩⟩
              · rw [nxt_f hb4]
                exact ⟨ff4.trans g1, rfl, hk3.1, cTok_I hc4 g2, hb4, by rw [g3]; exact hD4, g4⟩
    · rw [if_neg h42]
      have n42 : ¬ zI M1 4 3 = nI 42 := by rw [c31]; exact nI_ne (by omega) (by omega) h42
      refine ⟨M1, nI 1, ?_, o1, rfl, o3, o4, o5, o6, o7⟩
      rw [ze_Re_readRepeated]
      unfold zx_Re_readRepeated
      clear hP hE hE1 hc hk hB o1 o4 o7 hkx
      simp (disch := omega) only [il, nI_add, nI_mul, nI_sub, nI_div, nI_rem, nI_N, i32_lt, i32_le, nI_toInt, nI_subI, nI_clamp, zinT, zifT, iteT, iteF, zQ, zS, zkc, zI_sI, zL_sL, zI_wI, zL_wL, Nat.reduceEqDiff, Nat.reduceAdd, Nat.reduceMul, Nat.reduceLT, Nat.reduceLeDiff, reduceIte, eq_self, and_self, true_and, and_true, false_and, and_false, true_or, or_true, or_false, false_or, not_true_eq_false, not_false_eq_true, zarr, ne_eq, k3, e1, k31, k41, r01, n42]
