/-! the class reads a part of a sequence -/
def OutB (X : Nat → Tk) (N s : Nat) (l : List Pc) (M M' : zM) (b : Int32) : Rs Pc → Prop
  | .inl e => fBu s M M' ∧ 0 < e.1 ∧ e.1 < 10 ∧ zI M' 4 6 = nI e.1 ∧ zI M' 4 7 = nI e.2 ∧ (b = nI 0 ∨ (b = nI 1 ∧ zI M' 4 3 = nI 3 ∧ zI M' 6 1 = nI 0 ∧ ∃ x, Bst s (l ++ [x]) M'))
  | .inr x => fBu s M M' ∧ b = nI 1 ∧ x.2 ≤ N ∧ cTok (X x.2) M' ∧ (X x.2).1 ≠ 3 ∧ zI M' 6 1 = nI 0 ∧ Bst s (l ++ [x.1]) M'
theorem OutB_pre {X : Nat → Tk} {N s : Nat} {l : List Pc} {M0 M M' : zM} {b : Int32} {r : Rs Pc} (hf : fBu s M0 M) (h : OutB X N s l M M' b r) : OutB X N s l M0 M' b r := by
  cases r with
  | inl e => exact ⟨hf.trans h.1, h.2⟩
  | inr x => exact ⟨hf.trans h.1, h.2⟩
theorem EC_bu {L w N s : Nat} {β : Nat → Nat} {pt : Nat → Int64} {M M' : zM} (hs : 26 ≤ s) (h : EC L w N β pt M) (f : fBu s M M') : EC L w N β pt M' := by
  obtain ⟨h1, h2, h3⟩ := h
  refine ⟨zSh_fr h1 f.1 f.2.1 f.2.2.1, ?_, by rw [f.2.2.2.2.2 0 (by omega) (by omega) (by omega) (by omega) (by omega) (by omega) (by omega)]; exact h3⟩
  unfold tapeC
  rw [f.2.2.2.2.1, f.2.2.2.1 5 (by omega) (by omega) (by omega) (by omega) (by omega) (by omega) (by omega)]
  exact h2
theorem fTa.bu {s : Nat} {M M' : zM} (h : fTa M M') : fBu s M M' := (h.co (D := 0)).bu
def RB (y : Nat) (L w N : Nat) (β : Nat → Nat) (pt : Nat → Int64) (s n c d0 : Nat) (r : Nat → Rs Pc) : Prop := ∀ d i l M, d0 ≤ d → EC L w N β pt M → zSeq M s → cTok (tok β N i) M → (tok β N i).1 ≠ 3 → i ≤ N → zI M 6 1 = nI 0 → Bst s l M → l.length + c ≤ 19 → ∃ M' b, zV d y [.ref 3, .int (nI n)] M = some (some (.int b), M') ∧ OutB (tok β N) N s l M M' b (r i)
theorem c_k8 {L w N : Nat} {β : Nat → Nat} {pt : Nat → Int64} {M : zM} (h : EC L w N β pt M) : zK M 8 = (1, 7) ∧ zR M 3 2 = some 8 := by
  have hC := h.1.2.2.1
  exact ⟨by rw [h.1.2.1]; rfl, by simp only [hC]⟩
/-- a refusal -/
theorem out_refB {d L w N i x s : Nat} {β : Nat → Nat} {pt : Nat → Int64} {M0 M : zM} {l : List Pc} (hd : 1 ≤ d) (h : EC L w N β pt M) (hc : cTok (tok β N i) M) (h3 : (tok β N i).1 ≠ 3) (hx : 0 < x) (hx2 : x < 10) (hf : fBu s M0 M) : ∃ M', zV d n_Ta_refuse [.ref 4, .int (nI x)] M = some (some (.int (nI 0)), M') ∧ OutB (tok β N) N s l M0 M' (nI 0) (.inl (x, plc (tok β N) i)) := by
  obtain ⟨M', e, o⟩ := out_ref (D := 0) hd h hc h3 hx hx2 (fCo_rfl 0 M)
  obtain ⟨o1, o2, o3, o4, o5, o6⟩ := o
  exact ⟨M', e, hf.trans o1.bu, o2, o3, o4, o5, Or.inl rfl⟩
theorem re_part_bad {d L w N f n : Nat} {β : Nat → Nat} {pt : Nat → Int64} {M : zM} (hd : 4 ≤ d) (h : EC L w N β pt M) (h3 : zI M 4 3 = nI 3) (h6 : zI M 4 6 = nI f) (hf : 0 < f) (hf2 : f < 100) : zV d n_Re_readPart [.ref 3, .int (nI n)] M = some (some (.int (nI 0)), M) := by
  obtain ⟨d, rfl, hd1⟩ := zdep hd
  have e := re_cond_bad (d := d) (n := n) hd1 h h3 h6 hf hf2
  obtain ⟨k3, k4, k6, r0, r1⟩ := c_k4 h
  rw [ze_Re_readPart]
  unfold zx_Re_readPart
  clear h
  simp (disch := omega) only [il, nI_add, nI_mul, nI_sub, nI_div, nI_rem, nI_N, i32_lt, i32_le, nI_toInt, nI_subI, nI_clamp, zinT, zifT, iteT, iteF, zQ, zS, zkc, zI_sI, zL_sL, zI_wI, zL_wL, Nat.reduceEqDiff, Nat.reduceAdd, Nat.reduceMul, Nat.reduceLT, Nat.reduceLeDiff, reduceIte, eq_self, and_self, true_and, and_true, false_and, and_false, true_or, or_true, or_false, false_or, not_true_eq_false, not_false_eq_true, zarr, ne_eq, k3, k4, r0, h3, e]
theorem re_rep_bad {d L w N f n : Nat} {β : Nat → Nat} {pt : Nat → Int64} {M : zM} (hd : 5 ≤ d) (h : EC L w N β pt M) (h3 : zI M 4 3 = nI 3) (h6 : zI M 4 6 = nI f) (hf : 0 < f) (hf2 : f < 100) : zV d n_Re_readRepeated [.ref 3, .int (nI n)] M = some (some (.int (nI 0)), M) := by
  obtain ⟨d, rfl, hd1⟩ := zdep hd
  have e := re_part_bad (d := d) (n := n) hd1 h h3 h6 hf hf2
  obtain ⟨k3, k4, k6, r0, r1⟩ := c_k4 h
  rw [ze_Re_readRepeated]
  unfold zx_Re_readRepeated
  clear h
  simp (disch := omega) only [il, nI_add, nI_mul, nI_sub, nI_div, nI_rem, nI_N, i32_lt, i32_le, nI_toInt, nI_subI, nI_clamp, zinT, zifT, iteT, iteF, zQ, zS, zkc, zI_sI, zL_sL, zI_wI, zL_wL, Nat.reduceEqDiff, Nat.reduceAdd, Nat.reduceMul, Nat.reduceLT, Nat.reduceLeDiff, reduceIte, eq_self, and_self, true_and, and_true, false_and, and_false, true_or, or_true, or_false, false_or, not_true_eq_false, not_false_eq_true, zarr, ne_eq, k3, e]
theorem re_chain_bad {d L w N f n : Nat} {β : Nat → Nat} {pt : Nat → Int64} {M : zM} (hd : 6 ≤ d) (h : EC L w N β pt M) (h3 : zI M 4 3 = nI 3) (h6 : zI M 4 6 = nI f) (hf : 0 < f) (hf2 : f < 100) : zV d n_Re_readChain [.ref 3, .int (nI n)] M = some (some (.int (nI 0)), M) := by
  obtain ⟨d, rfl, hd1⟩ := zdep hd
  have e := re_rep_bad (d := d) (n := n) hd1 h h3 h6 hf hf2
  obtain ⟨k3, k4, k6, r0, r1⟩ := c_k4 h
  rw [ze_Re_readChain]
  unfold zx_Re_readChain
  clear h
  simp (disch := omega) only [il, nI_add, nI_mul, nI_sub, nI_div, nI_rem, nI_N, i32_lt, i32_le, nI_toInt, nI_subI, nI_clamp, zinT, zifT, iteT, iteF, zQ, zS, zkc, zI_sI, zL_sL, zI_wI, zL_wL, Nat.reduceEqDiff, Nat.reduceAdd, Nat.reduceMul, Nat.reduceLT, Nat.reduceLeDiff, reduceIte, eq_self, and_self, true_and, and_true, false_and, and_false, true_or, or_true, or_false, false_or, not_true_eq_false, not_false_eq_true, zarr, ne_eq, k3, e]
theorem re_choice_bad {d L w N f n : Nat} {β : Nat → Nat} {pt : Nat → Int64} {M : zM} (hd : 7 ≤ d) (h : EC L w N β pt M) (h3 : zI M 4 3 = nI 3) (h6 : zI M 4 6 = nI f) (hf : 0 < f) (hf2 : f < 100) : zV d n_Re_readChoice [.ref 3, .int (nI n)] M = some (some (.int (nI 0)), M) := by
  obtain ⟨d, rfl, hd1⟩ := zdep hd
  have e := re_chain_bad (d := d) (n := n) hd1 h h3 h6 hf hf2
  obtain ⟨k3, k4, k6, r0, r1⟩ := c_k4 h
  rw [ze_Re_readChoice]
  unfold zx_Re_readChoice
  clear h
  simp (disch := omega) only [il, nI_add, nI_mul, nI_sub, nI_div, nI_rem, nI_N, i32_lt, i32_le, nI_toInt, nI_subI, nI_clamp, zinT, zifT, iteT, iteF, zQ, zS, zkc, zI_sI, zL_sL, zI_wI, zL_wL, Nat.reduceEqDiff, Nat.reduceAdd, Nat.reduceMul, Nat.reduceLT, Nat.reduceLeDiff, reduceIte, eq_self, and_self, true_and, and_true, false_and, and_false, true_or, or_true, or_false, false_or, not_true_eq_false, not_false_eq_true, zarr, ne_eq, k3, e]
set_option maxHeartbeats 4000000 in
theorem re_part {L w N n k s c d0 : Nat} {β : Nat → Nat} {pt : Nat → Int64} {R : Option (Nat → Rs Pc)} (hk : tkOk (tok β N) N) (hs26 : 26 ≤ s) (hn : n + k = 8) (hc1 : 1 ≤ c) (hd0 : 4 * k + 7 ≤ d0) (hd7 : 7 ≤ d0) (hR : (n = 8 ∧ R = none) ∨ (n < 8 ∧ ∃ r, R = some r ∧ RB n_Re_readChoice L w N β pt s (n + 1) c d0 r)) : RB n_Re_readPart L w N β pt s n c (d0 + 1) (sPt (tok β N) R (sC (tok β N) pt k)) := by
  intro d i l M hd hE hq hc h3 hi hD hB hDc
  obtain ⟨d, rfl, hd1⟩ := zdep (show d0 + 1 ≤ d by omega)
  obtain ⟨k3, k4, k6, r0, r1⟩ := c_k4 hE
  obtain ⟨c6, c3, c5⟩ := cTok_ok hc h3
  have hki := hk i hi
  unfold sPt
  by_cases h123 : (tok β N i).1 = 123
  · rw [if_pos h123]
    have c123 : zI M 4 3 = nI 123 := by rw [c3, h123]
    rcases hR with ⟨rfl, rfl⟩ | ⟨hn8, r, rfl, hr⟩
    · obtain ⟨M', e, ho⟩ := out_refB (d := d) (x := 4) (s := s) (l := l) (M0 := M) (by omega) hE hc h3 (by omega) (by omega) (fBu_rfl s M)
      refine ⟨M', nI 0, ?_, ho⟩
      rw [ze_Re_readPart]
      unfold zx_Re_readPart
      clear hE hc hk ho hB hki
      simp (disch := omega) only [il, nI_add, nI_mul, nI_sub, nI_div, nI_rem, nI_N, i32_lt, i32_le, nI_toInt, nI_subI, nI_clamp, zinT, zifT, iteT, iteF, zQ, zS, zkc, zI_sI, zL_sL, zI_wI, zL_wL, Nat.reduceEqDiff, Nat.reduceAdd, Nat.reduceMul, Nat.reduceLT, Nat.reduceLeDiff, reduceIte, eq_self, and_self, true_and, and_true, false_and, and_false, true_or, or_true, or_false, false_or, not_true_eq_false, not_false_eq_true, zarr, ne_eq, k3, k4, r0, c123, e]
    · obtain ⟨M1, e1, f1, hc1'⟩ := c_adv (d := d) (by omega) hE hk hc h3 hi
      have hE1 := EC_fr hE (f1.co (D := 0))
      obtain ⟨k31, k41, k61, r01, r11⟩ := c_k4 hE1
      by_cases hb : (tok β N (tok β N i).2.2.2).1 = 3
      · show ∃ M' b, _ ∧ OutB (tok β N) N s l M M' b (nxt (tok β N) i _)
        rw [nxt_t hb]
        obtain ⟨b1, b2, b3⟩ := cTok_bad hc1' hb
        have e2 := re_choice_bad (d := d) (n := n + 1) (by omega) hE1 b1 b2 (by omega) (by omega)
        refine ⟨M1, nI 0, ?_, f1.bu, Nat.zero_lt_one, (show 1 < 10 by decide), b2, b3, Or.inl rfl⟩
        rw [ze_Re_readPart]
        unfold zx_Re_readPart
        clear hr hE hE1 hc hc1' f1 hk hB hki
        simp (disch := omega) only [il, nI_add, nI_mul, nI_sub, nI_div, nI_rem, nI_N, i32_lt, i32_le, nI_toInt, nI_subI, nI_clamp, zinT, zifT, iteT, iteF, zQ, zS, zkc, zI_sI, zL_sL, zI_wI, zL_wL, Nat.reduceEqDiff, Nat.reduceAdd, Nat.reduceMul, Nat.reduceLT, Nat.reduceLeDiff, reduceIte, eq_self, and_self, true_and, and_true, false_and, and_false, true_or, or_true, or_false, false_or, not_true_eq_false, not_false_eq_true, zarr, ne_eq, k3, k4, r0, c123, e1, k31, e2]
      · show ∃ M' b, _ ∧ OutB (tok β N) N s l M M' b (nxt (tok β N) i _)
        rw [nxt_f hb]
        obtain ⟨M2, b, e2, ho⟩ := hr d _ l M1 hd1 hE1 (zSeq_fr hq f1.2.1 f1.2.2.1) hc1' hb hki.1 (by rw [f1.2.2.2.2.1 6 (by omega)]; exact hD) (Bst_co (D := 0) hs26 hB f1.co) hDc
        cases hrr : r (tok β N i).2.2.2 with
        | inl e =>
          rw [hrr] at ho
          obtain ⟨o1, o2, o3, o4, o5, o6⟩ := ho
          have hE2 := EC_bu hs26 hE1 o1
          obtain ⟨k32, k42, k62, r02, r12⟩ := c_k4 hE2
          refine ⟨M2, nI 0, ?_, f1.bu.trans o1, o2, o3, o4, o5, Or.inl rfl⟩
          rw [ze_Re_readPart]
          unfold zx_Re_readPart
          rcases o6 with rfl | ⟨rfl, o7, o8, o9⟩
          · clear hr hE hE1 hc hc1' f1 hk hB hki o1 hE2 o4 o5
            simp (disch := omega) only [il, nI_add, nI_mul, nI_sub, nI_div, nI_rem, nI_N, i32_lt, i32_le, nI_toInt, nI_subI, nI_clamp, zinT, zifT, iteT, iteF, zQ, zS, zkc, zI_sI, zL_sL, zI_wI, zL_wL, Nat.reduceEqDiff, Nat.reduceAdd, Nat.reduceMul, Nat.reduceLT, Nat.reduceLeDiff, reduceIte, eq_self, and_self, true_and, and_true, false_and, and_false, true_or, or_true, or_false, false_or, not_true_eq_false, not_false_eq_true, zarr, ne_eq, k3, k4, r0, c123, e1, k31, e2]
          · have e5 := ta_refuse1 (d := d) (x := nI 2) (by omega) k42 o4 o2 (by omega)
            clear hr hE hE1 hc hc1' f1 hk hB hki o1 hE2 o4 o5 o9
            simp (disch := omega) only [il, nI_add, nI_mul, nI_sub, nI_div, nI_rem, nI_N, i32_lt, i32_le, nI_toInt, nI_subI, nI_clamp, zinT, zifT, iteT, iteF, zQ, zS, zkc, zI_sI, zL_sL, zI_wI, zL_wL, Nat.reduceEqDiff, Nat.reduceAdd, Nat.reduceMul, Nat.reduceLT, Nat.reduceLeDiff, reduceIte, eq_self, and_self, true_and, and_true, false_and, and_false, true_or, or_true, or_false, false_or, not_true_eq_false, not_false_eq_true, zarr, ne_eq, k3, k4, r0, c123, e1, k31, e2, k32, k42, r02, o7, e5]
        | inr x =>
          rw [hrr] at ho
          obtain ⟨o1, o2, o3, o4, o5, o6, o7⟩ := ho
          subst o2
          have hE2 := EC_bu hs26 hE1 o1
          obtain ⟨k32, k42, k62, r02, r12⟩ := c_k4 hE2
          obtain ⟨c62, c32, c52⟩ := cTok_ok o4 o5
          have hkx := hk x.2 o3
          by_cases h125 : (tok β N x.2).1 = 125
          · obtain ⟨M3, e3, f3, hc3⟩ := c_adv (d := d) (by omega) hE2 hk o4 o5 o3
            have c125 : zI M2 4 3 = nI 125 := by rw [c32, h125]
            refine ⟨M3, nI 1, ?_, ?_⟩
            · rw [ze_Re_readPart]
              unfold zx_Re_readPart
              clear hr hE hE1 hc hc1' f1 hk hB hki o1 hE2 o4 o7 hkx f3 hc3
              simp (disch := omega) only [il, nI_add, nI_mul, nI_sub, nI_div, nI_rem, nI_N, i32_lt, i32_le, nI_toInt, nI_subI, nI_clamp, zinT, zifT, iteT, iteF, zQ, zS, zkc, zI_sI, zL_sL, zI_wI, zL_wL, Nat.reduceEqDiff, Nat.reduceAdd, Nat.reduceMul, Nat.reduceLT, Nat.reduceLeDiff, reduceIte, eq_self, and_self, true_and, and_true, false_and, and_false, true_or, or_true, or_false, false_or, not_true_eq_false, not_false_eq_true, zarr, ne_eq, k3, k4, r0, c123, e1, k31, e2, k32, k42, r02, c125, e3]
            · show OutB (tok β N) N s l M M3 (nI 1) (if (tok β N x.2).1 = 125 then nxt (tok β N) x.2 (fun k => .inr (x.1, k)) else .inl (2, plc (tok β N) x.2))
              rw [if_pos h125]
              have ff : fBu s M M3 := f1.bu.trans (o1.trans f3.bu)
              have hD3 : zI M3 6 1 = nI 0 := by rw [f3.2.2.2.2.1 6 (by omega)]; exact o6
              have hB3 : Bst s (l ++ [x.1]) M3 := Bst_co (D := 0) hs26 o7 f3.co
              by_cases hb3 : (tok β N (tok β N x.2).2.2.2).1 = 3
              · rw [nxt_t hb3]
                obtain ⟨b1, b2, b3⟩ := cTok_bad hc3 hb3
                exact ⟨ff, Nat.zero_lt_one, (show 1 < 10 by decide), b2, b3, Or.inr ⟨rfl, b1, hD3, _, hB3⟩⟩
              · rw [nxt_f hb3]
                exact ⟨ff, rfl, hkx.1, hc3, hb3, hD3, hB3⟩
          · have n125 : ¬ zI M2 4 3 = nI 125 := by rw [c32]; exact nI_ne (by omega) (by omega) h125
            obtain ⟨M3, e3, ho3⟩ := out_refB (d := d) (x := 2) (s := s) (l := l) (M0 := M) (by omega) hE2 o4 o5 (by omega) (by omega) (f1.bu.trans o1)
            refine ⟨M3, nI 0, ?_, ?_⟩
            · rw [ze_Re_readPart]
              unfold zx_Re_readPart
              clear hr hE hE1 hc hc1' f1 hk hB hki o1 hE2 o4 o7 hkx ho3
              simp (disch := omega) only [il, nI_add, nI_mul, nI_sub, nI_div, nI_rem, nI_N, i32_lt, i32_le, nI_toInt, nI_subI, nI_clamp, zinT, zifT, iteT, iteF, zQ, zS, zkc, zI_sI, zL_sL, zI_wI, zL_wL, Nat.reduceEqDiff, Nat.reduceAdd, Nat.reduceMul, Nat.reduceLT, Nat.reduceLeDiff, reduceIte, eq_self, and_self, true_and, and_true, false_and, and_false, true_or, or_true, or_false, false_or, not_true_eq_false, not_false_eq_true, zarr, ne_eq, k3, k4, r0, c123, e1, k31, e2, k32, k42, r02, n125, e3]
            · show OutB (tok β N) N s l M M3 (nI 0) (if (tok β N x.2).1 = 125 then nxt (tok β N) x.2 (fun k => .inr (x.1, k)) else .inl (2, plc (tok β N) x.2))
              rw [if_neg h125]
              exact ho3
  · rw [if_neg h123]
    have n123 : ¬ zI M 4 3 = nI 123 := by rw [c3]; exact nI_ne (by omega) (by omega) h123
    obtain ⟨M1, b, e1, ho⟩ := re_condition (L := L) (w := w) (N := N) (β := β) (pt := pt) hk k n hn d i 0 M (by omega) hE hc h3 hi hD (by omega)
    show ∃ M' b, _ ∧ OutB (tok β N) N s l M M' b (rb (sC (tok β N) pt k i) (fun t j => .inr (coP t, j)))
    unfold sC
    cases hrr : sNeg (tok β N) pt (rK (tok β N) pt k) 200 false i with
    | inl e =>
      rw [hrr] at ho
      obtain ⟨o1, o2, o3, o4, o5, o6⟩ := ho
      have hE1 := EC_fr hE o1
      obtain ⟨k31, k41, k61, r01, r11⟩ := c_k4 hE1
      obtain ⟨k81, r21⟩ := c_k8 hE1
      rcases o6 with rfl | ⟨rfl, o7, o8⟩
      · refine ⟨M1, nI 0, ?_, o1.bu, o2, o3, o4, o5, Or.inl rfl⟩
        rw [ze_Re_readPart]
        unfold zx_Re_readPart
        clear hR hE hE1 hc hk hB hki o1 o4 o5
        simp (disch := omega) only [il, nI_add, nI_mul, nI_sub, nI_div, nI_rem, nI_N, i32_lt, i32_le, nI_toInt, nI_subI, nI_clamp, zinT, zifT, iteT, iteF, zQ, zS, zkc, zI_sI, zL_sL, zI_wI, zL_wL, Nat.reduceEqDiff, Nat.reduceAdd, Nat.reduceMul, Nat.reduceLT, Nat.reduceLeDiff, reduceIte, eq_self, and_self, true_and, and_true, false_and, and_false, true_or, or_true, or_false, false_or, not_true_eq_false, not_false_eq_true, zarr, ne_eq, k3, k4, r0, n123, e1]
      · obtain ⟨M2, e2, g1, g2, g3, g4⟩ := bu_condition (d := d) (D := 0) (t := fun q => zL M1 7 (4 * 0 + q)) (by omega) hE1.1 (zSeq_fr hq o1.2.1 o1.2.2.1) hs26 (Bst_co hs26 hB o1) (by omega) (by omega) o8 (fun _ _ => rfl)
        refine ⟨M2, nI 1, ?_, o1.bu.trans g1, o2, o3, by rw [g2]; exact o4, by rw [g2]; exact o5, Or.inr ⟨rfl, by rw [g2]; exact o7, g3, _, g4⟩⟩
        rw [ze_Re_readPart]
        unfold zx_Re_readPart
        clear hR hE hE1 hc hk hB hki o1 o4 o5 g1 g2 g3 g4
        simp (disch := omega) only [il, nI_add, nI_mul, nI_sub, nI_div, nI_rem, nI_N, i32_lt, i32_le, nI_toInt, nI_subI, nI_clamp, zinT, zifT, iteT, iteF, zQ, zS, zkc, zI_sI, zL_sL, zI_wI, zL_wL, Nat.reduceEqDiff, Nat.reduceAdd, Nat.reduceMul, Nat.reduceLT, Nat.reduceLeDiff, reduceIte, eq_self, and_self, true_and, and_true, false_and, and_false, true_or, or_true, or_false, false_or, not_true_eq_false, not_false_eq_true, zarr, ne_eq, k3, k4, r0, n123, e1, k31, k61, k81, r11, r21, e2]
    | inr x =>
      rw [hrr] at ho
      obtain ⟨o1, o2, o3, o4, o5, o6, o7⟩ := ho
      subst o2
      have hE1 := EC_fr hE o1
      obtain ⟨k31, k41, k61, r01, r11⟩ := c_k4 hE1
      obtain ⟨k81, r21⟩ := c_k8 hE1
      obtain ⟨M2, e2, g1, g2, g3, g4⟩ := bu_condition (d := d) (D := 0) (t := x.1) (by omega) hE1.1 (zSeq_fr hq o1.2.1 o1.2.2.1) hs26 (Bst_co hs26 hB o1) (by omega) (by omega) o6 o7
      refine ⟨M2, nI 1, ?_, o1.bu.trans g1, rfl, o3, cTok_I o4 g2, o5, g3, g4⟩
      rw [ze_Re_readPart]
      unfold zx_Re_readPart
      clear hR hE hE1 hc hk hB hki o1 o4 o7 g1 g2 g3 g4
      simp (disch := omega) only [il, nI_add, nI_mul, nI_sub, nI_div, nI_rem, nI_N, i32_lt, i32_le, nI_toInt, nI_subI, nI_clamp, zinT, zifT, iteT, iteF, zQ, zS, zkc, zI_sI, zL_sL, zI_wI, zL_wL, Nat.reduceEqDiff, Nat.reduceAdd, Nat.reduceMul, Nat.reduceLT, Nat.reduceLeDiff, reduceIte, eq_self, and_self, true_and, and_true, false_and, and_false, true_or, or_true, or_false, false_or, not_true_eq_false, not_false_eq_true, zarr, ne_eq, k3, k4, r0, n123, e1, k31, k61, k81, r11, r21, e2]
