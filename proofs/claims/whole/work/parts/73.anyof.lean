/-! the class reads a condition: ! & | -/
theorem re_c4_bad {d L w N f n x3 : Nat} {β : Nat → Nat} {pt : Nat → Int64} {M : zM} {g : Int32} (hd : 2 ≤ d) (h : EC L w N β pt M) (h3 : zI M 4 3 = nI 3) (h6 : zI M 4 6 = nI f) (hf : 0 < f) (hf2 : f < 100) (hx : x3 ≤ 200) : zG d n_Re_readCondition 4 [some (.ref 3), some (.int (nI n)), some (.int g), some (.int (nI x3))] [] M = some (some (.int (nI 0)), M) := by
  have e := re_plain_bad (d := d) (n := n) hd h h3 h6 hf hf2
  obtain ⟨k3, k4, k6, r0, r1⟩ := c_k4 h
  rw [zg_Re_readCondition_4]
  unfold zx_Re_readCondition_4
  clear h
  by_cases h200 : x3 = 200
  · subst h200
    simp (disch := omega) only [il, nI_add, nI_mul, nI_sub, nI_div, nI_rem, nI_N, i32_lt, i32_le, nI_toInt, nI_subI, nI_clamp, zinT, zifT, iteT, iteF, zQ, zS, zkc, zI_sI, zL_sL, zI_wI, zL_wL, Nat.reduceEqDiff, Nat.reduceAdd, Nat.reduceMul, Nat.reduceLT, Nat.reduceLeDiff, reduceIte, eq_self, and_self, true_and, and_true, false_and, and_false, true_or, or_true, or_false, false_or, not_true_eq_false, not_false_eq_true, zarr, ne_eq, k3, k4, r0, h3, e]
  · simp (disch := omega) only [il, nI_add, nI_mul, nI_sub, nI_div, nI_rem, nI_N, i32_lt, i32_le, nI_toInt, nI_subI, nI_clamp, zinT, zifT, iteT, iteF, zQ, zS, zkc, zI_sI, zL_sL, zI_wI, zL_wL, Nat.reduceEqDiff, Nat.reduceAdd, Nat.reduceMul, Nat.reduceLT, Nat.reduceLeDiff, reduceIte, eq_self, and_self, true_and, and_true, false_and, and_false, true_or, or_true, or_false, false_or, not_true_eq_false, not_false_eq_true, zarr, ne_eq, k3, k4, r0, h3, e]
/-- a ! in front of what was read -/
theorem re_c4_tail {d L w N n D : Nat} {β : Nat → Nat} {pt : Nat → Int64} {M M1 : zM} {b : Int32} {g : Bool} {r : Rs T4} (hd : 1 ≤ d) (hE : EC L w N β pt M) (hD : D < 19) (ho : OutC (tok β N) N D M M1 b r) : ∃ M' b', (if b ≠ 0 then (if nI g.toNat = 0 then (zif ((1 : Int32) = 0 ∨ (1 : Int32) = 1) (some (some (Value.int (1 : Int32)), M1))) else zif ((zK M1 3).1 = 3) (zoR (zR M1 3 1) fun q1 => zif ((zK M1 q1).1 = 8) (zbV (zV d n_TS_negate [.ref q1] M1) fun M2 => zif ((1 : Int32) = 0 ∨ (1 : Int32) = 1) (some (some (.int (1 : Int32)), M2))))) else zif ((0 : Int32) = 0 ∨ (0 : Int32) = 1) (some (some (.int (0 : Int32)), M1))) = some (some (.int b'), M') ∧ OutC (tok β N) N D M M' b' (rb r (fun t j => .inr (if g = true then ngt t else t, j))) := by
  cases r with
  | inl e =>
    obtain ⟨o1, o2, o3, o4, o5, o6⟩ := ho
    have hE1 := EC_fr hE o1
    obtain ⟨k3, k4, k6, r0, r1⟩ := c_k4 hE1
    rcases o6 with rfl | ⟨rfl, o7, o8⟩
    · refine ⟨M1, nI 0, ?_, o1, o2, o3, o4, o5, Or.inl rfl⟩
      simp (disch := omega) only [il, nI_add, nI_mul, nI_sub, nI_div, nI_rem, nI_N, i32_lt, i32_le, nI_toInt, nI_subI, nI_clamp, zinT, zifT, iteT, iteF, zQ, zS, zkc, zI_sI, zL_sL, zI_wI, zL_wL, Nat.reduceEqDiff, Nat.reduceAdd, Nat.reduceMul, Nat.reduceLT, Nat.reduceLeDiff, reduceIte, eq_self, and_self, true_and, and_true, false_and, and_false, true_or, or_true, or_false, false_or, not_true_eq_false, not_false_eq_true, zarr, ne_eq]
    · cases g
      · refine ⟨M1, nI 1, ?_, o1, o2, o3, o4, o5, Or.inr ⟨rfl, o7, o8⟩⟩
        clear hE hE1 o1
        simp (disch := omega) only [il, nI_add, nI_mul, nI_sub, nI_div, nI_rem, nI_N, i32_lt, i32_le, nI_toInt, nI_subI, nI_clamp, zinT, zifT, iteT, iteF, zQ, zS, zkc, zI_sI, zL_sL, zI_wI, zL_wL, Nat.reduceEqDiff, Nat.reduceAdd, Nat.reduceMul, Nat.reduceLT, Nat.reduceLeDiff, reduceIte, eq_self, and_self, true_and, and_true, false_and, and_false, true_or, or_true, or_false, false_or, not_true_eq_false, not_false_eq_true, zarr, ne_eq, Bool.toNat_false]
      · obtain ⟨M2, e2, f1, f2, f3⟩ := ts_negate (d := d) (D := D) (t := fun q => zL M1 7 (4 * D + q)) hd hE1.1 hD o8 (fun _ _ => rfl)
        refine ⟨M2, nI 1, ?_, o1.trans f1 (Nat.le_refl D), o2, o3, by rw [f2]; exact o4, by rw [f2]; exact o5, Or.inr ⟨rfl, by rw [f2]; exact o7, by rw [f2]; exact o8⟩⟩
        clear hE hE1 o1 f1 f2 f3
        simp (disch := omega) only [il, nI_add, nI_mul, nI_sub, nI_div, nI_rem, nI_N, i32_lt, i32_le, nI_toInt, nI_subI, nI_clamp, zinT, zifT, iteT, iteF, zQ, zS, zkc, zI_sI, zL_sL, zI_wI, zL_wL, Nat.reduceEqDiff, Nat.reduceAdd, Nat.reduceMul, Nat.reduceLT, Nat.reduceLeDiff, reduceIte, eq_self, and_self, true_and, and_true, false_and, and_false, true_or, or_true, or_false, false_or, not_true_eq_false, not_false_eq_true, zarr, ne_eq, Bool.toNat_true, k3, k6, r1, e2]
  | inr x =>
    obtain ⟨o1, o2, o3, o4, o5, o6, o7⟩ := ho
    subst o2
    have hE1 := EC_fr hE o1
    obtain ⟨k3, k4, k6, r0, r1⟩ := c_k4 hE1
    cases g
    · refine ⟨M1, nI 1, ?_, o1, rfl, o3, o4, o5, o6, o7⟩
      clear hE hE1 o1 o7
      simp (disch := omega) only [il, nI_add, nI_mul, nI_sub, nI_div, nI_rem, nI_N, i32_lt, i32_le, nI_toInt, nI_subI, nI_clamp, zinT, zifT, iteT, iteF, zQ, zS, zkc, zI_sI, zL_sL, zI_wI, zL_wL, Nat.reduceEqDiff, Nat.reduceAdd, Nat.reduceMul, Nat.reduceLT, Nat.reduceLeDiff, reduceIte, eq_self, and_self, true_and, and_true, false_and, and_false, true_or, or_true, or_false, false_or, not_true_eq_false, not_false_eq_true, zarr, ne_eq, Bool.toNat_false]
    · obtain ⟨M2, e2, f1, f2, f3⟩ := ts_negate (d := d) (D := D) (t := x.1) hd hE1.1 hD o6 o7
      refine ⟨M2, nI 1, ?_, o1.trans f1 (Nat.le_refl D), rfl, o3, cTok_I o4 (by rw [f2]), o5, by rw [f2]; exact o6, f3⟩
      clear hE hE1 o1 f1 f2 f3 o7
      simp (disch := omega) only [il, nI_add, nI_mul, nI_sub, nI_div, nI_rem, nI_N, i32_lt, i32_le, nI_toInt, nI_subI, nI_clamp, zinT, zifT, iteT, iteF, zQ, zS, zkc, zI_sI, zL_sL, zI_wI, zL_wL, Nat.reduceEqDiff, Nat.reduceAdd, Nat.reduceMul, Nat.reduceLT, Nat.reduceLeDiff, reduceIte, eq_self, and_self, true_and, and_true, false_and, and_false, true_or, or_true, or_false, false_or, not_true_eq_false, not_false_eq_true, zarr, ne_eq, Bool.toNat_true, k3, k6, r1, e2]
theorem OutC_pre {X : Nat → Tk} {N D : Nat} {M0 M M' : zM} {b : Int32} {r : Rs T4} (hf : fCo D M0 M) (h : OutC X N D M M' b r) : OutC X N D M0 M' b r := by
  cases r with
  | inl e => exact ⟨hf.trans h.1 (Nat.le_refl D), h.2⟩
  | inr x => exact ⟨hf.trans h.1 (Nat.le_refl D), h.2⟩
theorem re_c4 {L w N n c d0 : Nat} {β : Nat → Nat} {pt : Nat → Int64} {R : Option (Nat → Rs T4)} (hk : tkOk (tok β N) N) (hc1 : 1 ≤ c) (hd0 : 3 ≤ d0) (hP : RM n_Re_readPlain L w N β pt n c d0 (sPl (tok β N) pt R)) : ∀ f g d i D M, f ≤ 200 → d0 ≤ d → EC L w N β pt M → cTok (tok β N i) M → (tok β N i).1 ≠ 3 → i ≤ N → zI M 6 1 = nI D → D + c ≤ 19 → ∃ M' b, zG d n_Re_readCondition 4 [some (.ref 3), some (.int (nI n)), some (.int (nI (Bool.toNat g))), some (.int (nI (200 - f)))] [] M = some (some (.int b), M') ∧ OutC (tok β N) N D M M' b (sNeg (tok β N) pt R f g i) := by
  intro f
  induction f with
  | zero =>
    intro g d i D M hf hd hE hc h3 hi hD hDc
    obtain ⟨M1, b, e1, ho⟩ := hP d i D M hd hE hc h3 hi hD hDc
    obtain ⟨M', b', e2, ho2⟩ := re_c4_tail (d := d) (n := n) (g := g) (by omega) hE (show D < 19 by omega) ho
    refine ⟨M', b', ?_, ho2⟩
    obtain ⟨k3, k4, k6, r0, r1⟩ := c_k4 hE
    rw [← e2, zg_Re_readCondition_4]
    unfold zx_Re_readCondition_4
    rw [if_pos (by decide), zif_t (by rw [k3]), e1]
    rfl
  | succ f ih =>
    intro g d i D M hf hd hE hc h3 hi hD hDc
    obtain ⟨k3, k4, k6, r0, r1⟩ := c_k4 hE
    obtain ⟨c6, c3, c5⟩ := cTok_ok hc h3
    have hlt : ¬ (200 : Int32) ≤ nI (200 - (f + 1)) := by
      show ¬ nI 200 ≤ _
      rw [nI_E (by omega) (by omega)]; omega
    by_cases h33 : (tok β N i).1 = 33
    · have es : sNeg (tok β N) pt R (f + 1) g i = nxt (tok β N) i (fun j => sNeg (tok β N) pt R f (!g) j) := if_pos h33
      rw [es]
      have c33 : zI M 4 3 = nI 33 := by rw [c3, h33]
      obtain ⟨M1, e1, f1, hc1'⟩ := c_adv (d := d) (by omega) hE hk hc h3 hi
      have hE1 := EC_fr hE (f1.co (D := D))
      have hD1 : zI M1 6 1 = nI D := by rw [f1.2.2.2.2.1 6 (by omega)]; exact hD
      have ev : zG d n_Re_readCondition 4 [some (.ref 3), some (.int (nI n)), some (.int (nI (Bool.toNat g))), some (.int (nI (200 - (f + 1))))] [] M = zG d n_Re_readCondition 4 [some (.ref 3), some (.int (nI n)), some (.int (nI (Bool.toNat (!g)))), some (.int (nI (200 - f)))] [] M1 := by
        rw [zg_Re_readCondition_4]
        unfold zx_Re_readCondition_4
        rw [if_neg hlt]
        have hx : 200 - (f + 1) + 1 = 200 - f := by omega
        clear ih hP hE hE1 hc hc1' f1 hk
        cases g
        · simp (disch := omega) only [il, nI_add, nI_mul, nI_sub, nI_div, nI_rem, nI_N, i32_lt, i32_le, nI_toInt, nI_subI, nI_clamp, zinT, zifT, iteT, iteF, zQ, zS, zkc, zI_sI, zL_sL, zI_wI, zL_wL, Nat.reduceEqDiff, Nat.reduceAdd, Nat.reduceMul, Nat.reduceLT, Nat.reduceLeDiff, reduceIte, eq_self, and_self, true_and, and_true, false_and, and_false, true_or, or_true, or_false, false_or, not_true_eq_false, not_false_eq_true, zarr, ne_eq, k3, k4, r0, c33, Bool.toNat_false, Bool.not_false, Bool.toNat_true, e1, hx]
        · simp (disch := omega) only [il, nI_add, nI_mul, nI_sub, nI_div, nI_rem, nI_N, i32_lt, i32_le, nI_toInt, nI_subI, nI_clamp, zinT, zifT, iteT, iteF, zQ, zS, zkc, zI_sI, zL_sL, zI_wI, zL_wL, Nat.reduceEqDiff, Nat.reduceAdd, Nat.reduceMul, Nat.reduceLT, Nat.reduceLeDiff, reduceIte, eq_self, and_self, true_and, and_true, false_and, and_false, true_or, or_true, or_false, false_or, not_true_eq_false, not_false_eq_true, zarr, ne_eq, k3, k4, r0, c33, Bool.toNat_false, Bool.not_true, Bool.toNat_true, e1, hx]
      rw [ev]
      by_cases hb : (tok β N (tok β N i).2.2.2).1 = 3
      · rw [nxt_t hb]
        obtain ⟨b1, b2, b3⟩ := cTok_bad hc1' hb
        exact ⟨M1, nI 0, re_c4_bad (by omega) hE1 b1 b2 (by omega) (by omega) (by omega), f1.co, Nat.zero_lt_one, (show 1 < 10 by decide), b2, b3, Or.inl rfl⟩
      · rw [nxt_f hb]
        obtain ⟨M', b, e2, ho⟩ := ih (!g) d _ D M1 (by omega) hd hE1 hc1' hb (hk i hi).1 hD1 hDc
        exact ⟨M', b, e2, OutC_pre f1.co ho⟩
    · have es : sNeg (tok β N) pt R (f + 1) g i = rb (sPl (tok β N) pt R i) (fun t j => .inr (if g = true then ngt t else t, j)) := if_neg h33
      rw [es]
      obtain ⟨M1, b, e1, ho⟩ := hP d i D M hd hE hc h3 hi hD hDc
      obtain ⟨M', b', e2, ho2⟩ := re_c4_tail (d := d) (n := n) (g := g) (by omega) hE (show D < 19 by omega) ho
      refine ⟨M', b', ?_, ho2⟩
      have n33 : ¬ zI M 4 3 = (33 : Int32) := by
        show ¬ zI M 4 3 = nI 33
        rw [c3]; exact nI_ne (by have := (hk i hi).2.2.2.2.2.1; omega) (by omega) h33
      rw [← e2, zg_Re_readCondition_4]
      unfold zx_Re_readCondition_4
      rw [if_neg hlt, zif_t (by rw [k3]), r0, zoR_S, zif_t (by rw [k4]), if_pos n33, zif_t (by rw [k3]), e1]
      rfl
theorem re_cond {L w N n c d0 : Nat} {β : Nat → Nat} {pt : Nat → Int64} {R : Option (Nat → Rs T4)} (hk : tkOk (tok β N) N) (hc1 : 1 ≤ c) (hd0 : 3 ≤ d0) (hP : RM n_Re_readPlain L w N β pt n c d0 (sPl (tok β N) pt R)) : RM n_Re_readCondition L w N β pt n c (d0 + 1) (sNeg (tok β N) pt R 200 false) := by
  intro d i D M hd hE hc h3 hi hD hDc
  obtain ⟨d, rfl, hd1⟩ := zdep (show d0 + 1 ≤ d by omega)
  rw [ze_Re_readCondition]
  unfold zx_Re_readCondition
  exact re_c4 hk hc1 hd0 hP 200 false d i D M (Nat.le_refl _) hd1 hE hc h3 hi hD hDc
