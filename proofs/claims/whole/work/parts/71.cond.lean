/-! the class reads a condition -/
theorem ts_negate {d L w D : Nat} {M : zM} {t : T4} (hd : 1 ≤ d) (hs : zSh L w M) (hD : D < 19) (h1 : zI M 6 1 = nI (D + 1)) (ht : ∀ q, q < 4 → zL M 7 (4 * D + q) = t q) : ∃ M', zV d n_TS_negate [.ref 6] M = some (none, M') ∧ fCo D M M' ∧ zI M' = zI M ∧ ∀ q, q < 4 → zL M' 7 (4 * D + q) = ngt t q := by
  obtain ⟨d, rfl, hd1⟩ := zdep hd
  have hK6 : zK M 6 = (8, 2) := by rw [hs.2.1]; rfl
  have hK7 : zK M 7 = (23, 76) := by rw [hs.2.1]; rfl
  have hR6 : zR M 6 0 = some 7 := by have hC := hs.2.2.1; simp only [hC]
  obtain ⟨M1, e, f1, f2, f3, f4⟩ := zloopE (n := 4) (g := fun q M1 => zG d n_TS_negate 11 [some (.ref 6), some (.int (nI q))] [] M1) (P := fun n M1 => fCo D M M1 ∧ zI M1 = zI M ∧ (∀ q, q < n → zL M1 7 (4 * D + q) = ngt t q) ∧ ∀ q, n ≤ q → q < 4 → zL M1 7 (4 * D + q) = t q) (by
    intro q M1 hq ⟨f1, f2, f3, f4⟩
    have k6 : zK M1 6 = (8, 2) := by rw [f1.2.1]; exact hK6
    have k7 : zK M1 7 = (23, 76) := by rw [f1.2.1]; exact hK7
    have r6 : zR M1 6 0 = some 7 := by rw [f1.2.2.1]; exact hR6
    have h11 : zI M1 6 1 = nI (D + 1) := by rw [f2]; exact h1
    have hD4 : D * 4 = 4 * D := Nat.mul_comm D 4
    have hold := f4 q (Nat.le_refl q) hq
    refine ⟨zsL M1 7 (4 * D + q) (t q ^^^ (-1)), ?_, ⟨f1.1, f1.2.1, f1.2.2.1, f1.2.2.2.1, f1.2.2.2.2.1, fun b hb => (zL_ne hb).trans (f1.2.2.2.2.2.1 b hb), fun j hj => by rw [zL_sL, if_neg (fun z => by omega)]; exact f1.2.2.2.2.2.2 j hj⟩, f2, ?_, ?_⟩
    · show zG d n_TS_negate 11 [some (.ref 6), some (.int (nI q))] [] M1 = _
      rw [zg_TS_negate_11]
      unfold zx_TS_negate_11
      clear f1 f2 f3 f4
      simp (disch := omega) only [il, nI_add, nI_mul, nI_sub, nI_div, nI_rem, nI_N, i32_lt, i32_le, nI_toInt, nI_subI, nI_clamp, zinT, zifT, iteT, iteF, zQ, zS, zkc, zI_sI, zL_sL, zI_wI, zL_wL, Nat.reduceEqDiff, Nat.reduceAdd, Nat.reduceMul, Nat.reduceLT, Nat.reduceLeDiff, reduceIte, eq_self, and_self, true_and, and_true, false_and, and_false, true_or, or_true, or_false, false_or, not_true_eq_false, not_false_eq_true, zarr, ne_eq, k6, k7, r6, h11, hD4, Nat.add_sub_cancel, hold]
    · intro j hj
      by_cases h : j = q
      · subst h; rw [zL_sL, if_pos ⟨rfl, rfl⟩]; rfl
      · rw [zL_sL, if_neg (fun z => h (by omega))]; exact f3 j (by omega)
    · intro j h1 h2
      rw [zL_sL, if_neg (fun z => by omega)]; exact f4 j (by omega) h2) (s0 := M) ⟨fCo_rfl D M, rfl, fun _ h => absurd h (by omega), fun q _ h => ht q h⟩
  refine ⟨M1, ?_, f1, f2, f3⟩
  have e9 : zG d n_TS_negate 11 [some (.ref 6), some (.int (nI 4))] [] M1 = some (none, M1) := by
    rw [zg_TS_negate_11]
    unfold zx_TS_negate_11
    clear f1 f2 f3 f4 e
    simp (disch := omega) only [il, nI_add, nI_mul, nI_sub, nI_div, nI_rem, nI_N, i32_lt, i32_le, nI_toInt, nI_subI, nI_clamp, zinT, zifT, iteT, iteF, zQ, zS, zkc, zI_sI, zL_sL, zI_wI, zL_wL, Nat.reduceEqDiff, Nat.reduceAdd, Nat.reduceMul, Nat.reduceLT, Nat.reduceLeDiff, reduceIte, eq_self, and_self, true_and, and_true, false_and, and_false, true_or, or_true, or_false, false_or, not_true_eq_false, not_false_eq_true, zarr, ne_eq]
  have e10 := Eq.trans e e9
  rw [ze_TS_negate]
  unfold zx_TS_negate
  clear f1 f2 f3 f4 e e9 ht
  simp (disch := omega) only [il, nI_add, nI_mul, nI_sub, nI_div, nI_rem, nI_N, i32_lt, i32_le, nI_toInt, nI_subI, nI_clamp, zinT, zifT, iteT, iteF, zQ, zS, zkc, zI_sI, zL_sL, zI_wI, zL_wL, Nat.reduceEqDiff, Nat.reduceAdd, Nat.reduceMul, Nat.reduceLT, Nat.reduceLeDiff, reduceIte, eq_self, and_self, true_and, and_true, false_and, and_false, true_or, or_true, or_false, false_or, not_true_eq_false, not_false_eq_true, zarr, ne_eq, hK6, h1]
  exact e10
theorem ts_joinTwo {d L w D x : Nat} {M : zM} {t u : T4} (hd : 1 ≤ d) (hs : zSh L w M) (hD : D + 1 < 19) (hx : x < 2) (h1 : zI M 6 1 = nI (D + 2)) (ht : ∀ q, q < 4 → zL M 7 (4 * D + q) = t q) (hu : ∀ q, q < 4 → zL M 7 (4 * (D + 1) + q) = u q) : ∃ M', zV d n_TS_joinTwo [.ref 6, .int (nI x)] M = some (none, M') ∧ fCo D M M' ∧ zI M' 4 = zI M 4 ∧ zI M' 6 1 = nI (D + 1) ∧ ∀ q, q < 4 → zL M' 7 (4 * D + q) = (if x = 1 then anT t u else orT t u) q := by
  obtain ⟨d, rfl, hd1⟩ := zdep hd
  have hK6 : zK M 6 = (8, 2) := by rw [hs.2.1]; rfl
  have hK7 : zK M 7 = (23, 76) := by rw [hs.2.1]; rfl
  have hR6 : zR M 6 0 = some 7 := by have hC := hs.2.2.1; simp only [hC]
  obtain ⟨M1, e, f1, f2, f3, f4, f5⟩ := zloopE (n := 4) (g := fun q M1 => zG d n_TS_joinTwo 21 [some (.ref 6), some (.int (nI x)), some (.int (nI q)), none, none, none] [] M1) (P := fun n M1 => fCo D M M1 ∧ zI M1 = zI (zsI M 6 1 (nI (D + 1))) ∧ (∀ q, q < n → zL M1 7 (4 * D + q) = (if x = 1 then anT t u else orT t u) q) ∧ (∀ q, n ≤ q → q < 4 → zL M1 7 (4 * D + q) = t q) ∧ ∀ q, q < 4 → zL M1 7 (4 * (D + 1) + q) = u q) (by
    intro q M1 hq ⟨f1, f2, f3, f4, f5⟩
    have k6 : zK M1 6 = (8, 2) := by rw [f1.2.1]; exact hK6
    have k7 : zK M1 7 = (23, 76) := by rw [f1.2.1]; exact hK7
    have r6 : zR M1 6 0 = some 7 := by rw [f1.2.2.1]; exact hR6
    have h11 : zI M1 6 1 = nI (D + 1) := by rw [f2]; rfl
    have hD4 : D * 4 = 4 * D := Nat.mul_comm D 4
    have hD5 : (D + 1) * 4 = 4 * (D + 1) := Nat.mul_comm _ 4
    have hold := f4 q (Nat.le_refl q) hq
    have hol2 := f5 q hq
    refine ⟨zsL M1 7 (4 * D + q) ((if x = 1 then anT t u else orT t u) q), ?_, ⟨f1.1, f1.2.1, f1.2.2.1, f1.2.2.2.1, f1.2.2.2.2.1, fun b hb => (zL_ne hb).trans (f1.2.2.2.2.2.1 b hb), fun j hj => by rw [zL_sL, if_neg (fun z => by omega)]; exact f1.2.2.2.2.2.2 j hj⟩, f2, ?_, ?_, ?_⟩
    · show zG d n_TS_joinTwo 21 [some (.ref 6), some (.int (nI x)), some (.int (nI q)), none, none, none] [] M1 = _
      rw [zg_TS_joinTwo_21]
      unfold zx_TS_joinTwo_21
      clear f1 f2 f3 f4 f5
      have : x = 0 ∨ x = 1 := by omega
      rcases this with rfl | rfl
      · unfold orT
        simp (disch := omega) only [il, nI_add, nI_mul, nI_sub, nI_div, nI_rem, nI_N, i32_lt, i32_le, nI_toInt, nI_subI, nI_clamp, zinT, zifT, iteT, iteF, zQ, zS, zkc, zI_sI, zL_sL, zI_wI, zL_wL, Nat.reduceEqDiff, Nat.reduceAdd, Nat.reduceMul, Nat.reduceLT, Nat.reduceLeDiff, reduceIte, eq_self, and_self, true_and, and_true, false_and, and_false, true_or, or_true, or_false, false_or, not_true_eq_false, not_false_eq_true, zarr, ne_eq, k6, k7, r6, h11, hD4, hD5, Nat.add_sub_cancel, hold, hol2]
      · unfold anT
        simp (disch := omega) only [il, nI_add, nI_mul, nI_sub, nI_div, nI_rem, nI_N, i32_lt, i32_le, nI_toInt, nI_subI, nI_clamp, zinT, zifT, iteT, iteF, zQ, zS, zkc, zI_sI, zL_sL, zI_wI, zL_wL, Nat.reduceEqDiff, Nat.reduceAdd, Nat.reduceMul, Nat.reduceLT, Nat.reduceLeDiff, reduceIte, eq_self, and_self, true_and, and_true, false_and, and_false, true_or, or_true, or_false, false_or, not_true_eq_false, not_false_eq_true, zarr, ne_eq, k6, k7, r6, h11, hD4, hD5, Nat.add_sub_cancel, hold, hol2]
    · intro j hj
      by_cases h : j = q
      · subst h; rw [zL_sL, if_pos ⟨rfl, rfl⟩]
      · rw [zL_sL, if_neg (fun z => h (by omega))]; exact f3 j (by omega)
    · intro j h1 h2
      rw [zL_sL, if_neg (fun z => by omega)]; exact f4 j (by omega) h2
    · intro j h1
      rw [zL_sL, if_neg (fun z => by omega)]; exact f5 j h1) (s0 := zsI M 6 1 (nI (D + 1))) ⟨⟨rfl, rfl, rfl, fun b _ h2 => zI_ne h2, rfl, fun _ _ => rfl, fun _ _ => rfl⟩, rfl, fun _ h => absurd h (by omega), fun q _ h => ht q h, fun q h => hu q h⟩
  refine ⟨M1, ?_, f1, by rw [f2]; exact zI_ne (by omega), by rw [f2]; rfl, f3⟩
  have e9 : zG d n_TS_joinTwo 21 [some (.ref 6), some (.int (nI x)), some (.int (nI 4)), none, none, none] [] M1 = some (none, M1) := by
    rw [zg_TS_joinTwo_21]
    unfold zx_TS_joinTwo_21
    clear f1 f2 f3 f4 f5 e
    simp (disch := omega) only [il, nI_add, nI_mul, nI_sub, nI_div, nI_rem, nI_N, i32_lt, i32_le, nI_toInt, nI_subI, nI_clamp, zinT, zifT, iteT, iteF, zQ, zS, zkc, zI_sI, zL_sL, zI_wI, zL_wL, Nat.reduceEqDiff, Nat.reduceAdd, Nat.reduceMul, Nat.reduceLT, Nat.reduceLeDiff, reduceIte, eq_self, and_self, true_and, and_true, false_and, and_false, true_or, or_true, or_false, false_or, not_true_eq_false, not_false_eq_true, zarr, ne_eq]
  have e10 := Eq.trans e e9
  rw [ze_TS_joinTwo]
  unfold zx_TS_joinTwo
  clear f1 f2 f3 f4 f5 e e9 ht hu
  simp (disch := omega) only [il, nI_add, nI_mul, nI_sub, nI_div, nI_rem, nI_N, i32_lt, i32_le, nI_toInt, nI_subI, nI_clamp, zinT, zifT, iteT, iteF, zQ, zS, zkc, zI_sI, zL_sL, zI_wI, zL_wL, Nat.reduceEqDiff, Nat.reduceAdd, Nat.reduceMul, Nat.reduceLT, Nat.reduceLeDiff, reduceIte, eq_self, and_self, true_and, and_true, false_and, and_false, true_or, or_true, or_false, false_or, not_true_eq_false, not_false_eq_true, zarr, ne_eq, hK6, h1]
  exact e10
/-- how a method of the reader answers -/
def OutC (X : Nat → Tk) (N D : Nat) (M M' : zM) (b : Int32) : Rs T4 → Prop
  | .inl e => fCo D M M' ∧ 0 < e.1 ∧ e.1 < 10 ∧ zI M' 4 6 = nI e.1 ∧ zI M' 4 7 = nI e.2 ∧ (b = nI 0 ∨ (b = nI 1 ∧ zI M' 4 3 = nI 3 ∧ zI M' 6 1 = nI (D + 1)))
  | .inr x => fCo D M M' ∧ b = nI 1 ∧ x.2 ≤ N ∧ cTok (X x.2) M' ∧ (X x.2).1 ≠ 3 ∧ zI M' 6 1 = nI (D + 1) ∧ ∀ q, q < 4 → zL M' 7 (4 * D + q) = x.1 q
def EC (L w N : Nat) (β : Nat → Nat) (pt : Nat → Int64) (M : zM) : Prop := zSh L w M ∧ tapeC N β M ∧ zL M 0 = pt
theorem EC_fr {L w N D : Nat} {β : Nat → Nat} {pt : Nat → Int64} {M M' : zM} (h : EC L w N β pt M) (f : fCo D M M') : EC L w N β pt M' := by
  obtain ⟨h1, h2, h3⟩ := h
  refine ⟨zSh_fr h1 f.1 f.2.1 f.2.2.1, ?_, by rw [f.2.2.2.2.2.1 0 (by omega)]; exact h3⟩
  unfold tapeC
  rw [f.2.2.2.2.1, f.2.2.2.1 5 (by omega) (by omega)]
  exact h2
theorem c_adv {d L w N i : Nat} {β : Nat → Nat} {pt : Nat → Int64} {M : zM} (hd : 3 ≤ d) (h : EC L w N β pt M) (hk : tkOk (tok β N) N) (hc : cTok (tok β N i) M) (h3 : (tok β N i).1 ≠ 3) (hi : i ≤ N) : ∃ M', zV d n_Ta_advance [.ref 4] M = some (none, M') ∧ fTa M M' ∧ cTok (tok β N (tok β N i).2.2.2) M' := by
  obtain ⟨c1, c2, c3, c4, c5, c6⟩ := hc
  rw [if_neg h3] at c5
  exact ta_advance hd h.1 h.2.1 (hk i hi).1 c1 c5
theorem c_k4 {L w N : Nat} {β : Nat → Nat} {pt : Nat → Int64} {M : zM} (h : EC L w N β pt M) : zK M 3 = (3, 3) ∧ zK M 4 = (6, 8) ∧ zK M 6 = (8, 2) ∧ zR M 3 0 = some 4 ∧ zR M 3 1 = some 6 := by
  have hC := h.1.2.2.1
  exact ⟨by rw [h.1.2.1]; rfl, by rw [h.1.2.1]; rfl, by rw [h.1.2.1]; rfl, by simp only [hC], by simp only [hC]⟩
/-- what is read has ended with a fault -/
theorem re_plain_bad {d L w N f n : Nat} {β : Nat → Nat} {pt : Nat → Int64} {M : zM} (hd : 2 ≤ d) (h : EC L w N β pt M) (h3 : zI M 4 3 = nI 3) (h6 : zI M 4 6 = nI f) (hf : 0 < f) (hf2 : f < 100) : zV d n_Re_readPlain [.ref 3, .int (nI n)] M = some (some (.int (nI 0)), M) := by
  obtain ⟨d, rfl, hd1⟩ := zdep hd
  obtain ⟨k3, k4, k6, r0, r1⟩ := c_k4 h
  have e := ta_refuse1 (d := d) (x := nI 2) hd1 k4 h6 hf hf2
  rw [ze_Re_readPlain]
  unfold zx_Re_readPlain
  clear h
  simp (disch := omega) only [il, nI_add, nI_mul, nI_sub, nI_div, nI_rem, nI_N, i32_lt, i32_le, nI_toInt, nI_subI, nI_clamp, zinT, zifT, iteT, iteF, zQ, zS, zkc, zI_sI, zL_sL, zI_wI, zL_wL, Nat.reduceEqDiff, Nat.reduceAdd, Nat.reduceMul, Nat.reduceLT, Nat.reduceLeDiff, reduceIte, eq_self, and_self, true_and, and_true, false_and, and_false, true_or, or_true, or_false, false_or, not_true_eq_false, not_false_eq_true, zarr, ne_eq, k3, k4, r0, h3, e]
theorem re_cond_bad {d L w N f n : Nat} {β : Nat → Nat} {pt : Nat → Int64} {M : zM} (hd : 3 ≤ d) (h : EC L w N β pt M) (h3 : zI M 4 3 = nI 3) (h6 : zI M 4 6 = nI f) (hf : 0 < f) (hf2 : f < 100) : zV d n_Re_readCondition [.ref 3, .int (nI n)] M = some (some (.int (nI 0)), M) := by
  obtain ⟨d, rfl, hd1⟩ := zdep hd
  have e := re_plain_bad (d := d) (n := n) hd1 h h3 h6 hf hf2
  obtain ⟨k3, k4, k6, r0, r1⟩ := c_k4 h
  rw [ze_Re_readCondition]
  unfold zx_Re_readCondition
  simp only [il]
  rw [zg_Re_readCondition_4]
  unfold zx_Re_readCondition_4
  clear h
  simp (disch := omega) only [il, nI_add, nI_mul, nI_sub, nI_div, nI_rem, nI_N, i32_lt, i32_le, nI_toInt, nI_subI, nI_clamp, zinT, zifT, iteT, iteF, zQ, zS, zkc, zI_sI, zL_sL, zI_wI, zL_wL, Nat.reduceEqDiff, Nat.reduceAdd, Nat.reduceMul, Nat.reduceLT, Nat.reduceLeDiff, reduceIte, eq_self, and_self, true_and, and_true, false_and, and_false, true_or, or_true, or_false, false_or, not_true_eq_false, not_false_eq_true, zarr, ne_eq, k3, k4, r0, h3, e]
theorem re_all_bad {d L w N f n : Nat} {β : Nat → Nat} {pt : Nat → Int64} {M : zM} (hd : 4 ≤ d) (h : EC L w N β pt M) (h3 : zI M 4 3 = nI 3) (h6 : zI M 4 6 = nI f) (hf : 0 < f) (hf2 : f < 100) : zV d n_Re_readAllOf [.ref 3, .int (nI n)] M = some (some (.int (nI 0)), M) := by
  obtain ⟨d, rfl, hd1⟩ := zdep hd
  have e := re_cond_bad (d := d) (n := n) hd1 h h3 h6 hf hf2
  obtain ⟨k3, k4, k6, r0, r1⟩ := c_k4 h
  rw [ze_Re_readAllOf]
  unfold zx_Re_readAllOf
  clear h
  simp (disch := omega) only [il, nI_add, nI_mul, nI_sub, nI_div, nI_rem, nI_N, i32_lt, i32_le, nI_toInt, nI_subI, nI_clamp, zinT, zifT, iteT, iteF, zQ, zS, zkc, zI_sI, zL_sL, zI_wI, zL_wL, Nat.reduceEqDiff, Nat.reduceAdd, Nat.reduceMul, Nat.reduceLT, Nat.reduceLeDiff, reduceIte, eq_self, and_self, true_and, and_true, false_and, and_false, true_or, or_true, or_false, false_or, not_true_eq_false, not_false_eq_true, zarr, ne_eq, k3, e]
theorem re_any_bad {d L w N f n : Nat} {β : Nat → Nat} {pt : Nat → Int64} {M : zM} (hd : 5 ≤ d) (h : EC L w N β pt M) (h3 : zI M 4 3 = nI 3) (h6 : zI M 4 6 = nI f) (hf : 0 < f) (hf2 : f < 100) : zV d n_Re_readAnyOf [.ref 3, .int (nI n)] M = some (some (.int (nI 0)), M) := by
  obtain ⟨d, rfl, hd1⟩ := zdep hd
  have e := re_all_bad (d := d) (n := n) hd1 h h3 h6 hf hf2
  obtain ⟨k3, k4, k6, r0, r1⟩ := c_k4 h
  rw [ze_Re_readAnyOf]
  unfold zx_Re_readAnyOf
  clear h
  simp (disch := omega) only [il, nI_add, nI_mul, nI_sub, nI_div, nI_rem, nI_N, i32_lt, i32_le, nI_toInt, nI_subI, nI_clamp, zinT, zifT, iteT, iteF, zQ, zS, zkc, zI_sI, zL_sL, zI_wI, zL_wL, Nat.reduceEqDiff, Nat.reduceAdd, Nat.reduceMul, Nat.reduceLT, Nat.reduceLeDiff, reduceIte, eq_self, and_self, true_and, and_true, false_and, and_false, true_or, or_true, or_false, false_or, not_true_eq_false, not_false_eq_true, zarr, ne_eq, k3, e]
theorem cTok_bad {x : Tk} {M : zM} (h : cTok x M) (h3 : x.1 = 3) : zI M 4 3 = nI 3 ∧ zI M 4 6 = nI 1 ∧ zI M 4 7 = nI x.2.2.1 := by
  obtain ⟨c1, c2, c3, c4, c5, c6⟩ := h
  rw [if_pos h3] at c5
  exact ⟨by rw [c2, h3], c5, c6 h3⟩
theorem cTok_ok {x : Tk} {M : zM} (h : cTok x M) (h3 : x.1 ≠ 3) : zI M 4 6 = nI 0 ∧ zI M 4 3 = nI x.1 ∧ zI M 4 5 = nI x.2.2.1 := by
  obtain ⟨c1, c2, c3, c4, c5, c6⟩ := h
  rw [if_neg h3] at c5
  exact ⟨c5, c2, c3⟩
