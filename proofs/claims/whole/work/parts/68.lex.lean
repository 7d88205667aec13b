/-! tokens; the class reads them -/
def skp (β : Nat → Nat) : Nat → Nat → Nat
  | 0, i => i
  | k + 1, i => if β i = 32 then skp β k (i + 1) else i
def fgs (β : Nat → Nat) : Nat → Nat → Nat
  | 0, i => i
  | k + 1, i => if 48 ≤ β i ∧ β i ≤ 57 then fgs β k (i + 1) else i
theorem skp_b {β : Nat → Nat} : ∀ k i, i ≤ skp β k i ∧ skp β k i ≤ i + k
  | 0, i => ⟨Nat.le_refl _, Nat.le_refl _⟩
  | k + 1, i => by
    have := skp_b (β := β) k (i + 1)
    unfold skp
    split <;> omega
theorem fgs_b {β : Nat → Nat} : ∀ k i, i ≤ fgs β k i ∧ fgs β k i ≤ i + k
  | 0, i => ⟨Nat.le_refl _, Nat.le_refl _⟩
  | k + 1, i => by
    have := fgs_b (β := β) k (i + 1)
    unfold fgs
    split <;> omega
abbrev Tk : Type := Nat × Nat × Nat × Nat
def isSg (c : Nat) : Bool := c == 33 || c == 38 || c == 40 || c == 41 || c == 42 || c == 44 || c == 47 || c == 59 || c == 61 || c == 62 || c == 123 || c == 124 || c == 125 || c == 126
/-- the token behind i: kind, value, where it begins, where it ends -/
def tkAt (β : Nat → Nat) (N p : Nat) : Tk :=
  if N ≤ p then (0, 0, p, p)
  else if 97 ≤ β p ∧ β p ≤ 104 then (1, β p - 97, p, p + 1)
  else if 48 ≤ β p ∧ β p ≤ 57 then
    (if fgs β (N - (p + 1)) (p + 1) ≤ p + 2 then (2, if fgs β (N - (p + 1)) (p + 1) = p + 1 then β p - 48 else (β p - 48) * 10 + (β (p + 1) - 48), p, fgs β (N - (p + 1)) (p + 1)) else (3, 0, p, fgs β (N - (p + 1)) (p + 1)))
  else if isSg (β p) = true then (β p, 0, p, p + 1) else (3, 1, p, p + 1)
def tok (β : Nat → Nat) (N i : Nat) : Tk := tkAt β N (skp β (N - i) i)
def tapeC (N : Nat) (β : Nat → Nat) (M : zM) : Prop := N ≤ 200 ∧ zI M 4 1 = nI N ∧ ∀ i, i < N → zI M 5 i = nI (β i) ∧ β i < 128
def fTa (M M' : zM) : Prop := zN M' = zN M ∧ zK M' = zK M ∧ zR M' = zR M ∧ zL M' = zL M ∧ (∀ b, b ≠ 4 → zI M' b = zI M b) ∧ zI M' 4 1 = zI M 4 1
theorem fTa_rfl (M : zM) : fTa M M := ⟨rfl, rfl, rfl, rfl, fun _ _ => rfl, rfl⟩
theorem fTa.trans {M M1 M2 : zM} (h : fTa M M1) (g : fTa M1 M2) : fTa M M2 := by
  obtain ⟨a1, a2, a3, a4, a5, a6⟩ := h
  obtain ⟨b1, b2, b3, b4, b5, b6⟩ := g
  exact ⟨b1.trans a1, b2.trans a2, b3.trans a3, b4.trans a4, fun b hb => (b5 b hb).trans (a5 b hb), b6.trans a6⟩
theorem fTa_s (M : zM) {j : Nat} (hj : j ≠ 1) (x : Int32) : fTa M (zsI M 4 j x) := ⟨rfl, rfl, rfl, rfl, fun b hb => zI_ne hb, by rw [zI_sI, if_neg (fun q => hj q.2.symm)]⟩
theorem tapeC_fr {N : Nat} {β : Nat → Nat} {M M' : zM} (h : tapeC N β M) (f : fTa M M') : tapeC N β M' := by
  unfold tapeC
  rw [f.2.2.2.2.2, f.2.2.2.2.1 5 (by omega)]
  exact h
/-- the class stands at a token -/
def cTok (x : Tk) (M : zM) : Prop := zI M 4 2 = nI x.2.2.2 ∧ zI M 4 3 = nI x.1 ∧ zI M 4 5 = nI x.2.2.1 ∧ (x.1 = 1 ∨ x.1 = 2 → zI M 4 4 = nI x.2.1) ∧ zI M 4 6 = nI (if x.1 = 3 then 1 else 0) ∧ (x.1 = 3 → zI M 4 7 = nI x.2.2.1)
theorem ta_isFigure {d c : Nat} {M : zM} (hd : 1 ≤ d) (hc : c < 128) : zV d n_Ta_isFigure [.int (nI c)] M = some (some (.int (nI (if 48 ≤ c ∧ c ≤ 57 then 1 else 0))), M) := by
  obtain ⟨d, rfl, hd1⟩ := zdep hd
  rw [ze_Ta_isFigure]
  unfold zx_Ta_isFigure
  by_cases h : 48 ≤ c ∧ c ≤ 57
  · rw [if_pos h]
    simp (disch := omega) only [il, nI_add, nI_mul, nI_sub, nI_div, nI_rem, nI_N, i32_lt, i32_le, nI_toInt, nI_subI, nI_clamp, zinT, zifT, iteT, iteF, zQ, zS, zkc, zI_sI, zL_sL, zI_wI, zL_wL, Nat.reduceEqDiff, Nat.reduceAdd, Nat.reduceMul, Nat.reduceLT, Nat.reduceLeDiff, reduceIte, eq_self, and_self, true_and, and_true, false_and, and_false, true_or, or_true, or_false, false_or, not_true_eq_false, not_false_eq_true, zarr, ne_eq]
  · rw [if_neg h]
    by_cases h1 : c < 48
    · simp (disch := omega) only [il, nI_add, nI_mul, nI_sub, nI_div, nI_rem, nI_N, i32_lt, i32_le, nI_toInt, nI_subI, nI_clamp, zinT, zifT, iteT, iteF, zQ, zS, zkc, zI_sI, zL_sL, zI_wI, zL_wL, Nat.reduceEqDiff, Nat.reduceAdd, Nat.reduceMul, Nat.reduceLT, Nat.reduceLeDiff, reduceIte, eq_self, and_self, true_and, and_true, false_and, and_false, true_or, or_true, or_false, false_or, not_true_eq_false, not_false_eq_true, zarr, ne_eq]
    · simp (disch := omega) only [il, nI_add, nI_mul, nI_sub, nI_div, nI_rem, nI_N, i32_lt, i32_le, nI_toInt, nI_subI, nI_clamp, zinT, zifT, iteT, iteF, zQ, zS, zkc, zI_sI, zL_sL, zI_wI, zL_wL, Nat.reduceEqDiff, Nat.reduceAdd, Nat.reduceMul, Nat.reduceLT, Nat.reduceLeDiff, reduceIte, eq_self, and_self, true_and, and_true, false_and, and_false, true_or, or_true, or_false, false_or, not_true_eq_false, not_false_eq_true, zarr, ne_eq]
theorem ta_isSign {d c : Nat} {M : zM} (hd : 1 ≤ d) (hc : c < 128) : zV d n_Ta_isSign [.int (nI c)] M = some (some (.int (nI (isSg c).toNat)), M) := by
  obtain ⟨d, rfl, hd1⟩ := zdep hd
  rw [ze_Ta_isSign]
  unfold zx_Ta_isSign
  have key : ∀ c : Nat, c < 128 → (if nI c = (33 : Int32) then (1 : Nat) else if nI c = (38 : Int32) then 1 else if nI c = (40 : Int32) then 1 else if nI c = (41 : Int32) then 1 else if nI c = (42 : Int32) then 1 else if nI c = (44 : Int32) then 1 else if nI c = (47 : Int32) then 1 else if nI c = (59 : Int32) then 1 else if nI c = (61 : Int32) then 1 else if nI c = (62 : Int32) then 1 else if nI c = (123 : Int32) then 1 else if nI c = (124 : Int32) then 1 else if nI c = (125 : Int32) then 1 else if nI c = (126 : Int32) then 1 else 0) = (isSg c).toNat := by decide +kernel
  rw [← key c hc]
  have z1 : zif ((1 : Int32) = 0 ∨ (1 : Int32) = 1) (some (some (Value.int (1 : Int32)), M)) = some (some (Value.int (nI 1)), M) := zif_t (Or.inr rfl)
  have z0 : zif ((0 : Int32) = 0 ∨ (0 : Int32) = 1) (some (some (Value.int (0 : Int32)), M)) = some (some (Value.int (nI 0)), M) := zif_t (Or.inl rfl)
  rw [z1, z0]
  by_cases h33 : nI c = (33 : Int32)
  · rw [if_pos h33, if_pos h33]
  rw [if_neg h33, if_neg h33]
  by_cases h38 : nI c = (38 : Int32)
  · rw [if_pos h38, if_pos h38]
  rw [if_neg h38, if_neg h38]
  by_cases h40 : nI c = (40 : Int32)
  · rw [if_pos h40, if_pos h40]
  rw [if_neg h40, if_neg h40]
  by_cases h41 : nI c = (41 : Int32)
  · rw [if_pos h41, if_pos h41]
  rw [if_neg h41, if_neg h41]
  by_cases h42 : nI c = (42 : Int32)
  · rw [if_pos h42, if_pos h42]
  rw [if_neg h42, if_neg h42]
  by_cases h44 : nI c = (44 : Int32)
  · rw [if_pos h44, if_pos h44]
  rw [if_neg h44, if_neg h44]
  by_cases h47 : nI c = (47 : Int32)
  · rw [if_pos h47, if_pos h47]
  rw [if_neg h47, if_neg h47]
  by_cases h59 : nI c = (59 : Int32)
  · rw [if_pos h59, if_pos h59]
  rw [if_neg h59, if_neg h59]
  by_cases h61 : nI c = (61 : Int32)
  · rw [if_pos h61, if_pos h61]
  rw [if_neg h61, if_neg h61]
  by_cases h62 : nI c = (62 : Int32)
  · rw [if_pos h62, if_pos h62]
  rw [if_neg h62, if_neg h62]
  by_cases h123 : nI c = (123 : Int32)
  · rw [if_pos h123, if_pos h123]
  rw [if_neg h123, if_neg h123]
  by_cases h124 : nI c = (124 : Int32)
  · rw [if_pos h124, if_pos h124]
  rw [if_neg h124, if_neg h124]
  by_cases h125 : nI c = (125 : Int32)
  · rw [if_pos h125, if_pos h125]
  rw [if_neg h125, if_neg h125]
  by_cases h126 : nI c = (126 : Int32)
  · rw [if_pos h126, if_pos h126]
  rw [if_neg h126, if_neg h126]
theorem ta_refuse0 {d x : Nat} {M : zM} (hd : 1 ≤ d) (hk : zK M 4 = (6, 8)) (h6 : zI M 4 6 = nI 0) : zV d n_Ta_refuse [.ref 4, .int (nI x)] M = some (some (.int (nI 0)), zsI (zsI M 4 6 (nI x)) 4 7 (zI M 4 5)) := by
  obtain ⟨d, rfl, hd1⟩ := zdep hd
  rw [ze_Ta_refuse]
  unfold zx_Ta_refuse
  simp (disch := omega) only [il, nI_add, nI_mul, nI_sub, nI_div, nI_rem, nI_N, i32_lt, i32_le, nI_toInt, nI_subI, nI_clamp, zinT, zifT, iteT, iteF, zQ, zS, zkc, zI_sI, zL_sL, zI_wI, zL_wL, Nat.reduceEqDiff, Nat.reduceAdd, Nat.reduceMul, Nat.reduceLT, Nat.reduceLeDiff, reduceIte, eq_self, and_self, true_and, and_true, false_and, and_false, true_or, or_true, or_false, false_or, not_true_eq_false, not_false_eq_true, zarr, ne_eq, hk, h6]
theorem ta_refuse1 {d f : Nat} {x : Int32} {M : zM} (hd : 1 ≤ d) (hk : zK M 4 = (6, 8)) (h6 : zI M 4 6 = nI f) (hf : 0 < f) (hf2 : f < 100) : zV d n_Ta_refuse [.ref 4, .int x] M = some (some (.int (nI 0)), M) := by
  obtain ⟨d, rfl, hd1⟩ := zdep hd
  rw [ze_Ta_refuse]
  unfold zx_Ta_refuse
  simp (disch := omega) only [il, nI_add, nI_mul, nI_sub, nI_div, nI_rem, nI_N, i32_lt, i32_le, nI_toInt, nI_subI, nI_clamp, zinT, zifT, iteT, iteF, zQ, zS, zkc, zI_sI, zL_sL, zI_wI, zL_wL, Nat.reduceEqDiff, Nat.reduceAdd, Nat.reduceMul, Nat.reduceLT, Nat.reduceLeDiff, reduceIte, eq_self, and_self, true_and, and_true, false_and, and_false, true_or, or_true, or_false, false_or, not_true_eq_false, not_false_eq_true, zarr, ne_eq, hk, h6]
theorem ta_num_go {d N p : Nat} {β : Nat → Nat} (hd : 1 ≤ d) : ∀ k j (M : zM), zK M 4 = (6, 8) → zK M 5 = (22, 200) → zR M 4 0 = some 5 → tapeC N β M → j + k = N → p < j → zI M 4 2 = nI j → zI M 4 3 = nI 2 → zI M 4 5 = nI p → zI M 4 6 = nI 0 → β p < 128 → 48 ≤ β p → zI M 4 4 = nI (if j = p + 1 then β p - 48 else (β p - 48) * 10 + (β (p + 1) - 48)) →
    ∃ M', zG d n_Ta_advanceNumber 15 [some (.ref 4), none, some (.int (nI (j - p)))] [] M = some (none, M') ∧ fTa M M' ∧ cTok (if fgs β k j ≤ p + 2 then (2, if fgs β k j = p + 1 then β p - 48 else (β p - 48) * 10 + (β (p + 1) - 48), p, fgs β k j) else (3, 0, p, fgs β k j)) M' := by
  intro k
  induction k with
  | zero =>
    intro j M hk4 hk5 hr hT hj hp h2 h3 h5 h6 hb hb2 h4
    obtain ⟨T1, T2, T3⟩ := hT
    have hjN : j = N := by omega
    subst hjN
    unfold fgs
    by_cases hl : j ≤ p + 2
    · refine ⟨M, ?_, fTa_rfl M, ?_⟩
      · rw [zg_Ta_advanceNumber_15]
        unfold zx_Ta_advanceNumber_15
        clear T3
        simp (disch := omega) only [il, nI_add, nI_mul, nI_sub, nI_div, nI_rem, nI_N, i32_lt, i32_le, nI_toInt, nI_subI, nI_clamp, zinT, zifT, iteT, iteF, zQ, zS, zkc, zI_sI, zL_sL, zI_wI, zL_wL, Nat.reduceEqDiff, Nat.reduceAdd, Nat.reduceMul, Nat.reduceLT, Nat.reduceLeDiff, reduceIte, eq_self, and_self, true_and, and_true, false_and, and_false, true_or, or_true, or_false, false_or, not_true_eq_false, not_false_eq_true, zarr, ne_eq, hk4, T2, h2]
      · rw [if_pos hl]
        exact ⟨h2, h3, h5, fun _ => h4, h6, fun q => absurd q (show ¬ 2 = 3 by decide)⟩
    · have e1 := ta_refuse0 (d := d) (x := 1) (M := zsI M 4 3 (nI 3)) hd hk4 h6
      refine ⟨_, ?_, (fTa_s M (j := 3) (by decide) (nI 3)).trans ((fTa_s _ (j := 6) (by decide) (nI 1)).trans (fTa_s _ (j := 7) (by decide) (zI (zsI M 4 3 (nI 3)) 4 5))), ?_⟩
      · rw [zg_Ta_advanceNumber_15]
        unfold zx_Ta_advanceNumber_15
        clear T3
        simp (disch := omega) only [il, nI_add, nI_mul, nI_sub, nI_div, nI_rem, nI_N, i32_lt, i32_le, nI_toInt, nI_subI, nI_clamp, zinT, zifT, iteT, iteF, zQ, zS, zkc, zI_sI, zL_sL, zI_wI, zL_wL, Nat.reduceEqDiff, Nat.reduceAdd, Nat.reduceMul, Nat.reduceLT, Nat.reduceLeDiff, reduceIte, eq_self, and_self, true_and, and_true, false_and, and_false, true_or, or_true, or_false, false_or, not_true_eq_false, not_false_eq_true, zarr, ne_eq, hk4, T2, h2, e1]
      · rw [if_neg hl]
        refine ⟨h2, rfl, h5, fun q => absurd q (show ¬ (3 = 1 ∨ 3 = 2) by decide), rfl, fun _ => h5⟩
  | succ k ih =>
    intro j M hk4 hk5 hr hT hj hp h2 h3 h5 h6 hb hb2 h4
    have hT0 := hT
    obtain ⟨T1, T2, T3⟩ := hT
    obtain ⟨b1, b2⟩ := T3 j (by omega)
    have ef := ta_isFigure (d := d) (c := β j) (M := M) hd b2
    by_cases hf : 48 ≤ β j ∧ β j ≤ 57
    · rw [if_pos hf] at ef
      have efg : fgs β (k + 1) j = fgs β k (j + 1) := if_pos hf
      rw [efg]
      by_cases h1 : j = p + 1
      · obtain ⟨M', e, g1, g2⟩ := ih (j + 1) (zsI (zsI M 4 4 (nI ((β p - 48) * 10 + (β (p + 1) - 48)))) 4 2 (nI (j + 1))) hk4 hk5 hr (tapeC_fr hT0 ((fTa_s M (j := 4) (by decide) _).trans (fTa_s _ (j := 2) (by decide) _))) (by omega) (by omega) rfl h3 h5 h6 hb hb2 (by rw [if_neg (by omega)]; rfl)
        refine ⟨M', ?_, ((fTa_s M (j := 4) (by decide) _).trans (fTa_s _ (j := 2) (by decide) _)).trans g1, g2⟩
        rw [← e, zg_Ta_advanceNumber_15]
        unfold zx_Ta_advanceNumber_15
        rw [if_pos h1] at h4
        subst h1
        have hv : nI (β p - 48) * nI 10 + nI (β (p + 1)) - nI 48 = nI ((β p - 48) * 10 + (β (p + 1) - 48)) := by
          rw [nI_mul, nI_add, nI_sub (by omega)]
          congr 1; omega
        have hjp : p + 1 - p = 1 := by omega
        have hjp2 : p + 1 + 1 - p = 2 := by omega
        clear T3 ih e g1 g2 hT0
        rw [hjp, hjp2]
        simp only [hjp] at *
        have hv2 : nI ((β p - 48) * 10 + β (p + 1) - 48) = nI ((β p - 48) * 10 + (β (p + 1) - 48)) := by congr 1; omega
        simp (disch := omega) only [il, nI_add, nI_mul, nI_sub, nI_div, nI_rem, nI_N, i32_lt, i32_le, nI_toInt, nI_subI, nI_clamp, zinT, zifT, iteT, iteF, zQ, zS, zkc, zI_sI, zL_sL, zI_wI, zL_wL, Nat.reduceEqDiff, Nat.reduceAdd, Nat.reduceMul, Nat.reduceLT, Nat.reduceLeDiff, reduceIte, eq_self, and_self, true_and, and_true, false_and, and_false, true_or, or_true, or_false, false_or, not_true_eq_false, not_false_eq_true, zarr, ne_eq, hk4, hk5, hr, T2, h2, b1, ef, h4, hv2]
      · obtain ⟨M', e, g1, g2⟩ := ih (j + 1) (zsI M 4 2 (nI (j + 1))) hk4 hk5 hr (tapeC_fr hT0 (fTa_s _ (j := 2) (by decide) _)) (by omega) (by omega) rfl h3 h5 h6 hb hb2 (by rw [if_neg (by omega)]; rw [if_neg h1] at h4; exact h4)
        refine ⟨M', ?_, (fTa_s _ (j := 2) (by decide) _).trans g1, g2⟩
        rw [← e, zg_Ta_advanceNumber_15]
        unfold zx_Ta_advanceNumber_15
        have hjp2 : j + 1 - p = j - p + 1 := by omega
        clear T3 ih e g1 g2 hT0 h4
        rw [hjp2]
        simp (disch := omega) only [il, nI_add, nI_mul, nI_sub, nI_div, nI_rem, nI_N, i32_lt, i32_le, nI_toInt, nI_subI, nI_clamp, zinT, zifT, iteT, iteF, zQ, zS, zkc, zI_sI, zL_sL, zI_wI, zL_wL, Nat.reduceEqDiff, Nat.reduceAdd, Nat.reduceMul, Nat.reduceLT, Nat.reduceLeDiff, reduceIte, eq_self, and_self, true_and, and_true, false_and, and_false, true_or, or_true, or_false, false_or, not_true_eq_false, not_false_eq_true, zarr, ne_eq, hk4, hk5, hr, T2, h2, b1, ef]
    · rw [if_neg hf] at ef
      have efg : fgs β (k + 1) j = j := if_neg hf
      rw [efg]
      by_cases hl : j ≤ p + 2
      · refine ⟨M, ?_, fTa_rfl M, ?_⟩
        · rw [zg_Ta_advanceNumber_15]
          unfold zx_Ta_advanceNumber_15
          clear T3 ih hT0
          simp (disch := omega) only [il, nI_add, nI_mul, nI_sub, nI_div, nI_rem, nI_N, i32_lt, i32_le, nI_toInt, nI_subI, nI_clamp, zinT, zifT, iteT, iteF, zQ, zS, zkc, zI_sI, zL_sL, zI_wI, zL_wL, Nat.reduceEqDiff, Nat.reduceAdd, Nat.reduceMul, Nat.reduceLT, Nat.reduceLeDiff, reduceIte, eq_self, and_self, true_and, and_true, false_and, and_false, true_or, or_true, or_false, false_or, not_true_eq_false, not_false_eq_true, zarr, ne_eq, hk4, hk5, hr, T2, h2, b1, ef]
        · rw [if_pos hl]
          exact ⟨h2, h3, h5, fun _ => h4, h6, fun q => absurd q (show ¬ 2 = 3 by decide)⟩
      · have e1 := ta_refuse0 (d := d) (x := 1) (M := zsI M 4 3 (nI 3)) hd hk4 h6
        refine ⟨_, ?_, (fTa_s M (j := 3) (by decide) (nI 3)).trans ((fTa_s _ (j := 6) (by decide) (nI 1)).trans (fTa_s _ (j := 7) (by decide) (zI (zsI M 4 3 (nI 3)) 4 5))), ?_⟩
        · rw [zg_Ta_advanceNumber_15]
          unfold zx_Ta_advanceNumber_15
          clear T3 ih hT0
          simp (disch := omega) only [il, nI_add, nI_mul, nI_sub, nI_div, nI_rem, nI_N, i32_lt, i32_le, nI_toInt, nI_subI, nI_clamp, zinT, zifT, iteT, iteF, zQ, zS, zkc, zI_sI, zL_sL, zI_wI, zL_wL, Nat.reduceEqDiff, Nat.reduceAdd, Nat.reduceMul, Nat.reduceLT, Nat.reduceLeDiff, reduceIte, eq_self, and_self, true_and, and_true, false_and, and_false, true_or, or_true, or_false, false_or, not_true_eq_false, not_false_eq_true, zarr, ne_eq, hk4, hk5, hr, T2, h2, b1, ef, e1]
        · rw [if_neg hl]
          refine ⟨h2, rfl, h5, fun q => absurd q (show ¬ (3 = 1 ∨ 3 = 2) by decide), rfl, fun _ => h5⟩
theorem ta_skip_go {d N : Nat} {β : Nat → Nat} : ∀ k i (M : zM), zK M 4 = (6, 8) → zK M 5 = (22, 200) → zR M 4 0 = some 5 → tapeC N β M → i + k = N → zI M 4 2 = nI i →
    ∃ M', zG d n_Ta_advance 0 [some (.ref 4), none] [] M = zG d n_Ta_advance 38 [some (.ref 4), none] [] M' ∧ fTa M M' ∧ zI M' 4 2 = nI (skp β k i) ∧ ∀ j, j ≠ 2 → zI M' 4 j = zI M 4 j := by
  intro k
  induction k with
  | zero =>
    intro i M hk4 hk5 hr hT hi h2
    obtain ⟨T1, T2, T3⟩ := hT
    refine ⟨M, ?_, fTa_rfl M, h2, fun _ _ => rfl⟩
    rw [zg_Ta_advance_0]
    unfold zx_Ta_advance_0
    clear T3
    simp (disch := omega) only [il, nI_add, nI_mul, nI_sub, nI_div, nI_rem, nI_N, i32_lt, i32_le, nI_toInt, nI_subI, nI_clamp, zinT, zifT, iteT, iteF, zQ, zS, zkc, zI_sI, zL_sL, zI_wI, zL_wL, Nat.reduceEqDiff, Nat.reduceAdd, Nat.reduceMul, Nat.reduceLT, Nat.reduceLeDiff, reduceIte, eq_self, and_self, true_and, and_true, false_and, and_false, true_or, or_true, or_false, false_or, not_true_eq_false, not_false_eq_true, zarr, ne_eq, hk4, T2, h2]
  | succ k ih =>
    intro i M hk4 hk5 hr hT hi h2
    have hT0 := hT
    obtain ⟨T1, T2, T3⟩ := hT
    obtain ⟨b1, b2⟩ := T3 i (by omega)
    by_cases hb : β i = 32
    · obtain ⟨M', e, g1, g2, g3⟩ := ih (i + 1) (zsI M 4 2 (nI (i + 1))) hk4 hk5 hr (tapeC_fr hT0 (fTa_s _ (j := 2) (by decide) _)) (by omega) rfl
      have es : skp β (k + 1) i = skp β k (i + 1) := if_pos hb
      refine ⟨M', ?_, (fTa_s M (j := 2) (by decide) _).trans g1, by rw [es]; exact g2, fun j hj => (g3 j hj).trans (by rw [zI_sI, if_neg (fun q => hj q.2)])⟩
      rw [← e, zg_Ta_advance_0]
      unfold zx_Ta_advance_0
      rw [hb] at b1
      clear T3 ih e g1 g2 g3 hT0
      simp (disch := omega) only [il, nI_add, nI_mul, nI_sub, nI_div, nI_rem, nI_N, i32_lt, i32_le, nI_toInt, nI_subI, nI_clamp, zinT, zifT, iteT, iteF, zQ, zS, zkc, zI_sI, zL_sL, zI_wI, zL_wL, Nat.reduceEqDiff, Nat.reduceAdd, Nat.reduceMul, Nat.reduceLT, Nat.reduceLeDiff, reduceIte, eq_self, and_self, true_and, and_true, false_and, and_false, true_or, or_true, or_false, false_or, not_true_eq_false, not_false_eq_true, zarr, ne_eq, hk4, hk5, hr, T2, h2, b1]
    · have es : skp β (k + 1) i = i := if_neg hb
      refine ⟨M, ?_, fTa_rfl M, by rw [es]; exact h2, fun _ _ => rfl⟩
      rw [zg_Ta_advance_0]
      unfold zx_Ta_advance_0
      clear T3 ih hT0
      simp (disch := omega) only [il, nI_add, nI_mul, nI_sub, nI_div, nI_rem, nI_N, i32_lt, i32_le, nI_toInt, nI_subI, nI_clamp, zinT, zifT, iteT, iteF, zQ, zS, zkc, zI_sI, zL_sL, zI_wI, zL_wL, Nat.reduceEqDiff, Nat.reduceAdd, Nat.reduceMul, Nat.reduceLT, Nat.reduceLeDiff, reduceIte, eq_self, and_self, true_and, and_true, false_and, and_false, true_or, or_true, or_false, false_or, not_true_eq_false, not_false_eq_true, zarr, ne_eq, hk4, hk5, hr, T2, h2, b1]
theorem sg_nofig : ∀ c, c < 128 → (48 ≤ c ∧ c ≤ 57) → isSg c = false := by decide +kernel
theorem ta_advance {d L w N i : Nat} {β : Nat → Nat} {M : zM} (hd : 3 ≤ d) (hs : zSh L w M) (hT : tapeC N β M) (hi : i ≤ N) (h2 : zI M 4 2 = nI i) (h6 : zI M 4 6 = nI 0) : ∃ M', zV d n_Ta_advance [.ref 4] M = some (none, M') ∧ fTa M M' ∧ cTok (tok β N i) M' := by
  obtain ⟨d, rfl, hd1⟩ := zdep hd
  have hk4 : zK M 4 = (6, 8) := by rw [hs.2.1]; rfl
  have hk5 : zK M 5 = (22, 200) := by rw [hs.2.1]; rfl
  have hr : zR M 4 0 = some 5 := by have hC := hs.2.2.1; simp only [hC]
  obtain ⟨M1, e1, f1, g2, g3⟩ := ta_skip_go (d := d) (N - i) i M hk4 hk5 hr hT (by omega) h2
  have hsb := skp_b (β := β) (N - i) i
  generalize hp : skp β (N - i) i = p at *
  have e0 : zV (d + 1) n_Ta_advance [.ref 4] M = zG d n_Ta_advance 38 [some (.ref 4), none] [] M1 := by
    rw [← e1, ze_Ta_advance, zg_Ta_advance_0]
    rfl
  have hT1 := tapeC_fr hT f1
  have h61 : zI M1 4 6 = nI 0 := (g3 6 (by decide)).trans h6
  have hk41 : zK M1 4 = (6, 8) := by rw [f1.2.1]; exact hk4
  have hk51 : zK M1 5 = (22, 200) := by rw [f1.2.1]; exact hk5
  have hr1 : zR M1 4 0 = some 5 := by rw [f1.2.2.1]; exact hr
  have hT10 := hT1
  obtain ⟨T1, T2, T3⟩ := hT1
  unfold tok tkAt
  rw [hp]
  by_cases hN : N ≤ p
  · rw [if_pos hN]
    refine ⟨zsI (zsI M1 4 5 (nI p)) 4 3 (nI 0), ?_, f1.trans ((fTa_s _ (j := 5) (by decide) _).trans (fTa_s _ (j := 3) (by decide) _)), g2, rfl, rfl, fun q => absurd q (show ¬ (0 = 1 ∨ 0 = 2) by decide), h61, fun q => absurd q (show ¬ 0 = 3 by decide)⟩
    rw [e0, zg_Ta_advance_38]
    unfold zx_Ta_advance_38
    clear T3 hT10 hT e1 f1 g3
    simp (disch := omega) only [il, nI_add, nI_mul, nI_sub, nI_div, nI_rem, nI_N, i32_lt, i32_le, nI_toInt, nI_subI, nI_clamp, zinT, zifT, iteT, iteF, zQ, zS, zkc, zI_sI, zL_sL, zI_wI, zL_wL, Nat.reduceEqDiff, Nat.reduceAdd, Nat.reduceMul, Nat.reduceLT, Nat.reduceLeDiff, reduceIte, eq_self, and_self, true_and, and_true, false_and, and_false, true_or, or_true, or_false, false_or, not_true_eq_false, not_false_eq_true, zarr, ne_eq, hk41, T2, g2]
  · rw [if_neg hN]
    obtain ⟨b1, b2⟩ := T3 p (by omega)
    have ef := fun M => ta_isFigure (d := d) (c := β p) (M := M) (by omega) b2
    have es := fun M => ta_isSign (d := d) (c := β p) (M := M) (by omega) b2
    have hf2 : fTa M1 (zsI (zsI M1 4 5 (nI p)) 4 2 (nI (p + 1))) := (fTa_s _ (j := 5) (by decide) _).trans (fTa_s _ (j := 2) (by decide) _)
    by_cases hw1 : 97 ≤ β p ∧ β p ≤ 104
    · rw [if_pos hw1]
      refine ⟨zsI (zsI (zsI (zsI M1 4 5 (nI p)) 4 2 (nI (p + 1))) 4 3 (nI 1)) 4 4 (nI (β p - 97)), ?_, f1.trans (hf2.trans ((fTa_s _ (j := 3) (by decide) _).trans (fTa_s _ (j := 4) (by decide) _))), rfl, rfl, rfl, fun _ => rfl, h61, fun q => absurd q (show ¬ 1 = 3 by decide)⟩
      rw [e0, zg_Ta_advance_38]
      unfold zx_Ta_advance_38
      clear T3 hT10 hT e1 f1 g3 ef es
      simp (disch := omega) only [il, nI_add, nI_mul, nI_sub, nI_div, nI_rem, nI_N, i32_lt, i32_le, nI_toInt, nI_subI, nI_clamp, zinT, zifT, iteT, iteF, zQ, zS, zkc, zI_sI, zL_sL, zI_wI, zL_wL, Nat.reduceEqDiff, Nat.reduceAdd, Nat.reduceMul, Nat.reduceLT, Nat.reduceLeDiff, reduceIte, eq_self, and_self, true_and, and_true, false_and, and_false, true_or, or_true, or_false, false_or, not_true_eq_false, not_false_eq_true, zarr, ne_eq, hk41, hk51, hr1, T2, g2, b1]
    · rw [if_neg hw1]
      by_cases hfg : 48 ≤ β p ∧ β p ≤ 57
      · rw [if_pos hfg]
        rw [if_pos hfg] at ef
        obtain ⟨M', e2, q1, q2⟩ := ta_num_go (d := d - 1) (N := N) (p := p) (β := β) (by omega) (N - (p + 1)) (p + 1) (zsI (zsI (zsI (zsI M1 4 5 (nI p)) 4 2 (nI (p + 1))) 4 3 (nI 2)) 4 4 (nI (β p - 48))) hk41 hk51 hr1 (tapeC_fr hT10 (hf2.trans ((fTa_s _ (j := 3) (by decide) _).trans (fTa_s _ (j := 4) (by decide) _)))) (by omega) (by omega) rfl rfl rfl h61 b2 hfg.1 (by rw [if_pos rfl]; rfl)
        refine ⟨M', ?_, f1.trans ((hf2.trans ((fTa_s _ (j := 3) (by decide) _).trans (fTa_s _ (j := 4) (by decide) _))).trans q1), q2⟩
        have e3 : zV d n_Ta_advanceNumber [.ref 4, .int (nI (β p))] (zsI (zsI M1 4 5 (nI p)) 4 2 (nI (p + 1))) = some (none, M') := by
          obtain ⟨d', rfl, -⟩ := zdep (show 1 + 1 ≤ d by omega)
          rw [← e2, ze_Ta_advanceNumber]
          unfold zx_Ta_advanceNumber
          have hpp : p + 1 - p = 1 := by omega
          rw [hpp]
          clear T3 hT10 hT e1 f1 g3 ef es e2 q1 q2 e0
          simp (disch := omega) only [il, nI_add, nI_mul, nI_sub, nI_div, nI_rem, nI_N, i32_lt, i32_le, nI_toInt, nI_subI, nI_clamp, zinT, zifT, iteT, iteF, zQ, zS, zkc, zI_sI, zL_sL, zI_wI, zL_wL, Nat.reduceEqDiff, Nat.reduceAdd, Nat.reduceMul, Nat.reduceLT, Nat.reduceLeDiff, reduceIte, eq_self, and_self, true_and, and_true, false_and, and_false, true_or, or_true, or_false, false_or, not_true_eq_false, not_false_eq_true, zarr, ne_eq, hk41]
          rfl
        rw [e0, zg_Ta_advance_38]
        unfold zx_Ta_advance_38
        clear T3 hT10 hT e1 f1 g3 es e2 q1 q2
        simp (disch := omega) only [il, nI_add, nI_mul, nI_sub, nI_div, nI_rem, nI_N, i32_lt, i32_le, nI_toInt, nI_subI, nI_clamp, zinT, zifT, iteT, iteF, zQ, zS, zkc, zI_sI, zL_sL, zI_wI, zL_wL, Nat.reduceEqDiff, Nat.reduceAdd, Nat.reduceMul, Nat.reduceLT, Nat.reduceLeDiff, reduceIte, eq_self, and_self, true_and, and_true, false_and, and_false, true_or, or_true, or_false, false_or, not_true_eq_false, not_false_eq_true, zarr, ne_eq, hk41, hk51, hr1, T2, g2, b1, ef, e3]
      · rw [if_neg hfg]
        rw [if_neg hfg] at ef
        cases hsg : isSg (β p)
        · rw [if_neg (by decide)]
          rw [hsg] at es
          have e4 := ta_refuse0 (d := d) (x := 1) (M := zsI (zsI (zsI M1 4 5 (nI p)) 4 2 (nI (p + 1))) 4 3 (nI 3)) (by omega) hk41 h61
          refine ⟨_, ?_, f1.trans (hf2.trans ((fTa_s _ (j := 3) (by decide) (nI 3)).trans ((fTa_s _ (j := 6) (by decide) (nI 1)).trans (fTa_s _ (j := 7) (by decide) (zI (zsI (zsI (zsI M1 4 5 (nI p)) 4 2 (nI (p + 1))) 4 3 (nI 3)) 4 5))))), rfl, rfl, rfl, fun q => absurd q (show ¬ (3 = 1 ∨ 3 = 2) by decide), rfl, fun _ => rfl⟩
          rw [e0, zg_Ta_advance_38]
          unfold zx_Ta_advance_38
          rw [Bool.toNat_false] at es
          clear T3 hT10 hT e1 f1 g3
          by_cases hlo : β p < 97
          · simp (disch := omega) only [il, nI_add, nI_mul, nI_sub, nI_div, nI_rem, nI_N, i32_lt, i32_le, nI_toInt, nI_subI, nI_clamp, zinT, zifT, iteT, iteF, zQ, zS, zkc, zI_sI, zL_sL, zI_wI, zL_wL, Nat.reduceEqDiff, Nat.reduceAdd, Nat.reduceMul, Nat.reduceLT, Nat.reduceLeDiff, reduceIte, eq_self, and_self, true_and, and_true, false_and, and_false, true_or, or_true, or_false, false_or, not_true_eq_false, not_false_eq_true, zarr, ne_eq, hk41, hk51, hr1, T2, g2, b1, ef, es, e4]
          · simp (disch := omega) only [il, nI_add, nI_mul, nI_sub, nI_div, nI_rem, nI_N, i32_lt, i32_le, nI_toInt, nI_subI, nI_clamp, zinT, zifT, iteT, iteF, zQ, zS, zkc, zI_sI, zL_sL, zI_wI, zL_wL, Nat.reduceEqDiff, Nat.reduceAdd, Nat.reduceMul, Nat.reduceLT, Nat.reduceLeDiff, reduceIte, eq_self, and_self, true_and, and_true, false_and, and_false, true_or, or_true, or_false, false_or, not_true_eq_false, not_false_eq_true, zarr, ne_eq, hk41, hk51, hr1, T2, g2, b1, ef, es, e4]
        · rw [if_pos rfl]
          rw [hsg] at es
          have hbig : β p ≠ 1 ∧ β p ≠ 2 ∧ β p ≠ 3 := (by decide +kernel : ∀ c, c < 128 → isSg c = true → c ≠ 1 ∧ c ≠ 2 ∧ c ≠ 3) (β p) b2 hsg
          refine ⟨zsI (zsI (zsI M1 4 5 (nI p)) 4 2 (nI (p + 1))) 4 3 (nI (β p)), ?_, f1.trans (hf2.trans (fTa_s _ (j := 3) (by decide) _)), rfl, rfl, rfl, fun q => absurd q (show ¬ (β p = 1 ∨ β p = 2) by omega), by rw [if_neg (show ¬ β p = 3 by omega)]; exact h61, fun q => absurd q (show ¬ β p = 3 by omega)⟩
          rw [e0, zg_Ta_advance_38]
          unfold zx_Ta_advance_38
          rw [Bool.toNat_true] at es
          clear T3 hT10 hT e1 f1 g3
          by_cases hlo : β p < 97
          · simp (disch := omega) only [il, nI_add, nI_mul, nI_sub, nI_div, nI_rem, nI_N, i32_lt, i32_le, nI_toInt, nI_subI, nI_clamp, zinT, zifT, iteT, iteF, zQ, zS, zkc, zI_sI, zL_sL, zI_wI, zL_wL, Nat.reduceEqDiff, Nat.reduceAdd, Nat.reduceMul, Nat.reduceLT, Nat.reduceLeDiff, reduceIte, eq_self, and_self, true_and, and_true, false_and, and_false, true_or, or_true, or_false, false_or, not_true_eq_false, not_false_eq_true, zarr, ne_eq, hk41, hk51, hr1, T2, g2, b1, ef, es]
          · simp (disch := omega) only [il, nI_add, nI_mul, nI_sub, nI_div, nI_rem, nI_N, i32_lt, i32_le, nI_toInt, nI_subI, nI_clamp, zinT, zifT, iteT, iteF, zQ, zS, zkc, zI_sI, zL_sL, zI_wI, zL_wL, Nat.reduceEqDiff, Nat.reduceAdd, Nat.reduceMul, Nat.reduceLT, Nat.reduceLeDiff, reduceIte, eq_self, and_self, true_and, and_true, false_and, and_false, true_or, or_true, or_false, false_or, not_true_eq_false, not_false_eq_true, zarr, ne_eq, hk41, hk51, hr1, T2, g2, b1, ef, es]
