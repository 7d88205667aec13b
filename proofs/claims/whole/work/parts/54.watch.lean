/-! a watch takes in a tick: what each method does -/
def fO (a : Nat) (M M' : zM) : Prop := zN M' = zN M ∧ zK M' = zK M ∧ zR M' = zR M ∧ ∀ b, (b < a ∨ a + 6 < b) → zI M' b = zI M b ∧ zL M' b = zL M b
theorem fO_rfl (a : Nat) (M : zM) : fO a M M := ⟨rfl, rfl, rfl, fun _ _ => ⟨rfl, rfl⟩⟩
theorem fO.trans {a : Nat} {M M1 M2 : zM} (h : fO a M M1) (h2 : fO a M1 M2) : fO a M M2 :=
  ⟨h2.1.trans h.1, h2.2.1.trans h.2.1, h2.2.2.1.trans h.2.2.1, fun b hb => ⟨((h2.2.2.2 b hb).1).trans (h.2.2.2 b hb).1, ((h2.2.2.2 b hb).2).trans (h.2.2.2 b hb).2⟩⟩
theorem zWat_fr {M M' : zM} {a : Nat} (h : zWat M a) (hK : zK M' = zK M) (hR : zR M' = zR M) : zWat M' a := by
  unfold zWat at *
  rw [hK, hR]; exact h
theorem zSeq_fr {M M' : zM} {a : Nat} (h : zSeq M a) (hK : zK M' = zK M) (hR : zR M' = zR M) : zSeq M' a := by
  unfold zSeq at *
  rw [hK, hR]; exact h
theorem zPle_fr {M M' : zM} {a : Nat} (h : zPle M a) (hK : zK M' = zK M) (hR : zR M' = zR M) : zPle M' a := by
  unfold zPle zSeq at *
  rw [hK, hR]; exact h
abbrev Dr : Type := Int64 × Int32 × Bool × Bool
/-- a duty as it is held: state, by which tick, met, broken -/
def Du (a : Nat) (M : zM) (u : Nat) : Dr := (zL M (a + 2) u, zI M (a + 3) u, zb (zL M a 6) u, zb (zL M a 7) u)
def sett (E O : Int64) (k : Nat) (x : Dr) : Dr := if x.1 &&& E = 0 then (if x.1 &&& O = 0 then (0, nI k, x.2.2.1, true) else x) else (0, nI k, true, x.2.2.2)
def fD (a : Nat) (M M' : zM) : Prop := fO a M M' ∧ zL M' (a + 1) = zL M (a + 1) ∧ zL M' (a + 4) = zL M (a + 4) ∧ zI M' (a + 5) = zI M (a + 5) ∧ zI M' (a + 6) = zI M (a + 6) ∧ zI M' a = zI M a
theorem fD_rfl (a : Nat) (M : zM) : fD a M M := ⟨fO_rfl a M, rfl, rfl, rfl, rfl, rfl⟩
theorem fD.trans {a : Nat} {M M1 M2 : zM} (h : fD a M M1) (h2 : fD a M1 M2) : fD a M M2 := by
  obtain ⟨a1, a2, a3, a4, a5, a6⟩ := h
  obtain ⟨b1, b2, b3, b4, b5, b6⟩ := h2
  exact ⟨a1.trans b1, b2.trans a2, b3.trans a3, b4.trans a4, b5.trans a5, b6.trans a6⟩
theorem wa_settle {d a s u k : Nat} {M : zM} (hd : 2 ≤ d) (hw : zWat M a) (hs : zSeq M s) (h8 : zI M a 8 = nI k) (hu : u < 48) : ∃ M', zV d n_Wa_settleDuty [.ref a, .ref s, .int (nI u)] M = some (none, M') ∧ fD a M M' ∧ ∀ i, Du a M' i = if i = u then sett (zL M s 3) (zL M s 5) k (Du a M u) else Du a M i := by
  obtain ⟨d, rfl, hd1⟩ := zdep hd
  obtain ⟨w0, w1, w2, w3, w4, w5, w6, r0, r1, r2, r3, r4, r5⟩ := hw
  have s0 := hs.1
  rw [ze_Wa_settleDuty]
  unfold zx_Wa_settleDuty
  have e1 := se_hasEnded (d := d) (by omega) hs (zL M (a + 2) u)
  have e2 := se_goesOn (d := d) (by omega) hs (zL M (a + 2) u)
  have hb1 : ∀ i, zb (b1 u) i = decide (i = u) := zb_b1 (by omega)
  unfold b1 at hb1
  by_cases hE : zL M (a + 2) u &&& zL M s 3 = 0
  · by_cases hO : zL M (a + 2) u &&& zL M s 5 = 0
    · refine ⟨zsL (zsI (zsL M a 7 (zL M a 7 ||| ((1 : Int64) <<< (Int32.toInt64 (nI u) &&& 63)))) (a + 3) u (nI k)) (a + 2) u 0, ?_, ⟨⟨rfl, rfl, rfl, fun b hb => ⟨by simp (disch := omega) only [zI_ne, zS], by simp (disch := omega) only [zL_ne, zS]⟩⟩, by simp (disch := omega) only [zL_ne, zS], by simp (disch := omega) only [zL_ne, zS], by simp (disch := omega) only [zI_ne, zS], by simp (disch := omega) only [zI_ne, zS], by simp (disch := omega) only [zI_ne, zS]⟩, ?_⟩
      · simp (disch := omega) only [il, nI_add, nI_mul, nI_sub, nI_div, nI_rem, nI_N, i32_lt, i32_le, nI_toInt, nI_subI, nI_clamp, zinT, zifT, iteT, iteF, zQ, zS, zkc, zI_sI, zL_sL, zI_wI, zL_wL, Nat.reduceEqDiff, Nat.reduceAdd, Nat.reduceMul, Nat.reduceLT, Nat.reduceLeDiff, reduceIte, eq_self, and_self, true_and, and_true, false_and, and_false, true_or, or_true, or_false, false_or, not_true_eq_false, not_false_eq_true, zarr, ne_eq, w0, w1, w2, w3, r0, r1, r2, s0, e1, e2, hE, hO, h8]
      · intro i
        by_cases hi : i = u
        · subst hi
          unfold Du sett
          simp (disch := omega) only [zL_sL, zI_sI, zS, iteF, iteT, eq_self, and_self, true_and, and_true, false_and, and_false, if_true, if_false, reduceIte, Nat.reduceEqDiff, hE, hO, zb_or, hb1, decide_true, Bool.or_true, if_true]
        · unfold Du
          simp (disch := omega) only [zL_sL, zI_sI, zS, iteF, iteT, eq_self, and_self, true_and, and_true, false_and, and_false, if_true, if_false, reduceIte, Nat.reduceEqDiff, zb_or, hb1, hi, decide_false, Bool.or_false, if_false]
    · refine ⟨M, ?_, fD_rfl a M, ?_⟩
      · simp (disch := omega) only [il, nI_add, nI_mul, nI_sub, nI_div, nI_rem, nI_N, i32_lt, i32_le, nI_toInt, nI_subI, nI_clamp, zinT, zifT, iteT, iteF, zQ, zS, zkc, zI_sI, zL_sL, zI_wI, zL_wL, Nat.reduceEqDiff, Nat.reduceAdd, Nat.reduceMul, Nat.reduceLT, Nat.reduceLeDiff, reduceIte, eq_self, and_self, true_and, and_true, false_and, and_false, true_or, or_true, or_false, false_or, not_true_eq_false, not_false_eq_true, zarr, ne_eq, w0, w1, w2, w3, r0, r1, r2, s0, e1, e2, hE, hO, h8]
      · intro i
        by_cases hi : i = u
        · subst hi
          unfold Du sett
          simp only [hE, hO, if_true, if_false]
        · simp only [hi, if_false]
  · refine ⟨zsL (zsI (zsL M a 6 (zL M a 6 ||| ((1 : Int64) <<< (Int32.toInt64 (nI u) &&& 63)))) (a + 3) u (nI k)) (a + 2) u 0, ?_, ⟨⟨rfl, rfl, rfl, fun b hb => ⟨by simp (disch := omega) only [zI_ne, zS], by simp (disch := omega) only [zL_ne, zS]⟩⟩, by simp (disch := omega) only [zL_ne, zS], by simp (disch := omega) only [zL_ne, zS], by simp (disch := omega) only [zI_ne, zS], by simp (disch := omega) only [zI_ne, zS], by simp (disch := omega) only [zI_ne, zS]⟩, ?_⟩
    · simp (disch := omega) only [il, nI_add, nI_mul, nI_sub, nI_div, nI_rem, nI_N, i32_lt, i32_le, nI_toInt, nI_subI, nI_clamp, zinT, zifT, iteT, iteF, zQ, zS, zkc, zI_sI, zL_sL, zI_wI, zL_wL, Nat.reduceEqDiff, Nat.reduceAdd, Nat.reduceMul, Nat.reduceLT, Nat.reduceLeDiff, reduceIte, eq_self, and_self, true_and, and_true, false_and, and_false, true_or, or_true, or_false, false_or, not_true_eq_false, not_false_eq_true, zarr, ne_eq, w0, w1, w2, w3, r0, r1, r2, s0, e1, e2, hE, h8]
    · intro i
      by_cases hi : i = u
      · subst hi
        unfold Du sett
        simp (disch := omega) only [zL_sL, zI_sI, zS, iteF, iteT, eq_self, and_self, true_and, and_true, false_and, and_false, if_true, if_false, reduceIte, Nat.reduceEqDiff, hE, zb_or, hb1, decide_true, Bool.or_true, if_true, if_false]
      · unfold Du
        simp (disch := omega) only [zL_sL, zI_sI, zS, iteF, iteT, eq_self, and_self, true_and, and_true, false_and, and_false, if_true, if_false, reduceIte, Nat.reduceEqDiff, zb_or, hb1, hi, decide_false, Bool.or_false, if_false]
def mvd (E O op : Int64) (p : Nat) (F : Nat → Int64) (k : Nat) (x : Dr) : Dr := if x.1 = 0 then x else sett E O k (cTo p F x.1 &&& op, x.2)
theorem wa_moveDuties {d a s p k : Nat} {M : zM} {op : Int64} (hd : 3 ≤ d) (hw : zWat M a) (hs : zSeq M s) (hsa : s + 3 < a ∨ a + 6 < s) (hp : p ≤ 40) (h7 : zI M s 7 = nI p) (h8 : zI M a 8 = nI k) (hk : k < 48) : ∃ M', zV d n_Wa_moveDuties [.ref a, .ref s, .long op] M = some (none, M') ∧ fD a M M' ∧ ∀ i, Du a M' i = if i < k then mvd (zL M s 3) (zL M s 5) op p (zL M (s + 1)) k (Du a M i) else Du a M i := by
  obtain ⟨d, rfl, hd1⟩ := zdep hd
  rw [ze_Wa_moveDuties]
  unfold zx_Wa_moveDuties
  obtain ⟨M', e, f1, f2⟩ := zloopE (n := k) (g := fun u M' => zG d n_Wa_moveDuties 3 [some (.ref a), some (.ref s), some (.long op), none, some (.int (nI u))] [] M') (P := fun u M' => fD a M M' ∧ ∀ i, Du a M' i = if i < u then mvd (zL M s 3) (zL M s 5) op p (zL M (s + 1)) k (Du a M i) else Du a M i) (by
    intro u M1 hu ⟨f1, f2⟩
    have f1O := f1.1
    have hw1 := zWat_fr hw f1O.2.1 f1O.2.2.1
    have hs1 := zSeq_fr hs f1O.2.1 f1O.2.2.1
    have sI : zI M1 s = zI M s := (f1O.2.2.2 s (by omega)).1
    have sL : zL M1 s = zL M s := (f1O.2.2.2 s (by omega)).2
    have sL1 : zL M1 (s + 1) = zL M (s + 1) := (f1O.2.2.2 (s + 1) (by omega)).2
    have h81 : zI M1 a 8 = nI k := by rw [f1.2.2.2.2.2]; exact h8
    have h71 : zI M1 s 7 = nI p := by rw [sI]; exact h7
    have w0 := hw1.1
    have w2 := hw1.2.2.1
    have r1 := hw1.2.2.2.2.2.2.2.2.1
    have s0 := hs1.1
    have hDu := f2 u
    rw [if_neg (by omega)] at hDu
    have hx : zL M1 (a + 2) u = zL M (a + 2) u := congrArg Prod.fst hDu
    by_cases h0 : zL M (a + 2) u = 0
    · refine ⟨M1, ?_, f1, ?_⟩
      · show zG d n_Wa_moveDuties 3 [some (.ref a), some (.ref s), some (.long op), none, some (.int (nI u))] [] M1 = _
        rw [zg_Wa_moveDuties_3]
        unfold zx_Wa_moveDuties_3
        simp (disch := omega) only [il, nI_add, nI_mul, nI_sub, nI_div, nI_rem, nI_N, i32_lt, i32_le, nI_toInt, nI_subI, nI_clamp, zinT, zifT, iteT, iteF, zQ, zS, zkc, zI_sI, zL_sL, zI_wI, zL_wL, Nat.reduceEqDiff, Nat.reduceAdd, Nat.reduceMul, Nat.reduceLT, Nat.reduceLeDiff, reduceIte, eq_self, and_self, true_and, and_true, false_and, and_false, true_or, or_true, or_false, false_or, not_true_eq_false, not_false_eq_true, zarr, ne_eq, w0, w2, r1, h81, hx, h0, t_n]
      · intro i
        rw [f2]
        by_cases hi : i = u
        · subst hi
          rw [if_neg (by omega), if_pos (by omega)]
          unfold mvd
          rw [if_pos (by exact h0)]
        · by_cases h : i < u
          · rw [if_pos h, if_pos (by omega)]
          · rw [if_neg h, if_neg (by omega)]
    · have e2 := se_after (d := d) (by omega) hs1 hp h71 (zL M (a + 2) u) op
      rw [sL1] at e2
      obtain ⟨M2, e3, g1, g2⟩ := wa_settle (d := d) (a := a) (s := s) (u := u) (k := k) (M := zsL M1 (a + 2) u (cTo p (zL M (s + 1)) (zL M (a + 2) u) &&& op)) (by omega) hw1 hs1 h81 (by omega)
      refine ⟨M2, ?_, f1.trans (fD.trans (M1 := zsL M1 (a + 2) u (cTo p (zL M (s + 1)) (zL M (a + 2) u) &&& op)) ⟨⟨rfl, rfl, rfl, fun b hb => ⟨rfl, zL_ne (by omega)⟩⟩, zL_ne (by omega), zL_ne (by omega), rfl, rfl, rfl⟩ g1), ?_⟩
      · show zG d n_Wa_moveDuties 3 [some (.ref a), some (.ref s), some (.long op), none, some (.int (nI u))] [] M1 = _
        rw [zg_Wa_moveDuties_3]
        unfold zx_Wa_moveDuties_3
        simp (disch := omega) only [il, nI_add, nI_mul, nI_sub, nI_div, nI_rem, nI_N, i32_lt, i32_le, nI_toInt, nI_subI, nI_clamp, zinT, zifT, iteT, iteF, zQ, zS, zkc, zI_sI, zL_sL, zI_wI, zL_wL, Nat.reduceEqDiff, Nat.reduceAdd, Nat.reduceMul, Nat.reduceLT, Nat.reduceLeDiff, reduceIte, eq_self, and_self, true_and, and_true, false_and, and_false, true_or, or_true, or_false, false_or, not_true_eq_false, not_false_eq_true, zarr, ne_eq, w0, w2, r1, s0, h81, hx, h0, t_n, e2, e3]
      · intro i
        rw [g2]
        by_cases hi : i = u
        · subst hi
          rw [if_pos rfl, if_pos (by omega)]
          unfold mvd
          rw [if_neg (by exact h0), zL_ne (by omega), sL]
          congr 1
          unfold Du at hDu ⊢
          simp (disch := omega) only [zL_sL, zI_sI, zS, iteF, iteT, eq_self, and_self, true_and, and_true, false_and, and_false, if_true, if_false, reduceIte, Nat.reduceEqDiff]
          simp only [Prod.mk.injEq] at hDu
          rw [hDu.2.1, hDu.2.2.1, hDu.2.2.2]
        · rw [if_neg hi]
          have : Du a (zsL M1 (a + 2) u (cTo p (zL M (s + 1)) (zL M (a + 2) u) &&& op)) i = Du a M1 i := by
            unfold Du
            simp (disch := omega) only [zL_sL, zI_sI, zS, iteF, iteT, eq_self, and_self, true_and, and_true, false_and, and_false, if_true, if_false, reduceIte, Nat.reduceEqDiff]
          rw [this, f2]
          by_cases h : i < u
          · rw [if_pos h, if_pos (by omega)]
          · rw [if_neg h, if_neg (by omega)]) (s0 := M) ⟨fD_rfl a M, fun i => by rw [if_neg (by omega)]⟩
  refine ⟨M', ?_, f1, f2⟩
  refine Eq.trans e ?_
  show zG d n_Wa_moveDuties 3 [some (.ref a), some (.ref s), some (.long op), none, some (.int (nI k))] [] M' = _
  rw [zg_Wa_moveDuties_3]
  unfold zx_Wa_moveDuties_3
  have w0 := (zWat_fr hw f1.1.2.1 f1.1.2.2.1).1
  have h81 : zI M' a 8 = nI k := by rw [f1.2.2.2.2.2]; exact h8
  simp (disch := omega) only [il, nI_add, nI_mul, nI_sub, nI_div, nI_rem, nI_N, i32_lt, i32_le, nI_toInt, nI_subI, nI_clamp, zinT, zifT, iteT, iteF, zQ, zS, zkc, zI_sI, zL_sL, zI_wI, zL_wL, Nat.reduceEqDiff, Nat.reduceAdd, Nat.reduceMul, Nat.reduceLT, Nat.reduceLeDiff, reduceIte, eq_self, and_self, true_and, and_true, false_and, and_false, true_or, or_true, or_false, false_or, not_true_eq_false, not_false_eq_true, zarr, ne_eq, w0, h81]
