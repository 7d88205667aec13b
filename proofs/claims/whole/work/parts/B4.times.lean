/-! the reference repeats a piece: its points -/
noncomputable def r366 (d mm n e : Nat) (M : zM) : zO := zG d n_Mo_repeats 366 [some (.ref 146), some (.int (nI mm)), some (.int (nI n)), none, none, none, none, none, none, none, none, none, none, none, none, none, none] [.int (nI e), .int (nI 0), .ref 169] M
noncomputable def r77 (d mm n lo W : Nat) (f l : Int64) (e k : Nat) (M : zM) : zO := zG d n_Mo_repeats 77 [some (.ref 146), some (.int (nI mm)), some (.int (nI n)), some (.int (nI lo)), some (.int (nI W)), some (.long f), none, some (.long l), none, some (.int (nI e)), some (.int (nI k)), none, none, none, none, none, none] [] M
noncomputable def r226 (d mm n W : Nat) (f l : Int64) (e : Nat) (aF aL : Int64) (aN k : Nat) (M : zM) : zO := zG d n_Mo_repeats 226 [some (.ref 146), some (.int (nI mm)), some (.int (nI n)), none, some (.int (nI W)), some (.long f), none, some (.long l), none, some (.int (nI e)), some (.long aF), none, some (.long aL), none, some (.int (nI aN)), some (.int (nI k)), none] [] M
noncomputable def r283 (d mm n W : Nat) (f l : Int64) (e : Nat) (aL : Int64) (aN k o : Nat) (s0 s1 : Int64) (M : zM) : zO := zG d n_Mo_repeats 283 [some (.ref 146), some (.int (nI mm)), some (.int (nI n)), none, some (.int (nI W)), some (.long f), none, some (.long l), none, some (.int (nI e)), none, none, some (.long aL), none, some (.int (nI aN)), some (.int (nI k)), some (.int (nI o))] [.long s0, .long s1] M
theorem m_r366 {d L w mm n e u1 u2 u3 : Nat} {M : zM} (hd : 1 ≤ d) (hs : zSh L w M) (he : e < 2) (b1 : n * u1 ≤ 9000000) (b2 : mm * u2 ≤ 9000000) (b3 : n * u3 ≤ 9000000) (h1 : zI M 170 0 = nI u1) (h2 : zI M 171 0 = nI u2) (h3 : zI M 172 0 = nI u3) : r366 d mm n e M = some (none, zsI (zsI (zsI (zsI M 169 0 (nI e)) 170 0 (nI (min (n * u1) 1000000))) 171 0 (nI (min (mm * u2) 1000000))) 172 0 (nI (min (n * u3) 1000000))) := by
  obtain ⟨hN, hK, hC, hMo, -⟩ := hs
  unfold r366
  rw [zg_Mo_repeats_366]
  unfold zx_Mo_repeats_366
  have : e = 0 ∨ e = 1 := by omega
  rcases this with rfl | rfl
  · simp (disch := omega) only [il, nI_add, nI_mul, nI_sub, nI_div, nI_rem, nI_N, i32_lt, i32_le, nI_toInt, nI_subI, nI_clamp, zinT, zifT, iteT, iteF, zQ, zS, zkc, zI_sI, zL_sL, zI_wI, zL_wL, Nat.reduceEqDiff, Nat.reduceAdd, Nat.reduceMul, Nat.reduceLT, Nat.reduceLeDiff, reduceIte, eq_self, and_self, true_and, and_true, false_and, and_false, true_or, or_true, or_false, false_or, not_true_eq_false, not_false_eq_true, zarr, ne_eq, hK, hMo, zbast, nar_z0, h1, h2, h3, mo_leastN hd, ↓zbm_S]
  · simp (disch := omega) only [il, nI_add, nI_mul, nI_sub, nI_div, nI_rem, nI_N, i32_lt, i32_le, nI_toInt, nI_subI, nI_clamp, zinT, zifT, iteT, iteF, zQ, zS, zkc, zI_sI, zL_sL, zI_wI, zL_wL, Nat.reduceEqDiff, Nat.reduceAdd, Nat.reduceMul, Nat.reduceLT, Nat.reduceLeDiff, reduceIte, eq_self, and_self, true_and, and_true, false_and, and_false, true_or, or_true, or_false, false_or, not_true_eq_false, not_false_eq_true, zarr, ne_eq, hK, hMo, zbast, nar_z1, h1, h2, h3, mo_leastN hd, ↓zbm_S]
theorem m_r77 {d L w sd mm n lo W e : Nat} {f l : Int64} {M : zM} (hs : zSh L w M) (h38 : zI M 146 38 = nI sd) (hsd : sd < 8) (hW : 1 ≤ W) (hn : 1 ≤ n) (hb : lo + n * W ≤ 40) : ∃ M', r77 d mm n lo W f l e W M = r77 d mm n lo W f l e (n * W) M' ∧ zN M' = zN M ∧ zK M' = zK M ∧ zR M' = zR M ∧ (∀ b, b ≠ 148 → zI M' b = zI M b) ∧ (∀ b, b ≠ 150 → zL M' b = zL M b) ∧ (∀ j, zI M' 148 j = if 45 * sd + 5 + lo + W ≤ j ∧ j < 45 * sd + 5 + lo + n * W then zI M 148 (45 * sd + 5 + lo + (j - (45 * sd + 5 + lo)) % W) else zI M 148 j) ∧ ∀ j, zL M' 150 j = if 203 * sd + 3 + lo + W ≤ j ∧ j < 203 * sd + 3 + lo + n * W then sh (zL M 150 (203 * sd + 3 + lo + (j - (203 * sd + 3 + lo)) % W)) ((j - (203 * sd + 3 + lo)) / W * W) else zL M 150 j := by
  have hWn : W ≤ n * W := Nat.le_mul_of_pos_left W hn
  have key := zloopE (n := n * W - W) (g := fun i M' => r77 d mm n lo W f l e (W + i) M') (P := fun i M' => zN M' = zN M ∧ zK M' = zK M ∧ zR M' = zR M ∧ (∀ b, b ≠ 148 → zI M' b = zI M b) ∧ (∀ b, b ≠ 150 → zL M' b = zL M b) ∧ (∀ j, zI M' 148 j = if 45 * sd + 5 + lo + W ≤ j ∧ j < 45 * sd + 5 + lo + (W + i) then zI M 148 (45 * sd + 5 + lo + (j - (45 * sd + 5 + lo)) % W) else zI M 148 j) ∧ ∀ j, zL M' 150 j = if 203 * sd + 3 + lo + W ≤ j ∧ j < 203 * sd + 3 + lo + (W + i) then sh (zL M 150 (203 * sd + 3 + lo + (j - (203 * sd + 3 + lo)) % W)) ((j - (203 * sd + 3 + lo)) / W * W) else zL M 150 j) (by
    intro i M' hi ⟨g1, g2, g3, g4, g5, g6, g7⟩
    have hs1 := zSh_fr hs g1 g2 g3
    obtain ⟨hN, hK, hC, hMo, -⟩ := hs1
    have i38 : zI M' 146 38 = nI sd := by rw [g4 146 (by omega)]; exact h38
    have hr : (W + i) % W < W := Nat.mod_lt _ hW
    have hdv : (W + i) / W * W ≤ W + i := Nat.div_mul_le_self _ _
    have hdl : (W + i) / W ≤ W + i := Nat.div_le_self _ _
    refine ⟨zsI (zsL M' 150 (203 * sd + 3 + lo + (W + i)) (sh (zL M 150 (203 * sd + 3 + lo + (W + i) % W)) ((W + i) / W * W))) 148 (45 * sd + 5 + lo + (W + i)) (zI M 148 (45 * sd + 5 + lo + (W + i) % W)), ?_, g1, g2, g3, fun b hb2 => (zI_ne hb2).trans (g4 b hb2), fun b hb2 => (zL_ne hb2).trans (g5 b hb2), fun j => ?_, fun j => ?_⟩
    · show r77 d mm n lo W f l e (W + i) M' = r77 d mm n lo W f l e (W + (i + 1)) _
      have e1 : zL M' 150 (203 * sd + 3 + lo + (W + i) % W) = zL M 150 (203 * sd + 3 + lo + (W + i) % W) := by rw [g7, if_neg (by omega)]
      have e2 : zI M' 148 (45 * sd + 5 + lo + (W + i) % W) = zI M 148 (45 * sd + 5 + lo + (W + i) % W) := by rw [g6, if_neg (by omega)]
      rw [← e1, ← e2]
      unfold r77 sh
      rw [zg_Mo_repeats_77]
      unfold zx_Mo_repeats_77
      clear g4 g5 g6 g7 e1 e2
      rw [← Nat.add_assoc W i 1]
      have hkb : W + i < n * W := by omega
      generalize W + i = k at *
      have hme : k - k / W * W = k % W := by
        have := Nat.div_add_mod k W
        rw [Nat.mul_comm] at this
        omega
      simp (disch := omega) only [il, nI_add, nI_mul, nI_sub, nI_div, nI_rem, nI_N, i32_lt, i32_le, nI_toInt, nI_subI, nI_clamp, zinT, zifT, iteT, iteF, zQ, zS, zkc, zI_sI, zL_sL, zI_wI, zL_wL, Nat.reduceEqDiff, Nat.reduceAdd, Nat.reduceMul, Nat.reduceLT, Nat.reduceLeDiff, reduceIte, eq_self, and_self, true_and, and_true, false_and, and_false, true_or, or_true, or_false, false_or, not_true_eq_false, not_false_eq_true, zarr, ne_eq, hK, hMo, i38, ↓zbm_S, ↓zbi_S, hme]
    · by_cases hj : j = 45 * sd + 5 + lo + (W + i)
      · subst hj
        rw [zI_sI, if_pos ⟨rfl, rfl⟩, if_pos (by omega), show 45 * sd + 5 + lo + (W + i) - (45 * sd + 5 + lo) = W + i by omega]
      · rw [zI_sI, if_neg (fun z => hj z.2)]
        show zI M' 148 j = _
        rw [g6]
        by_cases h : 45 * sd + 5 + lo + W ≤ j ∧ j < 45 * sd + 5 + lo + (W + i)
        · rw [if_pos h, if_pos (by omega)]
        · rw [if_neg h, if_neg (by omega)]
    · show zL (zsL M' 150 (203 * sd + 3 + lo + (W + i)) (sh (zL M 150 (203 * sd + 3 + lo + (W + i) % W)) ((W + i) / W * W))) 150 j = _
      by_cases hj : j = 203 * sd + 3 + lo + (W + i)
      · subst hj
        rw [zL_sL, if_pos ⟨rfl, rfl⟩, if_pos (by omega), show 203 * sd + 3 + lo + (W + i) - (203 * sd + 3 + lo) = W + i by omega]
      · rw [zL_sL, if_neg (fun z => hj z.2), g7]
        by_cases h : 203 * sd + 3 + lo + W ≤ j ∧ j < 203 * sd + 3 + lo + (W + i)
        · rw [if_pos h, if_pos (by omega)]
        · rw [if_neg h, if_neg (by omega)]) (s0 := M) ⟨rfl, rfl, rfl, fun _ _ => rfl, fun _ _ => rfl, fun j => by rw [if_neg (by omega)], fun j => by rw [if_neg (by omega)]⟩
  obtain ⟨M', e1, hP⟩ := key
  rw [show W + (n * W - W) = n * W by omega] at hP
  refine ⟨M', ?_, hP⟩
  have e2 : r77 d mm n lo W f l e (W + 0) M = r77 d mm n lo W f l e (W + (n * W - W)) M' := e1
  rw [Nat.add_zero, show W + (n * W - W) = n * W by omega] at e2
  exact e2
theorem m_r77_end {d L w sd mm n lo W e : Nat} {f l : Int64} {M : zM} (hs : zSh L w M) (h38 : zI M 146 38 = nI sd) (hsd : sd < 8) (he : e < 2) (hb : lo + n * W ≤ 40) (hmm : mm < 100) : r77 d mm n lo W f l e (n * W) M = r226 d mm n W f l e f l (if e = 1 ∨ mm = 0 then 1 else 0) 1 (zsI M 148 (45 * sd) (nI (lo + n * W))) := by
  obtain ⟨hN, hK, hC, hMo, -⟩ := hs
  unfold r77 r226
  rw [zg_Mo_repeats_77]
  unfold zx_Mo_repeats_77
  have : e = 0 ∨ e = 1 := by omega
  rcases this with rfl | rfl
  · by_cases h0 : mm = 0
    · rw [if_pos (Or.inr h0)]
      simp (disch := omega) only [il, nI_add, nI_mul, nI_sub, nI_div, nI_rem, nI_N, i32_lt, i32_le, nI_toInt, nI_subI, nI_clamp, zinT, zifT, iteT, iteF, zQ, zS, zkc, zI_sI, zL_sL, zI_wI, zL_wL, Nat.reduceEqDiff, Nat.reduceAdd, Nat.reduceMul, Nat.reduceLT, Nat.reduceLeDiff, reduceIte, eq_self, and_self, true_and, and_true, false_and, and_false, true_or, or_true, or_false, false_or, not_true_eq_false, not_false_eq_true, zarr, ne_eq, hK, hMo, h38, Nat.add_zero]
    · rw [if_neg (show ¬ (0 = 1 ∨ mm = 0) by omega)]
      simp (disch := omega) only [il, nI_add, nI_mul, nI_sub, nI_div, nI_rem, nI_N, i32_lt, i32_le, nI_toInt, nI_subI, nI_clamp, zinT, zifT, iteT, iteF, zQ, zS, zkc, zI_sI, zL_sL, zI_wI, zL_wL, Nat.reduceEqDiff, Nat.reduceAdd, Nat.reduceMul, Nat.reduceLT, Nat.reduceLeDiff, reduceIte, eq_self, and_self, true_and, and_true, false_and, and_false, true_or, or_true, or_false, false_or, not_true_eq_false, not_false_eq_true, zarr, ne_eq, hK, hMo, h38, Nat.add_zero]
  · rw [if_pos (Or.inl rfl)]
    simp (disch := omega) only [il, nI_add, nI_mul, nI_sub, nI_div, nI_rem, nI_N, i32_lt, i32_le, nI_toInt, nI_subI, nI_clamp, zinT, zifT, iteT, iteF, zQ, zS, zkc, zI_sI, zL_sL, zI_wI, zL_wL, Nat.reduceEqDiff, Nat.reduceAdd, Nat.reduceMul, Nat.reduceLT, Nat.reduceLeDiff, reduceIte, eq_self, and_self, true_and, and_true, false_and, and_false, true_or, or_true, or_false, false_or, not_true_eq_false, not_false_eq_true, zarr, ne_eq, hK, hMo, h38, Nat.add_zero]
theorem m_r283 {d mm n W e aN k o : Nat} {f l aL s0 s1 : Int64} {M : zM} (hN : aN < 2) (ho : o < 2) (hk : k < 100) (hkW : k * W < 100) : r283 d mm n W f l e aL aN k o s0 s1 M = r226 d mm n W f l e (s1 ||| s0) (sh l (k * W) ||| (if o = 1 then aL else 0)) (if aN = 1 ∧ o = 1 then 1 else 0) (k + 1) M := by
  unfold r283 r226 sh
  rw [zg_Mo_repeats_283]
  unfold zx_Mo_repeats_283
  have e1 : aN = 0 ∨ aN = 1 := by omega
  have e2 : o = 0 ∨ o = 1 := by omega
  rcases e1 with rfl | rfl <;> rcases e2 with rfl | rfl <;> (simp (disch := omega) only [il, nI_add, nI_mul, nI_sub, nI_div, nI_rem, nI_N, i32_lt, i32_le, nI_toInt, nI_subI, nI_clamp, zinT, zifT, iteT, iteF, zQ, zS, zkc, zI_sI, zL_sL, zI_wI, zL_wL, Nat.reduceEqDiff, Nat.reduceAdd, Nat.reduceMul, Nat.reduceLT, Nat.reduceLeDiff, reduceIte, eq_self, and_self, true_and, and_true, false_and, and_false, true_or, or_true, or_false, false_or, not_true_eq_false, not_false_eq_true, zarr, ne_eq])
theorem m_r226 {d L w sd mm n W e aN k : Nat} {f l aF aL : Int64} {M : zM} (hd : 1 ≤ d) (hs : zSh L w M) (h38 : zI M 146 38 = nI sd) (hsd : sd < 8) (he : e < 2) (hN : aN < 2) (hk : k < n) (hn : n ≤ 9) (hmm : mm < 100) (hkW : k * W < 100) : r226 d mm n W f l e aF aL aN k M = r226 d mm n W f l e (aF ||| (if aN = 1 then sh f (k * W) else 0)) (sh l (k * W) ||| (if (if e = 1 ∨ mm ≤ k then 1 else 0) = 1 then aL else 0)) (if aN = 1 ∧ (if e = 1 ∨ mm ≤ k then 1 else 0) = 1 then 1 else 0) (k + 1) (zwL M 150 (flw sd aL (sh f (k * W)) (zL M 150) 40)) := by
  have ef := m_follows (d := d) hd hs h38 hsd aL (sh f (k * W))
  obtain ⟨hN1, hK, hC, hMo, -⟩ := hs
  rw [← m_r283 hN (by split <;> omega) (by omega) hkW]
  have hM1 : zK (zwL M 150 (flw sd aL (sh f (k * W)) (zL M 150) 40)) 146 = (11, 52) := by rw [show zK (zwL M 150 (flw sd aL (sh f (k * W)) (zL M 150) 40)) = zK M from rfl, hK]; rfl
  unfold r226 r283 sh at *
  rw [zg_Mo_repeats_226]
  unfold zx_Mo_repeats_226
  have e1 : aN = 0 ∨ aN = 1 := by omega
  have e2 : e = 0 ∨ e = 1 := by omega
  by_cases hmk : mm ≤ k
  · rw [if_pos (Or.inr hmk)]
    rcases e1 with rfl | rfl <;> rcases e2 with rfl | rfl <;> (simp (disch := omega) only [il, nI_add, nI_mul, nI_sub, nI_div, nI_rem, nI_N, i32_lt, i32_le, nI_toInt, nI_subI, nI_clamp, zinT, zifT, iteT, iteF, zQ, zS, zkc, zI_sI, zL_sL, zI_wI, zL_wL, Nat.reduceEqDiff, Nat.reduceAdd, Nat.reduceMul, Nat.reduceLT, Nat.reduceLeDiff, reduceIte, eq_self, and_self, true_and, and_true, false_and, and_false, true_or, or_true, or_false, false_or, not_true_eq_false, not_false_eq_true, zarr, ne_eq, hK, ef])
  · rcases e2 with rfl | rfl
    · rw [if_neg (show ¬ (0 = 1 ∨ mm ≤ k) by omega)]
      rcases e1 with rfl | rfl <;> (simp (disch := omega) only [il, nI_add, nI_mul, nI_sub, nI_div, nI_rem, nI_N, i32_lt, i32_le, nI_toInt, nI_subI, nI_clamp, zinT, zifT, iteT, iteF, zQ, zS, zkc, zI_sI, zL_sL, zI_wI, zL_wL, Nat.reduceEqDiff, Nat.reduceAdd, Nat.reduceMul, Nat.reduceLT, Nat.reduceLeDiff, reduceIte, eq_self, and_self, true_and, and_true, false_and, and_false, true_or, or_true, or_false, false_or, not_true_eq_false, not_false_eq_true, zarr, ne_eq, hK, ef])
    · rw [if_pos (Or.inl rfl)]
      rcases e1 with rfl | rfl <;> (simp (disch := omega) only [il, nI_add, nI_mul, nI_sub, nI_div, nI_rem, nI_N, i32_lt, i32_le, nI_toInt, nI_subI, nI_clamp, zinT, zifT, iteT, iteF, zQ, zS, zkc, zI_sI, zL_sL, zI_wI, zL_wL, Nat.reduceEqDiff, Nat.reduceAdd, Nat.reduceMul, Nat.reduceLT, Nat.reduceLeDiff, reduceIte, eq_self, and_self, true_and, and_true, false_and, and_false, true_or, or_true, or_false, false_or, not_true_eq_false, not_false_eq_true, zarr, ne_eq, hK, ef])
theorem m_r226_end {d L w mm n W e aN : Nat} {f l aF aL : Int64} {M : zM} (hs : zSh L w M) (he : e < 2) (hn : n ≤ 9) (hmm : mm < 100) : r226 d mm n W f l e aF aL aN n M = r366 d mm n (if e = 1 ∨ mm = 0 then 1 else 0) (zsL (zsL M 167 0 aF) 168 0 aL) := by
  obtain ⟨hN, hK, hC, hMo, -⟩ := hs
  unfold r226 r366
  rw [zg_Mo_repeats_226]
  unfold zx_Mo_repeats_226
  have : e = 0 ∨ e = 1 := by omega
  rcases this with rfl | rfl
  · by_cases h0 : mm = 0
    · rw [if_pos (Or.inr h0)]
      simp (disch := omega) only [il, nI_add, nI_mul, nI_sub, nI_div, nI_rem, nI_N, i32_lt, i32_le, nI_toInt, nI_subI, nI_clamp, zinT, zifT, iteT, iteF, zQ, zS, zkc, zI_sI, zL_sL, zI_wI, zL_wL, Nat.reduceEqDiff, Nat.reduceAdd, Nat.reduceMul, Nat.reduceLT, Nat.reduceLeDiff, reduceIte, eq_self, and_self, true_and, and_true, false_and, and_false, true_or, or_true, or_false, false_or, not_true_eq_false, not_false_eq_true, zarr, ne_eq, hK, hMo]
    · rw [if_neg (show ¬ (0 = 1 ∨ mm = 0) by omega)]
      simp (disch := omega) only [il, nI_add, nI_mul, nI_sub, nI_div, nI_rem, nI_N, i32_lt, i32_le, nI_toInt, nI_subI, nI_clamp, zinT, zifT, iteT, iteF, zQ, zS, zkc, zI_sI, zL_sL, zI_wI, zL_wL, Nat.reduceEqDiff, Nat.reduceAdd, Nat.reduceMul, Nat.reduceLT, Nat.reduceLeDiff, reduceIte, eq_self, and_self, true_and, and_true, false_and, and_false, true_or, or_true, or_false, false_or, not_true_eq_false, not_false_eq_true, zarr, ne_eq, hK, hMo]
  · rw [if_pos (Or.inl rfl)]
    simp (disch := omega) only [il, nI_add, nI_mul, nI_sub, nI_div, nI_rem, nI_N, i32_lt, i32_le, nI_toInt, nI_subI, nI_clamp, zinT, zifT, iteT, iteF, zQ, zS, zkc, zI_sI, zL_sL, zI_wI, zL_wL, Nat.reduceEqDiff, Nat.reduceAdd, Nat.reduceMul, Nat.reduceLT, Nat.reduceLeDiff, reduceIte, eq_self, and_self, true_and, and_true, false_and, and_false, true_or, or_true, or_false, false_or, not_true_eq_false, not_false_eq_true, zarr, ne_eq, hK, hMo]
/-- one copy more -/
theorem Fr_lco {g g' : Nat → Int64} {T : Nat → Nat → Prop} {lo k W : Nat} {aF aL f l : Int64} {Lg : List Nat → Prop} {o : Nat → Prop} {aN oN : Nat} (f1 : Fr (fun q r => zb (g q) r = true) T lo (k * W) (zB aF) (zB aL) (lco Lg o k)) (f2 : Fr (fun q r => zb (g q) r = true) T (lo + k * W) W (zB (sh f (k * W))) (zB (sh l (k * W))) Lg) (hN : aN = 1 ↔ lco Lg o k []) (hO : oN = 1 ↔ o k) (hg : ∀ q, q < lo + (k + 1) * W → g' q = if zb aL q = true then g q ||| sh f (k * W) else g q) : Fr (fun q r => zb (g' q) r = true) T lo ((k + 1) * W) (zB (aF ||| (if aN = 1 then sh f (k * W) else 0))) (zB (sh l (k * W) ||| (if oN = 1 then aL else 0))) (lco Lg o (k + 1)) ∧ ((if aN = 1 ∧ oN = 1 then 1 else 0) = 1 ↔ lco Lg o (k + 1) []) := by
  have hkW : (k + 1) * W = k * W + W := by rw [Nat.add_mul, Nat.one_mul]
  rw [hkW] at hg ⊢
  have hF : ∀ q r, q < lo + (k * W + W) → (zb (g' q) r = true ↔ zb (g q) r = true ∨ (zB aL q ∧ zB (sh f (k * W)) r)) := by
    intro q r hq
    rw [hg q hq]
    unfold zB
    by_cases hz : zb aL q = true
    · rw [if_pos hz, zb_or, Bool.or_eq_true]
      exact ⟨fun u => u.elim Or.inl (fun v => Or.inr ⟨hz, v⟩), fun u => u.elim Or.inl (fun v => Or.inr v.2)⟩
    · rw [if_neg hz]
      exact ⟨Or.inl, fun u => u.elim id (fun v => absurd v.1 hz)⟩
  constructor
  · have f2' := f2.lang (Lg' := lopt Lg (o k)) (fun w hw => (lopt_ne hw).symm)
    refine Fr.chain (F' := fun q r => zb (g' q) r = true) (N1 := aN = 1) (N2 := oN = 1) f1 f2' hN.symm (lopt_nil.trans hO.symm) (fun q r h1 h2 => hF q r (by omega)) (fun q r h1 h2 => ?_) (fun q => ?_) (fun q => ?_)
    · show zb (g' q) r = true ↔ zb (g q) r = true
      rw [hF q r (by omega)]
      exact ⟨fun u => u.elim id (fun v => by have := f1.2.1 q v.1; omega), Or.inl⟩
    · exact zb_ora
    · exact zb_ora
  · show _ ↔ lch (lco Lg o k) (lopt Lg (o k)) []
    constructor
    · intro h
      have h2 : aN = 1 ∧ oN = 1 := by
        apply Classical.byContradiction
        intro h3
        rw [if_neg h3] at h
        exact absurd h (by decide)
      exact ⟨[], [], rfl, hN.mp h2.1, lopt_nil.mpr (hO.mp h2.2)⟩
    · rintro ⟨a, b, e, ha, hb⟩
      obtain ⟨rfl, rfl⟩ := List.append_eq_nil_iff.mp e.symm
      rw [if_pos ⟨hN.mpr ha, hO.mpr (lopt_nil.mp hb)⟩]
