/-! the class repeats a piece -/
def sh (x : Int64) (n : Nat) : Int64 := x <<< (Int32.toInt64 (nI n) &&& 63)
theorem zb_sh {x : Int64} {k r : Nat} (hk : k < 64) (hx : ∀ q, zb x q = true → q + k < 64) : zb (sh x k) r = true ↔ ∃ q, r = q + k ∧ zb x q = true := by
  unfold sh
  by_cases hr : r < 64
  · rw [zb_shl hk x hr, Bool.and_eq_true, decide_eq_true_eq]
    constructor
    · rintro ⟨h1, h2⟩
      exact ⟨r - k, by omega, h2⟩
    · rintro ⟨q, h1, h2⟩
      exact ⟨by omega, by rw [show r - k = q by omega]; exact h2⟩
  · rw [zb_big (by omega)]
    constructor
    · intro h; exact absurd h Bool.false_ne_true
    · rintro ⟨q, h1, h2⟩
      have := hx q h2
      omega
theorem sh_0 (x : Int64) : sh x 0 = x := by
  apply zb_ext
  intro i hi
  unfold sh
  rw [zb_shl (by omega) x hi, Nat.sub_zero, decide_eq_true (Nat.zero_le i), Bool.true_and]
theorem mul_uniq {i j W q : Nat} (h1 : i * W ≤ q) (h2 : q < i * W + W) (h3 : j * W ≤ q) (h4 : q < j * W + W) : i = j := by
  rcases Nat.lt_trichotomy i j with h | h | h
  · have := Nat.mul_le_mul_right W (show i + 1 ≤ j from h)
    rw [Nat.add_mul, Nat.one_mul] at this
    omega
  · exact h
  · have := Nat.mul_le_mul_right W (show j + 1 ≤ i from h)
    rw [Nat.add_mul, Nat.one_mul] at this
    omega
theorem bu_copies {d s k p n W ls : Nat} {M : zM} {b0 e0 : Int64} (hd : 1 ≤ d) (hB : kB M) (hr : zR M 8 6 = some s) (hq : zSeq M s) (hs26 : 26 ≤ s) (hp : p ≤ 40) (h7 : zI M s 7 = nI p) (hk : k < 19) (hn : n ≤ 9) (hW : W ≤ 40) (hnW : n * W ≤ 40) (hls : 1 ≤ ls) (hls2 : ls ≤ 9) (h0 : zL M 10 k = 0) : ∃ M', zG d n_Bu_chainCopies 46 [some (.ref 8), some (.int (nI k)), some (.int (nI W)), none, some (.int (nI n)), some (.long b0), none, some (.long e0), none, some (.int (nI ls)), some (.int (nI 0)), none] [] M = some (none, M') ∧ zN M' = zN M ∧ zK M' = zK M ∧ zR M' = zR M ∧ zI M' = zI M ∧ (∀ z, z ≠ 10 → z ≠ s + 1 → zL M' z = zL M z) ∧ (∀ i, i ≠ k → zL M' 10 i = zL M 10 i) ∧ (∀ r, zb (zL M' 10 k) r = true ↔ ∃ i, i < n ∧ ls ≤ i + 1 ∧ zb (sh e0 (i * W)) r = true) ∧ ∀ q r, q ≤ p → (zb (zL M' (s + 1) q) r = true ↔ zb (zL M (s + 1) q) r = true ∨ ∃ i, i + 1 < n ∧ zb (sh e0 (i * W)) q = true ∧ zb (sh b0 ((i + 1) * W)) r = true) := by
  have k1 := hq.1
  have hB0 := hB
  obtain ⟨M', e, f1, f2, f3, f4, f5, f6, f7, f8⟩ := zloopE (n := n) (g := fun j M1 => zG d n_Bu_chainCopies 46 [some (.ref 8), some (.int (nI k)), some (.int (nI W)), none, some (.int (nI n)), some (.long b0), none, some (.long e0), none, some (.int (nI ls)), some (.int (nI j)), none] [] M1) (P := fun j M1 => zN M1 = zN M ∧ zK M1 = zK M ∧ zR M1 = zR M ∧ zI M1 = zI M ∧ (∀ z, z ≠ 10 → z ≠ s + 1 → zL M1 z = zL M z) ∧ (∀ i, i ≠ k → zL M1 10 i = zL M 10 i) ∧ (∀ r, zb (zL M1 10 k) r = true ↔ ∃ i, i < j ∧ ls ≤ i + 1 ∧ zb (sh e0 (i * W)) r = true) ∧ ∀ q r, q ≤ p → (zb (zL M1 (s + 1) q) r = true ↔ zb (zL M (s + 1) q) r = true ∨ ∃ i, i + 1 < j ∧ zb (sh e0 (i * W)) q = true ∧ zb (sh b0 ((i + 1) * W)) r = true)) (by
    intro j M1 hj ⟨f1, f2, f3, f4, f5, f6, f7, f8⟩
    have hjW : j * W ≤ n * W := Nat.mul_le_mul_right W (by omega)
    obtain ⟨M2, g0, g1, g2, g3, g4, g5, g6, g7⟩ : ∃ M2, ((j = 0 ∧ M2 = M1) ∨ (0 < j ∧ zV d n_Se_link [.ref s, .long (e0 <<< (Int32.toInt64 (nI (j * W - W)) &&& 63)), .long (b0 <<< (Int32.toInt64 (nI (j * W)) &&& 63))] M1 = some (none, M2))) ∧ zN M2 = zN M ∧ zK M2 = zK M ∧ zR M2 = zR M ∧ zI M2 = zI M ∧ (∀ z, z ≠ s + 1 → zL M2 z = zL M1 z) ∧ zL M2 10 = zL M1 10 ∧ ∀ q r, q ≤ p → (zb (zL M2 (s + 1) q) r = true ↔ zb (zL M (s + 1) q) r = true ∨ ∃ i, i + 1 < j + 1 ∧ zb (sh e0 (i * W)) q = true ∧ zb (sh b0 ((i + 1) * W)) r = true) := by
      by_cases hj0 : j = 0
      · refine ⟨M1, Or.inl ⟨hj0, rfl⟩, f1, f2, f3, f4, fun _ _ => rfl, rfl, fun q r hqp => ?_⟩
        rw [f8 q r hqp]
        constructor
        · rintro (h | ⟨i, h1, _⟩)
          · exact Or.inl h
          · omega
        · rintro (h | ⟨i, h1, _⟩)
          · exact Or.inl h
          · omega
      · have el := se_link (d := d) (M := M1) hd (zSeq_fr hq f2 f3) hp (by rw [f4]; exact h7) (e0 <<< (Int32.toInt64 (nI (j * W - W)) &&& 63)) (b0 <<< (Int32.toInt64 (nI (j * W)) &&& 63))
        refine ⟨_, Or.inr ⟨by omega, el⟩, f1, f2, f3, f4, fun z hz => zLw_ne hz, zLw_ne (by omega), fun q r hqp => ?_⟩
        have hjj : (j - 1 + 1) * W = j * W := by rw [show j - 1 + 1 = j by omega]
        have hjm : (j - 1) * W = j * W - W := by
          rw [← hjj, Nat.add_mul, Nat.one_mul, Nat.add_sub_cancel]
        rw [zL_wL, if_pos rfl, lnk_at hqp, f8 q r hqp]
        constructor
        · rintro ((h | ⟨i, h1, h2⟩) | ⟨h1, h2⟩)
          · exact Or.inl h
          · exact Or.inr ⟨i, by omega, h2⟩
          · exact Or.inr ⟨j - 1, by omega, by rw [hjm]; exact h1, by rw [hjj]; exact h2⟩
        · rintro (h | ⟨i, h1, h2, h3⟩)
          · exact Or.inl (Or.inl h)
          · by_cases hi : i = j - 1
            · subst hi
              rw [hjm] at h2
              rw [hjj] at h3
              exact Or.inr ⟨h2, h3⟩
            · exact Or.inl (Or.inr ⟨i, by omega, h2, h3⟩)
    have hB1 : kB M1 := by unfold kB; rw [f2, f3]; exact hB0
    have hB2 : kB M2 := by unfold kB; rw [g2, g3]; exact hB0
    have r1 : zR M1 8 6 = some s := by rw [f3]; exact hr
    have kk1 : zK M1 s = (4, 11) := by rw [f2]; exact k1
    obtain ⟨a1, a2, a3, a4, a5, a6, a7, a8, a9, a10, a11⟩ := hB1
    obtain ⟨c1, c2, c3, c4, c5, c6, c7, c8, c9, c10, c11⟩ := hB2
    by_cases hl : ls ≤ j + 1
    · refine ⟨zsL M2 10 k (zL M2 10 k ||| (e0 <<< (Int32.toInt64 (nI (j * W)) &&& 63))), ?_, g1, g2, g3, g4, fun z h1 h2 => (zL_ne h1).trans ((g5 z h2).trans (f5 z h1 h2)), fun i hi => ?_, fun r => ?_, fun q r hqp => ?_⟩
      · show zG d n_Bu_chainCopies 46 [some (.ref 8), some (.int (nI k)), some (.int (nI W)), none, some (.int (nI n)), some (.long b0), none, some (.long e0), none, some (.int (nI ls)), some (.int (nI j)), none] [] M1 = _
        rw [zg_Bu_chainCopies_46]
        unfold zx_Bu_chainCopies_46
        clear f1 f2 f3 f4 f5 f6 f7 f8 g1 g2 g3 g4 g5 g6 g7
        rcases g0 with ⟨h, h2⟩ | ⟨h, h2⟩
        · subst h
          subst h2
          simp (disch := omega) only [il, nI_add, nI_mul, nI_sub, nI_div, nI_rem, nI_N, i32_lt, i32_le, nI_toInt, nI_subI, nI_clamp, zinT, zifT, iteT, iteF, zQ, zS, zkc, zI_sI, zL_sL, zI_wI, zL_wL, Nat.reduceEqDiff, Nat.reduceAdd, Nat.reduceMul, Nat.reduceLT, Nat.reduceLeDiff, reduceIte, eq_self, and_self, true_and, and_true, false_and, and_false, true_or, or_true, or_false, false_or, not_true_eq_false, not_false_eq_true, zarr, ne_eq, a1, a3, a8]
        · have hjW2 : W ≤ j * W := Nat.le_mul_of_pos_left W h
          simp (disch := omega) only [il, nI_add, nI_mul, nI_sub, nI_div, nI_rem, nI_N, i32_lt, i32_le, nI_toInt, nI_subI, nI_clamp, zinT, zifT, iteT, iteF, zQ, zS, zkc, zI_sI, zL_sL, zI_wI, zL_wL, Nat.reduceEqDiff, Nat.reduceAdd, Nat.reduceMul, Nat.reduceLT, Nat.reduceLeDiff, reduceIte, eq_self, and_self, true_and, and_true, false_and, and_false, true_or, or_true, or_false, false_or, not_true_eq_false, not_false_eq_true, zarr, ne_eq, a1, r1, kk1, h2, c1, c3, c8]
      · rw [zL_sL, if_neg (fun z => hi z.2), g6]
        exact f6 i hi
      · rw [zL_sL, if_pos ⟨rfl, rfl⟩, zb_or, Bool.or_eq_true, g6, f7 r]
        constructor
        · rintro (⟨i, h1, h2⟩ | h)
          · exact ⟨i, by omega, h2⟩
          · exact ⟨j, by omega, hl, h⟩
        · rintro ⟨i, h1, h2, h3⟩
          by_cases hi : i = j
          · subst hi; exact Or.inr h3
          · exact Or.inl ⟨i, by omega, h2, h3⟩
      · rw [zL_ne (by omega)]
        exact g7 q r hqp
    · refine ⟨M2, ?_, g1, g2, g3, g4, fun z h1 h2 => (g5 z h2).trans (f5 z h1 h2), fun i hi => by rw [g6]; exact f6 i hi, fun r => ?_, fun q r hqp => g7 q r hqp⟩
      · show zG d n_Bu_chainCopies 46 [some (.ref 8), some (.int (nI k)), some (.int (nI W)), none, some (.int (nI n)), some (.long b0), none, some (.long e0), none, some (.int (nI ls)), some (.int (nI j)), none] [] M1 = _
        rw [zg_Bu_chainCopies_46]
        unfold zx_Bu_chainCopies_46
        clear f1 f2 f3 f4 f5 f6 f7 f8 g1 g2 g3 g4 g5 g6 g7
        rcases g0 with ⟨h, h2⟩ | ⟨h, h2⟩
        · subst h
          subst h2
          simp (disch := omega) only [il, nI_add, nI_mul, nI_sub, nI_div, nI_rem, nI_N, i32_lt, i32_le, nI_toInt, nI_subI, nI_clamp, zinT, zifT, iteT, iteF, zQ, zS, zkc, zI_sI, zL_sL, zI_wI, zL_wL, Nat.reduceEqDiff, Nat.reduceAdd, Nat.reduceMul, Nat.reduceLT, Nat.reduceLeDiff, reduceIte, eq_self, and_self, true_and, and_true, false_and, and_false, true_or, or_true, or_false, false_or, not_true_eq_false, not_false_eq_true, zarr, ne_eq, a1, a3, a8]
        · have hjW2 : W ≤ j * W := Nat.le_mul_of_pos_left W h
          simp (disch := omega) only [il, nI_add, nI_mul, nI_sub, nI_div, nI_rem, nI_N, i32_lt, i32_le, nI_toInt, nI_subI, nI_clamp, zinT, zifT, iteT, iteF, zQ, zS, zkc, zI_sI, zL_sL, zI_wI, zL_wL, Nat.reduceEqDiff, Nat.reduceAdd, Nat.reduceMul, Nat.reduceLT, Nat.reduceLeDiff, reduceIte, eq_self, and_self, true_and, and_true, false_and, and_false, true_or, or_true, or_false, false_or, not_true_eq_false, not_false_eq_true, zarr, ne_eq, a1, r1, kk1, h2, c1, c3, c8]
      · rw [g6, f7 r]
        constructor
        · rintro ⟨i, h1, h2⟩
          exact ⟨i, by omega, h2⟩
        · rintro ⟨i, h1, h2, h3⟩
          exact ⟨i, by omega, h2, h3⟩) (s0 := M) ⟨rfl, rfl, rfl, rfl, fun _ _ _ => rfl, fun _ _ => rfl, fun r => by rw [h0, zb_0]; exact ⟨fun z => absurd z Bool.false_ne_true, fun ⟨i, h, _⟩ => by omega⟩, fun q r _ => ⟨Or.inl, fun z => z.elim id (fun ⟨i, h, _⟩ => by omega)⟩⟩
  refine ⟨M', e.trans ?_, f1, f2, f3, f4, f5, f6, f7, f8⟩
  show zG d n_Bu_chainCopies 46 [some (.ref 8), some (.int (nI k)), some (.int (nI W)), none, some (.int (nI n)), some (.long b0), none, some (.long e0), none, some (.int (nI ls)), some (.int (nI n)), none] [] M' = _
  rw [zg_Bu_chainCopies_46]
  unfold zx_Bu_chainCopies_46
  clear e f1 f2 f3 f4 f5 f6 f7 f8
  simp (disch := omega) only [il, nI_add, nI_mul, nI_sub, nI_div, nI_rem, nI_N, i32_lt, i32_le, nI_toInt, nI_subI, nI_clamp, zinT, zifT, iteT, iteF, zQ, zS, zkc, zI_sI, zL_sL, zI_wI, zL_wL, Nat.reduceEqDiff, Nat.reduceAdd, Nat.reduceMul, Nat.reduceLT, Nat.reduceLeDiff, reduceIte, eq_self, and_self, true_and, and_true, false_and, and_false, true_or, or_true, or_false, false_or, not_true_eq_false, not_false_eq_true, zarr, ne_eq]
theorem bu_chainCopies {d s k p n m W fa : Nat} {M : zM} (hd : 2 ≤ d) (hB : kB M) (hr : zR M 8 6 = some s) (hq : zSeq M s) (hs26 : 26 ≤ s) (hp : p ≤ 40) (h7 : zI M s 7 = nI p) (hk : k < 19) (hn : n ≤ 9) (hm : m ≤ 9) (hW : W ≤ 40) (hnW : n * W ≤ 40) (hfa : fa ≤ 1000) (h12 : zI M 12 k = nI fa) : ∃ M', zV d n_Bu_chainCopies [.ref 8, .int (nI k), .int (nI W), .int (nI m), .int (nI n)] M = some (none, M') ∧ zN M' = zN M ∧ zK M' = zK M ∧ zR M' = zR M ∧ zI M' = zI M ∧ (∀ z, z ≠ 10 → z ≠ s + 1 → zL M' z = zL M z) ∧ (∀ i, i ≠ k → zL M' 10 i = zL M 10 i) ∧ (∀ r, zb (zL M' 10 k) r = true ↔ ∃ i, i < n ∧ (if fa = 0 then 1 else max 1 m) ≤ i + 1 ∧ zb (sh (zL M 10 k) (i * W)) r = true) ∧ ∀ q r, q ≤ p → (zb (zL M' (s + 1) q) r = true ↔ zb (zL M (s + 1) q) r = true ∨ ∃ i, i + 1 < n ∧ zb (sh (zL M 10 k) (i * W)) q = true ∧ zb (sh (zL M 9 k) ((i + 1) * W)) r = true) := by
  obtain ⟨d, rfl, hd1⟩ := zdep hd
  have hls : 1 ≤ (if fa = 0 then 1 else max 1 m) ∧ (if fa = 0 then 1 else max 1 m) ≤ 9 := by split <;> omega
  obtain ⟨M', e, f1, f2, f3, f4, f5, f6, f7, f8⟩ := bu_copies (d := d) (k := k) (p := p) (n := n) (W := W) (ls := if fa = 0 then 1 else max 1 m) (M := zsL M 10 k 0) (b0 := zL M 9 k) (e0 := zL M 10 k) (by omega) hB hr (zSeq_fr hq rfl rfl) hs26 hp h7 hk hn hW hnW hls.1 hls.2 (by rw [zL_sL, if_pos ⟨rfl, rfl⟩])
  refine ⟨M', ?_, f1, f2, f3, f4, fun z h1 h2 => (f5 z h1 h2).trans (zL_ne h1), fun i hi => (f6 i hi).trans (by rw [zL_sL, if_neg (fun z => hi z.2)]), f7, fun q r hqp => ?_⟩
  · rw [← e, ze_Bu_chainCopies]
    unfold zx_Bu_chainCopies
    obtain ⟨a1, a2, a3, a4, a5, a6, a7, a8, a9, a10, a11⟩ := hB
    clear e f1 f2 f3 f4 f5 f6 f7 f8
    by_cases h : fa = 0
    · rw [if_pos h]
      subst h
      simp (disch := omega) only [il, nI_add, nI_mul, nI_sub, nI_div, nI_rem, nI_N, i32_lt, i32_le, nI_toInt, nI_subI, nI_clamp, zinT, zifT, iteT, iteF, zQ, zS, zkc, zI_sI, zL_sL, zI_wI, zL_wL, Nat.reduceEqDiff, Nat.reduceAdd, Nat.reduceMul, Nat.reduceLT, Nat.reduceLeDiff, reduceIte, eq_self, and_self, true_and, and_true, false_and, and_false, true_or, or_true, or_false, false_or, not_true_eq_false, not_false_eq_true, zarr, ne_eq, a1, a2, a3, a5, a7, a8, a10, h12]
    · rw [if_neg h]
      by_cases h2 : 1 < m
      · rw [Nat.max_eq_right (by omega)]
        simp (disch := omega) only [il, nI_add, nI_mul, nI_sub, nI_div, nI_rem, nI_N, i32_lt, i32_le, nI_toInt, nI_subI, nI_clamp, zinT, zifT, iteT, iteF, zQ, zS, zkc, zI_sI, zL_sL, zI_wI, zL_wL, Nat.reduceEqDiff, Nat.reduceAdd, Nat.reduceMul, Nat.reduceLT, Nat.reduceLeDiff, reduceIte, eq_self, and_self, true_and, and_true, false_and, and_false, true_or, or_true, or_false, false_or, not_true_eq_false, not_false_eq_true, zarr, ne_eq, a1, a2, a3, a5, a7, a8, a10, h12]
      · rw [Nat.max_eq_left (by omega)]
        simp (disch := omega) only [il, nI_add, nI_mul, nI_sub, nI_div, nI_rem, nI_N, i32_lt, i32_le, nI_toInt, nI_subI, nI_clamp, zinT, zifT, iteT, iteF, zQ, zS, zkc, zI_sI, zL_sL, zI_wI, zL_wL, Nat.reduceEqDiff, Nat.reduceAdd, Nat.reduceMul, Nat.reduceLT, Nat.reduceLeDiff, reduceIte, eq_self, and_self, true_and, and_true, false_and, and_false, true_or, or_true, or_false, false_or, not_true_eq_false, not_false_eq_true, zarr, ne_eq, a1, a2, a3, a5, a7, a8, a10, h12]
  · rw [f8 q r hqp, zL_ne (by omega)]
theorem bu_r77 {d k m n fa ma : Nat} {M : zM} (hB : kB M) (hk : k < 19) (hm : m ≤ 9) (hn : n ≤ 9) (hfa : fa ≤ 1000) (hma : ma ≤ 1000) (e1 : zI M 12 k = nI fa) (e3 : zI M 13 k = nI ma) : zG d n_Bu_repeat 77 [some (.ref 8), some (.int (nI m)), some (.int (nI n)), some (.int (nI k)), none] [] M = some (none, zsI (zsI M 12 k (nI (min 1000 (fa * m)))) 13 k (nI (min 1000 (ma * n)))) := by
  obtain ⟨a1, a2, a3, a4, a5, a6, a7, a8, a9, a10, a11⟩ := hB
  have h1 : fa * m ≤ 1000 * 9 := Nat.mul_le_mul hfa hm
  have h2 : ma * n ≤ 1000 * 9 := Nat.mul_le_mul hma hn
  rw [zg_Bu_repeat_77]
  unfold zx_Bu_repeat_77
  rcases min_c (fa * m) with ⟨c1, c2⟩ | ⟨c1, c2⟩ <;> rcases min_c (ma * n) with ⟨c3, c4⟩ | ⟨c3, c4⟩ <;> rw [c2, c4] <;> (simp (disch := omega) only [il, nI_add, nI_mul, nI_sub, nI_div, nI_rem, nI_N, i32_lt, i32_le, nI_toInt, nI_subI, nI_clamp, zinT, zifT, iteT, iteF, zQ, zS, zkc, zI_sI, zL_sL, zI_wI, zL_wL, Nat.reduceEqDiff, Nat.reduceAdd, Nat.reduceMul, Nat.reduceLT, Nat.reduceLeDiff, reduceIte, eq_self, and_self, true_and, and_true, false_and, and_false, true_or, or_true, or_false, false_or, not_true_eq_false, not_false_eq_true, zarr, ne_eq, a1, a5, a6, a10, a11, e1, e3])
