/-! the reference repeats a piece -/
theorem ite2 {P : Prop} [Decidable P] : (if P then (1 : Nat) else 0) < 2 := by split <;> omega
theorem m_placesNow {d L w sd : Nat} {M : zM} (hd : 1 ≤ d) (hs : zSh L w M) (h38 : zI M 146 38 = nI sd) (hsd : sd < 8) : zV d n_Mo_placesNow [.ref 146] M = some (some (.int (zI M 148 (45 * sd))), M) := by
  obtain ⟨d, rfl, hd1⟩ := zdep hd
  obtain ⟨hN, hK, hC, hMo, -⟩ := hs
  rw [ze_Mo_placesNow]
  unfold zx_Mo_placesNow
  simp (disch := omega) only [il, nI_add, nI_mul, nI_sub, nI_div, nI_rem, nI_N, i32_lt, i32_le, nI_toInt, nI_subI, nI_clamp, zinT, zifT, iteT, iteF, zQ, zS, zkc, zI_sI, zL_sL, zI_wI, zL_wL, Nat.reduceEqDiff, Nat.reduceAdd, Nat.reduceMul, Nat.reduceLT, Nat.reduceLeDiff, reduceIte, eq_self, and_self, true_and, and_true, false_and, and_false, true_or, or_true, or_false, false_or, not_true_eq_false, not_false_eq_true, zarr, ne_eq, hK, hMo, h38, Nat.add_zero]
theorem md_W {a i W : Nat} (ha : a < W) : (a + i * W) % W = a ∧ (a + i * W) / W * W = i * W := by
  constructor
  · rw [Nat.add_mul_mod_self_right, Nat.mod_eq_of_lt ha]
  · rw [Nat.add_mul_div_right a i (by omega), Nat.div_eq_of_lt ha, Nat.zero_add]
/-- the copies, as the reference makes them -/
theorem q_copies {sd lo W n : Nat} {M M1 : zM} {x : Pc} (hW : 1 ≤ W) (hb : lo + n * W ≤ 40) (hf : Fr (qF M sd) (qT M sd) lo W (zB (zL M 167 0)) (zB (zL M 168 0)) (pL x)) (g6 : ∀ j, j ≠ 45 * sd → zI M1 148 j = if 45 * sd + 5 + lo + W ≤ j ∧ j < 45 * sd + 5 + lo + n * W then zI M 148 (45 * sd + 5 + lo + (j - (45 * sd + 5 + lo)) % W) else zI M 148 j) (g7 : ∀ j, zL M1 150 j = if 203 * sd + 3 + lo + W ≤ j ∧ j < 203 * sd + 3 + lo + n * W then sh (zL M 150 (203 * sd + 3 + lo + (j - (203 * sd + 3 + lo)) % W)) ((j - (203 * sd + 3 + lo)) / W * W) else zL M 150 j) : ∀ i, i < n → Fr (fun q r => zb (zL M1 150 (203 * sd + 3 + q)) r = true) (qT M1 sd) (lo + i * W) W (zB (sh (zL M 167 0) (i * W))) (zB (sh (zL M 168 0) (i * W))) (pL x) := by
  intro i hi
  have hiW : i * W + W ≤ n * W := by
    have := Nat.mul_le_mul_right W (show i + 1 ≤ n from hi)
    rw [Nat.add_mul, Nat.one_mul] at this
    exact this
  have hTb : qTb M1 sd = qTb M sd := by
    funext k
    unfold qTb
    rw [g7, if_neg (by omega)]
  refine hf.shift (s := i * W) (fun q r a1 a2 => ?_) (fun q v a1 a2 => ?_) (fun q => ?_) (fun q => ?_)
  · have hrow : zL M1 150 (203 * sd + 3 + (q + i * W)) = sh (zL M 150 (203 * sd + 3 + q)) (i * W) := by
      cases i with
      | zero =>
        simp only [Nat.zero_mul, Nat.add_zero, sh_0]
        rw [g7, if_neg (by omega)]
      | succ i =>
        have hW1 : W ≤ (i + 1) * W := Nat.le_mul_of_pos_left W (by omega)
        obtain ⟨m1, m2⟩ := md_W (a := q - lo) (i := i + 1) (W := W) (by omega)
        rw [g7, if_pos (by omega), show 203 * sd + 3 + (q + (i + 1) * W) - (203 * sd + 3 + lo) = (q - lo) + (i + 1) * W by omega, m1, m2, show 203 * sd + 3 + lo + (q - lo) = 203 * sd + 3 + q by omega]
    show zb (zL M1 150 (203 * sd + 3 + (q + i * W))) r = true ↔ _
    rw [hrow]
    exact zb_sh (by omega) (fun r0 h0 => by have := hf.2.2.1 q r0 a1 a2 h0; omega)
  · have hrow : zI M1 148 (45 * sd + 5 + (q + i * W)) = zI M 148 (45 * sd + 5 + q) := by
      cases i with
      | zero =>
        simp only [Nat.zero_mul, Nat.add_zero]
        rw [g6 _ (by omega), if_neg (by omega)]
      | succ i =>
        have hW1 : W ≤ (i + 1) * W := Nat.le_mul_of_pos_left W (by omega)
        obtain ⟨m1, m2⟩ := md_W (a := q - lo) (i := i + 1) (W := W) (by omega)
        rw [g6 _ (by omega), if_pos (by omega), show 45 * sd + 5 + (q + (i + 1) * W) - (45 * sd + 5 + lo) = (q - lo) + (i + 1) * W by omega, m1, show 45 * sd + 5 + lo + (q - lo) = 45 * sd + 5 + q by omega]
    unfold qT qC
    rw [hrow, hTb]
  · exact zb_sh (by omega) (fun q0 h0 => by have := hf.1 q0 h0; omega)
  · exact zb_sh (by omega) (fun q0 h0 => by have := hf.2.1 q0 h0; omega)
/-- the loop over the copies -/
theorem m_r226_go {d L w sd lo W n mm e : Nat} {f l : Int64} {M1 : zM} {x : Pc} (hd : 1 ≤ d) (hs : zSh L w M1) (h38 : zI M1 146 38 = nI sd) (hsd : sd < 8) (hW : 1 ≤ W) (hn1 : 1 ≤ n) (hn : n ≤ 9) (hmn : mm ≤ n) (hb : lo + n * W ≤ 40) (he : e < 2) (hel : e = 1 ↔ pL x []) (hcop : ∀ i, i < n → Fr (fun q r => zb (zL M1 150 (203 * sd + 3 + q)) r = true) (qT M1 sd) (lo + i * W) W (zB (sh f (i * W))) (zB (sh l (i * W))) (pL x)) : ∃ (aF aL : Int64) (aN : Nat) (g : Nat → Int64), r226 d mm n W f l e f l (if e = 1 ∨ mm = 0 then 1 else 0) 1 M1 = r226 d mm n W f l e aF aL aN n (zwL M1 150 g) ∧ Fr (fun q r => zb (g (203 * sd + 3 + q)) r = true) (qT M1 sd) lo (n * W) (zB aF) (zB aL) (lrep (pL x) mm n) ∧ ∀ j, (j < 203 * sd + 3 + lo ∨ 203 * sd + 3 + lo + n * W ≤ j) → g j = zL M1 150 j := by
  have ho : ∀ k, (pL x [] ∨ mm ≤ k) ↔ (pL x [] ∨ mm ≤ k) := fun _ => Iff.rfl
  have hkW : ∀ k, k < n → k * W + W ≤ n * W := by
    intro k hk
    have := Nat.mul_le_mul_right W (show k + 1 ≤ n from hk)
    rw [Nat.add_mul, Nat.one_mul] at this
    exact this
  have key := zloopE (n := n - 1) (g := fun i (s : Int64 × Int64 × Nat × (Nat → Int64)) => r226 d mm n W f l e s.1 s.2.1 s.2.2.1 (i + 1) (zwL M1 150 s.2.2.2)) (P := fun i s => s.2.2.1 < 2 ∧ (s.2.2.1 = 1 ↔ lco (pL x) (fun k => pL x [] ∨ mm ≤ k) (i + 1) []) ∧ Fr (fun q r => zb (s.2.2.2 (203 * sd + 3 + q)) r = true) (qT M1 sd) lo ((i + 1) * W) (zB s.1) (zB s.2.1) (lco (pL x) (fun k => pL x [] ∨ mm ≤ k) (i + 1)) ∧ ∀ j, (j < 203 * sd + 3 + lo ∨ 203 * sd + 3 + lo + (i + 1) * W ≤ j) → s.2.2.2 j = zL M1 150 j) (by
    rintro i ⟨aF, aL, aN, g⟩ hi ⟨p1, p2, p3, p4⟩
    simp only at p1 p2 p3 p4
    have hw := hkW (i + 1) (by omega)
    have e1 := m_r226 (d := d) (sd := sd) (mm := mm) (n := n) (W := W) (e := e) (aN := aN) (k := i + 1) (f := f) (l := l) (aF := aF) (aL := aL) (M := zwL M1 150 g) hd (hs.wL _ _) h38 hsd he p1 (by omega) hn (by omega) (by omega)
    rw [zLw_eq, zwL_wL] at e1
    have hs2 : (i + 1 + 1) * W = (i + 1) * W + W := by rw [Nat.add_mul (i + 1) 1 W, Nat.one_mul]
    obtain ⟨q1, q2⟩ := Fr_lco (g := fun q => g (203 * sd + 3 + q)) (g' := fun q => flw sd aL (sh f ((i + 1) * W)) g 40 (203 * sd + 3 + q)) (T := qT M1 sd) (lo := lo) (k := i + 1) (W := W) (aF := aF) (aL := aL) (f := f) (l := l) (Lg := pL x) (o := fun k => pL x [] ∨ mm ≤ k) (aN := aN) (oN := if e = 1 ∨ mm ≤ i + 1 then 1 else 0) p3 ((hcop (i + 1) (by omega)).congr (fun q r h1 h2 => by rw [p4 _ (by omega)]) (fun _ _ _ _ => Iff.rfl) (fun _ => Iff.rfl) (fun _ => Iff.rfl)) p2 (by
        by_cases h : e = 1 ∨ mm ≤ i + 1
        · rw [if_pos h]
          exact ⟨fun _ => h.elim (fun z => Or.inl (hel.mp z)) Or.inr, fun _ => rfl⟩
        · rw [if_neg h]
          exact ⟨fun z => absurd z (by decide), fun z => absurd (z.elim (fun y => Or.inl (hel.mpr y)) Or.inr) h⟩) (fun q hq => flw_at (by omega))
    refine ⟨(aF ||| (if aN = 1 then sh f ((i + 1) * W) else 0), sh l ((i + 1) * W) ||| (if (if e = 1 ∨ mm ≤ i + 1 then 1 else 0) = 1 then aL else 0), if aN = 1 ∧ (if e = 1 ∨ mm ≤ i + 1 then 1 else 0) = 1 then 1 else 0, flw sd aL (sh f ((i + 1) * W)) g 40), e1, ?_, q2, q1, ?_⟩
    · exact ite2
    · intro j hj
      show flw sd aL (sh f ((i + 1) * W)) g 40 j = zL M1 150 j
      rw [← p4 j (by omega)]
      unfold flw
      rw [if_neg]
      rintro ⟨z1, z2, z3⟩
      have := p3.2.1 (j - (203 * sd + 3)) z3
      omega) (s0 := (f, l, if e = 1 ∨ mm = 0 then 1 else 0, zL M1 150)) (by
    have h0 := hcop 0 (by omega)
    rw [Nat.zero_mul, Nat.add_zero, sh_0, sh_0] at h0
    refine ⟨?_, ?_, ?_, fun _ _ => rfl⟩
    · exact ite2
    · show (if e = 1 ∨ mm = 0 then 1 else 0) = 1 ↔ lco (pL x) (fun k => pL x [] ∨ mm ≤ k) (0 + 1) []
      rw [lco_nil]
      by_cases h : e = 1 ∨ mm = 0
      · rw [if_pos h]
        refine ⟨fun _ i hi => h.elim (fun z => Or.inl (hel.mp z)) (fun z => Or.inr (by omega)), fun _ => rfl⟩
      · rw [if_neg h]
        refine ⟨fun z => absurd z (by decide), fun z => absurd ((z 0 (by omega)).elim (fun y => Or.inl (hel.mpr y)) (fun y => Or.inr (by omega))) h⟩
    · show Fr _ _ lo ((0 + 1) * W) (zB f) (zB l) _
      rw [Nat.zero_add, Nat.one_mul]
      refine h0.lang (fun w hw => ?_)
      constructor
      · intro h
        exact ⟨[], w, rfl, rfl, Or.inl ⟨hw, h⟩⟩
      · rintro ⟨a, b, rfl, ha, hb⟩
        have ha : a = [] := ha
        subst ha
        exact (lopt_ne hw).mp hb)
  obtain ⟨⟨aF, aL, aN, g⟩, e1, p1, p2, p3, p4⟩ := key
  simp only at p1 p2 p3 p4
  rw [show n - 1 + 1 = n by omega] at p3 p4
  refine ⟨aF, aL, aN, g, ?_, p3.lang (fun w _ => lco_rep (fun k => Iff.rfl) hmn w), p4⟩
  have e2 : r226 d mm n W f l e f l (if e = 1 ∨ mm = 0 then 1 else 0) (0 + 1) (zwL M1 150 (zL M1 150)) = r226 d mm n W f l e aF aL aN (n - 1 + 1) (zwL M1 150 g) := e1
  rw [zwL_self, show n - 1 + 1 = n by omega, Nat.zero_add] at e2
  exact e2
theorem rp_small {d L w mm n lo W e : Nat} {M : zM} (hd : 1 ≤ d) (hs : zSh L w M) (s3 : zI M 166 0 = nI lo) (ep : zV d n_Mo_placesNow [.ref 146] M = some (some (.int (nI (lo + W))), M)) (x1 : zI M 169 0 = nI e) (he : e < 2) (i39 : zI M 146 39 = nI 0) (hb : lo + n * W ≤ 40) (hb2 : lo + W ≤ 40) : zV (d + 1) n_Mo_repeats [.ref 146, .int (nI mm), .int (nI n)] M = r77 d mm n lo W (zL M 167 0) (zL M 168 0) e W (zsI M 146 39 (nI 0)) := by
  obtain ⟨hN, hK, hC, hMo, -⟩ := hs
  have hWW : lo + W - lo = W := by omega
  rw [ze_Mo_repeats]
  unfold zx_Mo_repeats r77
  simp (disch := omega) only [il, nI_add, nI_mul, nI_sub, nI_div, nI_rem, nI_N, i32_lt, i32_le, nI_toInt, nI_subI, nI_clamp, zinT, zifT, iteT, iteF, zQ, zS, zkc, zI_sI, zL_sL, zI_wI, zL_wL, Nat.reduceEqDiff, Nat.reduceAdd, Nat.reduceMul, Nat.reduceLT, Nat.reduceLeDiff, reduceIte, eq_self, and_self, true_and, and_true, false_and, and_false, true_or, or_true, or_false, false_or, not_true_eq_false, not_false_eq_true, zarr, ne_eq, hK, hMo, s3, ep, hWW, x1, i39, ↓zbm_S, ↓zbi_S]
theorem rp_big {d L w mm n lo W e : Nat} {M : zM} (hd : 1 ≤ d) (hs : zSh L w M) (s3 : zI M 166 0 = nI lo) (ep : zV d n_Mo_placesNow [.ref 146] M = some (some (.int (nI (lo + W))), M)) (x1 : zI M 169 0 = nI e) (he : e < 2) (i39 : zI M 146 39 = nI 0) (hb : ¬ lo + n * W ≤ 40) (hb2 : lo + W ≤ 40) (hb3 : n * W ≤ 9 * W) (hmm : mm < 100) : zV (d + 1) n_Mo_repeats [.ref 146, .int (nI mm), .int (nI n)] M = r366 d mm n (if e = 1 ∨ mm = 0 then 1 else 0) (zsI M 146 39 (nI 1)) := by
  obtain ⟨hN, hK, hC, hMo, -⟩ := hs
  have hWW : lo + W - lo = W := by omega
  rw [ze_Mo_repeats]
  unfold zx_Mo_repeats r366
  have : e = 0 ∨ e = 1 := by omega
  rcases this with rfl | rfl
  · by_cases h2 : mm = 0
    · rw [if_pos (Or.inr h2)]
      simp (disch := omega) only [il, nI_add, nI_mul, nI_sub, nI_div, nI_rem, nI_N, i32_lt, i32_le, nI_toInt, nI_subI, nI_clamp, zinT, zifT, iteT, iteF, zQ, zS, zkc, zI_sI, zL_sL, zI_wI, zL_wL, Nat.reduceEqDiff, Nat.reduceAdd, Nat.reduceMul, Nat.reduceLT, Nat.reduceLeDiff, reduceIte, eq_self, and_self, true_and, and_true, false_and, and_false, true_or, or_true, or_false, false_or, not_true_eq_false, not_false_eq_true, zarr, ne_eq, hK, hMo, s3, ep, hWW, x1, i39, ↓zbm_S, ↓zbi_S]
    · rw [if_neg (show ¬ (0 = 1 ∨ mm = 0) by omega)]
      simp (disch := omega) only [il, nI_add, nI_mul, nI_sub, nI_div, nI_rem, nI_N, i32_lt, i32_le, nI_toInt, nI_subI, nI_clamp, zinT, zifT, iteT, iteF, zQ, zS, zkc, zI_sI, zL_sL, zI_wI, zL_wL, Nat.reduceEqDiff, Nat.reduceAdd, Nat.reduceMul, Nat.reduceLT, Nat.reduceLeDiff, reduceIte, eq_self, and_self, true_and, and_true, false_and, and_false, true_or, or_true, or_false, false_or, not_true_eq_false, not_false_eq_true, zarr, ne_eq, hK, hMo, s3, ep, hWW, x1, i39, ↓zbm_S, ↓zbi_S]
  · rw [if_pos (Or.inl rfl)]
    simp (disch := omega) only [il, nI_add, nI_mul, nI_sub, nI_div, nI_rem, nI_N, i32_lt, i32_le, nI_toInt, nI_subI, nI_clamp, zinT, zifT, iteT, iteF, zQ, zS, zkc, zI_sI, zL_sL, zI_wI, zL_wL, Nat.reduceEqDiff, Nat.reduceAdd, Nat.reduceMul, Nat.reduceLT, Nat.reduceLeDiff, reduceIte, eq_self, and_self, true_and, and_true, false_and, and_false, true_or, or_true, or_false, false_or, not_true_eq_false, not_false_eq_true, zarr, ne_eq, hK, hMo, s3, ep, hWW, x1, i39, ↓zbm_S, ↓zbi_S]
theorem rp_over {d L w mm n p e : Nat} {M : zM} (hd : 1 ≤ d) (hs : zSh L w M) (ep : zV d n_Mo_placesNow [.ref 146] M = some (some (.int (nI p)), M)) (x1 : zI M 169 0 = nI e) (he : e < 2) (i39 : zI M 146 39 = nI 1) (hmm : mm < 100) : zV (d + 1) n_Mo_repeats [.ref 146, .int (nI mm), .int (nI n)] M = r366 d mm n (if e = 1 ∨ mm = 0 then 1 else 0) (zsI M 146 39 (nI 1)) := by
  obtain ⟨hN, hK, hC, hMo, -⟩ := hs
  rw [ze_Mo_repeats]
  unfold zx_Mo_repeats r366
  have : e = 0 ∨ e = 1 := by omega
  rcases this with rfl | rfl
  · by_cases h2 : mm = 0
    · rw [if_pos (Or.inr h2)]
      simp (disch := omega) only [il, nI_add, nI_mul, nI_sub, nI_div, nI_rem, nI_N, i32_lt, i32_le, nI_toInt, nI_subI, nI_clamp, zinT, zifT, iteT, iteF, zQ, zS, zkc, zI_sI, zL_sL, zI_wI, zL_wL, Nat.reduceEqDiff, Nat.reduceAdd, Nat.reduceMul, Nat.reduceLT, Nat.reduceLeDiff, reduceIte, eq_self, and_self, true_and, and_true, false_and, and_false, true_or, or_true, or_false, false_or, not_true_eq_false, not_false_eq_true, zarr, ne_eq, hK, hMo, ep, x1, i39, ↓zbm_S, ↓zbi_S]
    · rw [if_neg (show ¬ (0 = 1 ∨ mm = 0) by omega)]
      simp (disch := omega) only [il, nI_add, nI_mul, nI_sub, nI_div, nI_rem, nI_N, i32_lt, i32_le, nI_toInt, nI_subI, nI_clamp, zinT, zifT, iteT, iteF, zQ, zS, zkc, zI_sI, zL_sL, zI_wI, zL_wL, Nat.reduceEqDiff, Nat.reduceAdd, Nat.reduceMul, Nat.reduceLT, Nat.reduceLeDiff, reduceIte, eq_self, and_self, true_and, and_true, false_and, and_false, true_or, or_true, or_false, false_or, not_true_eq_false, not_false_eq_true, zarr, ne_eq, hK, hMo, ep, x1, i39, ↓zbm_S, ↓zbi_S]
  · rw [if_pos (Or.inl rfl)]
    simp (disch := omega) only [il, nI_add, nI_mul, nI_sub, nI_div, nI_rem, nI_N, i32_lt, i32_le, nI_toInt, nI_subI, nI_clamp, zinT, zifT, iteT, iteF, zQ, zS, zkc, zI_sI, zL_sL, zI_wI, zL_wL, Nat.reduceEqDiff, Nat.reduceAdd, Nat.reduceMul, Nat.reduceLT, Nat.reduceLeDiff, reduceIte, eq_self, and_self, true_and, and_true, false_and, and_false, true_or, or_true, or_false, false_or, not_true_eq_false, not_false_eq_true, zarr, ne_eq, hK, hMo, ep, x1, i39, ↓zbm_S, ↓zbi_S]
theorem rp_mn (k u : Nat) : min (k * min 1000000 u) 1000000 = min 1000000 (k * u) := by
  cases k with
  | zero => rw [Nat.zero_mul, Nat.zero_mul]; omega
  | succ k =>
    by_cases hu : u ≤ 1000000
    · rw [show min 1000000 u = u by omega, Nat.min_comm]
    · rw [show min 1000000 u = 1000000 by omega]
      have g1 := Nat.le_mul_of_pos_left 1000000 (show 0 < k + 1 by omega)
      have g2 := Nat.le_mul_of_pos_left u (show 0 < k + 1 by omega)
      omega
theorem rp_bnd {k : Nat} (u : Nat) (hk : k ≤ 9) : k * min 1000000 u ≤ 9000000 := Nat.le_trans (Nat.mul_le_mul hk (Nat.min_le_left 1000000 u)) (by omega)
theorem m_repeats {d L w sd mm n : Nat} {M : zM} {m : IP} {x : Pc} (hd : 2 ≤ d) (hs : zSh L w M) (hsd : sd < 8) (h : Qst sd (m ++ [(0, x)]) M) (hm : ∀ z, z ∈ m → z.1 ≠ 0) (hn1 : 1 ≤ n) (hn : n ≤ 9) (hmn : mm ≤ n) : ∃ M', zV d n_Mo_repeats [.ref 146, .int (nI mm), .int (nI n)] M = some (none, M') ∧ fPc sd M M' ∧ zI M' 173 = zI M 173 ∧ Qst sd (m ++ [(0, rpP mm n x)]) M' := by
  obtain ⟨d, rfl, hd1⟩ := zdep hd
  have hs0 := hs
  obtain ⟨hN, hK, hC, hMo, -⟩ := hs
  obtain ⟨h38, hnum, p, c, hp, hc, i0, i1, i39, hok⟩ := h
  obtain ⟨wx, x1, x2, x3, x4⟩ := hnum (0, x) (by simp)
  have wx : wfp x := wx
  simp only at x1 x2 x3 x4
  have hnm : ∀ y, y ∈ m → wfp y.2 ∧ qN M y.1 y.2 := fun y hy => hnum y (List.mem_append_left _ hy)
  have tt0 : tt (m ++ [(0, x)]) = tt m + pN x := tt_1 m 0 x
  have tt1 : tt (m ++ [(0, rpP mm n x)]) = tt m + n * pN x := tt_1 m 0 (rpP mm n x)
  have cc1 : cc (m ++ [(0, rpP mm n x)]) = cc (m ++ [(0, x)]) := by rw [cc_1, cc_1]; rfl
  have ep := m_placesNow (d := d) hd1 hs0 h38 hsd
  rw [i0] at ep
  have hnW : pN x ≤ n * pN x := Nat.le_mul_of_pos_left (pN x) hn1
  have he2 : (if pF x = 0 then 1 else 0) < 2 := ite2
  -- behind the copies: the numbers
  have fin : ∀ M2 : zM, fPc sd M M2 → zI M2 173 = zI M 173 → (∀ b, 169 ≤ b → b ≤ 172 → zI M2 b = zI M b) → zV (d + 1) n_Mo_repeats [.ref 146, .int (nI mm), .int (nI n)] M = r366 d mm n (if (if pF x = 0 then 1 else 0) = 1 ∨ mm = 0 then 1 else 0) M2 → (∃ p c, p ≤ 40 ∧ c ≤ 40 ∧ zI M2 148 (45 * sd) = nI p ∧ zI M2 148 (45 * sd + 1) = nI c ∧ zI M2 146 39 = nI (if tt m + n * pN x ≤ 40 then 0 else 1) ∧ (tt m + n * pN x ≤ 40 → Qok sd (m ++ [(0, rpP mm n x)]) M2 p c)) → ∃ M', zV (d + 1) n_Mo_repeats [.ref 146, .int (nI mm), .int (nI n)] M = some (none, M') ∧ fPc sd M M' ∧ zI M' 173 = zI M 173 ∧ Qst sd (m ++ [(0, rpP mm n x)]) M' := by
    intro M2 f2 f173 fnum ev ⟨p', c', y1, y2, y3, y4, y5, y6⟩
    have e2 := m_r366 (d := d) (mm := mm) (n := n) (e := if (if pF x = 0 then 1 else 0) = 1 ∨ mm = 0 then 1 else 0) (u1 := min 1000000 (pN x)) (u2 := min 1000000 (pF x)) (u3 := min 1000000 (pM x)) (M := M2) hd1 (zSh_fr hs0 f2.1 f2.2.1 f2.2.2.1) ite2 (rp_bnd _ hn) (rp_bnd _ (by omega)) (rp_bnd _ hn) (by rw [fnum 170 (by omega) (by omega)]; exact x2) (by rw [fnum 171 (by omega) (by omega)]; exact x3) (by rw [fnum 172 (by omega) (by omega)]; exact x4)
    rw [rp_mn, rp_mn, rp_mn] at e2
    generalize hM' : zsI (zsI (zsI (zsI M2 169 0 (nI (if (if pF x = 0 then 1 else 0) = 1 ∨ mm = 0 then 1 else 0))) 170 0 (nI (min 1000000 (n * pN x)))) 171 0 (nI (min 1000000 (mm * pF x)))) 172 0 (nI (min 1000000 (n * pM x))) = M' at e2
    have Io : ∀ b, b ≠ 169 → b ≠ 170 → b ≠ 171 → b ≠ 172 → zI M' b = zI M2 b := fun b h1 h2 h3 h4 => by rw [← hM', zI_ne h4, zI_ne h3, zI_ne h2, zI_ne h1]
    have Ij : ∀ b j, j ≠ 0 → zI M' b j = zI M2 b j := fun b j hj => by
      rw [← hM']
      simp (disch := omega) only [zI_sI, iteF]
    have Lo : zL M' = zL M2 := by rw [← hM']; rfl
    refine ⟨M', ev.trans e2, f2.trans ⟨by rw [← hM']; rfl, by rw [← hM']; rfl, by rw [← hM']; rfl, fun b h1 h2 h3 h4 h5 h6 h7 h8 => Io b h4 h5 h6 h7, fun j _ => by rw [Io 146 (by omega) (by omega) (by omega) (by omega)], fun j _ => by rw [Io 148 (by omega) (by omega) (by omega) (by omega)], fun b _ _ _ => by rw [Lo], fun j _ => by rw [Lo]⟩, by rw [Io 173 (by omega) (by omega) (by omega) (by omega)]; exact f173, ?_⟩
    refine ⟨?_, q_nums (sd := sd) hnm (fun y hy b h1 h2 => by rw [Ij b y.1 (hm y hy), fnum b h1 h2]) (wf_rp wx hn1 hmn) ?_, p', c', y1, y2, ?_, ?_, ?_, fun ht => ?_⟩
    · rw [Io 146 (by omega) (by omega) (by omega) (by omega), f2.2.2.2.2.1 38 (by omega)]; exact h38
    · refine ⟨?_, ?_, ?_, ?_⟩
      · show zI M' 169 0 = nI (if mm * pF x = 0 then 1 else 0)
        rw [← hM']
        simp (disch := omega) only [zL_sL, zI_sI, zS, iteF, iteT, eq_self, and_self, true_and, and_true, false_and, and_false, if_true, if_false, reduceIte, Nat.reduceEqDiff]
        congr 1
        by_cases h1 : pF x = 0
        · rw [if_pos h1, if_pos (Or.inl rfl), if_pos (by rw [h1, Nat.mul_zero])]
        · by_cases h2 : mm = 0
          · rw [if_pos (Or.inr h2), if_pos (by rw [h2, Nat.zero_mul])]
          · rw [if_neg h1, if_neg (by omega), if_neg (fun z => by rcases Nat.mul_eq_zero.mp z with z | z <;> omega)]
      · show zI M' 170 0 = nI (min 1000000 (n * pN x))
        rw [← hM']
        simp (disch := omega) only [zL_sL, zI_sI, zS, iteF, iteT, eq_self, and_self, true_and, and_true, false_and, and_false, if_true, if_false, reduceIte, Nat.reduceEqDiff]
      · show zI M' 171 0 = nI (min 1000000 (mm * pF x))
        rw [← hM']
        simp (disch := omega) only [zL_sL, zI_sI, zS, iteF, iteT, eq_self, and_self, true_and, and_true, false_and, and_false, if_true, if_false, reduceIte, Nat.reduceEqDiff]
      · show zI M' 172 0 = nI (min 1000000 (n * pM x))
        rw [← hM']
        simp (disch := omega) only [zL_sL, zI_sI, zS, iteF, iteT, eq_self, and_self, true_and, and_true, false_and, and_false, if_true, if_false, reduceIte, Nat.reduceEqDiff]
    · rw [Io 148 (by omega) (by omega) (by omega) (by omega)]; exact y3
    · rw [Io 148 (by omega) (by omega) (by omega) (by omega)]; exact y4
    · rw [Io 146 (by omega) (by omega) (by omega) (by omega), tt1]; exact y5
    · rw [tt1] at ht
      have := y6 ht
      unfold Qok qS qF qT qC qTb at this ⊢
      rw [Io 148 (by omega) (by omega) (by omega) (by omega), Io 166 (by omega) (by omega) (by omega) (by omega), Lo]
      exact this
  have f39 : ∀ v, fPc sd M (zsI M 146 39 v) := fun v => ⟨rfl, rfl, rfl, fun b h1 _ _ _ _ _ _ _ => zI_ne h1, fun j hj => by rw [zI_sI, if_neg (fun z => hj z.2)], fun _ _ => rfl, fun _ _ _ _ => rfl, fun _ _ => rfl⟩
  have z39 : ∀ v, zI (zsI M 146 39 v) 146 39 = v := fun v => by rw [zI_sI, if_pos ⟨rfl, rfl⟩]
  by_cases hov : tt m + pN x ≤ 40
  · rw [tt0] at hok i39
    rw [if_pos hov] at i39
    obtain ⟨k1, k2, k3, k4, k5, k6⟩ := hok hov
    rw [tt0] at k1
    subst k1
    obtain ⟨s1, s2, s3, -⟩ := Stk_app.mp k6
    rw [Nat.zero_add] at s2 s3
    have s2 : Fr (qF M sd) (qT M sd) (tt m) (pN x) (zB (zL M 167 0)) (zB (zL M 168 0)) (pL x) := s2
    have s3 : zI M 166 0 = nI (tt m) := s3
    have hWW : tt m + pN x - tt m = pN x := by omega
    have hW := wx.2.2.2.1
    have e9 : n * pN x ≤ 9 * pN x := Nat.mul_le_mul_right _ hn
    by_cases hbig : tt m + n * pN x ≤ 40
    · have ev0 := rp_small (d := d) (mm := mm) (n := n) hd1 hs0 s3 ep x1 he2 i39 hbig hov
      obtain ⟨M1, e1, g1, g2, g3, g4, g5, g6, g7⟩ := m_r77 (d := d) (sd := sd) (mm := mm) (n := n) (lo := tt m) (W := pN x) (e := if pF x = 0 then 1 else 0) (f := zL M 167 0) (l := zL M 168 0) (M := zsI M 146 39 (nI 0)) hs0 h38 hsd hW hn1 hbig
      have hs1 := zSh_fr (M := zsI M 146 39 (nI 0)) (M' := M1) hs0 g1 g2 g3
      have h381 : zI M1 146 38 = nI sd := by rw [g4 146 (by omega)]; exact h38
      have e2 := m_r77_end (d := d) (sd := sd) (mm := mm) (n := n) (lo := tt m) (W := pN x) (e := if pF x = 0 then 1 else 0) (f := zL M 167 0) (l := zL M 168 0) (M := M1) hs1 h381 hsd he2 hbig (by omega)
      have g6' : ∀ j, j ≠ 45 * sd → zI (zsI M1 148 (45 * sd) (nI (tt m + n * pN x))) 148 j = if 45 * sd + 5 + tt m + pN x ≤ j ∧ j < 45 * sd + 5 + tt m + n * pN x then zI M 148 (45 * sd + 5 + tt m + (j - (45 * sd + 5 + tt m)) % pN x) else zI M 148 j := fun j hj => by rw [zI_sI, if_neg (fun z => hj z.2)]; exact g6 j
      have hcop := q_copies (sd := sd) (lo := tt m) (W := pN x) (n := n) (M := M) (M1 := zsI M1 148 (45 * sd) (nI (tt m + n * pN x))) (x := x) hW hbig s2 g6' g7
      obtain ⟨aF, aL, aN, g, e3, hfr, hg⟩ := m_r226_go (d := d) (L := L) (w := w) (sd := sd) (lo := tt m) (W := pN x) (n := n) (mm := mm) (e := if pF x = 0 then 1 else 0) (f := zL M 167 0) (l := zL M 168 0) (M1 := zsI M1 148 (45 * sd) (nI (tt m + n * pN x))) (x := x) hd1 hs1 h381 hsd hW hn1 hn hmn hbig he2 (by
        rw [wx.1]
        by_cases h1 : pF x = 0
        · rw [if_pos h1]; exact ⟨fun _ => h1, fun _ => rfl⟩
        · rw [if_neg h1]; exact ⟨fun z => absurd z (by decide), fun z => absurd z h1⟩) hcop
      have e4 := m_r226_end (d := d) (mm := mm) (n := n) (W := pN x) (e := if pF x = 0 then 1 else 0) (aN := aN) (f := zL M 167 0) (l := zL M 168 0) (aF := aF) (aL := aL) (M := zwL (zsI M1 148 (45 * sd) (nI (tt m + n * pN x))) 150 g) (L := L) (w := w) hs1 he2 hn (by omega)
      have ev := (((ev0.trans e1).trans e2).trans e3).trans e4
      generalize hM2 : zsL (zsL (zwL (zsI M1 148 (45 * sd) (nI (tt m + n * pN x))) 150 g) 167 0 aF) 168 0 aL = M2 at ev
      have I2 : zI M2 = zI (zsI M1 148 (45 * sd) (nI (tt m + n * pN x))) := by rw [← hM2]; rfl
      have I2o : ∀ b, b ≠ 148 → zI M2 b = zI (zsI M 146 39 (nI 0)) b := fun b hb => by rw [I2, zI_ne hb]; exact g4 b hb
      have L2 : ∀ b, b ≠ 150 → b ≠ 167 → b ≠ 168 → zL M2 b = zL M b := fun b h1 h2 h3 => by
        rw [← hM2, zL_ne h3, zL_ne h2, zLw_ne h1]
        exact g5 b h1
      have L2j : ∀ b j, b ≠ 150 → j ≠ 0 → zL M2 b j = zL M b j := fun b j h1 h2 => by
        rw [← hM2, zL_sL, if_neg (fun z => h2 z.2), zL_sL, if_neg (fun z => h2 z.2), zLw_ne h1]
        exact congrFun (g5 b h1) j
      have L150 : zL M2 150 = g := by
        rw [← hM2, zL_ne (by omega), zL_ne (by omega), zLw_eq]
      have L67 : zL M2 167 0 = aF ∧ zL M2 168 0 = aL := by
        rw [← hM2]
        exact ⟨by rw [zL_ne (by omega), zL_sL, if_pos ⟨rfl, rfl⟩], by rw [zL_sL, if_pos ⟨rfl, rfl⟩]⟩
      have G0 : ∀ j, (j < 203 * sd + 3 + tt m + pN x ∧ j < 203 * sd + 3 + tt m ∨ 203 * sd + 3 + tt m + n * pN x ≤ j) → g j = zL M 150 j := fun j hj => by
        rw [hg j (by omega)]
        show zL M1 150 j = _
        rw [g7, if_neg (by omega)]
        rfl
      have hTb : qTb M2 sd = qTb (zsI M1 148 (45 * sd) (nI (tt m + n * pN x))) sd := by
        funext k
        unfold qTb
        rw [L150, hg _ (by omega)]
      have hTb0 : qTb M2 sd = qTb M sd := by
        funext k
        unfold qTb
        rw [L150, G0 _ (by omega)]
      have hqT : qT M2 sd = qT (zsI M1 148 (45 * sd) (nI (tt m + n * pN x))) sd := by
        unfold qT qC
        rw [hTb, I2]
      refine fin M2 ?_ ?_ ?_ ev ⟨tt m + n * pN x, c, hbig, hc, ?_, ?_, ?_, fun _ => ⟨tt1.symm, by rw [cc1]; exact k2, ?_, ?_, ?_, ?_⟩⟩
      · refine ⟨by rw [← hM2]; exact g1, by rw [← hM2]; exact g2, by rw [← hM2]; exact g3, fun b h1 h2 h3 h4 h5 h6 h7 h8 => by rw [I2o b h2, zI_ne h1], fun j hj => by rw [I2o 146 (by omega), zI_sI, if_neg (fun z => hj z.2)], fun j hj => ?_, fun b h1 h2 h3 => L2 b h1 h2 h3, fun j hj => by rw [L150]; exact G0 j (by omega)⟩
        rw [I2, g6' j (by omega), if_neg (by omega)]
      · rw [I2o 173 (by omega), zI_ne (by omega)]
      · intro b h1 h2
        rw [I2o b (by omega), zI_ne (by omega)]
      · rw [I2, zI_sI, if_pos ⟨rfl, rfl⟩]
      · rw [I2, g6' _ (by omega), if_neg (by omega)]; exact i1
      · rw [I2o 146 (by omega), z39, if_pos hbig]
      · intro e t he q hq
        rw [cc1] at he
        rw [hTb0]
        exact k3 e t he q hq
      · intro r hr
        rw [I2, g6' _ (by omega)]
        by_cases h1 : 45 * sd + 5 + tt m + pN x ≤ 45 * sd + 5 + r ∧ 45 * sd + 5 + r < 45 * sd + 5 + tt m + n * pN x
        · rw [if_pos h1]
          have hmod := Nat.mod_lt (45 * sd + 5 + r - (45 * sd + 5 + tt m)) hW
          obtain ⟨e, he, hz⟩ := k4 (tt m + (45 * sd + 5 + r - (45 * sd + 5 + tt m)) % pN x) (by omega)
          exact ⟨e, he, by rw [← hz, Nat.add_assoc (45 * sd + 5) (tt m)]⟩
        · rw [if_neg h1]
          exact k4 r (by omega)
      · intro r h1 h2
        rw [L150, G0 _ (by omega)]
        exact k5 r (by omega) h2
      · refine Stk_app.mpr ⟨Stk_congr s1 (fun q r h1 h2 => ?_) (fun q v h1 h2 => ?_) (fun y hy => ?_), ?_, ?_, trivial⟩
        · unfold qF
          rw [L150, G0 _ (by omega)]
        · unfold qT qC
          rw [hTb0, I2, g6' _ (by omega), if_neg (by omega)]
        · have := hm y hy
          exact ⟨L2j 167 _ (by omega) this, L2j 168 _ (by omega) this, by rw [I2o 166 (by omega), zI_ne (by omega)]⟩
        · show Fr (qF M2 sd) (qT M2 sd) (0 + tt m) (n * pN x) (zB (zL M2 167 0)) (zB (zL M2 168 0)) (lrep (pL x) mm n)
          rw [L67.1, L67.2, Nat.zero_add, hqT]
          refine hfr.congr (fun q r _ _ => ?_) (fun _ _ _ _ => Iff.rfl) (fun _ => Iff.rfl) (fun _ => Iff.rfl)
          unfold qF
          rw [L150]
        · show zI M2 166 0 = nI (0 + tt m)
          rw [I2o 166 (by omega), zI_ne (by omega), Nat.zero_add]
          exact s3
    · refine fin (zsI M 146 39 (nI 1)) (f39 _) rfl (fun b h1 h2 => zI_ne (by omega)) ?_ ⟨tt m + pN x, c, hp, hc, i0, i1, by rw [z39, if_neg hbig], fun z => absurd z hbig⟩
      exact rp_big hd1 hs0 s3 ep x1 he2 i39 hbig hov e9 (by omega)
  · rw [tt0, if_neg hov] at i39
    refine fin (zsI M 146 39 (nI 1)) (f39 _) rfl (fun b h1 h2 => zI_ne (by omega)) ?_ ⟨p, c, hp, hc, i0, i1, by rw [z39, if_neg (by omega)], fun z => absurd z (by omega)⟩
    exact rp_over hd1 hs0 ep x1 he2 i39 (by omega)
