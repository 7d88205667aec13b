/-! duties, duty -/
/-- the duties of the try i, by t ticks -/
noncomputable def nDut (A : Sq) (tr : Nat → Nat) (t i : Nat) : Nat := cnt (fun u => cB (i ≤ u ∧ A.acc (seg tr i (u + 1)))) t
theorem cnt_zero {f : Nat → Bool} : ∀ {n : Nat}, (∀ k, k < n → f k = false) → cnt f n = 0
  | 0, _ => rfl
  | n + 1, h => by
    unfold cnt
    rw [cnt_zero (n := n) (fun k hk => h k (by omega)), h n (by omega)]
    rfl
theorem nDut_class {A : Sq} {tr : Nat → Nat} {t i : Nat} {X : Int64} (ht : t ≤ 48) (hX : ∀ u, u < 64 → (zb X u = true ↔ i ≤ u ∧ u < t ∧ A.acc (seg tr i (u + 1)))) : cnt (zb X) 64 = nDut A tr t i := by
  rw [show (64 : Nat) = t + (64 - t) by omega, cnt_add]
  have e1 : cnt (zb X) t = nDut A tr t i := by
    apply cnt_congr
    intro k hk
    apply Bool.eq_iff_iff.mpr
    rw [cB_iff, hX k (by omega)]
    exact ⟨fun q => ⟨q.1, q.2.2⟩, fun q => ⟨q.1, hk, q.2⟩⟩
  have e2 : cnt (fun k => zb X (t + k)) (64 - t) = 0 := by
    apply cnt_zero
    intro k hk
    rw [← Bool.not_eq_true, hX (t + k) (by omega)]
    intro q; omega
  rw [e1, e2, Nat.add_zero]
theorem m_dutiesFrom {A B : Sq} {d L w t ki i : Nat} {tr : Nat → Nat} {wk : List Nat → Int64} {M : zM} (hd : 2 ≤ d) (hs : zSh L w M) (ht : t ≤ 48) (ht0 : zI M 155 0 = nI t) (hi : i < t) (hT : TD A B ki tr i t wk M) : zV d n_Mo_dutiesFrom [.ref 146, .int (nI i)] M = some (some (.int (nI (nDut A tr t i))), M) := by
  obtain ⟨d, rfl, hd1⟩ := zdep hd
  obtain ⟨hN, hK, hC, hMo, -⟩ := hs
  rw [ze_Mo_dutiesFrom]
  unfold zx_Mo_dutiesFrom
  have key := zloop (n := t - i) (g := fun k => zG d n_Mo_dutiesFrom 4 [some (.ref 146), none, some (.int (nI (cnt (fun k => cB (A.acc (seg tr i (i + k + 1)))) k))), some (.int (nI (i + k)))] [] M) (by
    intro k hk
    show zG d n_Mo_dutiesFrom 4 [some (.ref 146), none, some (.int (nI (cnt (fun k => cB (A.acc (seg tr i (i + k + 1)))) k))), some (.int (nI (i + k)))] [] M = zG d n_Mo_dutiesFrom 4 [some (.ref 146), none, some (.int (nI (cnt (fun k => cB (A.acc (seg tr i (i + k + 1)))) k + (cB (A.acc (seg tr i (i + k + 1)))).toNat))), some (.int (nI (i + k + 1)))] [] M
    rw [zg_Mo_dutiesFrom_4]
    unfold zx_Mo_dutiesFrom_4
    obtain ⟨m1, m2⟩ := hT (i + k) (by omega) (by omega)
    by_cases ha : A.acc (seg tr i (i + k + 1))
    · have m3 := (m1 ha).1
      rw [cB_t ha]
      clear hT m1 m2
      simp (disch := omega) only [il, nI_add, nI_mul, nI_sub, nI_div, nI_rem, nI_N, i32_lt, i32_le, nI_toInt, nI_subI, nI_clamp, zinT, zifT, iteT, iteF, zQ, zS, zkc, zI_sI, zL_sL, zI_wI, zL_wL, Nat.reduceEqDiff, Nat.reduceAdd, Nat.reduceMul, Nat.reduceLT, Nat.reduceLeDiff, reduceIte, eq_self, and_self, true_and, and_true, false_and, and_false, true_or, or_true, or_false, false_or, not_true_eq_false, not_false_eq_true, zarr, ne_eq, hK, hMo, ht0, m3, mo_flag hd1, Bool.toNat_true]
    · have m3 := m2 ha
      rw [cB_f ha]
      clear hT m1 m2
      simp (disch := omega) only [il, nI_add, nI_mul, nI_sub, nI_div, nI_rem, nI_N, i32_lt, i32_le, nI_toInt, nI_subI, nI_clamp, zinT, zifT, iteT, iteF, zQ, zS, zkc, zI_sI, zL_sL, zI_wI, zL_wL, Nat.reduceEqDiff, Nat.reduceAdd, Nat.reduceMul, Nat.reduceLT, Nat.reduceLeDiff, reduceIte, eq_self, and_self, true_and, and_true, false_and, and_false, true_or, or_true, or_false, false_or, not_true_eq_false, not_false_eq_true, zarr, ne_eq, hK, hMo, ht0, m3, mo_flag hd1, Bool.toNat_false])
  simp only [Nat.add_zero] at key
  refine Eq.trans key ?_
  rw [zg_Mo_dutiesFrom_4]
  unfold zx_Mo_dutiesFrom_4
  have e : cnt (fun k => cB (A.acc (seg tr i (i + k + 1)))) (t - i) = nDut A tr t i := by
    unfold nDut
    rw [show t = i + (t - i) by omega, cnt_add, cnt_zero (n := i) (fun k hk => cB_f (fun q => by omega)), Nat.zero_add, show i + (t - i) - i = t - i by omega]
    apply cnt_congr
    intro k hk
    apply Bool.eq_iff_iff.mpr
    rw [cB_iff, cB_iff]
    exact ⟨fun q => ⟨by omega, q⟩, fun q => q.2⟩
  rw [e]
  clear hT key
  rw [show i + (t - i) = t by omega]
  simp (disch := omega) only [il, nI_add, nI_mul, nI_sub, nI_div, nI_rem, nI_N, i32_lt, i32_le, nI_toInt, nI_subI, nI_clamp, zinT, zifT, iteT, iteF, zQ, zS, zkc, zI_sI, zL_sL, zI_wI, zL_wL, Nat.reduceEqDiff, Nat.reduceAdd, Nat.reduceMul, Nat.reduceLT, Nat.reduceLeDiff, reduceIte, eq_self, and_self, true_and, and_true, false_and, and_false, true_or, or_true, or_false, false_or, not_true_eq_false, not_false_eq_true, zarr, ne_eq, hK, hMo, ht0]
theorem st_duties {d L : Nat} {M : zM} (hd : 7 ≤ d) (hi : Inv L M) (x y : Int32) : Cal d n_PT_duties n_Mo_duties L [.int x, .int y] M := by
  obtain ⟨D, w, n, t, P, tr, h⟩ := IV_of hi
  have hP := h.2.2.2.2.2.2.2.1
  have ht := h.2.2.2.2.1.1
  obtain ⟨d, rfl, hd1⟩ := zdep hd
  unfold Cal
  rw [ze_PT_duties]
  simp only [ze_Mo_duties]
  unfold zx_PT_duties zx_Mo_duties
  rcases try_cases x y hP ht with ⟨p, i, hp, hit, rfl, rfl⟩ | hx
  · have e1 := q_isTry_t (d := d) (by omega) h hp hit
    obtain ⟨M1, e2, h1, hW⟩ := pt_watchOf (d := d) (by omega) h hp
    obtain ⟨M2, wk, e3, h2, hT, v3, v4⟩ := m_isTry_t (d := d) (by omega) h1 hp hit
    have hK : zK M 2 = (10, 12) := by rw [h.1.2.1]; rfl
    have hK1 : zK M1 146 = (11, 52) := by rw [h1.1.2.1]; rfl
    have hK2 : zK M2 146 = (11, 52) := by rw [h2.1.2.1]; rfl
    have hwt := zWat_of h1.1 (show p < 4 by omega)
    have w0 := hwt.1
    have w4 := hwt.2.2.2.2.1
    have r3 := hwt.2.2.2.2.2.2.2.2.2.2.1
    have e4 := nDut_class ht (fun u hu => hW.2.2.1 i u hit hu)
    have e5 := jl_bitCount (d := d) (by omega) (zL M1 (46 + 27 * p + 4) i) M1
    rw [e4] at e5
    have e6 := m_dutiesFrom (d := d) (by omega) h2.1 ht h2.2.2.2.2.1.2.2.1 hit hT
    refine ⟨nI (nDut (D p).1 tr t i), M1, M2, ?_, ?_, h2.inv⟩
    · clear hT v3 v4 hW
      simp (disch := omega) only [il, nI_add, nI_mul, nI_sub, nI_div, nI_rem, nI_N, i32_lt, i32_le, nI_toInt, nI_subI, nI_clamp, zinT, zifT, iteT, iteF, zQ, zS, zkc, zI_sI, zL_sL, zI_wI, zL_wL, Nat.reduceEqDiff, Nat.reduceAdd, Nat.reduceMul, Nat.reduceLT, Nat.reduceLeDiff, reduceIte, eq_self, and_self, true_and, and_true, false_and, and_false, true_or, or_true, or_false, false_or, not_true_eq_false, not_false_eq_true, zarr, ne_eq, hK, e1, e2, w0, w4, r3, e5]
    · clear hT v3 v4 hW
      simp (disch := omega) only [il, nI_add, nI_mul, nI_sub, nI_div, nI_rem, nI_N, i32_lt, i32_le, nI_toInt, nI_subI, nI_clamp, zinT, zifT, iteT, iteF, zQ, zS, zkc, zI_sI, zL_sL, zI_wI, zL_wL, Nat.reduceEqDiff, Nat.reduceAdd, Nat.reduceMul, Nat.reduceLT, Nat.reduceLeDiff, reduceIte, eq_self, and_self, true_and, and_true, false_and, and_false, true_or, or_true, or_false, false_or, not_true_eq_false, not_false_eq_true, zarr, ne_eq, hK1, hK2, e3, e6]
  · have e1 := q_isTry_f (d := d) (by omega) h hx
    have e2 := m_isTry_f (d := d) (by omega) h hx
    have hK := h.1.2.1
    refine ⟨-1, M, M, ?_, ?_, hi⟩
    · clear hx
      simp (disch := omega) only [il, nI_add, nI_mul, nI_sub, nI_div, nI_rem, nI_N, i32_lt, i32_le, nI_toInt, nI_subI, nI_clamp, zinT, zifT, iteT, iteF, zQ, zS, zkc, zI_sI, zL_sL, zI_wI, zL_wL, Nat.reduceEqDiff, Nat.reduceAdd, Nat.reduceMul, Nat.reduceLT, Nat.reduceLeDiff, reduceIte, eq_self, and_self, true_and, and_true, false_and, and_false, true_or, or_true, or_false, false_or, not_true_eq_false, not_false_eq_true, zarr, ne_eq, hK, e1]
    · clear hx
      simp (disch := omega) only [il, nI_add, nI_mul, nI_sub, nI_div, nI_rem, nI_N, i32_lt, i32_le, nI_toInt, nI_subI, nI_clamp, zinT, zifT, iteT, iteF, zQ, zS, zkc, zI_sI, zL_sL, zI_wI, zL_wL, Nat.reduceEqDiff, Nat.reduceAdd, Nat.reduceMul, Nat.reduceLT, Nat.reduceLeDiff, reduceIte, eq_self, and_self, true_and, and_true, false_and, and_false, true_or, or_true, or_false, false_or, not_true_eq_false, not_false_eq_true, zarr, ne_eq, hK, e2]
/-- the l-th of those from u on -/
def ith (f : Nat → Bool) : Nat → Nat → Nat → Option Nat
  | 0, _, _ => none
  | k + 1, u, l => if f u = true then (if l = 0 then some u else ith f k (u + 1) (l - 1)) else ith f k (u + 1) l
theorem ith_some {f : Nat → Bool} : ∀ {k u l q : Nat}, ith f k u l = some q → u ≤ q ∧ q < u + k ∧ f q = true
  | 0, _, _, _, h => by unfold ith at h; exact absurd h (by simp)
  | k + 1, u, l, q, h => by
    unfold ith at h
    by_cases hf : f u = true
    · rw [if_pos hf] at h
      by_cases hl : l = 0
      · rw [if_pos hl] at h
        have : u = q := Option.some.inj h
        subst this
        exact ⟨Nat.le_refl _, by omega, hf⟩
      · rw [if_neg hl] at h
        obtain ⟨a, b, c⟩ := ith_some h
        exact ⟨by omega, by omega, c⟩
    · rw [if_neg hf] at h
      obtain ⟨a, b, c⟩ := ith_some h
      exact ⟨by omega, by omega, c⟩
def oI (y : Int32) (g : Nat → Int32) : Option Nat → Int32
  | none => y
  | some q => g q
theorem wa_dutyTick_go {d a i t l0 : Nat} {M : zM} {f : Nat → Bool} (hw : zWat M a) (h8 : zI M a 8 = nI t) (ht : t ≤ 48) (hi : i < 48) (hl0 : l0 < 2 ^ 31) (hf : ∀ u, u < t → zb (zL M (a + 4) i) u = f u) : ∀ k u b, u + k = t → b ≤ l0 → zG d n_Wa_dutyTick 5 [some (.ref a), some (.int (nI i)), some (.int (nI l0)), some (.int (nI b)), some (.int (nI u))] [] M = some (some (.int (oI (-nI 1) nI (ith f k u (l0 - b)))), M) := by
  obtain ⟨w0, w1, w2, w3, w4, w5, w6, r0, r1, r2, r3, r4, r5⟩ := hw
  intro k
  induction k with
  | zero =>
    intro u b hu hb
    rw [zg_Wa_dutyTick_5]
    unfold zx_Wa_dutyTick_5 ith oI
    simp (disch := omega) only [il, nI_add, nI_mul, nI_sub, nI_div, nI_rem, nI_N, i32_lt, i32_le, nI_toInt, nI_subI, nI_clamp, zinT, zifT, iteT, iteF, zQ, zS, zkc, zI_sI, zL_sL, zI_wI, zL_wL, Nat.reduceEqDiff, Nat.reduceAdd, Nat.reduceMul, Nat.reduceLT, Nat.reduceLeDiff, reduceIte, eq_self, and_self, true_and, and_true, false_and, and_false, true_or, or_true, or_false, false_or, not_true_eq_false, not_false_eq_true, zarr, ne_eq, w0, h8]
  | succ k ih =>
    intro u b hu hb
    rw [zg_Wa_dutyTick_5]
    unfold zx_Wa_dutyTick_5 ith
    have hz := hf u (by omega)
    cases hb2 : f u
    · rw [hb2] at hz
      have ih2 := ih (u + 1) b (by omega) hb
      rw [if_neg (show ¬ (false = true) by decide), ← ih2]
      clear ih hf ih2
      simp (disch := omega) only [il, nI_add, nI_mul, nI_sub, nI_div, nI_rem, nI_N, i32_lt, i32_le, nI_toInt, nI_subI, nI_clamp, zinT, zifT, iteT, iteF, zQ, zS, zkc, zI_sI, zL_sL, zI_wI, zL_wL, Nat.reduceEqDiff, Nat.reduceAdd, Nat.reduceMul, Nat.reduceLT, Nat.reduceLeDiff, reduceIte, eq_self, and_self, true_and, and_true, false_and, and_false, true_or, or_true, or_false, false_or, not_true_eq_false, not_false_eq_true, zarr, ne_eq, w0, w4, r3, h8, t_u, hz]
    · rw [hb2] at hz
      rw [if_pos (show true = true from rfl)]
      by_cases hl : l0 - b = 0
      · rw [if_pos hl]
        have : b = l0 := by omega
        subst this
        unfold oI
        clear ih hf
        simp (disch := omega) only [il, nI_add, nI_mul, nI_sub, nI_div, nI_rem, nI_N, i32_lt, i32_le, nI_toInt, nI_subI, nI_clamp, zinT, zifT, iteT, iteF, zQ, zS, zkc, zI_sI, zL_sL, zI_wI, zL_wL, Nat.reduceEqDiff, Nat.reduceAdd, Nat.reduceMul, Nat.reduceLT, Nat.reduceLeDiff, reduceIte, eq_self, and_self, true_and, and_true, false_and, and_false, true_or, or_true, or_false, false_or, not_true_eq_false, not_false_eq_true, zarr, ne_eq, w0, w4, r3, h8, t_u, hz, reduceCtorEq]
      · have ih2 := ih (u + 1) (b + 1) (by omega) (by omega)
        rw [if_neg hl, show l0 - b - 1 = l0 - (b + 1) by omega, ← ih2]
        have hne : ¬ nI b = nI l0 := by rw [nI_eq (by omega) hl0]; omega
        clear ih hf ih2
        simp (disch := omega) only [il, nI_add, nI_mul, nI_sub, nI_div, nI_rem, nI_N, i32_lt, i32_le, nI_toInt, nI_subI, nI_clamp, zinT, zifT, iteT, iteF, zQ, zS, zkc, zI_sI, zL_sL, zI_wI, zL_wL, Nat.reduceEqDiff, Nat.reduceAdd, Nat.reduceMul, Nat.reduceLT, Nat.reduceLeDiff, reduceIte, eq_self, and_self, true_and, and_true, false_and, and_false, true_or, or_true, or_false, false_or, not_true_eq_false, not_false_eq_true, zarr, ne_eq, w0, w4, r3, h8, t_u, hz, hne, reduceCtorEq]
theorem wa_dutyTick {d a i t l0 : Nat} {M : zM} {f : Nat → Bool} (hd : 1 ≤ d) (hw : zWat M a) (h8 : zI M a 8 = nI t) (ht : t ≤ 48) (hi : i < t) (hl0 : l0 < 2 ^ 31) (hf : ∀ u, u < t → zb (zL M (a + 4) i) u = f u) : zV d n_Wa_dutyTick [.ref a, .int (nI i), .int (nI l0)] M = some (some (.int (oI (-nI 1) nI (ith f (t - i) i l0))), M) := by
  obtain ⟨d, rfl, hd1⟩ := zdep hd
  rw [ze_Wa_dutyTick]
  unfold zx_Wa_dutyTick
  exact wa_dutyTick_go hw h8 ht (by omega) hl0 hf (t - i) i 0 (by omega) (by omega)
theorem m_duty_go {d L w t x : Nat} {M : zM} {f : Nat → Bool} {g1 g2 : Nat → Int32} (hs : zSh L w M) (ht : t ≤ 48) (ht0 : zI M 155 0 = nI t) (hx : x < 3) (i : Nat) (hf : ∀ u, i ≤ u → u < t → zI M 178 u = nI (f u).toNat ∧ (f u = true → zI M 176 u = g1 u ∧ zI M 177 u = g2 u)) : ∀ k u l, i ≤ u → u + k = t → l < 2 ^ 31 → zG d n_Mo_duty 34 [some (.ref 146), none, none, none, some (.int (nI x)), some (.int (nI l)), some (.int (nI u))] [] M = some (some (.int (oI (-nI 4) (fun q => if x = 0 then nI q else if x = 1 then g1 q else g2 q) (ith f k u l))), M) := by
  obtain ⟨hN, hK, hC, hMo, -⟩ := hs
  intro k
  induction k with
  | zero =>
    intro u l hiu hu hl
    rw [zg_Mo_duty_34]
    unfold zx_Mo_duty_34 ith oI
    clear hf
    simp (disch := omega) only [il, nI_add, nI_mul, nI_sub, nI_div, nI_rem, nI_N, i32_lt, i32_le, nI_toInt, nI_subI, nI_clamp, zinT, zifT, iteT, iteF, zQ, zS, zkc, zI_sI, zL_sL, zI_wI, zL_wL, Nat.reduceEqDiff, Nat.reduceAdd, Nat.reduceMul, Nat.reduceLT, Nat.reduceLeDiff, reduceIte, eq_self, and_self, true_and, and_true, false_and, and_false, true_or, or_true, or_false, false_or, not_true_eq_false, not_false_eq_true, zarr, ne_eq, hK, hMo, ht0]
  | succ k ih =>
    intro u l hiu hu hl
    rw [zg_Mo_duty_34]
    unfold zx_Mo_duty_34 ith
    obtain ⟨z1, z2⟩ := hf u hiu (by omega)
    cases hb2 : f u
    · rw [hb2] at z1
      have ih2 := ih (u + 1) l (by omega) (by omega) hl
      rw [if_neg (show ¬ (false = true) by decide), ← ih2]
      clear ih hf ih2 z2
      rw [Bool.toNat_false] at z1
      simp (disch := omega) only [il, nI_add, nI_mul, nI_sub, nI_div, nI_rem, nI_N, i32_lt, i32_le, nI_toInt, nI_subI, nI_clamp, zinT, zifT, iteT, iteF, zQ, zS, zkc, zI_sI, zL_sL, zI_wI, zL_wL, Nat.reduceEqDiff, Nat.reduceAdd, Nat.reduceMul, Nat.reduceLT, Nat.reduceLeDiff, reduceIte, eq_self, and_self, true_and, and_true, false_and, and_false, true_or, or_true, or_false, false_or, not_true_eq_false, not_false_eq_true, zarr, ne_eq, hK, hMo, ht0, z1]
    · rw [hb2] at z1
      obtain ⟨z3, z4⟩ := z2 hb2
      rw [Bool.toNat_true] at z1
      rw [if_pos (show true = true from rfl)]
      by_cases hl0 : l = 0
      · rw [if_pos hl0]
        subst hl0
        unfold oI
        clear ih hf z2
        have : x = 0 ∨ x = 1 ∨ x = 2 := by omega
        rcases this with rfl | rfl | rfl
        · simp (disch := omega) only [il, nI_add, nI_mul, nI_sub, nI_div, nI_rem, nI_N, i32_lt, i32_le, nI_toInt, nI_subI, nI_clamp, zinT, zifT, iteT, iteF, zQ, zS, zkc, zI_sI, zL_sL, zI_wI, zL_wL, Nat.reduceEqDiff, Nat.reduceAdd, Nat.reduceMul, Nat.reduceLT, Nat.reduceLeDiff, reduceIte, eq_self, and_self, true_and, and_true, false_and, and_false, true_or, or_true, or_false, false_or, not_true_eq_false, not_false_eq_true, zarr, ne_eq, hK, hMo, ht0, z1]
        · simp (disch := omega) only [il, nI_add, nI_mul, nI_sub, nI_div, nI_rem, nI_N, i32_lt, i32_le, nI_toInt, nI_subI, nI_clamp, zinT, zifT, iteT, iteF, zQ, zS, zkc, zI_sI, zL_sL, zI_wI, zL_wL, Nat.reduceEqDiff, Nat.reduceAdd, Nat.reduceMul, Nat.reduceLT, Nat.reduceLeDiff, reduceIte, eq_self, and_self, true_and, and_true, false_and, and_false, true_or, or_true, or_false, false_or, not_true_eq_false, not_false_eq_true, zarr, ne_eq, hK, hMo, ht0, z1, z3]
        · simp (disch := omega) only [il, nI_add, nI_mul, nI_sub, nI_div, nI_rem, nI_N, i32_lt, i32_le, nI_toInt, nI_subI, nI_clamp, zinT, zifT, iteT, iteF, zQ, zS, zkc, zI_sI, zL_sL, zI_wI, zL_wL, Nat.reduceEqDiff, Nat.reduceAdd, Nat.reduceMul, Nat.reduceLT, Nat.reduceLeDiff, reduceIte, eq_self, and_self, true_and, and_true, false_and, and_false, true_or, or_true, or_false, false_or, not_true_eq_false, not_false_eq_true, zarr, ne_eq, hK, hMo, ht0, z1, z4]
      · have ih2 := ih (u + 1) (l - 1) (by omega) (by omega) (by omega)
        rw [if_neg hl0, ← ih2]
        have hne : ¬ nI l = nI 0 := by rw [nI_eq (by omega) (by omega)]; exact hl0
        have hm : nI l + -nI 1 = nI (l - 1) := by
          rw [← nI_sub (by omega), Int32.sub_eq_add_neg]
        clear ih hf ih2 z2
        simp (disch := omega) only [il, nI_add, nI_mul, nI_sub, nI_div, nI_rem, nI_N, i32_lt, i32_le, nI_toInt, nI_subI, nI_clamp, zinT, zifT, iteT, iteF, zQ, zS, zkc, zI_sI, zL_sL, zI_wI, zL_wL, Nat.reduceEqDiff, Nat.reduceAdd, Nat.reduceMul, Nat.reduceLT, Nat.reduceLeDiff, reduceIte, eq_self, and_self, true_and, and_true, false_and, and_false, true_or, or_true, or_false, false_or, not_true_eq_false, not_false_eq_true, zarr, ne_eq, hK, hMo, ht0, z1, hne, hm]
theorem wa_dutyState {A B : Sq} {d a g t ki ho u : Nat} {tr : Nat → Nat} {M : zM} (hd : 1 ≤ d) (hw : zWat M a) (hW : iWat A B ki ho tr M a g t) (ht : t ≤ 48) (hu : u < t) (hdu : isd A tr u) : zV d n_Wa_dutyState [.ref a, .int (nI u)] M = some (some (.int (nI (dst B ki tr u (t - 1 - u)).1)), M) ∧ ((dst B ki tr u (t - 1 - u)).1 ≠ 0 → zI M (a + 3) u = nI (dst B ki tr u (t - 1 - u)).2) := by
  refine ⟨?_, fun h => (hW.2.2.2.2.2.1 u hu).2.2 hdu h⟩
  obtain ⟨d, rfl, hd1⟩ := zdep hd
  have w0 := hw.1
  rw [ze_Wa_dutyState]
  unfold zx_Wa_dutyState
  have m6 := hW.2.2.2.1 u (by omega)
  have m7 := hW.2.2.2.2.1 u (by omega)
  rcases dst_lt3 (B := B) (ki := ki) (u := u) (tr := tr) (t - 1 - u) with e | e | e
  · have b6 : zb (zL M a 6) u = false := by rw [← Bool.not_eq_true, m6]; intro q; omega
    have b7 : zb (zL M a 7) u = false := by rw [← Bool.not_eq_true, m7]; intro q; omega
    rw [e]
    clear m6 m7 hW e
    simp (disch := omega) only [il, nI_add, nI_mul, nI_sub, nI_div, nI_rem, nI_N, i32_lt, i32_le, nI_toInt, nI_subI, nI_clamp, zinT, zifT, iteT, iteF, zQ, zS, zkc, zI_sI, zL_sL, zI_wI, zL_wL, Nat.reduceEqDiff, Nat.reduceAdd, Nat.reduceMul, Nat.reduceLT, Nat.reduceLeDiff, reduceIte, eq_self, and_self, true_and, and_true, false_and, and_false, true_or, or_true, or_false, false_or, not_true_eq_false, not_false_eq_true, zarr, ne_eq, w0, t_u, b6, b7]
  · have b6 : zb (zL M a 6) u = true := m6.mpr ⟨hu, hdu, e⟩
    rw [e]
    clear m6 m7 hW e
    simp (disch := omega) only [il, nI_add, nI_mul, nI_sub, nI_div, nI_rem, nI_N, i32_lt, i32_le, nI_toInt, nI_subI, nI_clamp, zinT, zifT, iteT, iteF, zQ, zS, zkc, zI_sI, zL_sL, zI_wI, zL_wL, Nat.reduceEqDiff, Nat.reduceAdd, Nat.reduceMul, Nat.reduceLT, Nat.reduceLeDiff, reduceIte, eq_self, and_self, true_and, and_true, false_and, and_false, true_or, or_true, or_false, false_or, not_true_eq_false, not_false_eq_true, zarr, ne_eq, w0, t_u, b6, reduceCtorEq]
  · have b6 : zb (zL M a 6) u = false := by rw [← Bool.not_eq_true, m6]; intro q; omega
    have b7 : zb (zL M a 7) u = true := m7.mpr ⟨hu, hdu, e⟩
    rw [e]
    clear m6 m7 hW e
    simp (disch := omega) only [il, nI_add, nI_mul, nI_sub, nI_div, nI_rem, nI_N, i32_lt, i32_le, nI_toInt, nI_subI, nI_clamp, zinT, zifT, iteT, iteF, zQ, zS, zkc, zI_sI, zL_sL, zI_wI, zL_wL, Nat.reduceEqDiff, Nat.reduceAdd, Nat.reduceMul, Nat.reduceLT, Nat.reduceLeDiff, reduceIte, eq_self, and_self, true_and, and_true, false_and, and_false, true_or, or_true, or_false, false_or, not_true_eq_false, not_false_eq_true, zarr, ne_eq, w0, t_u, b6, b7, reduceCtorEq]
theorem m1_neg : ¬ ((0 : Nat) : Int) ≤ (-nI 1).toInt := by decide
theorem st_duty {d L : Nat} {M : zM} (hd : 7 ≤ d) (hi : Inv L M) (x y z u : Int32) : Cal d n_PT_duty n_Mo_duty L [.int x, .int y, .int z, .int u] M := by
  obtain ⟨D, w, n, t, P, tr, h⟩ := IV_of hi
  have hP := h.2.2.2.2.2.2.2.1
  have ht := h.2.2.2.2.1.1
  obtain ⟨d, rfl, hd1⟩ := zdep hd
  unfold Cal
  rw [ze_PT_duty]
  simp only [ze_Mo_duty]
  unfold zx_PT_duty zx_Mo_duty
  rcases try_cases x y hP ht with ⟨p, i, hp, hit, rfl, rfl⟩ | hx
  · have e1 := q_isTry_t (d := d) (by omega) h hp hit
    have hK : zK M 2 = (10, 12) := by rw [h.1.2.1]; rfl
    have hK0 : zK M 146 = (11, 52) := by rw [h.1.2.1]; rfl
    by_cases hb : z.toInt < 0 ∨ u.toInt < 0 ∨ 2 < u.toInt
    · obtain ⟨M2, wk, e3, h2, hT, v3, v4⟩ := m_isTry_t (d := d) (by omega) h hp hit
      have hK2 : zK M2 146 = (11, 52) := by rw [h2.1.2.1]; rfl
      refine ⟨-1, M, M2, ?_, ?_, h2.inv⟩
      · clear hT v3 v4 h2
        by_cases z0 : z.toInt < 0
        · simp (disch := omega) only [il, nI_add, nI_mul, nI_sub, nI_div, nI_rem, nI_N, i32_lt, i32_le, nI_toInt, nI_subI, nI_clamp, zinT, zifT, iteT, iteF, zQ, zS, zkc, zI_sI, zL_sL, zI_wI, zL_wL, Nat.reduceEqDiff, Nat.reduceAdd, Nat.reduceMul, Nat.reduceLT, Nat.reduceLeDiff, reduceIte, eq_self, and_self, true_and, and_true, false_and, and_false, true_or, or_true, or_false, false_or, not_true_eq_false, not_false_eq_true, zarr, ne_eq, hK, e1]
        · by_cases u0 : u.toInt < 0
          · simp (disch := omega) only [il, nI_add, nI_mul, nI_sub, nI_div, nI_rem, nI_N, i32_lt, i32_le, nI_toInt, nI_subI, nI_clamp, zinT, zifT, iteT, iteF, zQ, zS, zkc, zI_sI, zL_sL, zI_wI, zL_wL, Nat.reduceEqDiff, Nat.reduceAdd, Nat.reduceMul, Nat.reduceLT, Nat.reduceLeDiff, reduceIte, eq_self, and_self, true_and, and_true, false_and, and_false, true_or, or_true, or_false, false_or, not_true_eq_false, not_false_eq_true, zarr, ne_eq, hK, e1]
          · simp (disch := omega) only [il, nI_add, nI_mul, nI_sub, nI_div, nI_rem, nI_N, i32_lt, i32_le, nI_toInt, nI_subI, nI_clamp, zinT, zifT, iteT, iteF, zQ, zS, zkc, zI_sI, zL_sL, zI_wI, zL_wL, Nat.reduceEqDiff, Nat.reduceAdd, Nat.reduceMul, Nat.reduceLT, Nat.reduceLeDiff, reduceIte, eq_self, and_self, true_and, and_true, false_and, and_false, true_or, or_true, or_false, false_or, not_true_eq_false, not_false_eq_true, zarr, ne_eq, hK, e1]
      · clear hT v3 v4 h2
        by_cases z0 : z.toInt < 0
        · simp (disch := omega) only [il, nI_add, nI_mul, nI_sub, nI_div, nI_rem, nI_N, i32_lt, i32_le, nI_toInt, nI_subI, nI_clamp, zinT, zifT, iteT, iteF, zQ, zS, zkc, zI_sI, zL_sL, zI_wI, zL_wL, Nat.reduceEqDiff, Nat.reduceAdd, Nat.reduceMul, Nat.reduceLT, Nat.reduceLeDiff, reduceIte, eq_self, and_self, true_and, and_true, false_and, and_false, true_or, or_true, or_false, false_or, not_true_eq_false, not_false_eq_true, zarr, ne_eq, hK0, e3]
        · simp (disch := omega) only [il, nI_add, nI_mul, nI_sub, nI_div, nI_rem, nI_N, i32_lt, i32_le, nI_toInt, nI_subI, nI_clamp, zinT, zifT, iteT, iteF, zQ, zS, zkc, zI_sI, zL_sL, zI_wI, zL_wL, Nat.reduceEqDiff, Nat.reduceAdd, Nat.reduceMul, Nat.reduceLT, Nat.reduceLeDiff, reduceIte, eq_self, and_self, true_and, and_true, false_and, and_false, true_or, or_true, or_false, false_or, not_true_eq_false, not_false_eq_true, zarr, ne_eq, hK0, e3, mo_in (show 1 ≤ d by omega), i64_toInt, zlit64]
    · obtain ⟨l0, hl0, rfl⟩ := nI_of (x := z) (by rw [i32_lt]; show ¬ z.toInt < 0; omega)
      rcases i_cases u 3 (by omega) with ⟨v, hv, rfl⟩ | hu
      · obtain ⟨M1, e2, h1, hW⟩ := pt_watchOf (d := d) (by omega) h hp
        obtain ⟨M2, wk, e3, h2, hT, v3, v4⟩ := m_isTry_t (d := d) (by omega) h1 hp hit
        have hK1 : zK M1 146 = (11, 52) := by rw [h1.1.2.1]; rfl
        have hwt := zWat_of h1.1 (show p < 4 by omega)
        have hK2 : zK M2 146 = (11, 52) := by rw [h2.1.2.1]; rfl
        have w0 := hwt.1
        have w3 := hwt.2.2.2.1
        have r2 := hwt.2.2.2.2.2.2.2.2.2.1
        have e4 := wa_dutyTick (d := d) (i := i) (t := t) (l0 := l0) (f := fun q => cB (i ≤ q ∧ (D p).1.acc (seg tr i (q + 1)))) (by omega) hwt hW.1 ht hit hl0 (fun q hq => by
          apply Bool.eq_iff_iff.mpr
          rw [cB_iff, hW.2.2.1 i q hit (by omega)]
          exact ⟨fun a => ⟨a.1, a.2.2⟩, fun a => ⟨a.1, hq, a.2⟩⟩)
        have e5 := m_duty_go (d := d) (x := v) (M := M2) (t := t) (f := fun q => cB (i ≤ q ∧ (D p).1.acc (seg tr i (q + 1)))) (g1 := fun q => nI (dst (D p).2.1 (D p).2.2.1 tr q (t - 1 - q)).1) (g2 := fun q => if (dst (D p).2.1 (D p).2.2.1 tr q (t - 1 - q)).1 = 0 then -4 else nI (dst (D p).2.1 (D p).2.2.1 tr q (t - 1 - q)).2) h2.1 ht h2.2.2.2.2.1.2.2.1 hv i (fun q h1 h2 => by
          obtain ⟨m1, m2⟩ := hT q h1 h2
          by_cases ha : (D p).1.acc (seg tr i (q + 1))
          · obtain ⟨m3, m4, m5, -⟩ := m1 ha
            rw [cB_t ⟨h1, ha⟩]
            exact ⟨m3, fun _ => ⟨m4, m5⟩⟩
          · rw [cB_f (fun a => ha a.2)]
            exact ⟨m2 ha, fun a => absurd a (by decide)⟩) (t - i) i l0 (Nat.le_refl i) (by omega) hl0
        have hit2 := fun q (hq : ith (fun q => cB (i ≤ q ∧ (D p).1.acc (seg tr i (q + 1)))) (t - i) i l0 = some q) => ith_some hq
        generalize ith (fun q => cB (i ≤ q ∧ (D p).1.acc (seg tr i (q + 1)))) (t - i) i l0 = R at *
        refine ⟨oI (-nI 4) (fun q => if v = 0 then nI q else if v = 1 then nI (dst (D p).2.1 (D p).2.2.1 tr q (t - 1 - q)).1 else if (dst (D p).2.1 (D p).2.2.1 tr q (t - 1 - q)).1 = 0 then -4 else nI (dst (D p).2.1 (D p).2.2.1 tr q (t - 1 - q)).2) R, M1, M2, ?_, ?_, h2.inv⟩
        · clear hT v3 v4 e5
          cases R with
          | none =>
            unfold oI at e4 ⊢
            clear hW hit2
            simp (disch := omega) only [il, nI_add, nI_mul, nI_sub, nI_div, nI_rem, nI_N, i32_lt, i32_le, nI_toInt, nI_subI, nI_clamp, zinT, zifT, iteT, iteF, zQ, zS, zkc, zI_sI, zL_sL, zI_wI, zL_wL, Nat.reduceEqDiff, Nat.reduceAdd, Nat.reduceMul, Nat.reduceLT, Nat.reduceLeDiff, reduceIte, eq_self, and_self, true_and, and_true, false_and, and_false, true_or, or_true, or_false, false_or, not_true_eq_false, not_false_eq_true, zarr, ne_eq, hK, e1, e2, w0, e4, m1_neg]
          | some q =>
            obtain ⟨q1, q2, q3⟩ := hit2 q rfl
            obtain ⟨q4, q5⟩ := cB_iff.mp q3
            obtain ⟨s1, s2⟩ := wa_dutyState (d := d) (by omega) hwt hW ht (show q < t by omega) ⟨i, q4, q5⟩
            have h3 := dst_lt3 (B := (D p).2.1) (ki := (D p).2.2.1) (u := q) (tr := tr) (t - 1 - q)
            unfold oI at e4 ⊢
            dsimp only
            generalize dst (D p).2.1 (D p).2.2.1 tr q (t - 1 - q) = S at *
            clear hW hit2 q5 q3
            have : v = 0 ∨ v = 1 ∨ v = 2 := by omega
            rcases this with rfl | rfl | rfl
            · simp (disch := omega) only [il, nI_add, nI_mul, nI_sub, nI_div, nI_rem, nI_N, i32_lt, i32_le, nI_toInt, nI_subI, nI_clamp, zinT, zifT, iteT, iteF, zQ, zS, zkc, zI_sI, zL_sL, zI_wI, zL_wL, Nat.reduceEqDiff, Nat.reduceAdd, Nat.reduceMul, Nat.reduceLT, Nat.reduceLeDiff, reduceIte, eq_self, and_self, true_and, and_true, false_and, and_false, true_or, or_true, or_false, false_or, not_true_eq_false, not_false_eq_true, zarr, ne_eq, hK, e1, e2, w0, e4]
            · simp (disch := omega) only [il, nI_add, nI_mul, nI_sub, nI_div, nI_rem, nI_N, i32_lt, i32_le, nI_toInt, nI_subI, nI_clamp, zinT, zifT, iteT, iteF, zQ, zS, zkc, zI_sI, zL_sL, zI_wI, zL_wL, Nat.reduceEqDiff, Nat.reduceAdd, Nat.reduceMul, Nat.reduceLT, Nat.reduceLeDiff, reduceIte, eq_self, and_self, true_and, and_true, false_and, and_false, true_or, or_true, or_false, false_or, not_true_eq_false, not_false_eq_true, zarr, ne_eq, hK, e1, e2, w0, e4, s1]
            · by_cases hz : S.1 = 0
              · rw [hz] at s1
                clear s2 h3
                simp (disch := omega) only [il, nI_add, nI_mul, nI_sub, nI_div, nI_rem, nI_N, i32_lt, i32_le, nI_toInt, nI_subI, nI_clamp, zinT, zifT, iteT, iteF, zQ, zS, zkc, zI_sI, zL_sL, zI_wI, zL_wL, Nat.reduceEqDiff, Nat.reduceAdd, Nat.reduceMul, Nat.reduceLT, Nat.reduceLeDiff, reduceIte, eq_self, and_self, true_and, and_true, false_and, and_false, true_or, or_true, or_false, false_or, not_true_eq_false, not_false_eq_true, zarr, ne_eq, hK, e1, e2, w0, e4, s1, hz]
              · have s3 := s2 hz
                have s4 : ¬ nI S.1 = nI 0 := by rw [nI_eq (by omega) (by omega)]; exact hz
                clear s2 h3
                simp (disch := omega) only [il, nI_add, nI_mul, nI_sub, nI_div, nI_rem, nI_N, i32_lt, i32_le, nI_toInt, nI_subI, nI_clamp, zinT, zifT, iteT, iteF, zQ, zS, zkc, zI_sI, zL_sL, zI_wI, zL_wL, Nat.reduceEqDiff, Nat.reduceAdd, Nat.reduceMul, Nat.reduceLT, Nat.reduceLeDiff, reduceIte, eq_self, and_self, true_and, and_true, false_and, and_false, true_or, or_true, or_false, false_or, not_true_eq_false, not_false_eq_true, zarr, ne_eq, hK, e1, e2, w0, w3, r2, e4, s1, s3, s4, hz]
        · clear hT v3 v4 e4 hW hit2
          simp (disch := omega) only [il, nI_add, nI_mul, nI_sub, nI_div, nI_rem, nI_N, i32_lt, i32_le, nI_toInt, nI_subI, nI_clamp, zinT, zifT, iteT, iteF, zQ, zS, zkc, zI_sI, zL_sL, zI_wI, zL_wL, Nat.reduceEqDiff, Nat.reduceAdd, Nat.reduceMul, Nat.reduceLT, Nat.reduceLeDiff, reduceIte, eq_self, and_self, true_and, and_true, false_and, and_false, true_or, or_true, or_false, false_or, not_true_eq_false, not_false_eq_true, zarr, ne_eq, hK1, e3, mo_in (show 1 ≤ d by omega), i64_toInt, zlit64]
          exact e5
      · omega
  · have e1 := q_isTry_f (d := d) (by omega) h hx
    have e2 := m_isTry_f (d := d) (by omega) h hx
    have hK := h.1.2.1
    refine ⟨-1, M, M, ?_, ?_, hi⟩
    · clear hx
      simp (disch := omega) only [il, nI_add, nI_mul, nI_sub, nI_div, nI_rem, nI_N, i32_lt, i32_le, nI_toInt, nI_subI, nI_clamp, zinT, zifT, iteT, iteF, zQ, zS, zkc, zI_sI, zL_sL, zI_wI, zL_wL, Nat.reduceEqDiff, Nat.reduceAdd, Nat.reduceMul, Nat.reduceLT, Nat.reduceLeDiff, reduceIte, eq_self, and_self, true_and, and_true, false_and, and_false, true_or, or_true, or_false, false_or, not_true_eq_false, not_false_eq_true, zarr, ne_eq, hK, e1]
    · clear hx
      simp (disch := omega) only [il, nI_add, nI_mul, nI_sub, nI_div, nI_rem, nI_N, i32_lt, i32_le, nI_toInt, nI_subI, nI_clamp, zinT, zifT, iteT, iteF, zQ, zS, zkc, zI_sI, zL_sL, zI_wI, zL_wL, Nat.reduceEqDiff, Nat.reduceAdd, Nat.reduceMul, Nat.reduceLT, Nat.reduceLeDiff, reduceIte, eq_self, and_self, true_and, and_true, false_and, and_false, true_or, or_true, or_false, false_or, not_true_eq_false, not_false_eq_true, zarr, ne_eq, hK, e2]
