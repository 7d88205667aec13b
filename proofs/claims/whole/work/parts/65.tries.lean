/-! tries, first -/
/-- the verdict that the promise p gives the try i -/
noncomputable def VD (D : Nat → Pd) (tr : Nat → Nat) (t p i : Nat) : Nat × Nat := vd (D p).1 (D p).2.1 (D p).2.2.1 (D p).2.2.2.2 tr i (t - 1 - i)
theorem VD_le {D : Nat → Pd} {tr : Nat → Nat} {t p i : Nat} : (VD D tr t p i).1 ≤ 4 := vd_le _
def fstI (f : Nat → Bool) : Nat → Nat → Int32
  | 0, _ => -nI 4
  | k + 1, u => if f u = true then nI u else fstI f k (u + 1)
theorem wa_howMany {d a t v : Nat} {M : zM} {f : Nat → Nat} (hd : 1 ≤ d) (hw : zWat M a) (h8 : zI M a 8 = nI t) (ht : t ≤ 48) (hv : v < 2 ^ 31) (hf : ∀ i, i < t → zI M (a + 5) i = nI (f i) ∧ f i ≤ 4) : zV d n_Wa_howMany [.ref a, .int (nI v)] M = some (some (.int (nI (cnt (fun i => decide (f i = v)) t))), M) := by
  obtain ⟨d, rfl, hd1⟩ := zdep hd
  obtain ⟨w0, w1, w2, w3, w4, w5, w6, r0, r1, r2, r3, r4, r5⟩ := hw
  rw [ze_Wa_howMany]
  unfold zx_Wa_howMany
  have key := zloop (n := t) (g := fun k => zG d n_Wa_howMany 4 [some (.ref a), some (.int (nI v)), some (.int (nI (cnt (fun i => decide (f i = v)) k))), some (.int (nI k))] [] M) (by
    intro k hk
    show zG d n_Wa_howMany 4 [some (.ref a), some (.int (nI v)), some (.int (nI (cnt (fun i => decide (f i = v)) k))), some (.int (nI k))] [] M = zG d n_Wa_howMany 4 [some (.ref a), some (.int (nI v)), some (.int (nI (cnt (fun i => decide (f i = v)) k + (decide (f k = v)).toNat))), some (.int (nI (k + 1)))] [] M
    rw [zg_Wa_howMany_4]
    unfold zx_Wa_howMany_4
    obtain ⟨h1, h2⟩ := hf k hk
    clear hf
    by_cases h3 : f k = v
    · rw [h3] at h1
      simp (disch := omega) only [il, nI_add, nI_mul, nI_sub, nI_div, nI_rem, nI_N, i32_lt, i32_le, nI_toInt, nI_subI, nI_clamp, zinT, zifT, iteT, iteF, zQ, zS, zkc, zI_sI, zL_sL, zI_wI, zL_wL, Nat.reduceEqDiff, Nat.reduceAdd, Nat.reduceMul, Nat.reduceLT, Nat.reduceLeDiff, reduceIte, eq_self, and_self, true_and, and_true, false_and, and_false, true_or, or_true, or_false, false_or, not_true_eq_false, not_false_eq_true, zarr, ne_eq, w0, w5, r4, h8, h1, h3, decide_true, Bool.toNat_true]
    · have h4 : ¬ nI (f k) = nI v := by rw [nI_eq (by omega) hv]; exact h3
      simp (disch := omega) only [il, nI_add, nI_mul, nI_sub, nI_div, nI_rem, nI_N, i32_lt, i32_le, nI_toInt, nI_subI, nI_clamp, zinT, zifT, iteT, iteF, zQ, zS, zkc, zI_sI, zL_sL, zI_wI, zL_wL, Nat.reduceEqDiff, Nat.reduceAdd, Nat.reduceMul, Nat.reduceLT, Nat.reduceLeDiff, reduceIte, eq_self, and_self, true_and, and_true, false_and, and_false, true_or, or_true, or_false, false_or, not_true_eq_false, not_false_eq_true, zarr, ne_eq, w0, w5, r4, h8, h1, h3, h4, decide_false, Bool.toNat_false, Nat.add_zero])
  refine Eq.trans key ?_
  show zG d n_Wa_howMany 4 [some (.ref a), some (.int (nI v)), some (.int (nI (cnt (fun i => decide (f i = v)) t))), some (.int (nI t))] [] M = _
  rw [zg_Wa_howMany_4]
  unfold zx_Wa_howMany_4
  simp (disch := omega) only [il, nI_add, nI_mul, nI_sub, nI_div, nI_rem, nI_N, i32_lt, i32_le, nI_toInt, nI_subI, nI_clamp, zinT, zifT, iteT, iteF, zQ, zS, zkc, zI_sI, zL_sL, zI_wI, zL_wL, Nat.reduceEqDiff, Nat.reduceAdd, Nat.reduceMul, Nat.reduceLT, Nat.reduceLeDiff, reduceIte, eq_self, and_self, true_and, and_true, false_and, and_false, true_or, or_true, or_false, false_or, not_true_eq_false, not_false_eq_true, zarr, ne_eq, w0, h8]
theorem wa_earliest_go {d a t v : Nat} {M : zM} {f : Nat → Nat} (hw : zWat M a) (h8 : zI M a 8 = nI t) (ht : t ≤ 48) (hv : v < 2 ^ 31) (hf : ∀ i, i < t → zI M (a + 5) i = nI (f i) ∧ f i ≤ 4) : ∀ k u, u + k = t → zG d n_Wa_earliest 2 [some (.ref a), some (.int (nI v)), some (.int (nI u))] [] M = some (some (.int (fstI (fun i => decide (f i = v)) k u)), M) := by
  obtain ⟨w0, w1, w2, w3, w4, w5, w6, r0, r1, r2, r3, r4, r5⟩ := hw
  intro k
  induction k with
  | zero =>
    intro u hu
    rw [zg_Wa_earliest_2]
    unfold zx_Wa_earliest_2 fstI
    clear hf
    simp (disch := omega) only [il, nI_add, nI_mul, nI_sub, nI_div, nI_rem, nI_N, i32_lt, i32_le, nI_toInt, nI_subI, nI_clamp, zinT, zifT, iteT, iteF, zQ, zS, zkc, zI_sI, zL_sL, zI_wI, zL_wL, Nat.reduceEqDiff, Nat.reduceAdd, Nat.reduceMul, Nat.reduceLT, Nat.reduceLeDiff, reduceIte, eq_self, and_self, true_and, and_true, false_and, and_false, true_or, or_true, or_false, false_or, not_true_eq_false, not_false_eq_true, zarr, ne_eq, w0, h8]
  | succ k ih =>
    intro u hu
    have ih2 := ih (u + 1) (by omega)
    obtain ⟨h1, h2⟩ := hf u (by omega)
    rw [zg_Wa_earliest_2]
    unfold zx_Wa_earliest_2 fstI
    clear hf ih
    by_cases h3 : f u = v
    · rw [h3] at h1
      simp (disch := omega) only [il, nI_add, nI_mul, nI_sub, nI_div, nI_rem, nI_N, i32_lt, i32_le, nI_toInt, nI_subI, nI_clamp, zinT, zifT, iteT, iteF, zQ, zS, zkc, zI_sI, zL_sL, zI_wI, zL_wL, Nat.reduceEqDiff, Nat.reduceAdd, Nat.reduceMul, Nat.reduceLT, Nat.reduceLeDiff, reduceIte, eq_self, and_self, true_and, and_true, false_and, and_false, true_or, or_true, or_false, false_or, not_true_eq_false, not_false_eq_true, zarr, ne_eq, w0, w5, r4, h8, h1, h3, decide_true]
    · have h4 : ¬ nI (f u) = nI v := by rw [nI_eq (by omega) hv]; exact h3
      simp (disch := omega) only [il, nI_add, nI_mul, nI_sub, nI_div, nI_rem, nI_N, i32_lt, i32_le, nI_toInt, nI_subI, nI_clamp, zinT, zifT, iteT, iteF, zQ, zS, zkc, zI_sI, zL_sL, zI_wI, zL_wL, Nat.reduceEqDiff, Nat.reduceAdd, Nat.reduceMul, Nat.reduceLT, Nat.reduceLeDiff, reduceIte, eq_self, and_self, true_and, and_true, false_and, and_false, true_or, or_true, or_false, false_or, not_true_eq_false, not_false_eq_true, zarr, ne_eq, w0, w5, r4, h8, h1, h3, h4, decide_false, Bool.false_eq_true, ih2]
theorem wa_earliest {d a t v : Nat} {M : zM} {f : Nat → Nat} (hd : 1 ≤ d) (hw : zWat M a) (h8 : zI M a 8 = nI t) (ht : t ≤ 48) (hv : v < 2 ^ 31) (hf : ∀ i, i < t → zI M (a + 5) i = nI (f i) ∧ f i ≤ 4) : zV d n_Wa_earliest [.ref a, .int (nI v)] M = some (some (.int (fstI (fun i => decide (f i = v)) t 0)), M) := by
  obtain ⟨d, rfl, hd1⟩ := zdep hd
  rw [ze_Wa_earliest]
  unfold zx_Wa_earliest
  exact wa_earliest_go hw h8 ht hv hf t 0 (by omega)
/-- the reference goes through each try -/
theorem m_each {D : Nat → Pd} {d L w n t P p i n0 n1 : Nat} {tr C0 C1 : Nat → Nat} {M : zM} (hd : 5 ≤ d) (h : IV D L w n t P tr M) (hE : ME (D p).1 (D p).2.1 (D p).2.2.1 (D p).2.2.2.1 (D p).2.2.2.2 p t tr n0 n1 C0 C1 M) (hi : i < t) : ∃ M' wk, zV d n_Mo_goesThrough [.ref 146, .int (nI p), .int (nI i)] M = some (none, M') ∧ IV D L w n t P tr M' ∧ ME (D p).1 (D p).2.1 (D p).2.2.1 (D p).2.2.2.1 (D p).2.2.2.2 p t tr n0 n1 C0 C1 M' ∧ TD (D p).1 (D p).2.1 (D p).2.2.1 tr i t wk M' ∧ zI M' 146 45 = nI (VD D tr t p i).1 ∧ (zI M' 146 46 = if (VD D tr t p i).1 = 0 then -4 else nI (VD D tr t p i).2) := by
  obtain ⟨M2, e2, f1, f2, f3, f4⟩ := m_goesThrough (d := d) hd h.1 hE hi
  exact ⟨M2, _, e2, IV_fM h f1, ME_fr hE f1, f2, f3, f4⟩
theorem m_triesOf {D : Nat → Pd} {d L w n t P p v : Nat} {tr : Nat → Nat} {M : zM} (hd : 6 ≤ d) (h : IV D L w n t P tr M) (hp : p < P) (hv : v < 2 ^ 31) : ∃ M', zV d n_Mo_triesOf [.ref 146, .int (nI p), .int (nI v)] M = some (some (.int (nI (cnt (fun i => decide ((VD D tr t p i).1 = v)) t))), M') ∧ IV D L w n t P tr M' := by
  obtain ⟨d, rfl, hd1⟩ := zdep hd
  obtain ⟨M1, n0, n1, C0, C1, e1, h1, hE⟩ := m_ready (d := d) (by omega) h hp
  have ht := h.2.2.2.2.1.1
  have hP := h.2.2.2.2.2.2.2.1
  obtain ⟨M', e, f1, f2⟩ := zloopE (n := t) (g := fun k M1 => zG d n_Mo_triesOf 10 [some (.ref 146), some (.int (nI p)), some (.int (nI v)), some (.int (nI (cnt (fun i => decide ((VD D tr t p i).1 = v)) k))), some (.int (nI k))] [] M1) (P := fun k M1 => IV D L w n t P tr M1 ∧ ME (D p).1 (D p).2.1 (D p).2.2.1 (D p).2.2.2.1 (D p).2.2.2.2 p t tr n0 n1 C0 C1 M1) (by
    intro k M1 hk ⟨f1, f2⟩
    obtain ⟨M2, wk, e2, g1, g2, -, g3, -⟩ := m_each (d := d) hd1 f1 f2 hk
    have hle := VD_le (D := D) (tr := tr) (t := t) (p := p) (i := k)
    have hK : zK M1 146 = (11, 52) := by rw [f1.1.2.1]; rfl
    have hK155 : zK M1 155 = (20, 49) := by rw [f1.1.2.1]; rfl
    have hK2 : zK M2 146 = (11, 52) := by rw [g1.1.2.1]; rfl
    have hMo := f1.1.2.2.2.1
    have t3 := f1.2.2.2.2.1.2.2.1
    refine ⟨M2, ?_, g1, g2⟩
    show zG d n_Mo_triesOf 10 [some (.ref 146), some (.int (nI p)), some (.int (nI v)), some (.int (nI (cnt (fun i => decide ((VD D tr t p i).1 = v)) k))), some (.int (nI k))] [] M1 = zG d n_Mo_triesOf 10 [some (.ref 146), some (.int (nI p)), some (.int (nI v)), some (.int (nI (cnt (fun i => decide ((VD D tr t p i).1 = v)) k + (decide ((VD D tr t p k).1 = v)).toNat))), some (.int (nI (k + 1)))] [] M2
    rw [zg_Mo_triesOf_10]
    unfold zx_Mo_triesOf_10
    clear f1 f2 g1 g2
    by_cases h3 : (VD D tr t p k).1 = v
    · rw [h3] at g3
      simp (disch := omega) only [il, nI_add, nI_mul, nI_sub, nI_div, nI_rem, nI_N, i32_lt, i32_le, nI_toInt, nI_subI, nI_clamp, zinT, zifT, iteT, iteF, zQ, zS, zkc, zI_sI, zL_sL, zI_wI, zL_wL, Nat.reduceEqDiff, Nat.reduceAdd, Nat.reduceMul, Nat.reduceLT, Nat.reduceLeDiff, reduceIte, eq_self, and_self, true_and, and_true, false_and, and_false, true_or, or_true, or_false, false_or, not_true_eq_false, not_false_eq_true, zarr, ne_eq, hK, hK155, hK2, hMo, t3, e2, g3, h3, mo_flag (show 1 ≤ d by omega), decide_true, Bool.toNat_true]
    · have h4 : ¬ nI (VD D tr t p k).1 = nI v := by rw [nI_eq (by omega) hv]; exact h3
      simp (disch := omega) only [il, nI_add, nI_mul, nI_sub, nI_div, nI_rem, nI_N, i32_lt, i32_le, nI_toInt, nI_subI, nI_clamp, zinT, zifT, iteT, iteF, zQ, zS, zkc, zI_sI, zL_sL, zI_wI, zL_wL, Nat.reduceEqDiff, Nat.reduceAdd, Nat.reduceMul, Nat.reduceLT, Nat.reduceLeDiff, reduceIte, eq_self, and_self, true_and, and_true, false_and, and_false, true_or, or_true, or_false, false_or, not_true_eq_false, not_false_eq_true, zarr, ne_eq, hK, hK155, hK2, hMo, t3, e2, g3, h3, h4, mo_flag (show 1 ≤ d by omega), decide_false, Bool.toNat_false, Nat.add_zero]) (s0 := M1) ⟨h1, hE⟩
  refine ⟨M', ?_, f1⟩
  have hK : zK M 146 = (11, 52) := by rw [h.1.2.1]; rfl
  have e9 : zG d n_Mo_triesOf 10 [some (.ref 146), some (.int (nI p)), some (.int (nI v)), some (.int (nI (cnt (fun i => decide ((VD D tr t p i).1 = v)) t))), some (.int (nI t))] [] M' = some (some (.int (nI (cnt (fun i => decide ((VD D tr t p i).1 = v)) t))), M') := by
    have hK' := f1.1.2.1
    have hMo := f1.1.2.2.2.1
    have t3 := f1.2.2.2.2.1.2.2.1
    rw [zg_Mo_triesOf_10]
    unfold zx_Mo_triesOf_10
    clear f1 f2 h h1 hE e
    simp (disch := omega) only [il, nI_add, nI_mul, nI_sub, nI_div, nI_rem, nI_N, i32_lt, i32_le, nI_toInt, nI_subI, nI_clamp, zinT, zifT, iteT, iteF, zQ, zS, zkc, zI_sI, zL_sL, zI_wI, zL_wL, Nat.reduceEqDiff, Nat.reduceAdd, Nat.reduceMul, Nat.reduceLT, Nat.reduceLeDiff, reduceIte, eq_self, and_self, true_and, and_true, false_and, and_false, true_or, or_true, or_false, false_or, not_true_eq_false, not_false_eq_true, zarr, ne_eq, hK', hMo, t3]
  have e10 := Eq.trans e e9
  rw [ze_Mo_triesOf]
  unfold zx_Mo_triesOf
  clear f1 f2 h h1 hE e e9
  simp (disch := omega) only [il, nI_add, nI_mul, nI_sub, nI_div, nI_rem, nI_N, i32_lt, i32_le, nI_toInt, nI_subI, nI_clamp, zinT, zifT, iteT, iteF, zQ, zS, zkc, zI_sI, zL_sL, zI_wI, zL_wL, Nat.reduceEqDiff, Nat.reduceAdd, Nat.reduceMul, Nat.reduceLT, Nat.reduceLeDiff, reduceIte, eq_self, and_self, true_and, and_true, false_and, and_false, true_or, or_true, or_false, false_or, not_true_eq_false, not_false_eq_true, zarr, ne_eq, hK, e1]
  exact e10
theorem m_first_go {D : Nat → Pd} {d L w n t P p v n0 n1 : Nat} {tr C0 C1 : Nat → Nat} (hd : 5 ≤ d) (hv : v < 2 ^ 31) (hp : p < P) : ∀ k u (M : zM), u + k = t → IV D L w n t P tr M → ME (D p).1 (D p).2.1 (D p).2.2.1 (D p).2.2.2.1 (D p).2.2.2.2 p t tr n0 n1 C0 C1 M → ∃ M', zG d n_Mo_first 29 [some (.ref 146), some (.int (nI p)), some (.int (nI v)), some (.int (nI u))] [] M = some (some (.int (fstI (fun i => decide ((VD D tr t p i).1 = v)) k u)), M') ∧ IV D L w n t P tr M' := by
  intro k
  induction k with
  | zero =>
    intro u M hu h hE
    refine ⟨M, ?_, h⟩
    have ht := h.2.2.2.2.1.1
    have hK := h.1.2.1
    have hMo := h.1.2.2.2.1
    have t3 := h.2.2.2.2.1.2.2.1
    rw [zg_Mo_first_29]
    unfold zx_Mo_first_29 fstI
    clear h hE
    simp (disch := omega) only [il, nI_add, nI_mul, nI_sub, nI_div, nI_rem, nI_N, i32_lt, i32_le, nI_toInt, nI_subI, nI_clamp, zinT, zifT, iteT, iteF, zQ, zS, zkc, zI_sI, zL_sL, zI_wI, zL_wL, Nat.reduceEqDiff, Nat.reduceAdd, Nat.reduceMul, Nat.reduceLT, Nat.reduceLeDiff, reduceIte, eq_self, and_self, true_and, and_true, false_and, and_false, true_or, or_true, or_false, false_or, not_true_eq_false, not_false_eq_true, zarr, ne_eq, hK, hMo, t3]
  | succ k ih =>
    intro u M hu h hE
    have ht := h.2.2.2.2.1.1
    obtain ⟨M2, wk, e2, g1, g2, -, g3, -⟩ := m_each (d := d) hd h hE (show u < t by omega)
    have hle := VD_le (D := D) (tr := tr) (t := t) (p := p) (i := u)
    have hK : zK M 146 = (11, 52) := by rw [h.1.2.1]; rfl
    have hK155 : zK M 155 = (20, 49) := by rw [h.1.2.1]; rfl
    have hK2 : zK M2 146 = (11, 52) := by rw [g1.1.2.1]; rfl
    have hMo := h.1.2.2.2.1
    have t3 := h.2.2.2.2.1.2.2.1
    by_cases h3 : (VD D tr t p u).1 = v
    · refine ⟨M2, ?_, g1⟩
      rw [h3] at g3
      rw [zg_Mo_first_29]
      unfold zx_Mo_first_29 fstI
      clear h hE g1 g2 ih
      simp (disch := omega) only [il, nI_add, nI_mul, nI_sub, nI_div, nI_rem, nI_N, i32_lt, i32_le, nI_toInt, nI_subI, nI_clamp, zinT, zifT, iteT, iteF, zQ, zS, zkc, zI_sI, zL_sL, zI_wI, zL_wL, Nat.reduceEqDiff, Nat.reduceAdd, Nat.reduceMul, Nat.reduceLT, Nat.reduceLeDiff, reduceIte, eq_self, and_self, true_and, and_true, false_and, and_false, true_or, or_true, or_false, false_or, not_true_eq_false, not_false_eq_true, zarr, ne_eq, hK, hK155, hK2, hMo, t3, e2, g3, h3, decide_true]
    · obtain ⟨M', e, h'⟩ := ih (u + 1) M2 (by omega) g1 g2
      refine ⟨M', ?_, h'⟩
      have h4 : ¬ nI (VD D tr t p u).1 = nI v := by rw [nI_eq (by omega) hv]; exact h3
      rw [zg_Mo_first_29]
      unfold zx_Mo_first_29 fstI
      clear h hE g1 g2 ih
      simp (disch := omega) only [il, nI_add, nI_mul, nI_sub, nI_div, nI_rem, nI_N, i32_lt, i32_le, nI_toInt, nI_subI, nI_clamp, zinT, zifT, iteT, iteF, zQ, zS, zkc, zI_sI, zL_sL, zI_wI, zL_wL, Nat.reduceEqDiff, Nat.reduceAdd, Nat.reduceMul, Nat.reduceLT, Nat.reduceLeDiff, reduceIte, eq_self, and_self, true_and, and_true, false_and, and_false, true_or, or_true, or_false, false_or, not_true_eq_false, not_false_eq_true, zarr, ne_eq, hK, hK155, hK2, hMo, t3, e2, g3, h3, h4, decide_false, Bool.false_eq_true, e]
theorem st_tries {d L : Nat} {M : zM} (hd : 7 ≤ d) (hi : Inv L M) (x y : Int32) : Cal d n_PT_tries n_Mo_tries L [.int x, .int y] M := by
  obtain ⟨D, w, n, t, P, tr, h⟩ := IV_of hi
  have hP := h.2.2.2.2.2.2.2.1
  have ht := h.2.2.2.2.1.1
  obtain ⟨d, rfl, hd1⟩ := zdep hd
  unfold Cal
  rw [ze_PT_tries]
  simp only [ze_Mo_tries]
  unfold zx_PT_tries zx_Mo_tries
  have hK := h.1.2.1
  have hkk := zkc L; rw [← hK] at hkk
  have hp2 := h.2.2.2.2.2.2.2.2.1
  have hp3 := h.2.2.2.2.2.2.2.2.2.1
  rcases i_cases x P (by omega) with ⟨p, hp, rfl⟩ | hx
  · have e1 := q_isPromise_t (d := d) (by omega) h.1 hP hp2 hp
    have e2 := m_isPromise_t (d := d) (by omega) h.1 hP hp3 hp
    rcases i_cases y 5 (by omega) with ⟨v, hv, rfl⟩ | hy
    · have e3 := q_isVerdict_t (d := d) (M := M) (by omega) hv
      obtain ⟨M1, e4, h1, hW⟩ := pt_watchOf (d := d) (by omega) h hp
      have e5 := wa_howMany (d := d) (v := v) (f := fun i => (VD D tr t p i).1) (by omega) (zWat_of h1.1 (show p < 4 by omega)) hW.1 ht (by omega) (fun i hi => ⟨(wat_v h1 hp hW hi).1, VD_le⟩)
      obtain ⟨M2, e6, h2⟩ := m_triesOf (d := d) (by omega) h1 hp (show v < 2 ^ 31 by omega)
      have hK1 : zK M1 146 = (11, 52) := by rw [h1.1.2.1]; rfl
      have e2' := m_isPromise_t (d := d) (by omega) h1.1 hP h1.2.2.2.2.2.2.2.2.2.1 hp
      have w0 := (zWat_of h1.1 (show p < 4 by omega)).1
      refine ⟨nI (cnt (fun i => decide ((VD D tr t p i).1 = v)) t), M1, M2, ?_, ?_, h2.inv⟩
      · clear h h1 h2 hW
        simp (disch := omega) only [il, nI_add, nI_mul, nI_sub, nI_div, nI_rem, nI_N, i32_lt, i32_le, nI_toInt, nI_subI, nI_clamp, zinT, zifT, iteT, iteF, zQ, zS, zkc, zI_sI, zL_sL, zI_wI, zL_wL, Nat.reduceEqDiff, Nat.reduceAdd, Nat.reduceMul, Nat.reduceLT, Nat.reduceLeDiff, reduceIte, eq_self, and_self, true_and, and_true, false_and, and_false, true_or, or_true, or_false, false_or, not_true_eq_false, not_false_eq_true, zarr, ne_eq, hkk, e1, e3, e4, w0, e5]
      · clear h h1 h2 hW
        simp (disch := omega) only [il, nI_add, nI_mul, nI_sub, nI_div, nI_rem, nI_N, i32_lt, i32_le, nI_toInt, nI_subI, nI_clamp, zinT, zifT, iteT, iteF, zQ, zS, zkc, zI_sI, zL_sL, zI_wI, zL_wL, Nat.reduceEqDiff, Nat.reduceAdd, Nat.reduceMul, Nat.reduceLT, Nat.reduceLeDiff, reduceIte, eq_self, and_self, true_and, and_true, false_and, and_false, true_or, or_true, or_false, false_or, not_true_eq_false, not_false_eq_true, zarr, ne_eq, hK1, e2', mo_in (show 1 ≤ d by omega), i64_toInt, zlit64, e6]
    · have e3 := q_isVerdict_f (d := d) (M := M) (by omega) hy
      refine ⟨-1, M, M, ?_, ?_, hi⟩
      · clear h
        simp (disch := omega) only [il, nI_add, nI_mul, nI_sub, nI_div, nI_rem, nI_N, i32_lt, i32_le, nI_toInt, nI_subI, nI_clamp, zinT, zifT, iteT, iteF, zQ, zS, zkc, zI_sI, zL_sL, zI_wI, zL_wL, Nat.reduceEqDiff, Nat.reduceAdd, Nat.reduceMul, Nat.reduceLT, Nat.reduceLeDiff, reduceIte, eq_self, and_self, true_and, and_true, false_and, and_false, true_or, or_true, or_false, false_or, not_true_eq_false, not_false_eq_true, zarr, ne_eq, hkk, e1, e3]
      · clear h
        simp (disch := omega) only [il, nI_add, nI_mul, nI_sub, nI_div, nI_rem, nI_N, i32_lt, i32_le, nI_toInt, nI_subI, nI_clamp, zinT, zifT, iteT, iteF, zQ, zS, zkc, zI_sI, zL_sL, zI_wI, zL_wL, Nat.reduceEqDiff, Nat.reduceAdd, Nat.reduceMul, Nat.reduceLT, Nat.reduceLeDiff, reduceIte, eq_self, and_self, true_and, and_true, false_and, and_false, true_or, or_true, or_false, false_or, not_true_eq_false, not_false_eq_true, zarr, ne_eq, hkk, e2, mo_in (show 1 ≤ d by omega), i64_toInt, zlit64]
  · have e1 := q_isPromise_f (d := d) (by omega) h.1 hP hp2 hx
    have e2 := m_isPromise_f (d := d) (by omega) h.1 hP hp3 hx
    refine ⟨-1, M, M, ?_, ?_, hi⟩
    · clear h
      simp (disch := omega) only [il, nI_add, nI_mul, nI_sub, nI_div, nI_rem, nI_N, i32_lt, i32_le, nI_toInt, nI_subI, nI_clamp, zinT, zifT, iteT, iteF, zQ, zS, zkc, zI_sI, zL_sL, zI_wI, zL_wL, Nat.reduceEqDiff, Nat.reduceAdd, Nat.reduceMul, Nat.reduceLT, Nat.reduceLeDiff, reduceIte, eq_self, and_self, true_and, and_true, false_and, and_false, true_or, or_true, or_false, false_or, not_true_eq_false, not_false_eq_true, zarr, ne_eq, hkk, e1]
    · clear h
      simp (disch := omega) only [il, nI_add, nI_mul, nI_sub, nI_div, nI_rem, nI_N, i32_lt, i32_le, nI_toInt, nI_subI, nI_clamp, zinT, zifT, iteT, iteF, zQ, zS, zkc, zI_sI, zL_sL, zI_wI, zL_wL, Nat.reduceEqDiff, Nat.reduceAdd, Nat.reduceMul, Nat.reduceLT, Nat.reduceLeDiff, reduceIte, eq_self, and_self, true_and, and_true, false_and, and_false, true_or, or_true, or_false, false_or, not_true_eq_false, not_false_eq_true, zarr, ne_eq, hkk, e2]
theorem st_first {d L : Nat} {M : zM} (hd : 7 ≤ d) (hi : Inv L M) (x y : Int32) : Cal d n_PT_first n_Mo_first L [.int x, .int y] M := by
  obtain ⟨D, w, n, t, P, tr, h⟩ := IV_of hi
  have hP := h.2.2.2.2.2.2.2.1
  have ht := h.2.2.2.2.1.1
  obtain ⟨d, rfl, hd1⟩ := zdep hd
  unfold Cal
  rw [ze_PT_first]
  simp only [ze_Mo_first]
  unfold zx_PT_first zx_Mo_first
  have hK := h.1.2.1
  have hkk := zkc L; rw [← hK] at hkk
  have hp2 := h.2.2.2.2.2.2.2.2.1
  have hp3 := h.2.2.2.2.2.2.2.2.2.1
  rcases i_cases x P (by omega) with ⟨p, hp, rfl⟩ | hx
  · have e1 := q_isPromise_t (d := d) (by omega) h.1 hP hp2 hp
    have e2 := m_isPromise_t (d := d) (by omega) h.1 hP hp3 hp
    rcases i_cases y 5 (by omega) with ⟨v, hv, rfl⟩ | hy
    · have e3 := q_isVerdict_t (d := d) (M := M) (by omega) hv
      obtain ⟨M1, e4, h1, hW⟩ := pt_watchOf (d := d) (by omega) h hp
      have e5 := wa_earliest (d := d) (v := v) (f := fun i => (VD D tr t p i).1) (by omega) (zWat_of h1.1 (show p < 4 by omega)) hW.1 ht (by omega) (fun i hi => ⟨(wat_v h1 hp hW hi).1, VD_le⟩)
      obtain ⟨M1', n0, n1, C0, C1, e6, h1', hE⟩ := m_ready (d := d) (by omega) h1 hp
      obtain ⟨M2, e7, h2⟩ := m_first_go (d := d) (v := v) (by omega) (by omega) hp t 0 M1' (by omega) h1' hE
      have hK1 : zK M1 146 = (11, 52) := by rw [h1.1.2.1]; rfl
      have e2' := m_isPromise_t (d := d) (by omega) h1.1 hP h1.2.2.2.2.2.2.2.2.2.1 hp
      have w0 := (zWat_of h1.1 (show p < 4 by omega)).1
      refine ⟨fstI (fun i => decide ((VD D tr t p i).1 = v)) t 0, M1, M2, ?_, ?_, h2.inv⟩
      · clear h h1 h2 hW hE h1'
        simp (disch := omega) only [il, nI_add, nI_mul, nI_sub, nI_div, nI_rem, nI_N, i32_lt, i32_le, nI_toInt, nI_subI, nI_clamp, zinT, zifT, iteT, iteF, zQ, zS, zkc, zI_sI, zL_sL, zI_wI, zL_wL, Nat.reduceEqDiff, Nat.reduceAdd, Nat.reduceMul, Nat.reduceLT, Nat.reduceLeDiff, reduceIte, eq_self, and_self, true_and, and_true, false_and, and_false, true_or, or_true, or_false, false_or, not_true_eq_false, not_false_eq_true, zarr, ne_eq, hkk, e1, e3, e4, w0, e5]
      · clear h h1 h2 hW hE h1'
        simp (disch := omega) only [il, nI_add, nI_mul, nI_sub, nI_div, nI_rem, nI_N, i32_lt, i32_le, nI_toInt, nI_subI, nI_clamp, zinT, zifT, iteT, iteF, zQ, zS, zkc, zI_sI, zL_sL, zI_wI, zL_wL, Nat.reduceEqDiff, Nat.reduceAdd, Nat.reduceMul, Nat.reduceLT, Nat.reduceLeDiff, reduceIte, eq_self, and_self, true_and, and_true, false_and, and_false, true_or, or_true, or_false, false_or, not_true_eq_false, not_false_eq_true, zarr, ne_eq, hK1, e2', mo_in (show 1 ≤ d by omega), i64_toInt, zlit64, e6, e7]
    · have e3 := q_isVerdict_f (d := d) (M := M) (by omega) hy
      refine ⟨-1, M, M, ?_, ?_, hi⟩
      · clear h
        simp (disch := omega) only [il, nI_add, nI_mul, nI_sub, nI_div, nI_rem, nI_N, i32_lt, i32_le, nI_toInt, nI_subI, nI_clamp, zinT, zifT, iteT, iteF, zQ, zS, zkc, zI_sI, zL_sL, zI_wI, zL_wL, Nat.reduceEqDiff, Nat.reduceAdd, Nat.reduceMul, Nat.reduceLT, Nat.reduceLeDiff, reduceIte, eq_self, and_self, true_and, and_true, false_and, and_false, true_or, or_true, or_false, false_or, not_true_eq_false, not_false_eq_true, zarr, ne_eq, hkk, e1, e3]
      · clear h
        simp (disch := omega) only [il, nI_add, nI_mul, nI_sub, nI_div, nI_rem, nI_N, i32_lt, i32_le, nI_toInt, nI_subI, nI_clamp, zinT, zifT, iteT, iteF, zQ, zS, zkc, zI_sI, zL_sL, zI_wI, zL_wL, Nat.reduceEqDiff, Nat.reduceAdd, Nat.reduceMul, Nat.reduceLT, Nat.reduceLeDiff, reduceIte, eq_self, and_self, true_and, and_true, false_and, and_false, true_or, or_true, or_false, false_or, not_true_eq_false, not_false_eq_true, zarr, ne_eq, hkk, e2, mo_in (show 1 ≤ d by omega), i64_toInt, zlit64]
  · have e1 := q_isPromise_f (d := d) (by omega) h.1 hP hp2 hx
    have e2 := m_isPromise_f (d := d) (by omega) h.1 hP hp3 hx
    refine ⟨-1, M, M, ?_, ?_, hi⟩
    · clear h
      simp (disch := omega) only [il, nI_add, nI_mul, nI_sub, nI_div, nI_rem, nI_N, i32_lt, i32_le, nI_toInt, nI_subI, nI_clamp, zinT, zifT, iteT, iteF, zQ, zS, zkc, zI_sI, zL_sL, zI_wI, zL_wL, Nat.reduceEqDiff, Nat.reduceAdd, Nat.reduceMul, Nat.reduceLT, Nat.reduceLeDiff, reduceIte, eq_self, and_self, true_and, and_true, false_and, and_false, true_or, or_true, or_false, false_or, not_true_eq_false, not_false_eq_true, zarr, ne_eq, hkk, e1]
    · clear h
      simp (disch := omega) only [il, nI_add, nI_mul, nI_sub, nI_div, nI_rem, nI_N, i32_lt, i32_le, nI_toInt, nI_subI, nI_clamp, zinT, zifT, iteT, iteF, zQ, zS, zkc, zI_sI, zL_sL, zI_wI, zL_wL, Nat.reduceEqDiff, Nat.reduceAdd, Nat.reduceMul, Nat.reduceLT, Nat.reduceLeDiff, reduceIte, eq_self, and_self, true_and, and_true, false_and, and_false, true_or, or_true, or_false, false_or, not_true_eq_false, not_false_eq_true, zarr, ne_eq, hkk, e2]
