/-! rule -/
def sumN (f : Nat → Nat) : Nat → Nat
  | 0 => 0
  | n + 1 => sumN f n + f n
theorem wa_allDuties {d a t : Nat} {M : zM} {A : Sq} {tr : Nat → Nat} (hd : 2 ≤ d) (hw : zWat M a) (h8 : zI M a 8 = nI t) (ht : t ≤ 48) (hf : ∀ i, i < t → cnt (zb (zL M (a + 4) i)) 64 = nDut A tr t i) : zV d n_Wa_allDuties [.ref a] M = some (some (.int (nI (sumN (nDut A tr t) t))), M) := by
  obtain ⟨d, rfl, hd1⟩ := zdep hd
  obtain ⟨w0, w1, w2, w3, w4, w5, w6, r0, r1, r2, r3, r4, r5⟩ := hw
  rw [ze_Wa_allDuties]
  unfold zx_Wa_allDuties
  have key := zloop (n := t) (g := fun k => zG d n_Wa_allDuties 4 [some (.ref a), some (.int (nI (sumN (nDut A tr t) k))), some (.int (nI k))] [] M) (by
    intro k hk
    show zG d n_Wa_allDuties 4 [some (.ref a), some (.int (nI (sumN (nDut A tr t) k))), some (.int (nI k))] [] M = zG d n_Wa_allDuties 4 [some (.ref a), some (.int (nI (sumN (nDut A tr t) k + nDut A tr t k))), some (.int (nI (k + 1)))] [] M
    rw [zg_Wa_allDuties_4]
    unfold zx_Wa_allDuties_4
    have h1 := hf k hk
    clear hf
    simp (disch := omega) only [il, nI_add, nI_mul, nI_sub, nI_div, nI_rem, nI_N, i32_lt, i32_le, nI_toInt, nI_subI, nI_clamp, zinT, zifT, iteT, iteF, zQ, zS, zkc, zI_sI, zL_sL, zI_wI, zL_wL, Nat.reduceEqDiff, Nat.reduceAdd, Nat.reduceMul, Nat.reduceLT, Nat.reduceLeDiff, reduceIte, eq_self, and_self, true_and, and_true, false_and, and_false, true_or, or_true, or_false, false_or, not_true_eq_false, not_false_eq_true, zarr, ne_eq, w0, w4, r3, h8, jl_bitCount hd1, h1])
  refine Eq.trans key ?_
  show zG d n_Wa_allDuties 4 [some (.ref a), some (.int (nI (sumN (nDut A tr t) t))), some (.int (nI t))] [] M = _
  rw [zg_Wa_allDuties_4]
  unfold zx_Wa_allDuties_4
  simp (disch := omega) only [il, nI_add, nI_mul, nI_sub, nI_div, nI_rem, nI_N, i32_lt, i32_le, nI_toInt, nI_subI, nI_clamp, zinT, zifT, iteT, iteF, zQ, zS, zkc, zI_sI, zL_sL, zI_wI, zL_wL, Nat.reduceEqDiff, Nat.reduceAdd, Nat.reduceMul, Nat.reduceLT, Nat.reduceLeDiff, reduceIte, eq_self, and_self, true_and, and_true, false_and, and_false, true_or, or_true, or_false, false_or, not_true_eq_false, not_false_eq_true, zarr, ne_eq, w0, h8]
/-- what a promise adds -/
noncomputable def adds (D : Nat → Pd) (tr : Nat → Nat) (t what p : Nat) : Nat := if what = 7 then sumN (nDut (D p).1 tr t) t else cnt (fun i => decide ((VD D tr t p i).1 = what - 2)) t
theorem pt_rule_loop {D : Nat → Pd} {d L w n t P x : Nat} {tr : Nat → Nat} {M : zM} (hd : 6 ≤ d) (h : IV D L w n t P tr M) (hx : 2 ≤ x) (hx7 : x < 8) : ∃ M', zG d n_PT_rule 38 [some (.ref 2), some (.int (nI x)), some (.int (nI 0)), some (.int (nI 0)), none] [] M = some (some (.int (nI (sumN (adds D tr t x) P))), M') ∧ IV D L w n t P tr M' := by
  have hP := h.2.2.2.2.2.2.2.1
  have ht := h.2.2.2.2.1.1
  obtain ⟨M', e, f1⟩ := zloopE (n := P) (g := fun p M1 => zG d n_PT_rule 38 [some (.ref 2), some (.int (nI x)), some (.int (nI (sumN (adds D tr t x) p))), some (.int (nI p)), none] [] M1) (P := fun p M1 => IV D L w n t P tr M1) (by
    intro p M1 hp f1
    obtain ⟨M2, e4, h1, hW⟩ := pt_watchOf (d := d) (by omega) f1 hp
    have hwt := zWat_of h1.1 (show p < 4 by omega)
    have w0 := hwt.1
    have hK : zK M1 2 = (10, 12) := by rw [f1.1.2.1]; rfl
    have p2 := f1.2.2.2.2.2.2.2.2.1
    refine ⟨M2, ?_, h1⟩
    show zG d n_PT_rule 38 [some (.ref 2), some (.int (nI x)), some (.int (nI (sumN (adds D tr t x) p))), some (.int (nI p)), none] [] M1 = zG d n_PT_rule 38 [some (.ref 2), some (.int (nI x)), some (.int (nI (sumN (adds D tr t x) p + adds D tr t x p))), some (.int (nI (p + 1))), none] [] M2
    rw [zg_PT_rule_38]
    unfold zx_PT_rule_38
    by_cases h7 : x = 7
    · subst h7
      have e5 := wa_allDuties (d := d) (A := (D p).1) (tr := tr) (by omega) hwt hW.1 ht (fun i hi => nDut_class ht (fun u hu => hW.2.2.1 i u hi hu))
      have e6 : adds D tr t 7 p = sumN (nDut (D p).1 tr t) t := if_pos rfl
      rw [e6]
      clear f1 h1 hW h
      simp (disch := omega) only [il, nI_add, nI_mul, nI_sub, nI_div, nI_rem, nI_N, i32_lt, i32_le, nI_toInt, nI_subI, nI_clamp, zinT, zifT, iteT, iteF, zQ, zS, zkc, zI_sI, zL_sL, zI_wI, zL_wL, Nat.reduceEqDiff, Nat.reduceAdd, Nat.reduceMul, Nat.reduceLT, Nat.reduceLeDiff, reduceIte, eq_self, and_self, true_and, and_true, false_and, and_false, true_or, or_true, or_false, false_or, not_true_eq_false, not_false_eq_true, zarr, ne_eq, hK, p2, e4, w0, e5]
    · have e5 := wa_howMany (d := d) (v := x - 2) (f := fun i => (VD D tr t p i).1) (by omega) hwt hW.1 ht (by omega) (fun i hi => ⟨(wat_v h1 hp hW hi).1, VD_le⟩)
      have e6 : adds D tr t x p = cnt (fun i => decide ((VD D tr t p i).1 = x - 2)) t := if_neg h7
      rw [e6]
      clear f1 h1 hW h
      simp (disch := omega) only [il, nI_add, nI_mul, nI_sub, nI_div, nI_rem, nI_N, i32_lt, i32_le, nI_toInt, nI_subI, nI_clamp, zinT, zifT, iteT, iteF, zQ, zS, zkc, zI_sI, zL_sL, zI_wI, zL_wL, Nat.reduceEqDiff, Nat.reduceAdd, Nat.reduceMul, Nat.reduceLT, Nat.reduceLeDiff, reduceIte, eq_self, and_self, true_and, and_true, false_and, and_false, true_or, or_true, or_false, false_or, not_true_eq_false, not_false_eq_true, zarr, ne_eq, hK, p2, e4, w0, e5]) (s0 := M) h
  refine ⟨M', ?_, f1⟩
  refine Eq.trans e ?_
  show zG d n_PT_rule 38 [some (.ref 2), some (.int (nI x)), some (.int (nI (sumN (adds D tr t x) P))), some (.int (nI P)), none] [] M' = _
  rw [zg_PT_rule_38]
  unfold zx_PT_rule_38
  have hK : zK M' 2 = (10, 12) := by rw [f1.1.2.1]; rfl
  have p2 := f1.2.2.2.2.2.2.2.2.1
  clear f1 h
  simp (disch := omega) only [il, nI_add, nI_mul, nI_sub, nI_div, nI_rem, nI_N, i32_lt, i32_le, nI_toInt, nI_subI, nI_clamp, zinT, zifT, iteT, iteF, zQ, zS, zkc, zI_sI, zL_sL, zI_wI, zL_wL, Nat.reduceEqDiff, Nat.reduceAdd, Nat.reduceMul, Nat.reduceLT, Nat.reduceLeDiff, reduceIte, eq_self, and_self, true_and, and_true, false_and, and_false, true_or, or_true, or_false, false_or, not_true_eq_false, not_false_eq_true, zarr, ne_eq, hK, p2]
theorem m_allTries {D : Nat → Pd} {d L w n t P x : Nat} {tr : Nat → Nat} {M : zM} (hd : 7 ≤ d) (h : IV D L w n t P tr M) (hx : 2 ≤ x) (hx7 : x < 7) : ∃ M', zV d n_Mo_allTries [.ref 146, .int (nI (x - 2))] M = some (some (.int (nI (sumN (adds D tr t x) P))), M') ∧ IV D L w n t P tr M' := by
  obtain ⟨d, rfl, hd1⟩ := zdep hd
  have hP := h.2.2.2.2.2.2.2.1
  obtain ⟨M', e, f1⟩ := zloopE (n := P) (g := fun p M1 => zG d n_Mo_allTries 4 [some (.ref 146), some (.int (nI (x - 2))), some (.int (nI (sumN (adds D tr t x) p))), some (.int (nI p))] [] M1) (P := fun p M1 => IV D L w n t P tr M1) (by
    intro p M1 hp f1
    obtain ⟨M2, e6, h2⟩ := m_triesOf (d := d) (by omega) f1 hp (show x - 2 < 2 ^ 31 by omega)
    have e7 : adds D tr t x p = cnt (fun i => decide ((VD D tr t p i).1 = x - 2)) t := if_neg (by omega)
    have hK : zK M1 146 = (11, 52) := by rw [f1.1.2.1]; rfl
    have p3 := f1.2.2.2.2.2.2.2.2.2.1
    refine ⟨M2, ?_, h2⟩
    show zG d n_Mo_allTries 4 [some (.ref 146), some (.int (nI (x - 2))), some (.int (nI (sumN (adds D tr t x) p))), some (.int (nI p))] [] M1 = zG d n_Mo_allTries 4 [some (.ref 146), some (.int (nI (x - 2))), some (.int (nI (sumN (adds D tr t x) p + adds D tr t x p))), some (.int (nI (p + 1)))] [] M2
    rw [zg_Mo_allTries_4]
    unfold zx_Mo_allTries_4
    rw [e7]
    clear f1 h2 h
    simp (disch := omega) only [il, nI_add, nI_mul, nI_sub, nI_div, nI_rem, nI_N, i32_lt, i32_le, nI_toInt, nI_subI, nI_clamp, zinT, zifT, iteT, iteF, zQ, zS, zkc, zI_sI, zL_sL, zI_wI, zL_wL, Nat.reduceEqDiff, Nat.reduceAdd, Nat.reduceMul, Nat.reduceLT, Nat.reduceLeDiff, reduceIte, eq_self, and_self, true_and, and_true, false_and, and_false, true_or, or_true, or_false, false_or, not_true_eq_false, not_false_eq_true, zarr, ne_eq, hK, p3, e6]) (s0 := M) h
  refine ⟨M', ?_, f1⟩
  rw [ze_Mo_allTries]
  unfold zx_Mo_allTries
  refine Eq.trans e ?_
  show zG d n_Mo_allTries 4 [some (.ref 146), some (.int (nI (x - 2))), some (.int (nI (sumN (adds D tr t x) P))), some (.int (nI P))] [] M' = _
  rw [zg_Mo_allTries_4]
  unfold zx_Mo_allTries_4
  have hK : zK M' 146 = (11, 52) := by rw [f1.1.2.1]; rfl
  have p3 := f1.2.2.2.2.2.2.2.2.2.1
  clear f1 h e
  simp (disch := omega) only [il, nI_add, nI_mul, nI_sub, nI_div, nI_rem, nI_N, i32_lt, i32_le, nI_toInt, nI_subI, nI_clamp, zinT, zifT, iteT, iteF, zQ, zS, zkc, zI_sI, zL_sL, zI_wI, zL_wL, Nat.reduceEqDiff, Nat.reduceAdd, Nat.reduceMul, Nat.reduceLT, Nat.reduceLeDiff, reduceIte, eq_self, and_self, true_and, and_true, false_and, and_false, true_or, or_true, or_false, false_or, not_true_eq_false, not_false_eq_true, zarr, ne_eq, hK, p3]
theorem m_allDuties {D : Nat → Pd} {d L w n t P : Nat} {tr : Nat → Nat} {M : zM} (hd : 6 ≤ d) (h : IV D L w n t P tr M) : ∃ M', zV d n_Mo_allDuties [.ref 146] M = some (some (.int (nI (sumN (adds D tr t 7) P))), M') ∧ IV D L w n t P tr M' := by
  obtain ⟨d, rfl, hd1⟩ := zdep hd
  have hP := h.2.2.2.2.2.2.2.1
  have ht := h.2.2.2.2.1.1
  obtain ⟨M', e, f1⟩ := zloopE (n := P) (g := fun p M1 => zG d n_Mo_allDuties 4 [some (.ref 146), some (.int (nI (sumN (adds D tr t 7) p))), some (.int (nI p)), none] [] M1) (P := fun p M1 => IV D L w n t P tr M1) (by
    intro p M1 hp f1
    obtain ⟨M2, n0, n1, C0, C1, e1, h1, hE⟩ := m_ready (d := d) (by omega) f1 hp
    obtain ⟨M3, e3, g1, g2⟩ := zloopE (n := t) (g := fun k M1 => zG d n_Mo_allDuties 19 [some (.ref 146), some (.int (nI (sumN (adds D tr t 7) p + sumN (nDut (D p).1 tr t) k))), some (.int (nI p)), some (.int (nI k))] [] M1) (P := fun k M1 => IV D L w n t P tr M1 ∧ ME (D p).1 (D p).2.1 (D p).2.2.1 (D p).2.2.2.1 (D p).2.2.2.2 p t tr n0 n1 C0 C1 M1) (by
      intro k M4 hk ⟨q1, q2⟩
      obtain ⟨M5, wk, e5, s1, s2, s3, -, -⟩ := m_each (d := d) hd1 q1 q2 hk
      have e6 := m_dutiesFrom (d := d) (by omega) s1.1 ht s1.2.2.2.2.1.2.2.1 hk s3
      have hK : zK M4 146 = (11, 52) := by rw [q1.1.2.1]; rfl
      have hK155 : zK M4 155 = (20, 49) := by rw [q1.1.2.1]; rfl
      have hK5 : zK M5 146 = (11, 52) := by rw [s1.1.2.1]; rfl
      have hMo := q1.1.2.2.2.1
      have t3 := q1.2.2.2.2.1.2.2.1
      refine ⟨M5, ?_, s1, s2⟩
      show zG d n_Mo_allDuties 19 [some (.ref 146), some (.int (nI (sumN (adds D tr t 7) p + sumN (nDut (D p).1 tr t) k))), some (.int (nI p)), some (.int (nI k))] [] M4 = zG d n_Mo_allDuties 19 [some (.ref 146), some (.int (nI (sumN (adds D tr t 7) p + (sumN (nDut (D p).1 tr t) k + nDut (D p).1 tr t k)))), some (.int (nI p)), some (.int (nI (k + 1)))] [] M5
      rw [zg_Mo_allDuties_19]
      unfold zx_Mo_allDuties_19
      clear q1 q2 s1 s2 s3 h h1 hE f1
      simp (disch := omega) only [il, nI_add, nI_mul, nI_sub, nI_div, nI_rem, nI_N, i32_lt, i32_le, nI_toInt, nI_subI, nI_clamp, zinT, zifT, iteT, iteF, zQ, zS, zkc, zI_sI, zL_sL, zI_wI, zL_wL, Nat.reduceEqDiff, Nat.reduceAdd, Nat.reduceMul, Nat.reduceLT, Nat.reduceLeDiff, reduceIte, eq_self, and_self, true_and, and_true, false_and, and_false, true_or, or_true, or_false, false_or, not_true_eq_false, not_false_eq_true, zarr, ne_eq, hK, hK155, hK5, hMo, t3, e5, e6, Nat.add_assoc]) (s0 := M2) ⟨h1, hE⟩
    refine ⟨M3, ?_, g1⟩
    show zG d n_Mo_allDuties 4 [some (.ref 146), some (.int (nI (sumN (adds D tr t 7) p))), some (.int (nI p)), none] [] M1 = zG d n_Mo_allDuties 4 [some (.ref 146), some (.int (nI (sumN (adds D tr t 7) p + adds D tr t 7 p))), some (.int (nI (p + 1))), none] [] M3
    have e7 : adds D tr t 7 p = sumN (nDut (D p).1 tr t) t := if_pos rfl
    have e8 : zG d n_Mo_allDuties 19 [some (.ref 146), some (.int (nI (sumN (adds D tr t 7) p + sumN (nDut (D p).1 tr t) t))), some (.int (nI p)), some (.int (nI t))] [] M3 = zG d n_Mo_allDuties 4 [some (.ref 146), some (.int (nI (sumN (adds D tr t 7) p + sumN (nDut (D p).1 tr t) t))), some (.int (nI (p + 1))), none] [] M3 := by
      have hK := g1.1.2.1
      have hMo := g1.1.2.2.2.1
      have t3 := g1.2.2.2.2.1.2.2.1
      rw [zg_Mo_allDuties_19]
      unfold zx_Mo_allDuties_19
      clear g1 g2 h h1 hE f1 e3
      simp (disch := omega) only [il, nI_add, nI_mul, nI_sub, nI_div, nI_rem, nI_N, i32_lt, i32_le, nI_toInt, nI_subI, nI_clamp, zinT, zifT, iteT, iteF, zQ, zS, zkc, zI_sI, zL_sL, zI_wI, zL_wL, Nat.reduceEqDiff, Nat.reduceAdd, Nat.reduceMul, Nat.reduceLT, Nat.reduceLeDiff, reduceIte, eq_self, and_self, true_and, and_true, false_and, and_false, true_or, or_true, or_false, false_or, not_true_eq_false, not_false_eq_true, zarr, ne_eq, hK, hMo, t3]
    rw [e7, ← e8, ← e3]
    have hK : zK M1 146 = (11, 52) := by rw [f1.1.2.1]; rfl
    have p3 := f1.2.2.2.2.2.2.2.2.2.1
    rw [zg_Mo_allDuties_4]
    unfold zx_Mo_allDuties_4
    clear g1 g2 h h1 hE f1 e3 e8
    simp (disch := omega) only [il, nI_add, nI_mul, nI_sub, nI_div, nI_rem, nI_N, i32_lt, i32_le, nI_toInt, nI_subI, nI_clamp, zinT, zifT, iteT, iteF, zQ, zS, zkc, zI_sI, zL_sL, zI_wI, zL_wL, Nat.reduceEqDiff, Nat.reduceAdd, Nat.reduceMul, Nat.reduceLT, Nat.reduceLeDiff, reduceIte, eq_self, and_self, true_and, and_true, false_and, and_false, true_or, or_true, or_false, false_or, not_true_eq_false, not_false_eq_true, zarr, ne_eq, hK, p3, e1]
    rfl) (s0 := M) h
  refine ⟨M', ?_, f1⟩
  rw [ze_Mo_allDuties]
  unfold zx_Mo_allDuties
  refine Eq.trans e ?_
  show zG d n_Mo_allDuties 4 [some (.ref 146), some (.int (nI (sumN (adds D tr t 7) P))), some (.int (nI P)), none] [] M' = _
  rw [zg_Mo_allDuties_4]
  unfold zx_Mo_allDuties_4
  have hK : zK M' 146 = (11, 52) := by rw [f1.1.2.1]; rfl
  have p3 := f1.2.2.2.2.2.2.2.2.2.1
  clear f1 h e
  simp (disch := omega) only [il, nI_add, nI_mul, nI_sub, nI_div, nI_rem, nI_N, i32_lt, i32_le, nI_toInt, nI_subI, nI_clamp, zinT, zifT, iteT, iteF, zQ, zS, zkc, zI_sI, zL_sL, zI_wI, zL_wL, Nat.reduceEqDiff, Nat.reduceAdd, Nat.reduceMul, Nat.reduceLT, Nat.reduceLeDiff, reduceIte, eq_self, and_self, true_and, and_true, false_and, and_false, true_or, or_true, or_false, false_or, not_true_eq_false, not_false_eq_true, zarr, ne_eq, hK, p3]
theorem st_rule {d L : Nat} {M : zM} (hd : 8 ≤ d) (hi : Inv L M) (x : Int32) : Cal d n_PT_rule n_Mo_rule L [.int x] M := by
  obtain ⟨D, w, n, t, P, tr, h⟩ := IV_of hi
  have hP := h.2.2.2.2.2.2.2.1
  have ht := h.2.2.2.2.1.1
  obtain ⟨d, rfl, hd1⟩ := zdep hd
  unfold Cal
  rw [ze_PT_rule]
  simp only [ze_Mo_rule]
  unfold zx_PT_rule zx_Mo_rule
  have hK := h.1.2.1
  have hkk := zkc L; rw [← hK] at hkk
  have hC := h.1.2.2.1
  have hMo := h.1.2.2.2.1
  have hp2 := h.2.2.2.2.2.2.2.2.1
  have hp3 := h.2.2.2.2.2.2.2.2.2.1
  have t2 := h.2.2.2.2.1.2.1
  have t3 := h.2.2.2.2.1.2.2.1
  rcases i_cases x 8 (by omega) with ⟨v, hv, rfl⟩ | hx
  · by_cases h0 : v = 0
    · subst h0
      refine ⟨nI P, M, M, ?_, ?_, hi⟩
      · clear h
        simp (disch := omega) only [il, nI_add, nI_mul, nI_sub, nI_div, nI_rem, nI_N, i32_lt, i32_le, nI_toInt, nI_subI, nI_clamp, zinT, zifT, iteT, iteF, zQ, zS, zkc, zI_sI, zL_sL, zI_wI, zL_wL, Nat.reduceEqDiff, Nat.reduceAdd, Nat.reduceMul, Nat.reduceLT, Nat.reduceLeDiff, reduceIte, eq_self, and_self, true_and, and_true, false_and, and_false, true_or, or_true, or_false, false_or, not_true_eq_false, not_false_eq_true, zarr, ne_eq, hkk, hp2]
      · clear h
        simp (disch := omega) only [il, nI_add, nI_mul, nI_sub, nI_div, nI_rem, nI_N, i32_lt, i32_le, nI_toInt, nI_subI, nI_clamp, zinT, zifT, iteT, iteF, zQ, zS, zkc, zI_sI, zL_sL, zI_wI, zL_wL, Nat.reduceEqDiff, Nat.reduceAdd, Nat.reduceMul, Nat.reduceLT, Nat.reduceLeDiff, reduceIte, eq_self, and_self, true_and, and_true, false_and, and_false, true_or, or_true, or_false, false_or, not_true_eq_false, not_false_eq_true, zarr, ne_eq, hkk, hp3, mo_in (show 1 ≤ d by omega), i64_toInt, zlit64]
    · by_cases h1 : v = 1
      · subst h1
        refine ⟨nI t, M, M, ?_, ?_, hi⟩
        · clear h
          simp (disch := omega) only [il, nI_add, nI_mul, nI_sub, nI_div, nI_rem, nI_N, i32_lt, i32_le, nI_toInt, nI_subI, nI_clamp, zinT, zifT, iteT, iteF, zQ, zS, zkc, zI_sI, zL_sL, zI_wI, zL_wL, Nat.reduceEqDiff, Nat.reduceAdd, Nat.reduceMul, Nat.reduceLT, Nat.reduceLeDiff, reduceIte, eq_self, and_self, true_and, and_true, false_and, and_false, true_or, or_true, or_false, false_or, not_true_eq_false, not_false_eq_true, zarr, ne_eq, hkk, hC, t2]
        · clear h
          simp (disch := omega) only [il, nI_add, nI_mul, nI_sub, nI_div, nI_rem, nI_N, i32_lt, i32_le, nI_toInt, nI_subI, nI_clamp, zinT, zifT, iteT, iteF, zQ, zS, zkc, zI_sI, zL_sL, zI_wI, zL_wL, Nat.reduceEqDiff, Nat.reduceAdd, Nat.reduceMul, Nat.reduceLT, Nat.reduceLeDiff, reduceIte, eq_self, and_self, true_and, and_true, false_and, and_false, true_or, or_true, or_false, false_or, not_true_eq_false, not_false_eq_true, zarr, ne_eq, hkk, hMo, t3, mo_in (show 1 ≤ d by omega), i64_toInt, zlit64]
      · obtain ⟨M1, e1, g1⟩ := pt_rule_loop (d := d) (x := v) (by omega) h (by omega) hv
        have hK1 : zK M1 146 = (11, 52) := by rw [g1.1.2.1]; rfl
        by_cases h7 : v = 7
        · subst h7
          obtain ⟨M2, e2, g2⟩ := m_allDuties (d := d) (by omega) g1
          refine ⟨nI (sumN (adds D tr t 7) P), M1, M2, ?_, ?_, g2.inv⟩
          · clear h g1 g2
            simp (disch := omega) only [il, nI_add, nI_mul, nI_sub, nI_div, nI_rem, nI_N, i32_lt, i32_le, nI_toInt, nI_subI, nI_clamp, zinT, zifT, iteT, iteF, zQ, zS, zkc, zI_sI, zL_sL, zI_wI, zL_wL, Nat.reduceEqDiff, Nat.reduceAdd, Nat.reduceMul, Nat.reduceLT, Nat.reduceLeDiff, reduceIte, eq_self, and_self, true_and, and_true, false_and, and_false, true_or, or_true, or_false, false_or, not_true_eq_false, not_false_eq_true, zarr, ne_eq, e1]
          · clear h g1 g2
            simp (disch := omega) only [il, nI_add, nI_mul, nI_sub, nI_div, nI_rem, nI_N, i32_lt, i32_le, nI_toInt, nI_subI, nI_clamp, zinT, zifT, iteT, iteF, zQ, zS, zkc, zI_sI, zL_sL, zI_wI, zL_wL, Nat.reduceEqDiff, Nat.reduceAdd, Nat.reduceMul, Nat.reduceLT, Nat.reduceLeDiff, reduceIte, eq_self, and_self, true_and, and_true, false_and, and_false, true_or, or_true, or_false, false_or, not_true_eq_false, not_false_eq_true, zarr, ne_eq, hK1, e2, mo_in (show 1 ≤ d by omega), i64_toInt, zlit64]
        · obtain ⟨M2, e2, g2⟩ := m_allTries (d := d) (x := v) (by omega) g1 (by omega) (by omega)
          refine ⟨nI (sumN (adds D tr t v) P), M1, M2, ?_, ?_, g2.inv⟩
          · clear h g1 g2
            simp (disch := omega) only [il, nI_add, nI_mul, nI_sub, nI_div, nI_rem, nI_N, i32_lt, i32_le, nI_toInt, nI_subI, nI_clamp, zinT, zifT, iteT, iteF, zQ, zS, zkc, zI_sI, zL_sL, zI_wI, zL_wL, Nat.reduceEqDiff, Nat.reduceAdd, Nat.reduceMul, Nat.reduceLT, Nat.reduceLeDiff, reduceIte, eq_self, and_self, true_and, and_true, false_and, and_false, true_or, or_true, or_false, false_or, not_true_eq_false, not_false_eq_true, zarr, ne_eq, e1]
          · clear h g1 g2
            simp (disch := omega) only [il, nI_add, nI_mul, nI_sub, nI_div, nI_rem, nI_N, i32_lt, i32_le, nI_toInt, nI_subI, nI_clamp, zinT, zifT, iteT, iteF, zQ, zS, zkc, zI_sI, zL_sL, zI_wI, zL_wL, Nat.reduceEqDiff, Nat.reduceAdd, Nat.reduceMul, Nat.reduceLT, Nat.reduceLeDiff, reduceIte, eq_self, and_self, true_and, and_true, false_and, and_false, true_or, or_true, or_false, false_or, not_true_eq_false, not_false_eq_true, zarr, ne_eq, hK1, e2, mo_in (show 1 ≤ d by omega), i64_toInt, zlit64]
  · refine ⟨-1, M, M, ?_, ?_, hi⟩
    · clear h
      by_cases hx0 : x.toInt < 0
      · simp (disch := omega) only [il, nI_add, nI_mul, nI_sub, nI_div, nI_rem, nI_N, i32_lt, i32_le, nI_toInt, nI_subI, nI_clamp, zinT, zifT, iteT, iteF, zQ, zS, zkc, zI_sI, zL_sL, zI_wI, zL_wL, Nat.reduceEqDiff, Nat.reduceAdd, Nat.reduceMul, Nat.reduceLT, Nat.reduceLeDiff, reduceIte, eq_self, and_self, true_and, and_true, false_and, and_false, true_or, or_true, or_false, false_or, not_true_eq_false, not_false_eq_true, zarr, ne_eq, hkk]
      · simp (disch := omega) only [il, nI_add, nI_mul, nI_sub, nI_div, nI_rem, nI_N, i32_lt, i32_le, nI_toInt, nI_subI, nI_clamp, zinT, zifT, iteT, iteF, zQ, zS, zkc, zI_sI, zL_sL, zI_wI, zL_wL, Nat.reduceEqDiff, Nat.reduceAdd, Nat.reduceMul, Nat.reduceLT, Nat.reduceLeDiff, reduceIte, eq_self, and_self, true_and, and_true, false_and, and_false, true_or, or_true, or_false, false_or, not_true_eq_false, not_false_eq_true, zarr, ne_eq, hkk]
    · clear h
      simp (disch := omega) only [il, nI_add, nI_mul, nI_sub, nI_div, nI_rem, nI_N, i32_lt, i32_le, nI_toInt, nI_subI, nI_clamp, zinT, zifT, iteT, iteF, zQ, zS, zkc, zI_sI, zL_sL, zI_wI, zL_wL, Nat.reduceEqDiff, Nat.reduceAdd, Nat.reduceMul, Nat.reduceLT, Nat.reduceLeDiff, reduceIte, eq_self, and_self, true_and, and_true, false_and, and_false, true_or, or_true, or_false, false_or, not_true_eq_false, not_false_eq_true, zarr, ne_eq, hkk, mo_in (show 1 ≤ d by omega), i64_toInt, zlit64]
