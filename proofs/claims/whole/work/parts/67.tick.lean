/-! tick -/
def CV (D : Nat → Pd) (L w t P : Nat) (tr : Nat → Nat) (M : zM) : Prop :=
  zSh L w M ∧ (t ≤ 48 ∧ zI M 19 1 = nI t ∧ ∀ i, i < t → tr i < 256 ∧ zI M 20 i = nI (tr i)) ∧ (P ≤ 4 ∧ zI M 2 9 = nI P) ∧
  ∀ p, p < P → ∃ k, k ≤ t ∧ SeqC (D p).1 M (26 + 10 * w + 27 * p + 1) ∧ SeqC (D p).2.1 M (26 + 10 * w + 27 * p + 5) ∧ ¬ (D p).2.1.acc [] ∧ (D p).2.2.1 < 2 ∧ (D p).2.2.2.1 < 2 ∧ zI M (26 + 10 * w + 27 * p) 4 = nI (D p).2.2.1 ∧ zI M (26 + 10 * w + 27 * p) 3 = nI (D p).2.2.2.1 ∧ iWat (D p).1 (D p).2.1 (D p).2.2.1 (D p).2.2.2.1 tr M (46 + 27 * p) (26 + 10 * w + 27 * p) k ∧ pOff (D p).2.2.2.1 (zL M (26 + 10 * w + 27 * p + 9)) = (D p).2.2.2.2
theorem pt_watchOf_c {D : Nat → Pd} {d L w t P p : Nat} {tr : Nat → Nat} {M : zM} (hd : 6 ≤ d) (h : CV D L w t P tr M) (hp : p < P) : ∃ M', zV d n_PT_watchOf [.ref 2, .int (nI p)] M = some (some (.ref (46 + 27 * p)), M') ∧ CV D L w t P tr M' ∧ fO (46 + 27 * p) M M' ∧ iWat (D p).1 (D p).2.1 (D p).2.2.1 (D p).2.2.2.1 tr M' (46 + 27 * p) (26 + 10 * w + 27 * p) t := by
  obtain ⟨d, rfl, hd1⟩ := zdep hd
  obtain ⟨hs, ⟨t1, t2, t4⟩, ⟨p1, p2⟩, p4⟩ := h
  have hs1 := hs
  obtain ⟨hN, hK, hC, hMo, hF, hw, h7, h8⟩ := hs1
  have hkk := zkc L; rw [← hK] at hkk
  obtain ⟨k, a1, a2, a3, a4, a5, a6, a7, a8, a9, a10⟩ := p4 p hp
  obtain ⟨q1, q2, q3⟩ := told hs (p := p) (by omega)
  have hF1 := hF.1 p (by omega)
  have hW : zWat M (46 + 27 * p) := hF1.2.2.2.2.2.2.1
  have r18 := hF1.2.2.1
  obtain ⟨M', e, f1, f2⟩ := wa_catchUp (d := d) (A := (D p).1) (B := (D p).2.1) (a := 46 + 27 * p) (g := 26 + 10 * w + 27 * p) (k := k) (t := t) (by omega) hW q3 (by omega) (by omega) a2 a3 a4 a7 a5 a8 a6 (by rw [hK]; rfl) (by rw [hK]; rfl) (by simp only [hC]) t1 t2 t4 a1 a9
  have q : ∀ b, b < 46 + 27 * p ∨ 46 + 27 * p + 6 < b → zI M' b = zI M b ∧ zL M' b = zL M b := f1.2.2.2
  have hW0 := hW.1
  refine ⟨M', ?_, ⟨zSh_fr hs f1.1 f1.2.1 f1.2.2.1, ⟨t1, ?_, ?_⟩, ⟨p1, ?_⟩, ?_⟩, f1, f2⟩
  · rw [ze_PT_watchOf]
    unfold zx_PT_watchOf
    clear p4 a2 a3 a4 a9 a10 f1 f2 q t4
    simp (disch := omega) only [il, nI_add, nI_mul, nI_sub, nI_div, nI_rem, nI_N, i32_lt, i32_le, nI_toInt, nI_subI, nI_clamp, zinT, zifT, iteT, iteF, zQ, zS, zkc, zI_sI, zL_sL, zI_wI, zL_wL, Nat.reduceEqDiff, Nat.reduceAdd, Nat.reduceMul, Nat.reduceLT, Nat.reduceLeDiff, reduceIte, eq_self, and_self, true_and, and_true, false_and, and_false, true_or, or_true, or_false, false_or, not_true_eq_false, not_false_eq_true, zarr, ne_eq, hkk, hC, h7, r18, q1, q2, hW0, e]
  · rw [(q 19 (by omega)).1]; exact t2
  · rw [(q 20 (by omega)).1]; exact t4
  · rw [(q 2 (by omega)).1]; exact p2
  · intro p' hp'
    by_cases hpp : p' = p
    · subst hpp
      refine ⟨t, Nat.le_refl t, SeqC_fr a2 (q _ (by omega)).1 (fun b _ _ => (q b (by omega)).2), SeqC_fr a3 (q _ (by omega)).1 (fun b _ _ => (q b (by omega)).2), a4, a5, a6, ?_, ?_, f2, ?_⟩
      · rw [(q _ (by omega)).1]; exact a7
      · rw [(q _ (by omega)).1]; exact a8
      · rw [(q _ (by omega)).2]; exact a10
    · obtain ⟨k', b1, b2, b3, b4, b5, b6, b7, b8, b9, b10⟩ := p4 p' hp'
      refine ⟨k', b1, SeqC_fr b2 (q _ (by omega)).1 (fun b _ _ => (q b (by omega)).2), SeqC_fr b3 (q _ (by omega)).1 (fun b _ _ => (q b (by omega)).2), b4, b5, b6, ?_, ?_, iWat_fr2 b9 (fun b _ _ => q b (by omega)) (fun b _ _ => q b (by omega)), ?_⟩
      · rw [(q _ (by omega)).1]; exact b7
      · rw [(q _ (by omega)).1]; exact b8
      · rw [(q _ (by omega)).2]; exact b10
theorem vd_snd {A B : Sq} {ki t : Nat} {off : Nat → Prop} {tr : Nat → Nat} : ∀ j, (vd A B ki off tr t j).2 ≤ t + j
  | 0 => Nat.le_refl t
  | j + 1 => by
    unfold vd
    by_cases h : (vd A B ki off tr t j).1 = 0
    · rw [cif_t h]; exact Nat.le_refl _
    · rw [cif_f h]; have := vd_snd (A := A) (B := B) (ki := ki) (t := t) (off := off) (tr := tr) j; omega
theorem VD_snd {D : Nat → Pd} {tr : Nat → Nat} {t p i : Nat} (hi : i < t) : (VD D tr t p i).2 < t := by
  have := vd_snd (A := (D p).1) (B := (D p).2.1) (ki := (D p).2.2.1) (t := i) (off := (D p).2.2.2.2) (tr := tr) (t - 1 - i)
  unfold VD
  omega
/-- how many fail by the tick u -/
noncomputable def nFa (D : Nat → Pd) (tr : Nat → Nat) (t u p : Nat) : Nat := cnt (fun i => decide ((VD D tr t p i).1 = 2 ∧ (VD D tr t p i).2 = u)) t
theorem wa_failedBy {d a t u : Nat} {M : zM} {f : Nat → Nat × Nat} (hd : 1 ≤ d) (hw : zWat M a) (h8 : zI M a 8 = nI t) (ht : t ≤ 48) (hu : u < 2 ^ 31) (hf : ∀ i, i < t → zI M (a + 5) i = nI (f i).1 ∧ (f i).1 ≤ 4 ∧ (f i).2 < 2 ^ 31 ∧ ((f i).1 ≠ 0 → zI M (a + 6) i = nI (f i).2)) : zV d n_Wa_failedBy [.ref a, .int (nI u)] M = some (some (.int (nI (cnt (fun i => decide ((f i).1 = 2 ∧ (f i).2 = u)) t))), M) := by
  obtain ⟨d, rfl, hd1⟩ := zdep hd
  obtain ⟨w0, w1, w2, w3, w4, w5, w6, r0, r1, r2, r3, r4, r5⟩ := hw
  rw [ze_Wa_failedBy]
  unfold zx_Wa_failedBy
  have key := zloop (n := t) (g := fun k => zG d n_Wa_failedBy 4 [some (.ref a), some (.int (nI u)), some (.int (nI (cnt (fun i => decide ((f i).1 = 2 ∧ (f i).2 = u)) k))), some (.int (nI k))] [] M) (by
    intro k hk
    show zG d n_Wa_failedBy 4 [some (.ref a), some (.int (nI u)), some (.int (nI (cnt (fun i => decide ((f i).1 = 2 ∧ (f i).2 = u)) k))), some (.int (nI k))] [] M = zG d n_Wa_failedBy 4 [some (.ref a), some (.int (nI u)), some (.int (nI (cnt (fun i => decide ((f i).1 = 2 ∧ (f i).2 = u)) k + (decide ((f k).1 = 2 ∧ (f k).2 = u)).toNat))), some (.int (nI (k + 1)))] [] M
    rw [zg_Wa_failedBy_4]
    unfold zx_Wa_failedBy_4
    obtain ⟨h1, h2, h3, h4⟩ := hf k hk
    clear hf
    by_cases h5 : (f k).1 = 2
    · have h6 := h4 (by omega)
      by_cases h7 : (f k).2 = u
      · rw [decide_eq_true (And.intro h5 h7)]
        rw [h5] at h1
        rw [h7] at h6
        clear h4
        simp (disch := omega) only [il, nI_add, nI_mul, nI_sub, nI_div, nI_rem, nI_N, i32_lt, i32_le, nI_toInt, nI_subI, nI_clamp, zinT, zifT, iteT, iteF, zQ, zS, zkc, zI_sI, zL_sL, zI_wI, zL_wL, Nat.reduceEqDiff, Nat.reduceAdd, Nat.reduceMul, Nat.reduceLT, Nat.reduceLeDiff, reduceIte, eq_self, and_self, true_and, and_true, false_and, and_false, true_or, or_true, or_false, false_or, not_true_eq_false, not_false_eq_true, zarr, ne_eq, w0, w5, w6, r4, r5, h8, h1, h6, Bool.toNat_true]
      · rw [decide_eq_false (fun q => h7 q.2)]
        have h9 : ¬ nI (f k).2 = nI u := by rw [nI_eq h3 hu]; exact h7
        rw [h5] at h1
        clear h4
        simp (disch := omega) only [il, nI_add, nI_mul, nI_sub, nI_div, nI_rem, nI_N, i32_lt, i32_le, nI_toInt, nI_subI, nI_clamp, zinT, zifT, iteT, iteF, zQ, zS, zkc, zI_sI, zL_sL, zI_wI, zL_wL, Nat.reduceEqDiff, Nat.reduceAdd, Nat.reduceMul, Nat.reduceLT, Nat.reduceLeDiff, reduceIte, eq_self, and_self, true_and, and_true, false_and, and_false, true_or, or_true, or_false, false_or, not_true_eq_false, not_false_eq_true, zarr, ne_eq, w0, w5, w6, r4, r5, h8, h1, h6, h9, Bool.toNat_false, Nat.add_zero]
    · rw [decide_eq_false (fun q => h5 q.1)]
      have h9 : ¬ nI (f k).1 = nI 2 := by rw [nI_eq (by omega) (by omega)]; exact h5
      clear h4
      simp (disch := omega) only [il, nI_add, nI_mul, nI_sub, nI_div, nI_rem, nI_N, i32_lt, i32_le, nI_toInt, nI_subI, nI_clamp, zinT, zifT, iteT, iteF, zQ, zS, zkc, zI_sI, zL_sL, zI_wI, zL_wL, Nat.reduceEqDiff, Nat.reduceAdd, Nat.reduceMul, Nat.reduceLT, Nat.reduceLeDiff, reduceIte, eq_self, and_self, true_and, and_true, false_and, and_false, true_or, or_true, or_false, false_or, not_true_eq_false, not_false_eq_true, zarr, ne_eq, w0, w5, w6, r4, r5, h8, h1, h9, Bool.toNat_false, Nat.add_zero])
  refine Eq.trans key ?_
  show zG d n_Wa_failedBy 4 [some (.ref a), some (.int (nI u)), some (.int (nI (cnt (fun i => decide ((f i).1 = 2 ∧ (f i).2 = u)) t))), some (.int (nI t))] [] M = _
  rw [zg_Wa_failedBy_4]
  unfold zx_Wa_failedBy_4
  simp (disch := omega) only [il, nI_add, nI_mul, nI_sub, nI_div, nI_rem, nI_N, i32_lt, i32_le, nI_toInt, nI_subI, nI_clamp, zinT, zifT, iteT, iteF, zQ, zS, zkc, zI_sI, zL_sL, zI_wI, zL_wL, Nat.reduceEqDiff, Nat.reduceAdd, Nat.reduceMul, Nat.reduceLT, Nat.reduceLeDiff, reduceIte, eq_self, and_self, true_and, and_true, false_and, and_false, true_or, or_true, or_false, false_or, not_true_eq_false, not_false_eq_true, zarr, ne_eq, w0, h8]
/-- all but the watches -/
def fK (M M' : zM) : Prop := zN M' = zN M ∧ zK M' = zK M ∧ zR M' = zR M ∧ ∀ b, (∀ p, p < 4 → b < 46 + 27 * p ∨ 46 + 27 * p + 6 < b) → zI M' b = zI M b ∧ zL M' b = zL M b
theorem pt_tick_loop {D : Nat → Pd} {d L w t P : Nat} {tr : Nat → Nat} {M : zM} (hd : 6 ≤ d) (h : CV D L w (t + 1) P tr M) : ∃ M', zG d n_PT_tick 36 [some (.ref 2), none, some (.int (nI 0)), some (.int (nI 0))] [] M = some (some (.int (nI (sumN (nFa D tr (t + 1) t) P))), M') ∧ CV D L w (t + 1) P tr M' ∧ fK M M' := by
  have hP := h.2.2.1.1
  have ht := h.2.1.1
  obtain ⟨M', e, f1, f2⟩ := zloopE (n := P) (g := fun p M1 => zG d n_PT_tick 36 [some (.ref 2), none, some (.int (nI (sumN (nFa D tr (t + 1) t) p))), some (.int (nI p))] [] M1) (P := fun p M1 => CV D L w (t + 1) P tr M1 ∧ fK M M1) (by
    intro p M1 hp ⟨f1, f2⟩
    obtain ⟨M2, e4, h1, h2, hW⟩ := pt_watchOf_c (d := d) (by omega) f1 hp
    have hwt := zWat_of h1.1 (show p < 4 by omega)
    have w0 := hwt.1
    have hK : zK M1 2 = (10, 12) := by rw [f1.1.2.1]; rfl
    have hK2 : zK M2 2 = (10, 12) := by rw [h1.1.2.1]; rfl
    have hK19 : zK M2 19 = (7, 2) := by rw [h1.1.2.1]; rfl
    have hC2 := h1.1.2.2.1
    have p2 := f1.2.2.1.2
    have t2 := h1.2.1.2.1
    obtain ⟨k0, -, -, -, -, -, -, -, -, -, a10⟩ := h1.2.2.2 p hp
    have e5 := wa_failedBy (d := d) (u := t) (f := fun i => VD D tr (t + 1) p i) (by omega) hwt hW.1 ht (by omega) (fun i hi => by
      have := hW.2.2.2.2.2.2 i hi
      rw [a10] at this
      exact ⟨this.1, VD_le, Nat.lt_trans (VD_snd hi) (by omega), this.2⟩)
    refine ⟨M2, ?_, h1, h2.1.trans f2.1, h2.2.1.trans f2.2.1, h2.2.2.1.trans f2.2.2.1, fun b hb => ?_⟩
    · show zG d n_PT_tick 36 [some (.ref 2), none, some (.int (nI (sumN (nFa D tr (t + 1) t) p))), some (.int (nI p))] [] M1 = zG d n_PT_tick 36 [some (.ref 2), none, some (.int (nI (sumN (nFa D tr (t + 1) t) p + nFa D tr (t + 1) t p))), some (.int (nI (p + 1)))] [] M2
      rw [zg_PT_tick_36]
      unfold zx_PT_tick_36 nFa
      clear f1 f2 h h1 h2 hW
      simp (disch := omega) only [il, nI_add, nI_mul, nI_sub, nI_div, nI_rem, nI_N, i32_lt, i32_le, nI_toInt, nI_subI, nI_clamp, zinT, zifT, iteT, iteF, zQ, zS, zkc, zI_sI, zL_sL, zI_wI, zL_wL, Nat.reduceEqDiff, Nat.reduceAdd, Nat.reduceMul, Nat.reduceLT, Nat.reduceLeDiff, reduceIte, eq_self, and_self, true_and, and_true, false_and, and_false, true_or, or_true, or_false, false_or, not_true_eq_false, not_false_eq_true, zarr, ne_eq, hK, hK2, hK19, hC2, p2, t2, e4, w0, Nat.add_sub_cancel, e5]
    · have := h2.2.2.2 b (hb p (by omega))
      exact ⟨this.1.trans (f2.2.2.2 b hb).1, this.2.trans (f2.2.2.2 b hb).2⟩) (s0 := M) ⟨h, rfl, rfl, rfl, fun _ _ => ⟨rfl, rfl⟩⟩
  refine ⟨M', ?_, f1, f2⟩
  refine Eq.trans e ?_
  show zG d n_PT_tick 36 [some (.ref 2), none, some (.int (nI (sumN (nFa D tr (t + 1) t) P))), some (.int (nI P))] [] M' = _
  rw [zg_PT_tick_36]
  unfold zx_PT_tick_36
  have hK : zK M' 2 = (10, 12) := by rw [f1.1.2.1]; rfl
  have p2 := f1.2.2.1.2
  clear f1 f2 h
  simp (disch := omega) only [il, nI_add, nI_mul, nI_sub, nI_div, nI_rem, nI_N, i32_lt, i32_le, nI_toInt, nI_subI, nI_clamp, zinT, zifT, iteT, iteF, zQ, zS, zkc, zI_sI, zL_sL, zI_wI, zL_wL, Nat.reduceEqDiff, Nat.reduceAdd, Nat.reduceMul, Nat.reduceLT, Nat.reduceLeDiff, reduceIte, eq_self, and_self, true_and, and_true, false_and, and_false, true_or, or_true, or_false, false_or, not_true_eq_false, not_false_eq_true, zarr, ne_eq, hK, p2]
theorem m_failedBy {D : Nat → Pd} {d L w n t P : Nat} {tr : Nat → Nat} {M : zM} (hd : 6 ≤ d) (h : IV D L w n (t + 1) P tr M) : ∃ M', zV d n_Mo_failedBy [.ref 146, .int (nI t)] M = some (some (.int (nI (sumN (nFa D tr (t + 1) t) P))), M') ∧ IV D L w n (t + 1) P tr M' := by
  obtain ⟨d, rfl, hd1⟩ := zdep hd
  have hP := h.2.2.2.2.2.2.2.1
  have ht := h.2.2.2.2.1.1
  obtain ⟨M', e, f1⟩ := zloopE (n := P) (g := fun p M1 => zG d n_Mo_failedBy 4 [some (.ref 146), some (.int (nI t)), some (.int (nI (sumN (nFa D tr (t + 1) t) p))), some (.int (nI p)), none] [] M1) (P := fun p M1 => IV D L w n (t + 1) P tr M1) (by
    intro p M1 hp f1
    obtain ⟨M2, n0, n1, C0, C1, e1, h1, hE⟩ := m_ready (d := d) (by omega) f1 hp
    obtain ⟨M3, e3, g1, g2⟩ := zloopE (n := t + 1) (g := fun k M1 => zG d n_Mo_failedBy 20 [some (.ref 146), some (.int (nI t)), some (.int (nI (sumN (nFa D tr (t + 1) t) p + cnt (fun i => decide ((VD D tr (t + 1) p i).1 = 2 ∧ (VD D tr (t + 1) p i).2 = t)) k))), some (.int (nI p)), some (.int (nI k))] [] M1) (P := fun k M1 => IV D L w n (t + 1) P tr M1 ∧ ME (D p).1 (D p).2.1 (D p).2.2.1 (D p).2.2.2.1 (D p).2.2.2.2 p (t + 1) tr n0 n1 C0 C1 M1) (by
      intro k M4 hk ⟨q1, q2⟩
      obtain ⟨M5, wk, e5, s1, s2, -, s4, s5⟩ := m_each (d := d) hd1 q1 q2 hk
      have hle := VD_le (D := D) (tr := tr) (t := t + 1) (p := p) (i := k)
      have hsn := VD_snd (D := D) (tr := tr) (t := t + 1) (p := p) (i := k) hk
      have hK : zK M4 146 = (11, 52) := by rw [q1.1.2.1]; rfl
      have hK5 : zK M5 146 = (11, 52) := by rw [s1.1.2.1]; rfl
      refine ⟨M5, ?_, s1, s2⟩
      show zG d n_Mo_failedBy 20 [some (.ref 146), some (.int (nI t)), some (.int (nI (sumN (nFa D tr (t + 1) t) p + cnt (fun i => decide ((VD D tr (t + 1) p i).1 = 2 ∧ (VD D tr (t + 1) p i).2 = t)) k))), some (.int (nI p)), some (.int (nI k))] [] M4 = zG d n_Mo_failedBy 20 [some (.ref 146), some (.int (nI t)), some (.int (nI (sumN (nFa D tr (t + 1) t) p + (cnt (fun i => decide ((VD D tr (t + 1) p i).1 = 2 ∧ (VD D tr (t + 1) p i).2 = t)) k + (decide ((VD D tr (t + 1) p k).1 = 2 ∧ (VD D tr (t + 1) p k).2 = t)).toNat)))), some (.int (nI p)), some (.int (nI (k + 1)))] [] M5
      rw [zg_Mo_failedBy_20]
      unfold zx_Mo_failedBy_20
      clear q1 q2 s1 s2 h h1 hE f1
      generalize VD D tr (t + 1) p k = V at *
      by_cases h5 : V.1 = 2
      · rw [if_neg (by omega)] at s5
        rw [h5] at s4
        by_cases h7 : V.2 = t
        · rw [decide_eq_true (And.intro h5 h7)]
          rw [h7] at s5
          simp (disch := omega) only [il, nI_add, nI_mul, nI_sub, nI_div, nI_rem, nI_N, i32_lt, i32_le, nI_toInt, nI_subI, nI_clamp, zinT, zifT, iteT, iteF, zQ, zS, zkc, zI_sI, zL_sL, zI_wI, zL_wL, Nat.reduceEqDiff, Nat.reduceAdd, Nat.reduceMul, Nat.reduceLT, Nat.reduceLeDiff, reduceIte, eq_self, and_self, true_and, and_true, false_and, and_false, true_or, or_true, or_false, false_or, not_true_eq_false, not_false_eq_true, zarr, ne_eq, hK, hK5, e5, s4, s5, mo_flag (show 1 ≤ d by omega), Bool.toNat_true, Nat.add_assoc]
        · rw [decide_eq_false (fun q => h7 q.2)]
          have h9 : ¬ nI V.2 = nI t := by rw [nI_eq (by omega) (by omega)]; exact h7
          simp (disch := omega) only [il, nI_add, nI_mul, nI_sub, nI_div, nI_rem, nI_N, i32_lt, i32_le, nI_toInt, nI_subI, nI_clamp, zinT, zifT, iteT, iteF, zQ, zS, zkc, zI_sI, zL_sL, zI_wI, zL_wL, Nat.reduceEqDiff, Nat.reduceAdd, Nat.reduceMul, Nat.reduceLT, Nat.reduceLeDiff, reduceIte, eq_self, and_self, true_and, and_true, false_and, and_false, true_or, or_true, or_false, false_or, not_true_eq_false, not_false_eq_true, zarr, ne_eq, hK, hK5, e5, s4, s5, h9, mo_flag (show 1 ≤ d by omega), Bool.toNat_false, Nat.add_zero]
      · rw [decide_eq_false (fun q => h5 q.1)]
        have h9 : ¬ nI V.1 = nI 2 := by rw [nI_eq (by omega) (by omega)]; exact h5
        clear s5
        simp (disch := omega) only [il, nI_add, nI_mul, nI_sub, nI_div, nI_rem, nI_N, i32_lt, i32_le, nI_toInt, nI_subI, nI_clamp, zinT, zifT, iteT, iteF, zQ, zS, zkc, zI_sI, zL_sL, zI_wI, zL_wL, Nat.reduceEqDiff, Nat.reduceAdd, Nat.reduceMul, Nat.reduceLT, Nat.reduceLeDiff, reduceIte, eq_self, and_self, true_and, and_true, false_and, and_false, true_or, or_true, or_false, false_or, not_true_eq_false, not_false_eq_true, zarr, ne_eq, hK, hK5, e5, s4, h9, mo_flag (show 1 ≤ d by omega), Bool.toNat_false, Nat.add_zero]) (s0 := M2) ⟨h1, hE⟩
    refine ⟨M3, ?_, g1⟩
    show zG d n_Mo_failedBy 4 [some (.ref 146), some (.int (nI t)), some (.int (nI (sumN (nFa D tr (t + 1) t) p))), some (.int (nI p)), none] [] M1 = zG d n_Mo_failedBy 4 [some (.ref 146), some (.int (nI t)), some (.int (nI (sumN (nFa D tr (t + 1) t) p + nFa D tr (t + 1) t p))), some (.int (nI (p + 1))), none] [] M3
    have e8 : zG d n_Mo_failedBy 20 [some (.ref 146), some (.int (nI t)), some (.int (nI (sumN (nFa D tr (t + 1) t) p + nFa D tr (t + 1) t p))), some (.int (nI p)), some (.int (nI (t + 1)))] [] M3 = zG d n_Mo_failedBy 4 [some (.ref 146), some (.int (nI t)), some (.int (nI (sumN (nFa D tr (t + 1) t) p + nFa D tr (t + 1) t p))), some (.int (nI (p + 1))), none] [] M3 := by
      rw [zg_Mo_failedBy_20]
      unfold zx_Mo_failedBy_20
      clear g1 g2 h h1 hE f1 e3
      simp (disch := omega) only [il, nI_add, nI_mul, nI_sub, nI_div, nI_rem, nI_N, i32_lt, i32_le, nI_toInt, nI_subI, nI_clamp, zinT, zifT, iteT, iteF, zQ, zS, zkc, zI_sI, zL_sL, zI_wI, zL_wL, Nat.reduceEqDiff, Nat.reduceAdd, Nat.reduceMul, Nat.reduceLT, Nat.reduceLeDiff, reduceIte, eq_self, and_self, true_and, and_true, false_and, and_false, true_or, or_true, or_false, false_or, not_true_eq_false, not_false_eq_true, zarr, ne_eq]
    rw [← e8]
    refine Eq.trans ?_ e3
    have hK : zK M1 146 = (11, 52) := by rw [f1.1.2.1]; rfl
    have p3 := f1.2.2.2.2.2.2.2.2.2.1
    rw [zg_Mo_failedBy_4]
    unfold zx_Mo_failedBy_4
    clear g1 g2 h h1 hE f1 e3 e8
    simp (disch := omega) only [il, nI_add, nI_mul, nI_sub, nI_div, nI_rem, nI_N, i32_lt, i32_le, nI_toInt, nI_subI, nI_clamp, zinT, zifT, iteT, iteF, zQ, zS, zkc, zI_sI, zL_sL, zI_wI, zL_wL, Nat.reduceEqDiff, Nat.reduceAdd, Nat.reduceMul, Nat.reduceLT, Nat.reduceLeDiff, reduceIte, eq_self, and_self, true_and, and_true, false_and, and_false, true_or, or_true, or_false, false_or, not_true_eq_false, not_false_eq_true, zarr, ne_eq, hK, p3, e1]
    rfl) (s0 := M) h
  refine ⟨M', ?_, f1⟩
  rw [ze_Mo_failedBy]
  unfold zx_Mo_failedBy
  refine Eq.trans e ?_
  show zG d n_Mo_failedBy 4 [some (.ref 146), some (.int (nI t)), some (.int (nI (sumN (nFa D tr (t + 1) t) P))), some (.int (nI P)), none] [] M' = _
  rw [zg_Mo_failedBy_4]
  unfold zx_Mo_failedBy_4
  have hK : zK M' 146 = (11, 52) := by rw [f1.1.2.1]; rfl
  have p3 := f1.2.2.2.2.2.2.2.2.2.1
  clear f1 h e
  simp (disch := omega) only [il, nI_add, nI_mul, nI_sub, nI_div, nI_rem, nI_N, i32_lt, i32_le, nI_toInt, nI_subI, nI_clamp, zinT, zifT, iteT, iteF, zQ, zS, zkc, zI_sI, zL_sL, zI_wI, zL_wL, Nat.reduceEqDiff, Nat.reduceAdd, Nat.reduceMul, Nat.reduceLT, Nat.reduceLeDiff, reduceIte, eq_self, and_self, true_and, and_true, false_and, and_false, true_or, or_true, or_false, false_or, not_true_eq_false, not_false_eq_true, zarr, ne_eq, hK, p3]
theorem st_tick {d L : Nat} {M : zM} (hd : 7 ≤ d) (hi : Inv L M) (x : Int32) : Cal d n_PT_tick n_Mo_tick L [.int x] M := by
  obtain ⟨D, w, n, t, P, tr, h⟩ := IV_of hi
  have hP := h.2.2.2.2.2.2.2.1
  have ht := h.2.2.2.2.1.1
  obtain ⟨d, rfl, hd1⟩ := zdep hd
  unfold Cal
  rw [ze_PT_tick]
  simp only [ze_Mo_tick]
  unfold zx_PT_tick zx_Mo_tick
  have hK := h.1.2.1
  have hkk := zkc L; rw [← hK] at hkk
  have hC := h.1.2.2.1
  have hMo := h.1.2.2.2.1
  have t2 := h.2.2.2.2.1.2.1
  have t3 := h.2.2.2.2.1.2.2.1
  rcases i_cases x 256 (by omega) with ⟨v, hv, rfl⟩ | hx
  · have e1 := q_isBits_t (d := d) (M := M) (by omega) hv
    have e2 := m_areBits_t (d := d) (M := M) (by omega) hv
    by_cases h48 : t = 48
    · subst h48
      refine ⟨-3, M, M, ?_, ?_, hi⟩
      · clear h
        simp (disch := omega) only [il, nI_add, nI_mul, nI_sub, nI_div, nI_rem, nI_N, i32_lt, i32_le, nI_toInt, nI_subI, nI_clamp, zinT, zifT, iteT, iteF, zQ, zS, zkc, zI_sI, zL_sL, zI_wI, zL_wL, Nat.reduceEqDiff, Nat.reduceAdd, Nat.reduceMul, Nat.reduceLT, Nat.reduceLeDiff, reduceIte, eq_self, and_self, true_and, and_true, false_and, and_false, true_or, or_true, or_false, false_or, not_true_eq_false, not_false_eq_true, zarr, ne_eq, hkk, hC, e1, t2]
      · clear h
        simp (disch := omega) only [il, nI_add, nI_mul, nI_sub, nI_div, nI_rem, nI_N, i32_lt, i32_le, nI_toInt, nI_subI, nI_clamp, zinT, zifT, iteT, iteF, zQ, zS, zkc, zI_sI, zL_sL, zI_wI, zL_wL, Nat.reduceEqDiff, Nat.reduceAdd, Nat.reduceMul, Nat.reduceLT, Nat.reduceLeDiff, reduceIte, eq_self, and_self, true_and, and_true, false_and, and_false, true_or, or_true, or_false, false_or, not_true_eq_false, not_false_eq_true, zarr, ne_eq, hkk, hMo, e2, t3]
    · have hlt : t < 48 := by omega
      obtain ⟨hs, hT, hfa, hto, ⟨u1, u2, u3, u4⟩, him, hsh, p1, p2, p3, p4⟩ := h
      have hw := hs.2.2.2.2.2.1
      have e3 := tr_add (d := d) (by omega) hs.2.2.2.2.1.2.2.1 t2 hlt (nI v)
      generalize hMa : zsI (zsI M 20 t (nI v)) 19 1 (nI (t + 1)) = Ma at *
      have qa : ∀ b, b ≠ 19 → b ≠ 20 → zI Ma b = zI M b := fun b h1 h2 => by rw [← hMa, zI_ne h1, zI_ne h2]
      have qL : zL Ma = zL M := by rw [← hMa]; rfl
      have hsa : zSh L w Ma := zSh_fr hs (by rw [← hMa]; rfl) (by rw [← hMa]; rfl) (by rw [← hMa]; rfl)
      have hcv : CV D L w (t + 1) P (fun i => if i = t then v else tr i) Ma := by
        refine ⟨hsa, ⟨by omega, by rw [← hMa]; rfl, fun i hi => ?_⟩, ⟨p1, by rw [qa 2 (by omega) (by omega)]; exact p2⟩, fun p hp => ?_⟩
        · by_cases h1 : i = t
          · subst h1
            rw [← hMa, zI_ne (by omega), zI_sI, if_pos ⟨rfl, rfl⟩]
            simp only [if_true]
            exact ⟨hv, trivial⟩
          · rw [← hMa, zI_ne (by omega), zI_sI, if_neg (fun q => h1 q.2)]
            simp only [h1, if_false]
            exact ⟨(u4 i (by omega)).1, (u4 i (by omega)).2.1⟩
        · obtain ⟨k, a1, a2, a3, a4⟩ := p4 p hp
          obtain ⟨b1, b2, b3, b4, b5, b6, b7, b8, b9, b10, b11⟩ := a2
          refine ⟨k, by omega, SeqC_fr b1 (qa _ (by omega) (by omega)) (fun b _ _ => by rw [qL]), SeqC_fr b3 (qa _ (by omega) (by omega)) (fun b _ _ => by rw [qL]), b6, b7, b8, by rw [qa _ (by omega) (by omega)]; exact b9, by rw [qa _ (by omega) (by omega)]; exact b10, iWat_congr (m := t) (fun i hi => by rw [if_neg (by omega)]) a1 (iWat_fr2 a3 (fun b _ _ => ⟨qa b (by omega) (by omega), by rw [qL]⟩) (fun b _ _ => ⟨qa b (by omega) (by omega), by rw [qL]⟩)), by rw [qL]; exact a4⟩
      obtain ⟨M1, e4, c1, c2⟩ := pt_tick_loop (d := d) (by omega) hcv
      have q1 : ∀ b, b ≠ 19 → b ≠ 20 → (∀ p, p < 4 → b < 46 + 27 * p ∨ 46 + 27 * p + 6 < b) → zI M1 b = zI M b ∧ zL M1 b = zL M b := fun b h1 h2 h3 => ⟨((c2.2.2.2 b h3).1).trans (qa b h1 h2), ((c2.2.2.2 b h3).2).trans (by rw [qL])⟩
      have hs1 := c1.1
      have t3' : zI M1 155 0 = nI t := by rw [(q1 155 (by omega) (by omega) (by omega)).1]; exact t3
      generalize hM2 : zsI (zsI M1 155 (1 + t) (nI v)) 155 0 (nI (t + 1)) = M2 at *
      have r2 : ∀ b, b ≠ 155 → zI M2 b = zI M1 b := fun b h1 => by rw [← hM2, zI_ne h1, zI_ne h1]
      have rL : zL M2 = zL M1 := by rw [← hM2]; rfl
      have hs2 : zSh L w M2 := zSh_fr hs1 (by rw [← hM2]; rfl) (by rw [← hM2]; rfl) (by rw [← hM2]; rfl)
      have q2 : ∀ b, b ≠ 19 → b ≠ 20 → b ≠ 155 → (∀ p, p < 4 → b < 46 + 27 * p ∨ 46 + 27 * p + 6 < b) → zI M2 b = zI M b ∧ zL M2 b = zL M b := fun b h1 h2 h3 h4 => ⟨(r2 b h3).trans (q1 b h1 h2 h4).1, (by rw [rL]; exact (q1 b h1 h2 h4).2)⟩
      have g2 : ∀ b, b ≠ 19 → b ≠ 20 → b ≠ 155 → (b < 46 ∨ 134 ≤ b) → zI M2 b = zI M b := fun b h1 h2 h3 h4 => (q2 b h1 h2 h3 (by omega)).1
      have hIV : IV D L w n (t + 1) P (fun i => if i = t then v else tr i) M2 := by
        obtain ⟨-, ⟨c3, c4, c5⟩, ⟨c6, c7⟩, c8⟩ := c1
        refine ⟨hs2, ?_, ?_, ?_, ⟨c3, ?_, ?_, ?_⟩, fun k hk => iImage_fr (him k hk) hk ⟨g2 _ (by omega) (by omega) (by omega) (by omega), g2 _ (by omega) (by omega) (by omega) (by omega), g2 _ (by omega) (by omega) (by omega) (by omega), fun b _ _ => g2 _ (by omega) (by omega) (by omega) (by omega)⟩, fun k hk => iSheet_fr (hsh k hk) hk ⟨g2 _ (by omega) (by omega) (by omega) (by omega), g2 _ (by omega) (by omega) (by omega) (by omega), g2 _ (by omega) (by omega) (by omega) (by omega), fun b _ _ => g2 _ (by omega) (by omega) (by omega) (by omega)⟩, c6, ?_, ?_, ?_⟩
        · unfold iTape
          rw [g2 4 (by omega) (by omega) (by omega) (by omega), g2 5 (by omega) (by omega) (by omega) (by omega), g2 158 (by omega) (by omega) (by omega) (by omega), g2 146 (by omega) (by omega) (by omega) (by omega)]
          exact hT
        · rw [g2 2 (by omega) (by omega) (by omega) (by omega), g2 146 (by omega) (by omega) (by omega) (by omega)]; exact hfa
        · rw [g2 2 (by omega) (by omega) (by omega) (by omega), g2 146 (by omega) (by omega) (by omega) (by omega)]; exact ⟨hto.1, by unfold pat; rw [(q2 0 (by omega) (by omega) (by omega) (by omega)).2, (q2 165 (by omega) (by omega) (by omega) (by omega)).2]; exact hto.2⟩
        · rw [r2 19 (by omega)]; exact c4
        · rw [← hM2, zI_sI, if_pos ⟨rfl, rfl⟩]
        · intro i hi
          refine ⟨(c5 i hi).1, by rw [r2 20 (by omega)]; exact (c5 i hi).2, ?_⟩
          rw [← hM2, zI_sI, if_neg (fun q => by omega), zI_sI]
          by_cases h1 : i = t
          · subst h1
            rw [if_pos ⟨rfl, rfl⟩]
            simp only [if_true]
          · rw [if_neg (fun q => by omega), (q1 155 (by omega) (by omega) (by omega)).1]
            simp only [h1, if_false]
            exact (u4 i (by omega)).2.2
        · rw [r2 2 (by omega)]; exact c7
        · rw [g2 146 (by omega) (by omega) (by omega) (by omega)]; exact p3
        · intro p hp
          obtain ⟨k, a1, a2, a3, a4⟩ := p4 p hp
          obtain ⟨k', -, -, -, -, -, -, -, -, b9, b10⟩ := c8 p hp
          obtain ⟨k1, k2, -⟩ := c8 p hp
          have hgp : ∀ b, 26 + 10 * w + 27 * p ≤ b → b ≤ 26 + 10 * w + 27 * p + 9 → zI M2 b = zI M b ∧ zL M2 b = zL M b := fun b h1 h2 => q2 b (by omega) (by omega) (by omega) (fun p' hp' => by
            have hpp : p' < p ∨ p' = p ∨ p < p' := by omega
            rcases hpp with hpp | hpp | hpp <;> omega)
          obtain ⟨k', kl, -, -, -, -, -, -, -, b9, b10⟩ := c8 p hp
          refine ⟨k', kl, iPled_fr2 a2 hgp (g2 _ (by omega) (by omega) (by omega) (by omega)) (g2 _ (by omega) (by omega) (by omega) (by omega)) (q2 149 (by omega) (by omega) (by omega) (by omega)).2 (q2 153 (by omega) (by omega) (by omega) (by omega)).2, iWat_fr2 b9 (fun b _ _ => ⟨r2 b (by omega), by rw [rL]⟩) (fun b _ _ => ⟨r2 b (by omega), by rw [rL]⟩), by rw [rL]; exact b10⟩
      obtain ⟨M3, e5, h3⟩ := m_failedBy (d := d) (by omega) hIV
      have hK1 : zK M1 = zKc L := hs1.2.1
      have hMo1 := hs1.2.2.2.1
      have hK2 : zK M2 = zKc L := hs2.2.1
      have hMo2 := hs2.2.2.2.1
      have hM2a : zI M2 155 0 = nI (t + 1) := by rw [← hM2]; rfl
      have e2' := m_areBits_t (d := d) (M := M1) (by omega) hv
      refine ⟨nI (sumN (nFa D (fun i => if i = t then v else tr i) (t + 1) t) P), M1, M3, ?_, ?_, h3.inv⟩
      · clear hIV h3 c1 c2 hcv p4 him hsh u4 q1 q2 g2 r2
        simp (disch := omega) only [il, nI_add, nI_mul, nI_sub, nI_div, nI_rem, nI_N, i32_lt, i32_le, nI_toInt, nI_subI, nI_clamp, zinT, zifT, iteT, iteF, zQ, zS, zkc, zI_sI, zL_sL, zI_wI, zL_wL, Nat.reduceEqDiff, Nat.reduceAdd, Nat.reduceMul, Nat.reduceLT, Nat.reduceLeDiff, reduceIte, eq_self, and_self, true_and, and_true, false_and, and_false, true_or, or_true, or_false, false_or, not_true_eq_false, not_false_eq_true, zarr, ne_eq, hkk, hC, e1, t2, e3, e4]
      · clear hIV h3 c1 c2 hcv p4 him hsh u4 q1 q2 g2 r2
        simp (disch := omega) only [il, nI_add, nI_mul, nI_sub, nI_div, nI_rem, nI_N, i32_lt, i32_le, nI_toInt, nI_subI, nI_clamp, zinT, zifT, iteT, iteF, zQ, zS, zkc, zI_sI, zL_sL, zI_wI, zL_wL, Nat.reduceEqDiff, Nat.reduceAdd, Nat.reduceMul, Nat.reduceLT, Nat.reduceLeDiff, reduceIte, eq_self, and_self, true_and, and_true, false_and, and_false, true_or, or_true, or_false, false_or, not_true_eq_false, not_false_eq_true, zarr, ne_eq, hK1, hMo1, e2', t3', Nat.add_sub_cancel, hM2, hK2, hMo2, hM2a, e5]
  · have e1 := q_isBits_f (d := d) (M := M) (by omega) hx
    have e2 := m_areBits_f (d := d) (M := M) (by omega) hx
    refine ⟨-1, M, M, ?_, ?_, hi⟩
    · clear h
      simp (disch := omega) only [il, nI_add, nI_mul, nI_sub, nI_div, nI_rem, nI_N, i32_lt, i32_le, nI_toInt, nI_subI, nI_clamp, zinT, zifT, iteT, iteF, zQ, zS, zkc, zI_sI, zL_sL, zI_wI, zL_wL, Nat.reduceEqDiff, Nat.reduceAdd, Nat.reduceMul, Nat.reduceLT, Nat.reduceLeDiff, reduceIte, eq_self, and_self, true_and, and_true, false_and, and_false, true_or, or_true, or_false, false_or, not_true_eq_false, not_false_eq_true, zarr, ne_eq, hkk, e1]
    · clear h
      simp (disch := omega) only [il, nI_add, nI_mul, nI_sub, nI_div, nI_rem, nI_N, i32_lt, i32_le, nI_toInt, nI_subI, nI_clamp, zinT, zifT, iteT, iteF, zQ, zS, zkc, zI_sI, zL_sL, zI_wI, zL_wL, Nat.reduceEqDiff, Nat.reduceAdd, Nat.reduceMul, Nat.reduceLT, Nat.reduceLeDiff, reduceIte, eq_self, and_self, true_and, and_true, false_and, and_false, true_or, or_true, or_false, false_or, not_true_eq_false, not_false_eq_true, zarr, ne_eq, hkk, e2]
