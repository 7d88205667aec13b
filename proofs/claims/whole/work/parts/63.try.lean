/-! verdict, decided, duties, duty -/
theorem IV_fM {D : Nat → Pd} {L w n t P : Nat} {tr : Nat → Nat} {M M' : zM} (h : IV D L w n t P tr M) (f : fM M M') : IV D L w n t P tr M' :=
  IV_scr h f.1 f.2.1 f.2.2.1 f.2.2.2.1 (fun b hb => f.2.2.2.2.1 b (by omega)) f.2.2.2.2.2
/-- the reference has found what is fulfilled -/
theorem m_ready {D : Nat → Pd} {d L w n t P p : Nat} {tr : Nat → Nat} {M : zM} (hd : 2 ≤ d) (h : IV D L w n t P tr M) (hp : p < P) : ∃ M1 n0 n1 C0 C1, zV d n_Mo_findsFulfilling [.ref 146, .int (nI p)] M = some (none, M1) ∧ IV D L w n t P tr M1 ∧ ME (D p).1 (D p).2.1 (D p).2.2.1 (D p).2.2.2.1 (D p).2.2.2.2 p t tr n0 n1 C0 C1 M1 := by
  have h0 := h
  obtain ⟨hs, hT, hfa, hto, ⟨t1, t2, t3, t4⟩, him, hsh, p1, p2, p3, p4⟩ := h
  obtain ⟨k, a1, a2, a3, a4⟩ := p4 p hp
  obtain ⟨b1, b2, b3, b4, b5, b6, b7, b8, b9, b10, b11, b12, b13, b14, b15⟩ := a2
  obtain ⟨n0, C0, m0, l0⟩ := SeqM_SM b2
  obtain ⟨n1, C1, m1, l1⟩ := SeqM_SM b4
  obtain ⟨f, f1, f2, f3⟩ := m_findsFulfilling (d := d) hd hs (show p < 4 by omega) m0 m1 t1 t3 (fun i hi => ⟨(t4 i hi).1, (t4 i hi).2.2⟩)
  refine ⟨zwL M 174 f, n0, n1, C0, C1, f1, IV_scr h0 rfl rfl rfl (fun b _ _ => rfl) (fun b _ => zLw_ne (by omega)) (fun _ _ _ => rfl), ⟨t1, t3, fun i hi => ⟨(t4 i hi).1, (t4 i hi).2.2⟩⟩, ⟨by omega, b7, b8, b11, b12⟩, ?_, m0, m1, l0, l1, b6, fun u hu => ?_, fun u hu => ?_⟩
  · intro v hv
    rw [← a4]
    unfold pOff
    have e : zL (zwL M 174 f) 153 = zL M 153 := zLw_ne (by omega)
    rw [e]
    constructor
    · rintro ⟨h1, h2⟩
      refine ⟨h1, ?_⟩
      rw [← h2]
      exact ful_congr hv (fun q hq => by simpa using b15 h1 q hq)
    · rintro ⟨h1, h2⟩
      refine ⟨h1, ?_⟩
      rw [← h2]
      exact (ful_congr hv (fun q hq => by simpa using b15 h1 q hq)).symm
  · rw [zLw_eq]; exact f2 u hu
  · rw [zLw_eq]; exact f3 u hu
theorem q_isTry_t {D : Nat → Pd} {d L w n t P p i : Nat} {tr : Nat → Nat} {M : zM} (hd : 2 ≤ d) (h : IV D L w n t P tr M) (hp : p < P) (hi : i < t) : zV d n_PT_isTry [.ref 2, .int (nI p), .int (nI i)] M = some (some (.int (nI 1)), M) := by
  obtain ⟨d, rfl, hd1⟩ := zdep hd
  obtain ⟨hs, hT, hfa, hto, htr, him, hsh, p1, p2, p3, p4⟩ := h
  have e1 := q_isPromise_t (d := d) (by omega) hs p1 p2 hp
  have e2 := q_isTick_t (d := d) (by omega) hs htr hi
  obtain ⟨hN, hK, hC, -⟩ := hs
  rw [ze_PT_isTry]
  unfold zx_PT_isTry
  clear p4 him hsh
  simp (disch := omega) only [il, nI_add, nI_mul, nI_sub, nI_div, nI_rem, nI_N, i32_lt, i32_le, nI_toInt, nI_subI, nI_clamp, zinT, zifT, iteT, iteF, zQ, zS, zkc, zI_sI, zL_sL, zI_wI, zL_wL, Nat.reduceEqDiff, Nat.reduceAdd, Nat.reduceMul, Nat.reduceLT, Nat.reduceLeDiff, reduceIte, eq_self, and_self, true_and, and_true, false_and, and_false, true_or, or_true, or_false, false_or, not_true_eq_false, not_false_eq_true, zarr, ne_eq, hK, e1, e2]
theorem q_isTry_f {D : Nat → Pd} {d L w n t P : Nat} {tr : Nat → Nat} {M : zM} {x y : Int32} (hd : 2 ≤ d) (h : IV D L w n t P tr M) (hx : (x.toInt < 0 ∨ (P : Int) ≤ x.toInt) ∨ (∃ p, p < P ∧ x = nI p) ∧ (y.toInt < 0 ∨ (t : Int) ≤ y.toInt)) : zV d n_PT_isTry [.ref 2, .int x, .int y] M = some (some (.int (nI 0)), M) := by
  obtain ⟨d, rfl, hd1⟩ := zdep hd
  obtain ⟨hs, hT, hfa, hto, htr, him, hsh, p1, p2, p3, p4⟩ := h
  rw [ze_PT_isTry]
  unfold zx_PT_isTry
  clear p4 him hsh
  rcases hx with hx | ⟨⟨p, hp, rfl⟩, hy⟩
  · have e1 := q_isPromise_f (d := d) (by omega) hs p1 p2 hx
    obtain ⟨hN, hK, hC, -⟩ := hs
    simp (disch := omega) only [il, nI_add, nI_mul, nI_sub, nI_div, nI_rem, nI_N, i32_lt, i32_le, nI_toInt, nI_subI, nI_clamp, zinT, zifT, iteT, iteF, zQ, zS, zkc, zI_sI, zL_sL, zI_wI, zL_wL, Nat.reduceEqDiff, Nat.reduceAdd, Nat.reduceMul, Nat.reduceLT, Nat.reduceLeDiff, reduceIte, eq_self, and_self, true_and, and_true, false_and, and_false, true_or, or_true, or_false, false_or, not_true_eq_false, not_false_eq_true, zarr, ne_eq, hK, e1]
  · have e1 := q_isPromise_t (d := d) (by omega) hs p1 p2 hp
    have e2 := q_isTick_f (d := d) (by omega) hs htr hy
    obtain ⟨hN, hK, hC, -⟩ := hs
    simp (disch := omega) only [il, nI_add, nI_mul, nI_sub, nI_div, nI_rem, nI_N, i32_lt, i32_le, nI_toInt, nI_subI, nI_clamp, zinT, zifT, iteT, iteF, zQ, zS, zkc, zI_sI, zL_sL, zI_wI, zL_wL, Nat.reduceEqDiff, Nat.reduceAdd, Nat.reduceMul, Nat.reduceLT, Nat.reduceLeDiff, reduceIte, eq_self, and_self, true_and, and_true, false_and, and_false, true_or, or_true, or_false, false_or, not_true_eq_false, not_false_eq_true, zarr, ne_eq, hK, e1, e2]
theorem m_isTry_t {D : Nat → Pd} {d L w n t P p i : Nat} {tr : Nat → Nat} {M : zM} (hd : 6 ≤ d) (h : IV D L w n t P tr M) (hp : p < P) (hi : i < t) : ∃ M' wk, zV d n_Mo_isTry [.ref 146, .int (nI p), .int (nI i)] M = some (some (.int (nI 1)), M') ∧ IV D L w n t P tr M' ∧ TD (D p).1 (D p).2.1 (D p).2.2.1 tr i t wk M' ∧ zI M' 146 45 = nI (vd (D p).1 (D p).2.1 (D p).2.2.1 (D p).2.2.2.2 tr i (t - 1 - i)).1 ∧ zI M' 146 46 = if (vd (D p).1 (D p).2.1 (D p).2.2.1 (D p).2.2.2.2 tr i (t - 1 - i)).1 = 0 then -4 else nI (vd (D p).1 (D p).2.1 (D p).2.2.1 (D p).2.2.2.2 tr i (t - 1 - i)).2 := by
  obtain ⟨d, rfl, hd1⟩ := zdep hd
  obtain ⟨M1, n0, n1, C0, C1, e1, h1, hE⟩ := m_ready (d := d) (by omega) h hp
  obtain ⟨M2, e2, f1, f2, f3, f4⟩ := m_goesThrough (d := d) hd1 h1.1 hE hi
  refine ⟨M2, _, ?_, IV_fM h1 f1, f2, f3, f4⟩
  obtain ⟨hs, hT, hfa, hto, ⟨t1, t2, t3, t4⟩, him, hsh, p1, p2, p3, p4⟩ := h
  have e3 := m_isPromise_t (d := d) (by omega) hs p1 p3 hp
  have e4 := m_isTick_t (d := d) (by omega) hs t1 t3 hi
  obtain ⟨hN, hK, hC, hMo, -⟩ := hs
  have hK1 := h1.1.2.1
  rw [ze_Mo_isTry]
  unfold zx_Mo_isTry
  clear p4 him hsh f2 f3 f4 hE h1
  simp (disch := omega) only [il, nI_add, nI_mul, nI_sub, nI_div, nI_rem, nI_N, i32_lt, i32_le, nI_toInt, nI_subI, nI_clamp, zinT, zifT, iteT, iteF, zQ, zS, zkc, zI_sI, zL_sL, zI_wI, zL_wL, Nat.reduceEqDiff, Nat.reduceAdd, Nat.reduceMul, Nat.reduceLT, Nat.reduceLeDiff, reduceIte, eq_self, and_self, true_and, and_true, false_and, and_false, true_or, or_true, or_false, false_or, not_true_eq_false, not_false_eq_true, zarr, ne_eq, hK, hK1, e3, e4, e1, e2]
theorem m_isTry_f {D : Nat → Pd} {d L w n t P : Nat} {tr : Nat → Nat} {M : zM} {x y : Int32} (hd : 3 ≤ d) (h : IV D L w n t P tr M) (hx : (x.toInt < 0 ∨ (P : Int) ≤ x.toInt) ∨ (∃ p, p < P ∧ x = nI p) ∧ (y.toInt < 0 ∨ (t : Int) ≤ y.toInt)) : zV d n_Mo_isTry [.ref 146, .int x, .int y] M = some (some (.int (nI 0)), M) := by
  obtain ⟨d, rfl, hd1⟩ := zdep hd
  obtain ⟨hs, hT, hfa, hto, ⟨t1, t2, t3, t4⟩, him, hsh, p1, p2, p3, p4⟩ := h
  rw [ze_Mo_isTry]
  unfold zx_Mo_isTry
  clear p4 him hsh
  rcases hx with hx | ⟨⟨p, hp, rfl⟩, hy⟩
  · have e1 := m_isPromise_f (d := d) (by omega) hs p1 p3 hx
    obtain ⟨hN, hK, hC, -⟩ := hs
    simp (disch := omega) only [il, nI_add, nI_mul, nI_sub, nI_div, nI_rem, nI_N, i32_lt, i32_le, nI_toInt, nI_subI, nI_clamp, zinT, zifT, iteT, iteF, zQ, zS, zkc, zI_sI, zL_sL, zI_wI, zL_wL, Nat.reduceEqDiff, Nat.reduceAdd, Nat.reduceMul, Nat.reduceLT, Nat.reduceLeDiff, reduceIte, eq_self, and_self, true_and, and_true, false_and, and_false, true_or, or_true, or_false, false_or, not_true_eq_false, not_false_eq_true, zarr, ne_eq, hK, e1]
  · have e1 := m_isPromise_t (d := d) (by omega) hs p1 p3 hp
    have e2 := m_isTick_f (d := d) (by omega) hs t1 t3 hy
    obtain ⟨hN, hK, hC, -⟩ := hs
    simp (disch := omega) only [il, nI_add, nI_mul, nI_sub, nI_div, nI_rem, nI_N, i32_lt, i32_le, nI_toInt, nI_subI, nI_clamp, zinT, zifT, iteT, iteF, zQ, zS, zkc, zI_sI, zL_sL, zI_wI, zL_wL, Nat.reduceEqDiff, Nat.reduceAdd, Nat.reduceMul, Nat.reduceLT, Nat.reduceLeDiff, reduceIte, eq_self, and_self, true_and, and_true, false_and, and_false, true_or, or_true, or_false, false_or, not_true_eq_false, not_false_eq_true, zarr, ne_eq, hK, e1, e2]
theorem try_cases {P t : Nat} (x y : Int32) (hP : P ≤ 4) (ht : t ≤ 48) : (∃ p i, p < P ∧ i < t ∧ x = nI p ∧ y = nI i) ∨ ((x.toInt < 0 ∨ (P : Int) ≤ x.toInt) ∨ (∃ p, p < P ∧ x = nI p) ∧ (y.toInt < 0 ∨ (t : Int) ≤ y.toInt)) := by
  rcases i_cases x P (by omega) with ⟨p, hp, rfl⟩ | hx
  · rcases i_cases y t (by omega) with ⟨i, hi, rfl⟩ | hy
    · exact Or.inl ⟨p, i, hp, hi, rfl, rfl⟩
    · exact Or.inr (Or.inr ⟨⟨p, hp, rfl⟩, hy⟩)
  · exact Or.inr (Or.inl hx)
/-- the rows of a watch that has caught up -/
theorem wat_v {D : Nat → Pd} {L w n t P p i : Nat} {tr : Nat → Nat} {M : zM} (h : IV D L w n t P tr M) (hp : p < P) (hW : iWat (D p).1 (D p).2.1 (D p).2.2.1 (D p).2.2.2.1 tr M (46 + 27 * p) (26 + 10 * w + 27 * p) t) (hi : i < t) : zI M (46 + 27 * p + 5) i = nI (vd (D p).1 (D p).2.1 (D p).2.2.1 (D p).2.2.2.2 tr i (t - 1 - i)).1 ∧ ((vd (D p).1 (D p).2.1 (D p).2.2.1 (D p).2.2.2.2 tr i (t - 1 - i)).1 ≠ 0 → zI M (46 + 27 * p + 6) i = nI (vd (D p).1 (D p).2.1 (D p).2.2.1 (D p).2.2.2.2 tr i (t - 1 - i)).2) := by
  obtain ⟨k, -, -, -, a4⟩ := h.2.2.2.2.2.2.2.2.2.2 p hp
  have := hW.2.2.2.2.2.2 i hi
  rw [a4] at this
  exact this
theorem zWat_of {L w : Nat} {M : zM} (hs : zSh L w M) {p : Nat} (hp : p < 4) : zWat M (46 + 27 * p) := (hs.2.2.2.2.1.1 p hp).2.2.2.2.2.2.1
theorem st_verdict {d L : Nat} {M : zM} (hd : 7 ≤ d) (hi : Inv L M) (x y : Int32) : Cal d n_PT_verdict n_Mo_verdict L [.int x, .int y] M := by
  obtain ⟨D, w, n, t, P, tr, h⟩ := IV_of hi
  have hP := h.2.2.2.2.2.2.2.1
  have ht := h.2.2.2.2.1.1
  obtain ⟨d, rfl, hd1⟩ := zdep hd
  unfold Cal
  rw [ze_PT_verdict]
  simp only [ze_Mo_verdict]
  unfold zx_PT_verdict zx_Mo_verdict
  rcases try_cases x y hP ht with ⟨p, i, hp, hit, rfl, rfl⟩ | hx
  · have e1 := q_isTry_t (d := d) (by omega) h hp hit
    obtain ⟨M1, e2, h1, hW⟩ := pt_watchOf (d := d) (by omega) h hp
    obtain ⟨v1, v2⟩ := wat_v h1 hp hW hit
    obtain ⟨M2, wk, e3, h2, hT, v3, v4⟩ := m_isTry_t (d := d) (by omega) h1 hp hit
    have hK : zK M 2 = (10, 12) := by rw [h.1.2.1]; rfl
    have hK1 : zK M1 146 = (11, 52) := by rw [h1.1.2.1]; rfl
    have hK2 : zK M2 146 = (11, 52) := by rw [h2.1.2.1]; rfl
    have hwt := zWat_of h1.1 (show p < 4 by omega)
    have w0 := hwt.1
    have w5 := hwt.2.2.2.2.2.1
    have r4 := hwt.2.2.2.2.2.2.2.2.2.2.2.1
    refine ⟨nI (vd (D p).1 (D p).2.1 (D p).2.2.1 (D p).2.2.2.2 tr i (t - 1 - i)).1, M1, M2, ?_, ?_, h2.inv⟩
    · clear hT v3 v4 v2 hW
      simp (disch := omega) only [il, nI_add, nI_mul, nI_sub, nI_div, nI_rem, nI_N, i32_lt, i32_le, nI_toInt, nI_subI, nI_clamp, zinT, zifT, iteT, iteF, zQ, zS, zkc, zI_sI, zL_sL, zI_wI, zL_wL, Nat.reduceEqDiff, Nat.reduceAdd, Nat.reduceMul, Nat.reduceLT, Nat.reduceLeDiff, reduceIte, eq_self, and_self, true_and, and_true, false_and, and_false, true_or, or_true, or_false, false_or, not_true_eq_false, not_false_eq_true, zarr, ne_eq, hK, e1, e2, w0, w5, r4, v1]
    · clear hT v4 v2 v1 hW
      simp (disch := omega) only [il, nI_add, nI_mul, nI_sub, nI_div, nI_rem, nI_N, i32_lt, i32_le, nI_toInt, nI_subI, nI_clamp, zinT, zifT, iteT, iteF, zQ, zS, zkc, zI_sI, zL_sL, zI_wI, zL_wL, Nat.reduceEqDiff, Nat.reduceAdd, Nat.reduceMul, Nat.reduceLT, Nat.reduceLeDiff, reduceIte, eq_self, and_self, true_and, and_true, false_and, and_false, true_or, or_true, or_false, false_or, not_true_eq_false, not_false_eq_true, zarr, ne_eq, hK1, hK2, e3, v3]
  · have e1 := q_isTry_f (d := d) (by omega) h hx
    have e2 := m_isTry_f (d := d) (by omega) h hx
    have hK := h.1.2.1
    refine ⟨-1, M, M, ?_, ?_, hi⟩
    · clear hx
      simp (disch := omega) only [il, nI_add, nI_mul, nI_sub, nI_div, nI_rem, nI_N, i32_lt, i32_le, nI_toInt, nI_subI, nI_clamp, zinT, zifT, iteT, iteF, zQ, zS, zkc, zI_sI, zL_sL, zI_wI, zL_wL, Nat.reduceEqDiff, Nat.reduceAdd, Nat.reduceMul, Nat.reduceLT, Nat.reduceLeDiff, reduceIte, eq_self, and_self, true_and, and_true, false_and, and_false, true_or, or_true, or_false, false_or, not_true_eq_false, not_false_eq_true, zarr, ne_eq, hK, e1]
    · clear hx
      simp (disch := omega) only [il, nI_add, nI_mul, nI_sub, nI_div, nI_rem, nI_N, i32_lt, i32_le, nI_toInt, nI_subI, nI_clamp, zinT, zifT, iteT, iteF, zQ, zS, zkc, zI_sI, zL_sL, zI_wI, zL_wL, Nat.reduceEqDiff, Nat.reduceAdd, Nat.reduceMul, Nat.reduceLT, Nat.reduceLeDiff, reduceIte, eq_self, and_self, true_and, and_true, false_and, and_false, true_or, or_true, or_false, false_or, not_true_eq_false, not_false_eq_true, zarr, ne_eq, hK, e2]
theorem st_decided {d L : Nat} {M : zM} (hd : 7 ≤ d) (hi : Inv L M) (x y : Int32) : Cal d n_PT_decided n_Mo_decided L [.int x, .int y] M := by
  obtain ⟨D, w, n, t, P, tr, h⟩ := IV_of hi
  have hP := h.2.2.2.2.2.2.2.1
  have ht := h.2.2.2.2.1.1
  obtain ⟨d, rfl, hd1⟩ := zdep hd
  unfold Cal
  rw [ze_PT_decided]
  simp only [ze_Mo_decided]
  unfold zx_PT_decided zx_Mo_decided
  rcases try_cases x y hP ht with ⟨p, i, hp, hit, rfl, rfl⟩ | hx
  · have e1 := q_isTry_t (d := d) (by omega) h hp hit
    obtain ⟨M1, e2, h1, hW⟩ := pt_watchOf (d := d) (by omega) h hp
    obtain ⟨v1, v2⟩ := wat_v h1 hp hW hit
    obtain ⟨M2, wk, e3, h2, hT, v3, v4⟩ := m_isTry_t (d := d) (by omega) h1 hp hit
    have hK : zK M 2 = (10, 12) := by rw [h.1.2.1]; rfl
    have hK1 : zK M1 146 = (11, 52) := by rw [h1.1.2.1]; rfl
    have hK2 : zK M2 146 = (11, 52) := by rw [h2.1.2.1]; rfl
    have hwt := zWat_of h1.1 (show p < 4 by omega)
    have w0 := hwt.1
    have w5 := hwt.2.2.2.2.2.1
    have w6 := hwt.2.2.2.2.2.2.1
    have r4 := hwt.2.2.2.2.2.2.2.2.2.2.2.1
    have r5 := hwt.2.2.2.2.2.2.2.2.2.2.2.2
    have hle := vd_le (A := (D p).1) (B := (D p).2.1) (ki := (D p).2.2.1) (t := i) (off := (D p).2.2.2.2) (tr := tr) (t - 1 - i)
    generalize vd (D p).1 (D p).2.1 (D p).2.2.1 (D p).2.2.2.2 tr i (t - 1 - i) = V at *
    refine ⟨if V.1 = 0 then -4 else nI V.2, M1, M2, ?_, ?_, h2.inv⟩
    · clear hT v3 v4 hW
      by_cases h0 : V.1 = 0
      · rw [h0] at v1
        rw [if_pos h0]
        clear v2 h0
        simp (disch := omega) only [il, nI_add, nI_mul, nI_sub, nI_div, nI_rem, nI_N, i32_lt, i32_le, nI_toInt, nI_subI, nI_clamp, zinT, zifT, iteT, iteF, zQ, zS, zkc, zI_sI, zL_sL, zI_wI, zL_wL, Nat.reduceEqDiff, Nat.reduceAdd, Nat.reduceMul, Nat.reduceLT, Nat.reduceLeDiff, reduceIte, eq_self, and_self, true_and, and_true, false_and, and_false, true_or, or_true, or_false, false_or, not_true_eq_false, not_false_eq_true, zarr, ne_eq, hK, e1, e2, w0, w5, r4, v1]
      · have v6 := v2 h0
        have v5 : ¬ zI M1 (46 + 27 * p + 5) i = nI 0 := by rw [v1, nI_eq (by omega) (by omega)]; exact h0
        rw [if_neg h0]
        clear v2 v1
        simp (disch := omega) only [il, nI_add, nI_mul, nI_sub, nI_div, nI_rem, nI_N, i32_lt, i32_le, nI_toInt, nI_subI, nI_clamp, zinT, zifT, iteT, iteF, zQ, zS, zkc, zI_sI, zL_sL, zI_wI, zL_wL, Nat.reduceEqDiff, Nat.reduceAdd, Nat.reduceMul, Nat.reduceLT, Nat.reduceLeDiff, reduceIte, eq_self, and_self, true_and, and_true, false_and, and_false, true_or, or_true, or_false, false_or, not_true_eq_false, not_false_eq_true, zarr, ne_eq, hK, e1, e2, w0, w5, w6, r4, r5, v5, v6]
    · clear hT v2 v1 hW v3
      rw [← v4]
      simp (disch := omega) only [il, nI_add, nI_mul, nI_sub, nI_div, nI_rem, nI_N, i32_lt, i32_le, nI_toInt, nI_subI, nI_clamp, zinT, zifT, iteT, iteF, zQ, zS, zkc, zI_sI, zL_sL, zI_wI, zL_wL, Nat.reduceEqDiff, Nat.reduceAdd, Nat.reduceMul, Nat.reduceLT, Nat.reduceLeDiff, reduceIte, eq_self, and_self, true_and, and_true, false_and, and_false, true_or, or_true, or_false, false_or, not_true_eq_false, not_false_eq_true, zarr, ne_eq, hK1, hK2, e3]
  · have e1 := q_isTry_f (d := d) (by omega) h hx
    have e2 := m_isTry_f (d := d) (by omega) h hx
    have hK := h.1.2.1
    refine ⟨-1, M, M, ?_, ?_, hi⟩
    · clear hx
      simp (disch := omega) only [il, nI_add, nI_mul, nI_sub, nI_div, nI_rem, nI_N, i32_lt, i32_le, nI_toInt, nI_subI, nI_clamp, zinT, zifT, iteT, iteF, zQ, zS, zkc, zI_sI, zL_sL, zI_wI, zL_wL, Nat.reduceEqDiff, Nat.reduceAdd, Nat.reduceMul, Nat.reduceLT, Nat.reduceLeDiff, reduceIte, eq_self, and_self, true_and, and_true, false_and, and_false, true_or, or_true, or_false, false_or, not_true_eq_false, not_false_eq_true, zarr, ne_eq, hK, e1]
    · clear hx
      simp (disch := omega) only [il, nI_add, nI_mul, nI_sub, nI_div, nI_rem, nI_N, i32_lt, i32_le, nI_toInt, nI_subI, nI_clamp, zinT, zifT, iteT, iteF, zQ, zS, zkc, zI_sI, zL_sL, zI_wI, zL_wL, Nat.reduceEqDiff, Nat.reduceAdd, Nat.reduceMul, Nat.reduceLT, Nat.reduceLeDiff, reduceIte, eq_self, and_self, true_and, and_true, false_and, and_false, true_or, or_true, or_false, false_or, not_true_eq_false, not_false_eq_true, zarr, ne_eq, hK, e2]
