/-! the reference reads a sequence: m to n times -/
def RpO (L w N : Nat) (β : Nat → Nat) (pt : Nat → Int64) (sd l n : Nat) (m : IP) (o t : Option Pc) (M' : zM) : Rs Pc → Prop
  | .inl e => MF e M'
  | .inr y => SG L w N β pt sd l n y.2 m o t (some y.1) M'
theorem SG_mo {L w N sd l n i j : Nat} {β : Nat → Nat} {pt : Nat → Int64} {m : IP} {o t x : Option Pc} {M M' : zM} (h : SG L w N β pt sd l n i m o t x M) (f : fMo M M') (hm : mTok (tok β N j) M') (h3 : (tok β N j).1 ≠ 3) (hj : j ≤ N) : SG L w N β pt sd l n j m o t x M' := by
  obtain ⟨s1, s2, s3, s4, s5, s6, s7, s8, s9, s10⟩ := h
  refine ⟨EM_fr s1 (f.mc (D := 0)), hm, h3, hj, ?_, ?_, ?_, ?_, s9, Qst_mc s10 (f.mc (D := 0))⟩
  · rw [f.2.2.2.2.2 37 (by omega)]; exact s5
  · rw [f.2.2.2.2.2 20 (by omega)]; exact s6
  · rw [f.2.2.2.2.1 173 (by omega)]; exact s7
  · rw [f.2.2.2.2.1 173 (by omega)]; exact s8
theorem mx_ix {l : Nat} {m : IP} {o t : Option Pc} (h : ∀ z, z ∈ m → ixl l z.1) : ∀ z, z ∈ m ++ oL (1 + l) o ++ oL (11 + l) t → ixl (l + 1) z.1 := by
  intro z hz
  rcases List.mem_append.mp hz with hz | hz
  · rcases List.mem_append.mp hz with hz | hz
    · have := h z hz
      unfold ixl at *
      omega
    · have := oL_mem hz
      unfold ixl
      omega
  · have := oL_mem hz
    unfold ixl
    omega
theorem m_times {d L w N sd l n i : Nat} {β : Nat → Nat} {pt : Nat → Int64} {m : IP} {o t : Option Pc} {x : Pc} {M : zM} (hd : 4 ≤ d) (hk : tkOk (tok β N) N) (hsd : sd < 8) (h : SG L w N β pt sd l n i m o t (some x) M) : ∃ M', zV d n_Mo_readTimes [.ref 146] M = some (none, M') ∧ fSe sd 9 M M' ∧ RpO L w N β pt sd l n m o t M' (sRpB (tok β N) x i) := by
  obtain ⟨d, rfl, hd1⟩ := zdep hd
  have h0 := h
  obtain ⟨s1, s2, s3, s4, s5, s6, s7, s8, s9, s10⟩ := h
  have hK : zK M 146 = (11, 52) := by rw [s1.1.2.1]; rfl
  have e42 := m_isSign (d := d) (c := 42) (by omega) s1 hk s2 s3 s4 (by omega) (by omega)
  rw [ze_Mo_readTimes]
  unfold zx_Mo_readTimes sRpB
  by_cases h42 : (tok β N i).1 = 42
  · rw [if_pos h42] at e42
    rw [if_pos h42]
    obtain ⟨M1, e1, f1, -, hE1, hm1⟩ := m_adv (d := d) (D := 0) (by omega) s1 hk s2 s3 s4
    have hK1 : zK M1 146 = (11, 52) := by rw [hE1.1.2.1]; rfl
    by_cases hb : (tok β N (tok β N i).2.2.2).1 = 3
    · rw [nxt_t hb]
      obtain ⟨b1, b2⟩ := mTok_bad hm1 hb
      have eb := fun (x y : Int32) => m_num_b (d := d) (x := x) (y := y) (by omega) hK1 b1 (by omega) (by omega)
      refine ⟨M1, ?_, f1.sq, Nat.zero_lt_one, (show 1 < 10 by decide), b1, b2⟩
      clear h0 s1 s2 s9 s10 hk f1 hE1 hm1
      simp (disch := omega) only [il, nI_add, nI_mul, nI_sub, nI_div, nI_rem, nI_N, i32_lt, i32_le, nI_toInt, nI_subI, nI_clamp, zinT, zifT, iteT, iteF, zQ, zS, zkc, zI_sI, zL_sL, zI_wI, zL_wL, Nat.reduceEqDiff, Nat.reduceAdd, Nat.reduceMul, Nat.reduceLT, Nat.reduceLeDiff, reduceIte, eq_self, and_self, true_and, and_true, false_and, and_false, true_or, or_true, or_false, false_or, not_true_eq_false, not_false_eq_true, zarr, ne_eq, hK, e42, e1, hK1, eb, mo_greatestN (show 1 ≤ d by omega), b1]
    · rw [nxt_f hb]
      obtain ⟨M2, v1, e2, f2, hv1, hcase⟩ := m_num (d := d) (lo := 0) (by omega) hk hE1 hm1 hb (hk i s4).1 (by omega)
      have hE2 := EM_fr hE1 (f2.mc (D := 0))
      have hK2 : zK M2 146 = (11, 52) := by rw [hE2.1.2.1]; rfl
      have eg : zV d n_Mo_greatest [.int (nI 1), .int (nI v1)] M2 = some (some (.int (nI (max 1 v1))), M2) := mo_greatestN (by omega) (by omega) (by omega)
      rcases hcase with ⟨e, hf, hs⟩ | ⟨hm2, hb2, hj2, hl1, hs⟩
      · rw [hs]
        obtain ⟨z1, z2, z3, z4⟩ := hf
        have eb := fun (x y : Int32) => m_num_b (d := d) (x := x) (y := y) (by omega) hK2 z3 z1 (by omega)
        refine ⟨M2, ?_, (f1.trans f2).sq, z1, z2, z3, z4⟩
        have z5 : ¬ e.1 = 0 := by omega
        clear h0 s1 s2 s9 s10 hk f1 hE1 hm1 f2 hE2 hs
        simp (disch := omega) only [il, nI_add, nI_mul, nI_sub, nI_div, nI_rem, nI_N, i32_lt, i32_le, nI_toInt, nI_subI, nI_clamp, zinT, zifT, iteT, iteF, zQ, zS, zkc, zI_sI, zL_sL, zI_wI, zL_wL, Nat.reduceEqDiff, Nat.reduceAdd, Nat.reduceMul, Nat.reduceLT, Nat.reduceLeDiff, reduceIte, eq_self, and_self, true_and, and_true, false_and, and_false, true_or, or_true, or_false, false_or, not_true_eq_false, not_false_eq_true, zarr, ne_eq, hK, e42, e1, hK1, e2, eg, hK2, eb, z3]
      · rw [hs]
        obtain ⟨M3, v2, e3, f3, hv2, hcase⟩ := m_num (d := d) (lo := max 1 v1) (by omega) hk hE2 hm2 hb2 hj2 (by omega)
        have hE3 := EM_fr hE2 (f3.mc (D := 0))
        have hK3 : zK M3 146 = (11, 52) := by rw [hE3.1.2.1]; rfl
        rcases hcase with ⟨e, hf, hs⟩ | ⟨hm3, hb3, hj3, hl2, hs⟩
        · rw [hs]
          obtain ⟨z1, z2, z3, z4⟩ := hf
          refine ⟨M3, ?_, ((f1.trans f2).trans f3).sq, z1, z2, z3, z4⟩
          have z5 : ¬ e.1 = 0 := by omega
          clear h0 s1 s2 s9 s10 hk f1 hE1 hm1 f2 hE2 hm2 f3 hE3 hs
          simp (disch := omega) only [il, nI_add, nI_mul, nI_sub, nI_div, nI_rem, nI_N, i32_lt, i32_le, nI_toInt, nI_subI, nI_clamp, zinT, zifT, iteT, iteF, zQ, zS, zkc, zI_sI, zL_sL, zI_wI, zL_wL, Nat.reduceEqDiff, Nat.reduceAdd, Nat.reduceMul, Nat.reduceLT, Nat.reduceLeDiff, reduceIte, eq_self, and_self, true_and, and_true, false_and, and_false, true_or, or_true, or_false, false_or, not_true_eq_false, not_false_eq_true, zarr, ne_eq, hK, e42, e1, hK1, e2, eg, hK2, e3, hK3, z3]
        · rw [hs]
          have hg3 := SG_mo h0 ((f1.trans f2).trans f3) hm3 hb3 hj3
          obtain ⟨r1, r2, r3, r4, r5, r6, r7, r8, r9, r10⟩ := hg3
          obtain ⟨z18, -, -⟩ := mTok_ok hm3 hb3
          obtain ⟨M4, e4, f4, f173, q4⟩ := m_repeats (d := d) (mm := v1) (n := v2) (by omega) hE3.1 hsd r10 (fun z hz => by have := mx_ix r9 z hz; unfold ixl at this; omega) (by omega) hv2 (by omega)
          have hK4 : zK M4 146 = (11, 52) := by rw [f4.2.1]; exact hK3
          refine ⟨M4, ?_, (fMo.sq ((f1.trans f2).trans f3)).trans (f4.sq (l := 9) (fun j _ => by rw [f173])) (Nat.le_refl _), ?_⟩
          · clear h0 s1 s2 s9 s10 hk f1 hE1 hm1 f2 hE2 hm2 f3 hE3 hm3 hs r1 r2 r9 r10 f4 q4
            simp (disch := omega) only [il, nI_add, nI_mul, nI_sub, nI_div, nI_rem, nI_N, i32_lt, i32_le, nI_toInt, nI_subI, nI_clamp, zinT, zifT, iteT, iteF, zQ, zS, zkc, zI_sI, zL_sL, zI_wI, zL_wL, Nat.reduceEqDiff, Nat.reduceAdd, Nat.reduceMul, Nat.reduceLT, Nat.reduceLeDiff, reduceIte, eq_self, and_self, true_and, and_true, false_and, and_false, true_or, or_true, or_false, false_or, not_true_eq_false, not_false_eq_true, zarr, ne_eq, hK, e42, e1, hK1, e2, eg, hK2, e3, hK3, z18, e4]
          · exact ⟨EM_sq hE3 (f4.sq (l := 9) (fun j _ => by rw [f173])), mTok_I hm3 (fun j _ _ => f4.2.2.2.2.1 j (by omega)), hb3, hj3, by rw [f4.2.2.2.2.1 37 (by omega)]; exact r5, by rw [f4.2.2.2.2.1 20 (by omega)]; exact r6, by rw [f173]; exact r7, by rw [f173]; exact r8, r9, q4⟩
  · rw [if_neg h42] at e42
    rw [if_neg h42]
    refine ⟨M, ?_, fSq_rfl sd 9 M, h0⟩
    clear h0 s1 s2 s9 s10 hk
    simp (disch := omega) only [il, nI_add, nI_mul, nI_sub, nI_div, nI_rem, nI_N, i32_lt, i32_le, nI_toInt, nI_subI, nI_clamp, zinT, zifT, iteT, iteF, zQ, zS, zkc, zI_sI, zL_sL, zI_wI, zL_wL, Nat.reduceEqDiff, Nat.reduceAdd, Nat.reduceMul, Nat.reduceLT, Nat.reduceLeDiff, reduceIte, eq_self, and_self, true_and, and_true, false_and, and_false, true_or, or_true, or_false, false_or, not_true_eq_false, not_false_eq_true, zarr, ne_eq, hK, e42]
/-! its points -/
noncomputable def s121 (d sd x : Nat) (M : zM) : zO := zG d n_Mo_readSequence 121 [some (.ref 146), some (.int (nI sd)), none] [.int (nI x)] M
noncomputable def s86 (d sd x : Nat) (M : zM) : zO := zG d n_Mo_readSequence 86 [some (.ref 146), some (.int (nI sd)), some (.int (nI x))] [] M
noncomputable def aft (d sd : Nat) (M : zM) : zO := zif ((zK M 146).1 = 11) (zbI (zV d n_Mo_isSign [.ref 146, .int (44 : Int32)] M) fun u1 M11 => if u1 ≠ 0 then (s121 d sd 1 M11) else zif ((zK M11 146).1 = 11) (zbI (zV d n_Mo_isSign [.ref 146, .int (47 : Int32)] M11) fun u2 M12 => if u2 = 0 then (s121 d sd 0 M12) else s121 d sd 1 M12))
noncomputable def bgF (d sd : Nat) (M : zM) : zO := zbV (zG d n_Mo_readBegin 0 [some (.ref 146)] [] M) (fun M9 => zif ((zK M9 146).1 = 11) (zbV (zV (d + 1) n_Mo_readEnds [.ref 146] M9) (aft (d + 1) sd)))
noncomputable def edF (d sd : Nat) (M : zM) : zO := zbV (zG d n_Mo_readEnds 13 [some (.ref 146), some (.int (nI 1))] [] M) (aft (d + 1) sd)
noncomputable def e71 (d x : Nat) (M : zM) : zO := zG d n_Mo_readEnds 71 [some (.ref 146), none] [.int (nI x)] M
noncomputable def e2F (d sd : Nat) (M : zM) : zO := zbV (zif ((zK M 146).1 = 11) (if (zI M 146 37) ≤ 0 then (e71 d 0 M) else zif ((zK M 146).1 = 11) (zbI (zV d n_Mo_isSign [.ref 146, .int (125 : Int32)] M) fun u1 M2 => if u1 = 0 then (e71 d 0 M2) else e71 d 1 M2))) (aft (d + 1) sd)
theorem s86_1 {d sd : Nat} {M : zM} (hK : zK M 146 = (11, 52)) : s86 (d + 1) sd 1 M = bgF d sd M := by
  have eb : zV (d + 1) n_Mo_readBegin [.ref 146] M = zG d n_Mo_readBegin 0 [some (.ref 146)] [] M := by
    rw [ze_Mo_readBegin, zg_Mo_readBegin_0]
    rfl
  unfold s86 bgF
  rw [← eb, zg_Mo_readSequence_86]
  unfold zx_Mo_readSequence_86
  rw [if_neg (by decide), zif_t (by rw [hK])]
  rfl
theorem s121_0 {d sd : Nat} {M : zM} : s121 d sd 0 M = s86 d sd 0 M := by
  unfold s121 s86
  rw [zg_Mo_readSequence_121]
  unfold zx_Mo_readSequence_121
  rw [if_pos (by decide)]
theorem s86_bad {d sd : Nat} {M : zM} {e : Nat × Nat} (hK : zK M 146 = (11, 52)) (h : MF e M) : s86 d sd 0 M = some (none, M) := by
  obtain ⟨h1, h2, h3, h4⟩ := h
  unfold s86
  rw [zg_Mo_readSequence_86]
  unfold zx_Mo_readSequence_86
  simp (disch := omega) only [il, nI_add, nI_mul, nI_sub, nI_div, nI_rem, nI_N, i32_lt, i32_le, nI_toInt, nI_subI, nI_clamp, zinT, zifT, iteT, iteF, zQ, zS, zkc, zI_sI, zL_sL, zI_wI, zL_wL, Nat.reduceEqDiff, Nat.reduceAdd, Nat.reduceMul, Nat.reduceLT, Nat.reduceLeDiff, reduceIte, eq_self, and_self, true_and, and_true, false_and, and_false, true_or, or_true, or_false, false_or, not_true_eq_false, not_false_eq_true, zarr, ne_eq, hK, h3]
theorem aft_bad {d sd : Nat} {M : zM} {e : Nat × Nat} (hd : 1 ≤ d) (hK : zK M 146 = (11, 52)) (h : MF e M) : aft d sd M = some (none, M) := by
  have h0 := h
  obtain ⟨h1, h2, h3, h4⟩ := h
  have e1 := fun c => m_isSign_b (d := d) (c := c) hd hK h3 h1 (by omega)
  unfold aft
  rw [zif_t (by rw [hK]), e1, zbI_S, if_neg (by decide), zif_t (by rw [hK]), e1, zbI_S, if_pos (by decide), s121_0, s86_bad hK h0]
theorem e13_0 {d : Nat} {M : zM} : zG d n_Mo_readEnds 13 [some (.ref 146), some (.int (nI 0))] [] M = some (none, M) := by
  rw [zg_Mo_readEnds_13]
  unfold zx_Mo_readEnds_13
  rw [if_pos (by decide)]
theorem e71_0 {d : Nat} {M : zM} : e71 d 0 M = some (none, M) := by
  unfold e71
  rw [zg_Mo_readEnds_71]
  unfold zx_Mo_readEnds_71
  rw [if_pos (by decide)]
  exact e13_0
/-- a fault where a part begins -/
theorem bg_bad {d sd : Nat} {M M9 : zM} {e : Nat × Nat} (hb : zG d n_Mo_readBegin 0 [some (.ref 146)] [] M = some (none, M9)) (hK : zK M9 146 = (11, 52)) (h : MF e M9) : bgF d sd M = some (none, M9) := by
  unfold bgF
  have ee : zV (d + 1) n_Mo_readEnds [.ref 146] M9 = some (none, M9) := by
    obtain ⟨h1, h2, h3, h4⟩ := h
    rw [ze_Mo_readEnds]
    unfold zx_Mo_readEnds
    have n0 : ¬ zI M9 146 18 = nI 0 := by rw [h3]; exact nI_ne (by omega) (by omega) (by omega)
    rw [zif_t (by rw [hK])]
    exact (if_pos n0).trans e13_0
  rw [hb, zbV_S, zif_t (by rw [hK]), ee, zbV_S, aft_bad (by omega) hK h]
theorem bg_ok {d sd : Nat} {M M9 : zM} (hb : zG d n_Mo_readBegin 0 [some (.ref 146)] [] M = some (none, M9)) (hK : zK M9 146 = (11, 52)) (h : zI M9 146 18 = nI 0) : bgF d sd M = edF d sd M9 := by
  unfold bgF edF
  rw [hb, zbV_S, zif_t (by rw [hK]), ze_Mo_readEnds]
  unfold zx_Mo_readEnds
  rw [zif_t (by rw [hK]), if_neg (by rw [h]; decide)]
  rfl
/-- the beginning again, where a fault stands -/
theorem m_begin_b {d L w f : Nat} {M : zM} (hd : 2 ≤ d) (hs : zSh L w M) (h18 : zI M 146 18 = nI f) (hf : 0 < f) (hf2 : f < 100) : ∃ M', zG d n_Mo_readBegin 0 [some (.ref 146)] [] M = some (none, M') ∧ fMc 0 M M' ∧ zI M' 146 18 = zI M 146 18 ∧ zI M' 146 19 = zI M 146 19 := by
  have hK : zK M 146 = (11, 52) := by rw [hs.2.1]; rfl
  have e1 := m_isSign_b (d := d) (c := nI 123) (by omega) hK h18 hf hf2
  obtain ⟨M', e2, f2, g1, g2⟩ := m_readCondition_b (d := d) (wh := 0) hd hs h18 hf hf2
  have hK' : zK M' 146 = (11, 52) := by rw [f2.2.1]; exact hK
  have i18 : zI M' 146 18 = nI f := g1.trans h18
  refine ⟨M', ?_, f2, g1, g2⟩
  rw [zg_Mo_readBegin_0]
  unfold zx_Mo_readBegin_0
  clear hs f2 g1 g2
  simp (disch := omega) only [il, nI_add, nI_mul, nI_sub, nI_div, nI_rem, nI_N, i32_lt, i32_le, nI_toInt, nI_subI, nI_clamp, zinT, zifT, iteT, iteF, zQ, zS, zkc, zI_sI, zL_sL, zI_wI, zL_wL, Nat.reduceEqDiff, Nat.reduceAdd, Nat.reduceMul, Nat.reduceLT, Nat.reduceLeDiff, reduceIte, eq_self, and_self, true_and, and_true, false_and, and_false, true_or, or_true, or_false, false_or, not_true_eq_false, not_false_eq_true, zarr, ne_eq, hK, e1, e2, hK', i18]
theorem m_opensSequence {d L w l : Nat} {M : zM} (hd : 1 ≤ d) (hs : zSh L w M) (h37 : zI M 146 37 = nI l) (hl : l < 9) : zV d n_Mo_opensSequence [.ref 146] M = some (none, zsI (zsI M 173 (1 + l) (nI 0)) 173 (11 + l) (nI 0)) := by
  obtain ⟨d, rfl, hd1⟩ := zdep hd
  obtain ⟨hN, hK, hC, hMo, -⟩ := hs
  rw [ze_Mo_opensSequence]
  unfold zx_Mo_opensSequence
  simp (disch := omega) only [il, nI_add, nI_mul, nI_sub, nI_div, nI_rem, nI_N, i32_lt, i32_le, nI_toInt, nI_subI, nI_clamp, zinT, zifT, iteT, iteF, zQ, zS, zkc, zI_sI, zL_sL, zI_wI, zL_wL, Nat.reduceEqDiff, Nat.reduceAdd, Nat.reduceMul, Nat.reduceLT, Nat.reduceLeDiff, reduceIte, eq_self, and_self, true_and, and_true, false_and, and_false, true_or, or_true, or_false, false_or, not_true_eq_false, not_false_eq_true, zarr, ne_eq, hK, hMo, h37, zbast, nar_z0]
