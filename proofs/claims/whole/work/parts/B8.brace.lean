/-! the reference reads a sequence: { and a condition -/
theorem m_nests8 {d L w N i : Nat} {β : Nat → Nat} {pt : Nat → Int64} {M : zM} (hd : 2 ≤ d) (hE : EM L w N β pt M) (hm : mTok (tok β N i) M) (h3 : (tok β N i).1 ≠ 3) (h20 : zI M 146 20 = nI 8) : zV d n_Mo_nests [.ref 146] M = some (none, zsI (zsI (zsI M 146 18 (nI 4)) 146 19 (zI M 146 15)) 146 20 (nI 9)) := by
  obtain ⟨d, rfl, hd1⟩ := zdep hd
  have hK : zK M 146 = (11, 52) := by rw [hE.1.2.1]; rfl
  obtain ⟨c18, c15, c16⟩ := mTok_ok hm h3
  have er := m_requires_f (d := d) (x := 4) (M := M) (by omega) hK c18
  have eb := m_reads_b (d := d) (f := 4) (M := zsI (zsI (zsI M 146 18 (nI 4)) 146 19 (zI M 146 15)) 146 20 (nI 9)) (by omega) hK rfl (by omega) (by omega)
  rw [ze_Mo_nests]
  unfold zx_Mo_nests
  clear hE hm
  simp (disch := omega) only [il, nI_add, nI_mul, nI_sub, nI_div, nI_rem, nI_N, i32_lt, i32_le, nI_toInt, nI_subI, nI_clamp, zinT, zifT, iteT, iteF, zQ, zS, zkc, zI_sI, zL_sL, zI_wI, zL_wL, Nat.reduceEqDiff, Nat.reduceAdd, Nat.reduceMul, Nat.reduceLT, Nat.reduceLeDiff, reduceIte, eq_self, and_self, true_and, and_true, false_and, and_false, true_or, or_true, or_false, false_or, not_true_eq_false, not_false_eq_true, zarr, ne_eq, hK, h20, er, eb]
theorem m_nests {d L w N i n : Nat} {β : Nat → Nat} {pt : Nat → Int64} {M : zM} (hd : 3 ≤ d) (hk : tkOk (tok β N) N) (hE : EM L w N β pt M) (hm : mTok (tok β N i) M) (h3 : (tok β N i).1 ≠ 3) (hi : i ≤ N) (h20 : zI M 146 20 = nI n) (hn : n < 8) : ∃ M', zV d n_Mo_nests [.ref 146] M = some (none, M') ∧ fMc 9 M M' ∧ EM L w N β pt M' ∧ mTok (tok β N (tok β N i).2.2.2) M' ∧ zI M' 146 20 = nI (n + 1) ∧ zI M' 146 27 = zI M 146 27 := by
  obtain ⟨d, rfl, hd1⟩ := zdep hd
  have hK : zK M 146 = (11, 52) := by rw [hE.1.2.1]; rfl
  obtain ⟨c18, c15, c16⟩ := mTok_ok hm h3
  have f0 : fMc 9 M (zsI M 146 20 (nI (n + 1))) := ⟨rfl, rfl, rfl, fun b h1 _ _ _ => zI_ne h1, fun j h1 h2 => by rw [zI_sI, if_neg (fun z => by omega)], fun _ _ _ _ => rfl, fun j _ => ⟨rfl, rfl, rfl⟩, fun _ _ => ⟨rfl, rfl⟩⟩
  have hE0 := EM_fr hE f0
  obtain ⟨M1, e3, f1, f1c, hE1, hm1⟩ := m_adv (d := d) (D := 9) (M := zsI M 146 20 (nI (n + 1))) (by omega) hE0 hk hm h3 hi
  have er := m_requires_t (d := d) (x := 4) (M := M) (by omega)
  refine ⟨M1, ?_, f0.trans f1c (Nat.le_refl _), hE1, hm1, by rw [f1.2.2.2.2.2 20 (by omega)]; rfl, by rw [f1.2.2.2.2.2 27 (by omega)]; rfl⟩
  rw [ze_Mo_nests]
  unfold zx_Mo_nests
  clear hE hm f0 hE0 f1 f1c hE1 hm1 hk
  simp (disch := omega) only [il, nI_add, nI_mul, nI_sub, nI_div, nI_rem, nI_N, i32_lt, i32_le, nI_toInt, nI_subI, nI_clamp, zinT, zifT, iteT, iteF, zQ, zS, zkc, zI_sI, zL_sL, zI_wI, zL_wL, Nat.reduceEqDiff, Nat.reduceAdd, Nat.reduceMul, Nat.reduceLT, Nat.reduceLeDiff, reduceIte, eq_self, and_self, true_and, and_true, false_and, and_false, true_or, or_true, or_false, false_or, not_true_eq_false, not_false_eq_true, zarr, ne_eq, hK, h20, er, e3]
theorem bg_flt {d L w sd l f : Nat} {M M1 : zM} (hd : 2 ≤ d) (hK : zK M 146 = (11, 52)) (hs1 : zSh L w M1) (e1 : zV d n_Mo_isSign [.ref 146, .int (nI 123)] M = some (some (.int (nI 1)), M)) (e2 : zV d n_Mo_nests [.ref 146] M = some (none, M1)) (h37 : zI M1 146 37 = nI l) (hl : l < 9) (h18 : zI M1 146 18 = nI f) (hf : 0 < f) (hf2 : f < 100) : ∃ M', zG d n_Mo_readBegin 0 [some (.ref 146)] [] M = some (none, M') ∧ fSe sd l M1 M' ∧ zI M' 146 18 = zI M1 146 18 ∧ zI M' 146 19 = zI M1 146 19 := by
  have hK1 : zK M1 146 = (11, 52) := by rw [hs1.2.1]; rfl
  have e3 := m_opensSequence (d := d) (l := l) (M := zsI M1 146 37 (nI l)) (by omega) (hs1.sI _ _ _) (by rw [zI_sI, if_pos ⟨rfl, rfl⟩]) hl
  obtain ⟨M', e4, f4, g1, g2⟩ := m_begin_b (d := d) (M := zsI (zsI (zsI M1 146 37 (nI l)) 173 (1 + l) (nI 0)) 173 (11 + l) (nI 0)) hd hs1 h18 hf hf2
  refine ⟨M', ?_, ?_, g1, g2⟩
  · rw [zg_Mo_readBegin_0]
    unfold zx_Mo_readBegin_0
    clear hs1 f4 g1 g2
    simp (disch := omega) only [il, nI_add, nI_mul, nI_sub, nI_div, nI_rem, nI_N, i32_lt, i32_le, nI_toInt, nI_subI, nI_clamp, zinT, zifT, iteT, iteF, zQ, zS, zkc, zI_sI, zL_sL, zI_wI, zL_wL, Nat.reduceEqDiff, Nat.reduceAdd, Nat.reduceMul, Nat.reduceLT, Nat.reduceLeDiff, reduceIte, eq_self, and_self, true_and, and_true, false_and, and_false, true_or, or_true, or_false, false_or, not_true_eq_false, not_false_eq_true, zarr, ne_eq, hK, e1, e2, hK1, h18, mo_flag0 (show 1 ≤ d by omega), h37, Nat.add_zero, e3, e4]
  · refine fSe.trans (l' := l) (M1 := zsI (zsI (zsI M1 146 37 (nI l)) 173 (1 + l) (nI 0)) 173 (11 + l) (nI 0)) ⟨rfl, rfl, rfl, fun b hb => by rw [zI_ne (by omega), zI_ne (by omega), zI_ne (by omega)], fun j h1 h2 h3 h4 => ?_, fun _ _ => rfl, fun _ _ => rfl, fun _ _ => rfl, fun j hj => ?_⟩ f4.sq (Nat.le_refl _)
    · rw [zI_ne (by omega), zI_ne (by omega), zI_sI, if_neg (fun z => h3 z.2)]
    · rw [zI_sI, if_neg (fun z => by omega), zI_sI, if_neg (fun z => by omega), zI_ne (by omega)]
theorem bg_brace8 {d L w N sd l n i : Nat} {β : Nat → Nat} {pt : Nat → Int64} {m : IP} {o t x : Option Pc} {M : zM} (hd : 3 ≤ d) (hk : tkOk (tok β N) N) (hl : l ≤ 8) (h : SG L w N β pt sd l n i m o t x M) (h123 : (tok β N i).1 = 123) (hn : n = 8) : ∃ M', bgF d sd M = some (none, M') ∧ fSe sd l M M' ∧ zK M' 146 = (11, 52) ∧ MF (4, plc (tok β N) i) M' := by
  subst hn
  obtain ⟨s1, s2, s3, s4, s5, s6, s7, s8, s9, s10⟩ := h
  have hK : zK M 146 = (11, 52) := by rw [s1.1.2.1]; rfl
  obtain ⟨c18, c15, c16⟩ := mTok_ok s2 s3
  have e1 := m_isSign (d := d) (c := 123) (by omega) s1 hk s2 s3 s4 (by omega) (by omega)
  rw [if_pos h123] at e1
  have e2 := m_nests8 (d := d) (by omega) s1 s2 s3 s6
  have f0 : fSe sd l M (zsI (zsI (zsI M 146 18 (nI 4)) 146 19 (zI M 146 15)) 146 20 (nI 9)) := ⟨rfl, rfl, rfl, fun b hb => by rw [zI_ne (by omega), zI_ne (by omega), zI_ne (by omega)], fun j h1 h2 h3 h4 => by rw [zI_sI, if_neg (fun z => by omega), zI_sI, if_neg (fun z => by omega), zI_sI, if_neg (fun z => by omega)], fun _ _ => rfl, fun _ _ => rfl, fun _ _ => rfl, fun _ _ => rfl⟩
  obtain ⟨M', e3, f3, g1, g2⟩ := bg_flt (sd := sd) (l := l) (f := 4) (M1 := zsI (zsI (zsI M 146 18 (nI 4)) 146 19 (zI M 146 15)) 146 20 (nI 9)) (by omega) hK s1.1 e1 e2 s5 (by omega) rfl (by omega) (by omega)
  have hK' : zK M' 146 = (11, 52) := by rw [f3.2.1]; exact hK
  have hf : MF (4, plc (tok β N) i) M' := ⟨(show 0 < 4 by decide), (show 4 < 10 by decide), g1, g2.trans c15⟩
  exact ⟨M', bg_bad e3 hK' hf, f0.trans f3 (Nat.le_refl _), hK', hf⟩
theorem bg_brace {d L w N sd l n i : Nat} {β : Nat → Nat} {pt : Nat → Int64} {m : IP} {o t : Option Pc} {M : zM} (hd : 3 ≤ d) (hk : tkOk (tok β N) N) (hl : l < 8) (h : SG L w N β pt sd l n i m o t none M) (h123 : (tok β N i).1 = 123) (hn : n < 8) : ∃ M', fSe sd l M M' ∧ zK M' 146 = (11, 52) ∧ (((tok β N (tok β N i).2.2.2).1 = 3 ∧ MF (1, (tok β N (tok β N i).2.2.2).2.2.1) M' ∧ bgF d sd M = some (none, M')) ∨ ((tok β N (tok β N i).2.2.2).1 ≠ 3 ∧ fSe sd (l + 1) M M' ∧ SG L w N β pt sd (l + 1) (n + 1) (tok β N i).2.2.2 (m ++ oL (1 + l) o ++ oL (11 + l) t) none none none M' ∧ bgF d sd M = bgF d sd M')) := by
  obtain ⟨s1, s2, s3, s4, s5, s6, s7, s8, s9, s10⟩ := h
  have hK : zK M 146 = (11, 52) := by rw [s1.1.2.1]; rfl
  have e1 := m_isSign (d := d) (c := 123) (by omega) s1 hk s2 s3 s4 (by omega) (by omega)
  rw [if_pos h123] at e1
  obtain ⟨M1, e2, f1, hE1, hm1, h20, -⟩ := m_nests (d := d) hd hk s1 s2 s3 s4 s6 hn
  have hK1 : zK M1 146 = (11, 52) := by rw [hE1.1.2.1]; rfl
  have h37 : zI M1 146 37 = nI l := by rw [f1.2.2.2.2.1 37 (by omega) (by omega)]; exact s5
  by_cases hb : (tok β N (tok β N i).2.2.2).1 = 3
  · obtain ⟨b1, b2⟩ := mTok_bad hm1 hb
    obtain ⟨M', e3, f3, g1, g2⟩ := bg_flt (sd := sd) (l := l) (f := 1) (M1 := M1) (by omega) hK hE1.1 e1 e2 h37 (by omega) b1 (by omega) (by omega)
    have hK' : zK M' 146 = (11, 52) := by rw [f3.2.1]; exact hK1
    have hf : MF (1, (tok β N (tok β N i).2.2.2).2.2.1) M' := ⟨Nat.zero_lt_one, (show 1 < 10 by decide), g1.trans b1, g2.trans b2⟩
    exact ⟨M', f1.sq.trans f3 (Nat.le_refl _), hK', Or.inl ⟨hb, hf, bg_bad e3 hK' hf⟩⟩
  · obtain ⟨z18, -, -⟩ := mTok_ok hm1 hb
    have e3 := m_opensSequence (d := d) (l := l + 1) (M := zsI M1 146 37 (nI (l + 1))) (by omega) (hE1.1.sI _ _ _) (by rw [zI_sI, if_pos ⟨rfl, rfl⟩]) (by omega)
    generalize hM2 : zsI (zsI (zsI M1 146 37 (nI (l + 1))) 173 (1 + (l + 1)) (nI 0)) 173 (11 + (l + 1)) (nI 0) = M2 at *
    have f2 : fSe sd (l + 1) M1 M2 := by
      rw [← hM2]
      refine ⟨rfl, rfl, rfl, fun b hb => by rw [zI_ne (by omega), zI_ne (by omega), zI_ne (by omega)], fun j h1 h2 h3 h4 => ?_, fun _ _ => rfl, fun _ _ => rfl, fun _ _ => rfl, fun j hj => ?_⟩
      · rw [zI_ne (by omega), zI_ne (by omega), zI_sI, if_neg (fun z => h3 z.2)]
      · rw [zI_sI, if_neg (fun z => by omega), zI_sI, if_neg (fun z => by omega), zI_ne (by omega)]
    have ff : fSe sd (l + 1) M M2 := f1.sq.trans f2 (Nat.le_refl _)
    have hI : ∀ j, j ≠ 37 → zI M2 146 j = zI M1 146 j := fun j hj => by rw [← hM2, zI_ne (by omega), zI_ne (by omega), zI_sI, if_neg (fun z => hj z.2)]
    have hIo : ∀ b, b ≠ 146 → b ≠ 173 → zI M2 b = zI M1 b := fun b h1 h2 => by rw [← hM2, zI_ne h2, zI_ne h2, zI_ne h1]
    have hLo : zL M2 = zL M1 := by rw [← hM2]; rfl
    refine ⟨M2, (fSq_rfl sd l M).trans ff (by omega), by rw [f2.2.1]; exact hK1, Or.inr ⟨hb, ff, ⟨EM_sq hE1 f2, mTok_I hm1 (fun j _ _ => hI j (by omega)), hb, (hk i s4).1, ?_, (hI 20 (by omega)).trans h20, ?_, ?_, mx_ix s9, ?_⟩, ?_⟩⟩
    · rw [← hM2, zI_ne (by omega), zI_ne (by omega), zI_sI, if_pos ⟨rfl, rfl⟩]
    · rw [← hM2, zI_sI, if_neg (fun z => by omega), zI_sI, if_pos ⟨rfl, rfl⟩]
      rfl
    · rw [← hM2, zI_sI, if_pos ⟨rfl, rfl⟩]
      rfl
    · rw [show oL 0 none = [] from rfl, List.append_nil] at s10
      show Qst sd (m ++ oL (1 + l) o ++ oL (11 + l) t ++ [] ++ [] ++ []) M2
      rw [List.append_nil, List.append_nil, List.append_nil]
      exact Qst_fr (Qst_mc s10 f1) (hI 38 (by omega)) (hI 39 (by omega)) (fun b hb => hIo b (by omega) (by omega)) (fun b _ => by rw [hLo])
    · unfold bgF
      congr 1
      rw [zg_Mo_readBegin_0]
      unfold zx_Mo_readBegin_0
      clear s1 s2 s9 s10 f1 hE1 hm1 f2 ff hI hIo hLo hk
      simp (disch := omega) only [il, nI_add, nI_mul, nI_sub, nI_div, nI_rem, nI_N, i32_lt, i32_le, nI_toInt, nI_subI, nI_clamp, zinT, zifT, iteT, iteF, zQ, zS, zkc, zI_sI, zL_sL, zI_wI, zL_wL, Nat.reduceEqDiff, Nat.reduceAdd, Nat.reduceMul, Nat.reduceLT, Nat.reduceLeDiff, reduceIte, eq_self, and_self, true_and, and_true, false_and, and_false, true_or, or_true, or_false, false_or, not_true_eq_false, not_false_eq_true, zarr, ne_eq, hK, e1, e2, hK1, z18, mo_flag1 (show 1 ≤ d by omega), h37, e3]
/-- a condition where a part begins -/
theorem bg_cond {d L w N sd l n k i : Nat} {β : Nat → Nat} {pt : Nat → Int64} {m : IP} {o t : Option Pc} {M : zM} (hN : N ≤ 200) (hd : 5 ≤ d) (hk : tkOk (tok β N) N) (hsd : sd < 8) (hl : l ≤ 8) (hn : n + k = 8) (h : SG L w N β pt sd l n i m o t none M) (h123 : (tok β N i).1 ≠ 123) : ∃ M', fSe sd l M M' ∧ zK M' 146 = (11, 52) ∧ ((∃ e, sC (tok β N) pt k i = .inl e ∧ MF e M' ∧ bgF d sd M = some (none, M')) ∨ (∃ u j, sC (tok β N) pt k i = .inr (u, j) ∧ SG L w N β pt sd l n j m o t (some (coP u)) M' ∧ bgF d sd M = edF d sd M')) := by
  obtain ⟨s1, s2, s3, s4, s5, s6, s7, s8, s9, s10⟩ := h
  have hK : zK M 146 = (11, 52) := by rw [s1.1.2.1]; rfl
  have e1 := m_isSign (d := d) (c := 123) (by omega) s1 hk s2 s3 s4 (by omega) (by omega)
  rw [if_neg h123] at e1
  obtain ⟨d2, rfl⟩ : ∃ d2, d = d2 + 2 := ⟨d - 2, by omega⟩
  obtain ⟨M1, e2, ho⟩ := m_readCondition (d := d2) (wh := 0) (n := n) (k := k) (i := i) hN (by omega) hk (by omega) hn s1 s2 s3 s4 s6
  rw [if_neg (by decide)] at ho
  cases hrr : sC (tok β N) pt k i with
  | inl e =>
    have hr2 : sNeg (tok β N) pt (rK (tok β N) pt k) 200 false i = .inl e := hrr
    rw [hr2] at ho
    obtain ⟨o1, o2, o3⟩ := ho
    have z := o3.2.2.1
    have zp := o3.1
    have zq := o3.2.1
    refine ⟨M1, o1.sq, o2, Or.inl ⟨e, rfl, o3, bg_bad ?_ o2 o3⟩⟩
    rw [zg_Mo_readBegin_0]
    unfold zx_Mo_readBegin_0
    clear s1 s2 s9 s10 o1 o3 hk
    simp (disch := omega) only [il, nI_add, nI_mul, nI_sub, nI_div, nI_rem, nI_N, i32_lt, i32_le, nI_toInt, nI_subI, nI_clamp, zinT, zifT, iteT, iteF, zQ, zS, zkc, zI_sI, zL_sL, zI_wI, zL_wL, Nat.reduceEqDiff, Nat.reduceAdd, Nat.reduceMul, Nat.reduceLT, Nat.reduceLeDiff, reduceIte, eq_self, and_self, true_and, and_true, false_and, and_false, true_or, or_true, or_false, false_or, not_true_eq_false, not_false_eq_true, zarr, ne_eq, hK, e1, e2, o2, z]
  | inr u =>
    have hr2 : sNeg (tok β N) pt (rK (tok β N) pt k) 200 false i = .inr u := hrr
    rw [hr2] at ho
    obtain ⟨o1, o2, o3, o4, o5, o6, o7⟩ := ho
    obtain ⟨z18, -, -⟩ := mTok_ok o3 o4
    have hE1 := EM_fr s1 o1
    rw [show oL 0 none = [] from rfl, List.append_nil] at s10
    obtain ⟨M2, e3, f3, f173, q3⟩ := m_onePlace (d := d2 + 2) (sd := sd) (t := u.1) (by omega) hE1.1 hsd (Qst_mc s10 o1) (fun z hz => by have := mx_ix s9 z hz; unfold ixl at this; omega) o7
    have hK2 : zK M2 146 = (11, 52) := by rw [f3.2.1]; exact o2
    have ff : fSe sd l M M2 := o1.sq.trans (f3.sq (l := l) (fun j _ => by rw [f173])) (Nat.le_refl _)
    refine ⟨M2, ff, hK2, Or.inr ⟨u.1, u.2, rfl, ⟨EM_sq hE1 (f3.sq (l := l) (fun j _ => by rw [f173])), mTok_I o3 (fun j _ _ => f3.2.2.2.2.1 j (by omega)), o4, o5, ?_, ?_, ?_, ?_, s9, q3⟩, bg_ok ?_ hK2 ?_⟩⟩
    · rw [f3.2.2.2.2.1 37 (by omega), o1.2.2.2.2.1 37 (by omega) (by omega)]; exact s5
    · rw [f3.2.2.2.2.1 20 (by omega)]; exact o6
    · rw [f173, o1.2.2.2.1 173 (by omega) (by omega) (by omega) (by omega)]; exact s7
    · rw [f173, o1.2.2.2.1 173 (by omega) (by omega) (by omega) (by omega)]; exact s8
    · rw [zg_Mo_readBegin_0]
      unfold zx_Mo_readBegin_0
      clear s1 s2 s9 s10 o1 o3 hk hE1 f3 q3 ff o7
      simp (disch := omega) only [il, nI_add, nI_mul, nI_sub, nI_div, nI_rem, nI_N, i32_lt, i32_le, nI_toInt, nI_subI, nI_clamp, zinT, zifT, iteT, iteF, zQ, zS, zkc, zI_sI, zL_sL, zI_wI, zL_wL, Nat.reduceEqDiff, Nat.reduceAdd, Nat.reduceMul, Nat.reduceLT, Nat.reduceLeDiff, reduceIte, eq_self, and_self, true_and, and_true, false_and, and_false, true_or, or_true, or_false, false_or, not_true_eq_false, not_false_eq_true, zarr, ne_eq, hK, e1, e2, o2, z18, e3]
    · rw [f3.2.2.2.2.1 18 (by omega)]; exact z18
