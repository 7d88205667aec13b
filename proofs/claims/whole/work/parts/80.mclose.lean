/-! the reference: ), and the end of a condition -/
/-- now is what the ors of a depth hold -/
theorem m_c76 {d L w l wh x3 : Nat} {M : zM} {t : T4} (hs : zSh L w M) (h27 : zI M 146 27 = nI l) (hl : l < 10) (ht : ∀ q, q < 4 → zL M 159 (4 * l + q) = t q) : ∃ M', zG d n_Mo_readCondition 76 [some (.ref 146), some (.int (nI wh)), none, some (.int (nI x3)), some (.int (nI 0))] [] M = zG d n_Mo_readCondition 76 [some (.ref 146), some (.int (nI wh)), none, some (.int (nI x3)), some (.int (nI 4))] [] M' ∧ zN M' = zN M ∧ zK M' = zK M ∧ zR M' = zR M ∧ zI M' = zI M ∧ (∀ b, b ≠ 164 → zL M' b = zL M b) ∧ ∀ q, q < 4 → zL M' 164 q = t q := by
  obtain ⟨M1, e, f1, f2, f3, f4, f5, f6⟩ := zloopE (n := 4) (g := fun q M1 => zG d n_Mo_readCondition 76 [some (.ref 146), some (.int (nI wh)), none, some (.int (nI x3)), some (.int (nI q))] [] M1) (P := fun n M1 => zN M1 = zN M ∧ zK M1 = zK M ∧ zR M1 = zR M ∧ zI M1 = zI M ∧ (∀ b, b ≠ 164 → zL M1 b = zL M b) ∧ ∀ q, q < n → zL M1 164 q = t q) (by
    intro q M1 hq ⟨f1, f2, f3, f4, f5, f6⟩
    have hs1 := zSh_fr hs f1 f2 f3
    obtain ⟨hN, hK, hC, hMo, -⟩ := hs1
    have t1 : zL M1 159 (4 * l + q) = t q := by rw [f5 159 (by omega)]; exact ht q hq
    have i27 : zI M1 146 27 = nI l := by rw [f4]; exact h27
    refine ⟨zsL M1 164 q (t q), ?_, f1, f2, f3, f4, fun b hb => (zL_ne hb).trans (f5 b hb), ?_⟩
    · show zG d n_Mo_readCondition 76 [some (.ref 146), some (.int (nI wh)), none, some (.int (nI x3)), some (.int (nI q))] [] M1 = _
      rw [zg_Mo_readCondition_76]
      unfold zx_Mo_readCondition_76
      clear f1 f2 f3 f4 f5 f6 hs ht
      simp (disch := omega) only [il, nI_add, nI_mul, nI_sub, nI_div, nI_rem, nI_N, i32_lt, i32_le, nI_toInt, nI_subI, nI_clamp, zinT, zifT, iteT, iteF, zQ, zS, zkc, zI_sI, zL_sL, zI_wI, zL_wL, Nat.reduceEqDiff, Nat.reduceAdd, Nat.reduceMul, Nat.reduceLT, Nat.reduceLeDiff, reduceIte, eq_self, and_self, true_and, and_true, false_and, and_false, true_or, or_true, or_false, false_or, not_true_eq_false, not_false_eq_true, zarr, ne_eq, hK, hMo, i27, t1]
    · intro j hj
      by_cases h : j = q
      · subst h; rw [zL_sL, if_pos ⟨rfl, rfl⟩]
      · rw [zL_sL, if_neg (fun z => h z.2)]; exact f6 j (by omega)) (s0 := M) ⟨rfl, rfl, rfl, rfl, fun _ _ => rfl, fun _ h => absurd h (by omega)⟩
  exact ⟨M1, e, f1, f2, f3, f4, f5, f6⟩
theorem fMc_w {D : Nat} {M M' : zM} (g1 : zN M' = zN M) (g2 : zK M' = zK M) (g3 : zR M' = zR M) (g4 : zI M' = zI M) (g5 : ∀ b, b ≠ 164 → zL M' b = zL M b) : fMc D M M' := ⟨g1, g2, g3, fun b _ _ _ _ => by rw [g4], fun j _ _ => by rw [g4], fun b _ _ h3 => g5 b h3, fun j _ => ⟨by rw [g4], by rw [g4], by rw [g4]⟩, fun j _ => ⟨by rw [g5 159 (by omega)], by rw [g5 160 (by omega)]⟩⟩
theorem fMc_le {D D' : Nat} {M M' : zM} (z : fMc D' M M') (h : D ≤ D') : fMc D M M' := ⟨z.1, z.2.1, z.2.2.1, z.2.2.2.1, z.2.2.2.2.1, z.2.2.2.2.2.1, fun j hj => z.2.2.2.2.2.2.1 j (by omega), fun j hj => z.2.2.2.2.2.2.2 j (by omega)⟩
/-- ) closes a depth -/
theorem m_c_close {d L w N l n i wh : Nat} {β : Nat → Nat} {pt : Nat → Int64} {M : zM} {o' : Option T4} {t' : T4} {o a : Option T4} {g : Bool} (hd : 2 ≤ d) (hk : tkOk (tok β N) N) (hl : l + 1 < 10) (hw : wh < 2) (h : MG L w N β pt (l + 1) (n + 1) i (o', some t', false) M) (hv : lvl M l (o, a, g)) (hn : n < 8) (hop : (tok β N i).1 = 41) : ∃ M', fMc l M M' ∧ zK M' 146 = (11, 52) ∧ (((tok β N (tok β N i).2.2.2).1 = 3 ∧ MF (1, (tok β N (tok β N i).2.2.2).2.2.1) M' ∧ zG d n_Mo_readCondition 32 [some (.ref 146), some (.int (nI wh)), none, some (.int (nI 1)), none] [] M = some (none, M')) ∨ ((tok β N (tok β N i).2.2.2).1 ≠ 3 ∧ MG L w N β pt l n (tok β N i).2.2.2 (o, some (anO a (if g = true then ngt (orO o' t') else orO o' t')), false) M' ∧ zG d n_Mo_readCondition 32 [some (.ref 146), some (.int (nI wh)), none, some (.int (nI 1)), none] [] M = zG d n_Mo_readCondition 32 [some (.ref 146), some (.int (nI wh)), none, some (.int (nI 1)), none] [] M')) := by
  obtain ⟨hE, hm, h3, hi, h27, h20, hv'⟩ := h
  have hK : zK M 146 = (11, 52) := by rw [hE.1.2.1]; rfl
  obtain ⟨c18, c15, c16⟩ := mTok_ok hm h3
  have e1 := m_isSign (d := d) (c := 41) (by omega) hE hk hm h3 hi (by omega) (by omega)
  rw [if_pos hop] at e1
  obtain ⟨M0, e2, f0, hv0⟩ := m_joinsOrs (d := d) (by omega) hE.1 h27 hl hv'
  have hE0 := EM_fr hE f0.mc
  have hI0 : zI M0 146 = zI M 146 := f0.2.2.2.1 146 (by omega) (by omega) (by omega)
  have hK0 : zK M0 146 = (11, 52) := by rw [hE0.1.2.1]; rfl
  have hvl0 : lvl M0 l (o, a, g) := lvl_fMc hv f0.mc (by omega)
  obtain ⟨M1, e3, g1, g2, g3, g4, g5, g6⟩ := m_c76 (d := d) (wh := wh) (x3 := 1) hE0.1 (by rw [hI0]; exact h27) hl (hv0.2.1 _ rfl)
  have f1 : fMc (l + 1) M0 M1 := fMc_w g1 g2 g3 g4 g5
  have hE1 := EM_fr hE0 f1
  have hK1 : zK M1 146 = (11, 52) := by rw [hE1.1.2.1]; rfl
  have hvl1 : lvl M1 l (o, a, g) := lvl_fMc hvl0 f1 (by omega)
  have hI1 : zI M1 146 = zI M 146 := by rw [g4, hI0]
  generalize hM2 : zsI (zsI M1 146 27 (nI l)) 146 20 (nI n) = M2
  have f2 : fMc (l + 1) M1 M2 := by
    rw [← hM2]
    exact ⟨rfl, rfl, rfl, fun b h1 _ _ _ => by rw [zI_ne h1, zI_ne h1], fun j h1 h2 => by rw [zI_sI, if_neg (fun z => by omega), zI_sI, if_neg (fun z => h2 z.2)], fun _ _ _ _ => rfl, fun j _ => ⟨rfl, rfl, rfl⟩, fun _ _ => ⟨rfl, rfl⟩⟩
  have hE2 := EM_fr hE1 f2
  have hK2 : zK M2 146 = (11, 52) := by rw [hE2.1.2.1]; rfl
  have hvl2 : lvl M2 l (o, a, g) := lvl_fMc hvl1 f2 (by omega)
  have h272 : zI M2 146 27 = nI l := by rw [← hM2, zI_sI, if_neg (fun z => by omega), zI_sI, if_pos ⟨rfl, rfl⟩]
  have h202 : zI M2 146 20 = nI n := by rw [← hM2, zI_sI, if_pos ⟨rfl, rfl⟩]
  have t2 : ∀ q, q < 4 → zL M2 164 q = orO o' t' q := by
    intro q hq
    rw [← hM2]
    exact g6 q hq
  have hm2 : mTok (tok β N i) M2 := mTok_I hm (fun j h1 h2 => by rw [← hM2, zI_sI, if_neg (fun z => by omega), zI_sI, if_neg (fun z => by omega), hI1])
  obtain ⟨M3, e4, f3, hv3⟩ := m_joinsAnds (d := d) (by omega) hE2.1 h272 (by omega) hvl2 t2
  have hE3 := EM_fr hE2 f3.mc
  have hI3 : zI M3 146 = zI M2 146 := f3.2.2.2.1 146 (by omega) (by omega) (by omega)
  have hK3 : zK M3 146 = (11, 52) := by rw [hE3.1.2.1]; rfl
  obtain ⟨M4, e5, f4, f4c, hE4, hm4⟩ := m_adv (d := d) (D := l) hd hE3 hk (mTok_I hm2 (fun j _ _ => by rw [hI3])) h3 hi
  have hK4 : zK M4 146 = (11, 52) := by rw [hE4.1.2.1]; rfl
  have ff : fMc l M M4 := ((fMc_le (((f0.mc : fMc (l + 1) M M0).trans f1 (Nat.le_refl _)).trans f2 (Nat.le_refl _)) (by omega)).trans f3.mc (Nat.le_refl l)).trans f4c (Nat.le_refl l)
  have ev : zG d n_Mo_readCondition 32 [some (.ref 146), some (.int (nI wh)), none, some (.int (nI 1)), none] [] M = zG d n_Mo_readCondition 32 [some (.ref 146), some (.int (nI wh)), none, some (.int (nI 1)), none] [] M4 := by
    have e6 : zG d n_Mo_readCondition 76 [some (.ref 146), some (.int (nI wh)), none, some (.int (nI 1)), some (.int (nI 4))] [] M1 = zG d n_Mo_readCondition 32 [some (.ref 146), some (.int (nI wh)), none, some (.int (nI 1)), none] [] M4 := by
      have j27 : zI M1 146 27 = nI (l + 1) := by rw [hI1]; exact h27
      have j20 : zI M1 146 20 = nI (n + 1) := by rw [hI1]; exact h20
      rw [zg_Mo_readCondition_76]
      unfold zx_Mo_readCondition_76
      clear hE hm hv hk hE0 hE1 hE2 hE3 hE4 f0 f1 f2 f3 f4 f4c ff hv0 hv3 hvl0 hvl1 hvl2 hm2 hm4 g5 g6 t2 hv'
      simp (disch := omega) only [il, nI_add, nI_mul, nI_sub, nI_div, nI_rem, nI_N, i32_lt, i32_le, nI_toInt, nI_subI, nI_clamp, zinT, zifT, iteT, iteF, zQ, zS, zkc, zI_sI, zL_sL, zI_wI, zL_wL, Nat.reduceEqDiff, Nat.reduceAdd, Nat.reduceMul, Nat.reduceLT, Nat.reduceLeDiff, reduceIte, eq_self, and_self, true_and, and_true, false_and, and_false, true_or, or_true, or_false, false_or, not_true_eq_false, not_false_eq_true, zarr, ne_eq, hK1, j27, j20, Nat.add_sub_cancel, hM2, hK2, e4, hK3, e5]
    rw [← e6, ← e3, zg_Mo_readCondition_32]
    unfold zx_Mo_readCondition_32
    clear hE hm hv hk hE0 hE1 hE2 hE3 hE4 f0 f1 f2 f3 f4 f4c ff hv0 hv3 hvl0 hvl1 hvl2 hm2 hm4 g5 g6 t2 hv' e3 e6
    simp (disch := omega) only [il, nI_add, nI_mul, nI_sub, nI_div, nI_rem, nI_N, i32_lt, i32_le, nI_toInt, nI_subI, nI_clamp, zinT, zifT, iteT, iteF, zQ, zS, zkc, zI_sI, zL_sL, zI_wI, zL_wL, Nat.reduceEqDiff, Nat.reduceAdd, Nat.reduceMul, Nat.reduceLT, Nat.reduceLeDiff, reduceIte, eq_self, and_self, true_and, and_true, false_and, and_false, true_or, or_true, or_false, false_or, not_true_eq_false, not_false_eq_true, zarr, ne_eq, hK, c18, h27, e1, e2]
  refine ⟨M4, ff, hK4, ?_⟩
  rw [ev]
  by_cases hb : (tok β N (tok β N i).2.2.2).1 = 3
  · obtain ⟨b1, b2⟩ := mTok_bad hm4 hb
    exact Or.inl ⟨hb, ⟨Nat.zero_lt_one, (show 1 < 10 by decide), b1, b2⟩, m_c32_bad (by omega) hK4 b1 (by omega) (by omega) hw (by omega)⟩
  · refine Or.inr ⟨hb, ⟨hE4, hm4, hb, (hk i hi).1, ?_, ?_, lvl_fMo hv3 f4⟩, rfl⟩
    · rw [f4.2.2.2.2.2 27 (by omega), hI3]; exact h272
    · rw [f4.2.2.2.2.2 20 (by omega), hI3]; exact h202
/-- the condition is there, or a ) is wanting -/
theorem m_c22_0 {d L w N l n i wh : Nat} {β : Nat → Nat} {pt : Nat → Int64} {M : zM} {o : Option T4} {t : T4} (hd : 2 ≤ d) (hl : l < 10) (h : MG L w N β pt l n i (o, some t, false) M) : ∃ M', zG d n_Mo_readCondition 22 [some (.ref 146), some (.int (nI wh)), some (.int (nI 0)), none, none] [] M = some (none, M') ∧ fMc l M M' ∧ zK M' 146 = (11, 52) ∧ (l ≠ 0 → MF (2, plc (tok β N) i) M') ∧ (l = 0 → mTok (tok β N i) M' ∧ zI M' 146 20 = nI n ∧ ∀ q, q < 4 → zL M' 164 q = orO o t q) := by
  obtain ⟨hE, hm, h3, hi, h27, h20, hv⟩ := h
  have hK : zK M 146 = (11, 52) := by rw [hE.1.2.1]; rfl
  obtain ⟨c18, c15, c16⟩ := mTok_ok hm h3
  by_cases hl0 : l = 0
  · subst hl0
    have er := m_requires_t (d := d) (x := 2) (M := M) (by omega)
    obtain ⟨M0, e2, f0, hv0⟩ := m_joinsOrs (d := d) (by omega) hE.1 h27 hl hv
    have hE0 := EM_fr hE f0.mc
    have hI0 : zI M0 146 = zI M 146 := f0.2.2.2.1 146 (by omega) (by omega) (by omega)
    have hs0 := hE0.1
    have t0 := hv0.2.1 _ rfl
    obtain ⟨M1, e, f1, f2, f3, f4, f5, f6⟩ := zloopE (n := 4) (g := fun q M1 => zG d n_Mo_readCondition 261 [some (.ref 146), none, none, some (.int (nI q)), none] [] M1) (P := fun n M1 => zN M1 = zN M0 ∧ zK M1 = zK M0 ∧ zR M1 = zR M0 ∧ zI M1 = zI M0 ∧ (∀ b, b ≠ 164 → zL M1 b = zL M0 b) ∧ ∀ q, q < n → zL M1 164 q = orO o t q) (by
      intro q M1 hq ⟨f1, f2, f3, f4, f5, f6⟩
      have hs1 := zSh_fr hs0 f1 f2 f3
      obtain ⟨hN, hK, hC, hMo, -⟩ := hs1
      have t1 : zL M1 159 q = orO o t q := by rw [f5 159 (by omega)]; have := t0 q hq; rwa [Nat.mul_zero, Nat.zero_add] at this
      refine ⟨zsL M1 164 q (orO o t q), ?_, f1, f2, f3, f4, fun b hb => (zL_ne hb).trans (f5 b hb), ?_⟩
      · show zG d n_Mo_readCondition 261 [some (.ref 146), none, none, some (.int (nI q)), none] [] M1 = _
        rw [zg_Mo_readCondition_261]
        unfold zx_Mo_readCondition_261
        clear f1 f2 f3 f4 f5 f6 hs0 t0 hE hm hv hv0 hE0 f0
        simp (disch := omega) only [il, nI_add, nI_mul, nI_sub, nI_div, nI_rem, nI_N, i32_lt, i32_le, nI_toInt, nI_subI, nI_clamp, zinT, zifT, iteT, iteF, zQ, zS, zkc, zI_sI, zL_sL, zI_wI, zL_wL, Nat.reduceEqDiff, Nat.reduceAdd, Nat.reduceMul, Nat.reduceLT, Nat.reduceLeDiff, reduceIte, eq_self, and_self, true_and, and_true, false_and, and_false, true_or, or_true, or_false, false_or, not_true_eq_false, not_false_eq_true, zarr, ne_eq, hK, hMo, t1]
      · intro j hj
        by_cases h : j = q
        · subst h; rw [zL_sL, if_pos ⟨rfl, rfl⟩]
        · rw [zL_sL, if_neg (fun z => h z.2)]; exact f6 j (by omega)) (s0 := M0) ⟨rfl, rfl, rfl, rfl, fun _ _ => rfl, fun _ h => absurd h (by omega)⟩
    have e9 : zG d n_Mo_readCondition 261 [some (.ref 146), none, none, some (.int (nI 4)), none] [] M1 = some (none, M1) := by
      rw [zg_Mo_readCondition_261]
      rfl
    have e10 : zG d n_Mo_readCondition 261 [some (.ref 146), none, none, some (.int (nI 0)), none] [] M0 = some (none, M1) := Eq.trans e e9
    refine ⟨M1, ?_, f0.mc.trans (fMc_w f1 f2 f3 f4 f5) (Nat.le_refl 0), by rw [f2, f0.2.1]; exact hK, fun z => absurd rfl z, fun _ => ⟨mTok_I hm (fun j _ _ => by rw [f4, hI0]), by rw [f4, hI0]; exact h20, f6⟩⟩
    rw [zg_Mo_readCondition_22]
    unfold zx_Mo_readCondition_22
    clear f1 f2 f3 f4 f5 f6 hs0 t0 hE hm hv hv0 hE0 f0 e e9
    simp (disch := omega) only [il, nI_add, nI_mul, nI_sub, nI_div, nI_rem, nI_N, i32_lt, i32_le, nI_toInt, nI_subI, nI_clamp, zinT, zifT, iteT, iteF, zQ, zS, zkc, zI_sI, zL_sL, zI_wI, zL_wL, Nat.reduceEqDiff, Nat.reduceAdd, Nat.reduceMul, Nat.reduceLT, Nat.reduceLeDiff, reduceIte, eq_self, and_self, true_and, and_true, false_and, and_false, true_or, or_true, or_false, false_or, not_true_eq_false, not_false_eq_true, zarr, ne_eq, hK, c18, h27, er, e2, e10]
  · have er := m_requires_f (d := d) (x := 2) (M := M) (by omega) hK c18
    have f1 := (fMo_s M (j := 18) (by omega) (nI 2)).trans (fMo_s _ (j := 19) (by omega) (zI M 146 15))
    refine ⟨_, ?_, f1.mc, hK, fun _ => ⟨Nat.zero_lt_two, (show 2 < 10 by decide), rfl, c15⟩, fun z => absurd z hl0⟩
    rw [zg_Mo_readCondition_22]
    unfold zx_Mo_readCondition_22
    clear hE hm hv f1
    simp (disch := omega) only [il, nI_add, nI_mul, nI_sub, nI_div, nI_rem, nI_N, i32_lt, i32_le, nI_toInt, nI_subI, nI_clamp, zinT, zifT, iteT, iteF, zQ, zS, zkc, zI_sI, zL_sL, zI_wI, zL_wL, Nat.reduceEqDiff, Nat.reduceAdd, Nat.reduceMul, Nat.reduceLT, Nat.reduceLeDiff, reduceIte, eq_self, and_self, true_and, and_true, false_and, and_false, true_or, or_true, or_false, false_or, not_true_eq_false, not_false_eq_true, zarr, ne_eq, hK, c18, h27, er]
