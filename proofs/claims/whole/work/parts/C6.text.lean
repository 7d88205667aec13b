/-! the reference reads a text -/
noncomputable def p34 (d p : Nat) (M : zM) : zO := zG d n_Mo_readPromise 34 [some (.ref 146), none, none, none, none, none] [.int (nI p)] M
theorem p114_b {d L w p : Nat} {u : Int32} {M : zM} {e : Nat × Nat} (hd : 2 ≤ d) (hs : zSh L w M) (hp : p < 4) (h : MF e M) : ∃ M', p114 d p u M = some (none, M') ∧ fPr p M M' ∧ MF e M' := by
  obtain ⟨d, rfl, hd1⟩ := zdep hd
  have hK : zK M 146 = (11, 52) := by rw [hs.2.1]; rfl
  have h0 := h
  obtain ⟨h1, h2, h3, h4⟩ := h
  have e1 := m_reads_b (d := d + 1) (M := M) (by omega) hK h3 h1 (by omega)
  obtain ⟨M2, e2, f2, g1, g2⟩ := m_seq_b (d := d) (sd := 2 * p + 1) hd1 hs (by omega) h3 h1 h2
  obtain ⟨M', e3, f3, hf3⟩ := p114_flt (d := d + 1) (u := u) (e := e) (by omega) hK hK (zSh_fr hs f2.1 f2.2.1 f2.2.2.1) hp e1 e2 ⟨h1, h2, g1.trans h3, g2.trans h4⟩
  exact ⟨M', e3, (f2.pr (Or.inr rfl)).trans f3, hf3⟩
theorem m_p34 {d L w N p i : Nat} {β : Nat → Nat} {pt : Nat → Int64} {M : zM} (hN : N ≤ 200) (hd : 5 ≤ d) (hk : tkOk (tok β N) N) (hp : p < 4) (hE : EM L w N β pt M) (hm : mTok (tok β N i) M) (h3 : (tok β N i).1 ≠ 3) (hi : i ≤ N) : ∃ M', p34 (d + 2) p M = some (none, M') ∧ fPr p M M' ∧ PeO N β p M' (sPr (tok β N) pt i) := by
  have hK : zK M 146 = (11, 52) := by rw [hE.1.2.1]; rfl
  obtain ⟨c18, -, -⟩ := mTok_ok hm h3
  have f1 : fPr p M (zsI M 146 20 (nI 0)) := ⟨rfl, rfl, rfl, fun b hb => zI_ne (by omega), fun j h1 _ _ _ _ => by rw [zI_sI, if_neg (fun z => by omega)], fun _ _ => rfl, fun _ _ => rfl, fun _ _ => rfl, fun _ _ => rfl, fun _ _ => rfl⟩
  have hE1 := EM_pr hE f1
  have hm1 : mTok (tok β N i) (zsI M 146 20 (nI 0)) := mTok_I hm (fun j h1 h2 => by rw [zI_sI, if_neg (fun z => by omega)])
  obtain ⟨M2, e2, f2, ho⟩ := m_seq (d := d) (sd := 2 * p) (M := zsI M 146 20 (nI 0)) hN hd hk (by omega) hE1 hm1 h3 hi (by rw [zI_sI, if_pos ⟨rfl, rfl⟩])
  have fA : fPr p M M2 := f1.trans (f2.pr (Or.inl rfl))
  have hE2 := EM_pr hE fA
  have hs2 := hE2.1
  have hK2 : zK M2 146 = (11, 52) := by rw [hs2.2.1]; rfl
  unfold sPr
  cases hrr : sSq (tok β N) pt 8 i with
  | inl e =>
    rw [hrr] at ho
    have ho : MF e M2 := ho
    obtain ⟨h1, h2, h4, h5⟩ := ho
    have e62 := fun c => m_isSign_b (d := d + 2) (c := c) (M := M2) (by omega) hK2 h4 h1 (by omega)
    obtain ⟨M', e3, f3, hf3⟩ := p114_b (d := d + 2) (p := p) (u := zI M2 169 1) (M := zsI M2 152 (2 * p) (nI 0)) (e := e) (by omega) hs2 hp ⟨h1, h2, h4, h5⟩
    refine ⟨M', ?_, (fA.trans (fPr_152 (Or.inl rfl))).trans f3, hf3⟩
    obtain ⟨hN2, hKK2, hC2, hMo2, -⟩ := hs2
    unfold p114 at e3
    unfold p34
    rw [zg_Mo_readPromise_34]
    unfold zx_Mo_readPromise_34
    clear hE hm hk hE1 hm1 f1 f2 fA hE2 f3 hf3
    simp (disch := omega) only [il, nI_add, nI_mul, nI_sub, nI_div, nI_rem, nI_N, i32_lt, i32_le, nI_toInt, nI_subI, nI_clamp, zinT, zifT, iteT, iteF, zQ, zS, zkc, zI_sI, zL_sL, zI_wI, zL_wL, Nat.reduceEqDiff, Nat.reduceAdd, Nat.reduceMul, Nat.reduceLT, Nat.reduceLeDiff, reduceIte, eq_self, and_self, true_and, and_true, false_and, and_false, true_or, or_true, or_false, false_or, not_true_eq_false, not_false_eq_true, zarr, ne_eq, hK, c18, e2, hKK2, hMo2, e62, mo_flag0 (show 1 ≤ d + 2 by omega), h4, e3]
  | inr x =>
    rw [hrr] at ho
    obtain ⟨o1, o2, o3, o4, o5, o6⟩ := ho
    obtain ⟨z18, z15, -⟩ := mTok_ok o1 o2
    have e62 := m_isSign (d := d + 2) (c := 62) (by omega) hE2 hk o1 o2 o3 (by omega) (by omega)
    generalize hM5 : zsI M2 152 (2 * p) (nI (if (tok β N x.2).1 = 62 then 1 else 0)) = M5
    have f5 : fPr p M2 M5 := by rw [← hM5]; exact fPr_152 (Or.inl rfl)
    have hE5 := EM_pr hE2 f5
    have hK5 : zK M5 146 = (11, 52) := by rw [hE5.1.2.1]; rfl
    have I5 : zI M5 146 = zI M2 146 := by rw [← hM5, zI_ne (by omega)]
    have y18 : zI M5 146 18 = nI 0 := by rw [I5]; exact z18
    have hm5 : mTok (tok β N x.2) M5 := mTok_I o1 (fun j _ _ => by rw [I5])
    have e61' := m_isSign (d := d + 2) (c := 61) (by omega) hE5 hk hm5 o2 o3 (by omega) (by omega)
    have e62' := m_isSign (d := d + 2) (c := 62) (by omega) hE5 hk hm5 o2 o3 (by omega) (by omega)
    have h152 : zI M5 152 (2 * p) = nI (if (tok β N x.2).1 = 62 then 1 else 0) := by rw [← hM5, zI_sI, if_pos ⟨rfl, rfl⟩]
    have ha5 : SdM (2 * p) x.1 M5 := SdM_pr (p := p) o6 (by rw [← hM5, zI_ne (by omega)]) (by rw [← hM5]; rfl)
    have ef : zV (d + 2) n_Mo_flag [.int (nI (if (tok β N x.2).1 = 62 then 1 else 0))] M2 = some (some (.int (nI (if (tok β N x.2).1 = 62 then 1 else 0))), M2) := by
      by_cases h62 : (tok β N x.2).1 = 62
      · rw [if_pos h62]; exact mo_flag1 (by omega)
      · rw [if_neg h62]; exact mo_flag0 (by omega)
    have er := m_requires_t (d := d + 2) (x := 2) (M := M5) (by omega)
    have er0 := m_requires_f (d := d + 2) (x := 2) (M := M5) (by omega) hK5 y18
    show ∃ M', _ ∧ _ ∧ PeO N β p M' (if (tok β N x.2).1 = 61 then sPr2 (tok β N) pt x.1 0 x.2 else if (tok β N x.2).1 = 62 then sPr2 (tok β N) pt x.1 1 x.2 else .inl (2, plc (tok β N) x.2))
    have hs2' := hs2
    obtain ⟨hN2, hKK2, hC2, hMo2, -⟩ := hs2'
    by_cases h61 : (tok β N x.2).1 = 61
    · rw [if_pos h61]
      rw [if_neg (show ¬ (tok β N x.2).1 = 62 by omega)] at h152 e62 ef hM5
      rw [if_pos h61] at e61'
      obtain ⟨M', e6, f6, ho6⟩ := m_p114 (d := d) (a := x.1) (ki := 0) hN hd hk hp hE5 hm5 o2 o3 (by rw [I5]; exact o4) ha5 (by omega) h152
      refine ⟨M', ?_, (fA.trans f5).trans f6, ho6⟩
      rw [← e6]
      unfold p34 p114
      rw [zg_Mo_readPromise_34]
      unfold zx_Mo_readPromise_34
      clear hE hm hk hE1 hm1 f1 f2 fA hE2 f5 hE5 hm5 f6 ho6 o1 o6 ha5 hs2
      simp (disch := omega) only [il, nI_add, nI_mul, nI_sub, nI_div, nI_rem, nI_N, i32_lt, i32_le, nI_toInt, nI_subI, nI_clamp, zinT, zifT, iteT, iteF, zQ, zS, zkc, zI_sI, zL_sL, zI_wI, zL_wL, Nat.reduceEqDiff, Nat.reduceAdd, Nat.reduceMul, Nat.reduceLT, Nat.reduceLeDiff, reduceIte, eq_self, and_self, true_and, and_true, false_and, and_false, true_or, or_true, or_false, false_or, not_true_eq_false, not_false_eq_true, zarr, ne_eq, hK, c18, e2, hKK2, hMo2, o5, e62, ef, hM5, hK5, y18, z18, e61', er]
    · rw [if_neg h61]
      rw [if_neg h61] at e61'
      by_cases h62 : (tok β N x.2).1 = 62
      · rw [if_pos h62]
        rw [if_pos h62] at h152 e62 ef hM5 e62'
        obtain ⟨M', e6, f6, ho6⟩ := m_p114 (d := d) (a := x.1) (ki := 1) hN hd hk hp hE5 hm5 o2 o3 (by rw [I5]; exact o4) ha5 (by omega) h152
        refine ⟨M', ?_, (fA.trans f5).trans f6, ho6⟩
        rw [← e6]
        unfold p34 p114
        rw [zg_Mo_readPromise_34]
        unfold zx_Mo_readPromise_34
        clear hE hm hk hE1 hm1 f1 f2 fA hE2 f5 hE5 hm5 f6 ho6 o1 o6 ha5 hs2
        simp (disch := omega) only [il, nI_add, nI_mul, nI_sub, nI_div, nI_rem, nI_N, i32_lt, i32_le, nI_toInt, nI_subI, nI_clamp, zinT, zifT, iteT, iteF, zQ, zS, zkc, zI_sI, zL_sL, zI_wI, zL_wL, Nat.reduceEqDiff, Nat.reduceAdd, Nat.reduceMul, Nat.reduceLT, Nat.reduceLeDiff, reduceIte, eq_self, and_self, true_and, and_true, false_and, and_false, true_or, or_true, or_false, false_or, not_true_eq_false, not_false_eq_true, zarr, ne_eq, hK, c18, e2, hKK2, hMo2, o5, e62, ef, hM5, hK5, y18, z18, e61', e62', er]
      · rw [if_neg h62]
        rw [if_neg h62] at h152 e62 ef hM5 e62'
        have f9 := (fMo_s M5 (j := 18) (by omega) (nI 2)).trans (fMo_s _ (j := 19) (by omega) (zI M5 146 15))
        obtain ⟨M', e6, f6, hf6⟩ := p114_b (d := d + 2) (p := p) (u := nI (if pF x.1 = 0 then 1 else 0)) (M := zsI (zsI M5 146 18 (nI 2)) 146 19 (zI M5 146 15)) (e := (2, plc (tok β N) x.2)) (by omega) hE5.1 hp ⟨(show 0 < 2 by decide), (show 2 < 10 by decide), rfl, by show zI M5 146 15 = _; rw [I5]; exact z15⟩
        refine ⟨M', ?_, ((fA.trans f5).trans f9.pr).trans f6, hf6⟩
        rw [← e6]
        unfold p34 p114
        rw [zg_Mo_readPromise_34]
        unfold zx_Mo_readPromise_34
        clear hE hm hk hE1 hm1 f1 f2 fA hE2 f5 hE5 hm5 f6 hf6 o1 o6 ha5 hs2 f9
        simp (disch := omega) only [il, nI_add, nI_mul, nI_sub, nI_div, nI_rem, nI_N, i32_lt, i32_le, nI_toInt, nI_subI, nI_clamp, zinT, zifT, iteT, iteF, zQ, zS, zkc, zI_sI, zL_sL, zI_wI, zL_wL, Nat.reduceEqDiff, Nat.reduceAdd, Nat.reduceMul, Nat.reduceLT, Nat.reduceLeDiff, reduceIte, eq_self, and_self, true_and, and_true, false_and, and_false, true_or, or_true, or_false, false_or, not_true_eq_false, not_false_eq_true, zarr, ne_eq, hK, c18, e2, hKK2, hMo2, o5, e62, ef, hM5, hK5, y18, z18, e61', e62', er0]
theorem m_promise {d L w N p i : Nat} {β : Nat → Nat} {pt : Nat → Int64} {M : zM} (hN : N ≤ 200) (hd : 5 ≤ d) (hk : tkOk (tok β N) N) (hp : p < 4) (hE : EM L w N β pt M) (hm : mTok (tok β N i) M) (h3 : (tok β N i).1 ≠ 3) (hi : i ≤ N) (hb : (tok β N i).1 = 1 ∨ (tok β N i).1 = 33 ∨ (tok β N i).1 = 40 ∨ (tok β N i).1 = 123) : ∃ M', zV (d + 3) n_Mo_readPromise [.ref 146, .int (nI p)] M = some (none, M') ∧ fPr p M M' ∧ PeO N β p M' (sPr (tok β N) pt i) := by
  obtain ⟨M', e, f, ho⟩ := m_p34 (d := d) hN hd hk hp hE hm h3 hi
  refine ⟨M', ?_, f, ho⟩
  have hK : zK M 146 = (11, 52) := by rw [hE.1.2.1]; rfl
  have e1 := m_isBegin (d := d + 2) (by omega) hk hE hm h3 hi
  rw [if_pos hb] at e1
  have er2 := m_requires_t (d := d + 2) (x := 2) (M := M) (by omega)
  have er4 := m_requires_t (d := d + 2) (x := 4) (M := M) (by omega)
  rw [← e, ze_Mo_readPromise]
  unfold zx_Mo_readPromise p34
  clear hE hm hk f ho e
  simp (disch := omega) only [il, nI_add, nI_mul, nI_sub, nI_div, nI_rem, nI_N, i32_lt, i32_le, nI_toInt, nI_subI, nI_clamp, zinT, zifT, iteT, iteF, zQ, zS, zkc, zI_sI, zL_sL, zI_wI, zL_wL, Nat.reduceEqDiff, Nat.reduceAdd, Nat.reduceMul, Nat.reduceLT, Nat.reduceLeDiff, reduceIte, eq_self, and_self, true_and, and_true, false_and, and_false, true_or, or_true, or_false, false_or, not_true_eq_false, not_false_eq_true, zarr, ne_eq, hK, e1, er2, er4]
/-- a promise that can't begin, or one too many -/
theorem m_promise_no {d L w N p i c : Nat} {β : Nat → Nat} {pt : Nat → Int64} {M : zM} (hd : 3 ≤ d) (hk : tkOk (tok β N) N) (hp : p ≤ 4) (hE : EM L w N β pt M) (hm : mTok (tok β N i) M) (h3 : (tok β N i).1 ≠ 3) (hi : i ≤ N) (hc : (¬ ((tok β N i).1 = 1 ∨ (tok β N i).1 = 33 ∨ (tok β N i).1 = 40 ∨ (tok β N i).1 = 123) ∧ c = 2) ∨ (((tok β N i).1 = 1 ∨ (tok β N i).1 = 33 ∨ (tok β N i).1 = 40 ∨ (tok β N i).1 = 123) ∧ p = 4 ∧ c = 4)) : ∃ M', zV (d + 1) n_Mo_readPromise [.ref 146, .int (nI p)] M = some (none, M') ∧ (∀ r, fPr r M M') ∧ MF (c, plc (tok β N) i) M' := by
  have hK : zK M 146 = (11, 52) := by rw [hE.1.2.1]; rfl
  obtain ⟨c18, c15, c16⟩ := mTok_ok hm h3
  have e1 := m_isBegin (d := d) hd hk hE hm h3 hi
  have ff : ∀ r (x : Int32), fPr r M (zsI (zsI (zsI M 146 18 x) 146 19 (zI M 146 15)) 146 20 (nI 0)) := fun r x => ⟨rfl, rfl, rfl, fun b hb => by rw [zI_ne (by omega), zI_ne (by omega), zI_ne (by omega)], fun j h1 _ _ _ _ => by rw [zI_sI, if_neg (fun z => by omega), zI_sI, if_neg (fun z => by omega), zI_sI, if_neg (fun z => by omega)], fun _ _ => rfl, fun _ _ => rfl, fun _ _ => rfl, fun _ _ => rfl, fun _ _ => rfl⟩
  rcases hc with ⟨hb, rfl⟩ | ⟨hb, rfl, rfl⟩
  · rw [if_neg hb] at e1
    have er2 := m_requires_f (d := d) (x := 2) (M := M) (by omega) hK c18
    have er4 := fun (x y : Int32) => m_requires_b (d := d) (f := 2) (x := x) (y := y) (M := zsI (zsI M 146 18 (nI 2)) 146 19 (zI M 146 15)) (by omega) hK rfl (by omega) (by omega)
    refine ⟨zsI (zsI (zsI M 146 18 (nI 2)) 146 19 (zI M 146 15)) 146 20 (nI 0), ?_, fun r => ff r _, (show 0 < 2 by decide), (show 2 < 10 by decide), rfl, c15⟩
    have e34 : ∀ q : Nat, zG d n_Mo_readPromise 34 [some (.ref 146), none, none, none, none, none] [.int (nI q)] (zsI (zsI M 146 18 (nI 2)) 146 19 (zI M 146 15)) = some (none, zsI (zsI (zsI M 146 18 (nI 2)) 146 19 (zI M 146 15)) 146 20 (nI 0)) := by
      intro q
      rw [zg_Mo_readPromise_34]
      unfold zx_Mo_readPromise_34
      clear hE hm hk hb ff
      simp (disch := omega) only [il, nI_add, nI_mul, nI_sub, nI_div, nI_rem, nI_N, i32_lt, i32_le, nI_toInt, nI_subI, nI_clamp, zinT, zifT, iteT, iteF, zQ, zS, zkc, zI_sI, zL_sL, zI_wI, zL_wL, Nat.reduceEqDiff, Nat.reduceAdd, Nat.reduceMul, Nat.reduceLT, Nat.reduceLeDiff, reduceIte, eq_self, and_self, true_and, and_true, false_and, and_false, true_or, or_true, or_false, false_or, not_true_eq_false, not_false_eq_true, zarr, ne_eq, hK]
    rw [ze_Mo_readPromise]
    unfold zx_Mo_readPromise
    clear hE hm hk hb ff
    by_cases h4 : p = 4
    · subst h4
      simp (disch := omega) only [il, nI_add, nI_mul, nI_sub, nI_div, nI_rem, nI_N, i32_lt, i32_le, nI_toInt, nI_subI, nI_clamp, zinT, zifT, iteT, iteF, zQ, zS, zkc, zI_sI, zL_sL, zI_wI, zL_wL, Nat.reduceEqDiff, Nat.reduceAdd, Nat.reduceMul, Nat.reduceLT, Nat.reduceLeDiff, reduceIte, eq_self, and_self, true_and, and_true, false_and, and_false, true_or, or_true, or_false, false_or, not_true_eq_false, not_false_eq_true, zarr, ne_eq, hK, e1, er2, er4, e34]
    · simp (disch := omega) only [il, nI_add, nI_mul, nI_sub, nI_div, nI_rem, nI_N, i32_lt, i32_le, nI_toInt, nI_subI, nI_clamp, zinT, zifT, iteT, iteF, zQ, zS, zkc, zI_sI, zL_sL, zI_wI, zL_wL, Nat.reduceEqDiff, Nat.reduceAdd, Nat.reduceMul, Nat.reduceLT, Nat.reduceLeDiff, reduceIte, eq_self, and_self, true_and, and_true, false_and, and_false, true_or, or_true, or_false, false_or, not_true_eq_false, not_false_eq_true, zarr, ne_eq, hK, e1, er2, er4, e34]
  · rw [if_pos hb] at e1
    have er2 := m_requires_t (d := d) (x := 2) (M := M) (by omega)
    have er4 := m_requires_f (d := d) (x := 4) (M := M) (by omega) hK c18
    refine ⟨zsI (zsI (zsI M 146 18 (nI 4)) 146 19 (zI M 146 15)) 146 20 (nI 0), ?_, fun r => ff r _, (show 0 < 4 by decide), (show 4 < 10 by decide), rfl, c15⟩
    have e34 : zG d n_Mo_readPromise 34 [some (.ref 146), none, none, none, none, none] [.int (nI 0)] (zsI (zsI M 146 18 (nI 4)) 146 19 (zI M 146 15)) = some (none, zsI (zsI (zsI M 146 18 (nI 4)) 146 19 (zI M 146 15)) 146 20 (nI 0)) := by
      rw [zg_Mo_readPromise_34]
      unfold zx_Mo_readPromise_34
      clear hE hm hk hb ff
      simp (disch := omega) only [il, nI_add, nI_mul, nI_sub, nI_div, nI_rem, nI_N, i32_lt, i32_le, nI_toInt, nI_subI, nI_clamp, zinT, zifT, iteT, iteF, zQ, zS, zkc, zI_sI, zL_sL, zI_wI, zL_wL, Nat.reduceEqDiff, Nat.reduceAdd, Nat.reduceMul, Nat.reduceLT, Nat.reduceLeDiff, reduceIte, eq_self, and_self, true_and, and_true, false_and, and_false, true_or, or_true, or_false, false_or, not_true_eq_false, not_false_eq_true, zarr, ne_eq, hK]
    rw [ze_Mo_readPromise]
    unfold zx_Mo_readPromise
    clear hE hm hk hb ff
    simp (disch := omega) only [il, nI_add, nI_mul, nI_sub, nI_div, nI_rem, nI_N, i32_lt, i32_le, nI_toInt, nI_subI, nI_clamp, zinT, zifT, iteT, iteF, zQ, zS, zkc, zI_sI, zL_sL, zI_wI, zL_wL, Nat.reduceEqDiff, Nat.reduceAdd, Nat.reduceMul, Nat.reduceLT, Nat.reduceLeDiff, reduceIte, eq_self, and_self, true_and, and_true, false_and, and_false, true_or, or_true, or_false, false_or, not_true_eq_false, not_false_eq_true, zarr, ne_eq, hK, e1, er2, er4, e34]
