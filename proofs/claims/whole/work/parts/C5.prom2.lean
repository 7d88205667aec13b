/-! the reference reads a promise, whole -/
theorem p114_flt {d L w p : Nat} {u : Int32} {M M1 M2 : zM} {e : Nat × Nat} (hd : 1 ≤ d) (hK : zK M 146 = (11, 52)) (hK1 : zK M1 146 = (11, 52)) (hs2 : zSh L w M2) (hp : p < 4) (er : zV d n_Mo_reads [.ref 146] M = some (none, M1)) (eq : zV d n_Mo_readSequence [.ref 146, .int (nI (2 * p + 1))] M1 = some (none, M2)) (h : MF e M2) : ∃ M', p114 d p u M = some (none, M') ∧ fPr p M2 M' ∧ MF e M' := by
  obtain ⟨h1, h2, h3, h4⟩ := h
  obtain ⟨hN, hK2, hC, hMo, -⟩ := hs2
  have hK20 : zK M2 146 = (11, 52) := by rw [hK2]; rfl
  have e1 := fun c => m_isSign_b (d := d) (c := c) (M := M2) hd hK20 h3 h1 (by omega)
  have e2 := fun c => m_isSign_b (d := d) (c := c) (M := zsI M2 152 (2 * p + 1) (nI 0)) hd hK20 h3 h1 (by omega)
  have eb := m_reads_b (d := d) (M := zsI M2 152 (2 * p + 1) (nI 0)) hd hK20 h3 h1 (by omega)
  refine ⟨zsI M2 152 (2 * p + 1) (nI 0), ?_, fPr_152 (Or.inr rfl), h1, h2, h3, h4⟩
  unfold p114
  rw [zg_Mo_readPromise_114]
  unfold zx_Mo_readPromise_114
  simp (disch := omega) only [il, nI_add, nI_mul, nI_sub, nI_div, nI_rem, nI_N, i32_lt, i32_le, nI_toInt, nI_subI, nI_clamp, zinT, zifT, iteT, iteF, zQ, zS, zkc, zI_sI, zL_sL, zI_wI, zL_wL, Nat.reduceEqDiff, Nat.reduceAdd, Nat.reduceMul, Nat.reduceLT, Nat.reduceLeDiff, reduceIte, eq_self, and_self, true_and, and_true, false_and, and_false, true_or, or_true, or_false, false_or, not_true_eq_false, not_false_eq_true, zarr, ne_eq, hK, er, hK1, eq, hK2, hMo, e1, mo_flag0 hd, e2, h3, eb]
noncomputable def p175 (d p u v k : Nat) (M : zM) : zO := zG d n_Mo_readPromise 175 [some (.ref 146), none, some (.int (nI p)), some (.int (nI u)), some (.int (nI v)), some (.int (nI k))] [] M
theorem m_p175 {d L w p u v : Nat} {M : zM} (hs : zSh L w M) (hp : p < 4) : p175 d p u v 0 M = p175 d p u v 4 (zwL M 154 (fil (4 * p) (zL M 154) (zL M 164) 4)) := by
  obtain ⟨hN, hK, hC, hMo, -⟩ := hs
  have key := zloop (n := 4) (g := fun k => p175 d p u v k (zwL M 154 (fil (4 * p) (zL M 154) (zL M 164) k))) (by
    intro k hk
    show p175 d p u v k (zwL M 154 (fil (4 * p) (zL M 154) (zL M 164) k)) = p175 d p u v (k + 1) (zwL M 154 (fil (4 * p) (zL M 154) (zL M 164) (k + 1)))
    rw [← zsL_fil M 154 (4 * p) k (zL M 154) (zL M 164) (zL M 164 k) rfl]
    unfold p175
    rw [zg_Mo_readPromise_175]
    unfold zx_Mo_readPromise_175
    simp (disch := omega) only [il, nI_add, nI_mul, nI_sub, nI_div, nI_rem, nI_N, i32_lt, i32_le, nI_toInt, nI_subI, nI_clamp, zinT, zifT, iteT, iteF, zQ, zS, zkc, zI_sI, zL_sL, zI_wI, zL_wL, Nat.reduceEqDiff, Nat.reduceAdd, Nat.reduceMul, Nat.reduceLT, Nat.reduceLeDiff, reduceIte, eq_self, and_self, true_and, and_true, false_and, and_false, true_or, or_true, or_false, false_or, not_true_eq_false, not_false_eq_true, zarr, ne_eq, hK, hMo])
  have := key
  simp only [fil_0, zwL_self] at this
  exact this
theorem m_p175_b {d p u v : Nat} {M : zM} {e : Nat × Nat} (hd : 1 ≤ d) (hK : zK M 146 = (11, 52)) (h : MF e M) : p175 d p u v 4 M = some (none, M) := by
  obtain ⟨h1, h2, h3, h4⟩ := h
  have eb := m_reads_b (d := d) (M := M) hd hK h3 h1 (by omega)
  unfold p175
  rw [zg_Mo_readPromise_175]
  unfold zx_Mo_readPromise_175
  simp (disch := omega) only [il, nI_add, nI_mul, nI_sub, nI_div, nI_rem, nI_N, i32_lt, i32_le, nI_toInt, nI_subI, nI_clamp, zinT, zifT, iteT, iteF, zQ, zS, zkc, zI_sI, zL_sL, zI_wI, zL_wL, Nat.reduceEqDiff, Nat.reduceAdd, Nat.reduceMul, Nat.reduceLT, Nat.reduceLeDiff, reduceIte, eq_self, and_self, true_and, and_true, false_and, and_false, true_or, or_true, or_false, false_or, not_true_eq_false, not_false_eq_true, zarr, ne_eq, hK, h3, eb]
theorem m_p175_e {d p c : Nat} {M M9 : zM} {a b : Pc} (hK : zK M 146 = (11, 52)) (hK9 : zK M9 146 = (11, 52)) (h18 : zI M 146 18 = nI 0) (e59 : zV d n_Mo_isSign [.ref 146, .int (nI 59)] M = some (some (.int (nI c)), M)) (er : zV d n_Mo_requires [.ref 146, .int (nI c), .int (nI 2)] M = some (none, M9)) : p175 d p (if pF a = 0 then 1 else 0) (if pF b = 0 then 1 else 0) 4 M = p238 d p (if pF a = 0 ∨ pF b = 0 then 0 else 1) M9 := by
  unfold p175 p238
  rw [zg_Mo_readPromise_175]
  unfold zx_Mo_readPromise_175
  by_cases h1 : pF a = 0
  · rw [if_pos h1, if_pos (Or.inl h1)]
    simp (disch := omega) only [il, nI_add, nI_mul, nI_sub, nI_div, nI_rem, nI_N, i32_lt, i32_le, nI_toInt, nI_subI, nI_clamp, zinT, zifT, iteT, iteF, zQ, zS, zkc, zI_sI, zL_sL, zI_wI, zL_wL, Nat.reduceEqDiff, Nat.reduceAdd, Nat.reduceMul, Nat.reduceLT, Nat.reduceLeDiff, reduceIte, eq_self, and_self, true_and, and_true, false_and, and_false, true_or, or_true, or_false, false_or, not_true_eq_false, not_false_eq_true, zarr, ne_eq, hK, h18, e59, er]
  · rw [if_neg h1]
    by_cases h2 : pF b = 0
    · rw [if_pos h2, if_pos (Or.inr h2)]
      simp (disch := omega) only [il, nI_add, nI_mul, nI_sub, nI_div, nI_rem, nI_N, i32_lt, i32_le, nI_toInt, nI_subI, nI_clamp, zinT, zifT, iteT, iteF, zQ, zS, zkc, zI_sI, zL_sL, zI_wI, zL_wL, Nat.reduceEqDiff, Nat.reduceAdd, Nat.reduceMul, Nat.reduceLT, Nat.reduceLeDiff, reduceIte, eq_self, and_self, true_and, and_true, false_and, and_false, true_or, or_true, or_false, false_or, not_true_eq_false, not_false_eq_true, zarr, ne_eq, hK, h18, e59, er]
    · rw [if_neg h2, if_neg (show ¬ (pF a = 0 ∨ pF b = 0) from fun z => z.elim h1 h2)]
      simp (disch := omega) only [il, nI_add, nI_mul, nI_sub, nI_div, nI_rem, nI_N, i32_lt, i32_le, nI_toInt, nI_subI, nI_clamp, zinT, zifT, iteT, iteF, zQ, zS, zkc, zI_sI, zL_sL, zI_wI, zL_wL, Nat.reduceEqDiff, Nat.reduceAdd, Nat.reduceMul, Nat.reduceLT, Nat.reduceLeDiff, reduceIte, eq_self, and_self, true_and, and_true, false_and, and_false, true_or, or_true, or_false, false_or, not_true_eq_false, not_false_eq_true, zarr, ne_eq, hK, h18, e59, er]
theorem SdM_pr {sd p : Nat} {x : Pc} {M M' : zM} (h : SdM sd x M) (hI : zI M' 148 = zI M 148) (hL : zL M' 150 = zL M 150) : SdM sd x M' := SdM_fr h (fun j _ _ => by rw [hI]) (fun j _ _ => by rw [hL])
/-- from = or > on -/
theorem m_p114 {d L w N p j : Nat} {β : Nat → Nat} {pt : Nat → Int64} {a : Pc} {ki : Nat} {M : zM} (hN : N ≤ 200) (hd : 5 ≤ d) (hk : tkOk (tok β N) N) (hp : p < 4) (hE : EM L w N β pt M) (hm : mTok (tok β N j) M) (h3 : (tok β N j).1 ≠ 3) (hj : j ≤ N) (h20 : zI M 146 20 = nI 0) (ha : SdM (2 * p) a M) (hki : ki < 2) (h152 : zI M 152 (2 * p) = nI ki) : ∃ M', p114 (d + 2) p (nI (if pF a = 0 then 1 else 0)) M = some (none, M') ∧ fPr p M M' ∧ PeO N β p M' (sPr2 (tok β N) pt a ki j) := by
  have hK : zK M 146 = (11, 52) := by rw [hE.1.2.1]; rfl
  obtain ⟨M1, e1, f1, -, hE1, hm1⟩ := m_adv (d := d + 2) (D := 0) (by omega) hE hk hm h3 hj
  have hK1 : zK M1 146 = (11, 52) := by rw [hE1.1.2.1]; rfl
  unfold sPr2
  by_cases hb : (tok β N (tok β N j).2.2.2).1 = 3
  · rw [nxt_t hb]
    obtain ⟨b1, b2⟩ := mTok_bad hm1 hb
    obtain ⟨M2, e2, f2, g1, g2⟩ := m_seq_b (d := d + 1) (sd := 2 * p + 1) (by omega) hE1.1 (by omega) b1 (by omega) (by omega)
    have hf : MF (1, (tok β N (tok β N j).2.2.2).2.2.1) M2 := ⟨Nat.zero_lt_one, (show 1 < 10 by decide), g1.trans b1, g2.trans b2⟩
    obtain ⟨M', e3, f3, hf3⟩ := p114_flt (d := d + 2) (u := nI (if pF a = 0 then 1 else 0)) (by omega) hK hK1 (zSh_fr hE1.1 f2.1 f2.2.1 f2.2.2.1) hp e1 e2 hf
    exact ⟨M', e3, (f1.pr.trans (f2.pr (Or.inr rfl))).trans f3, hf3⟩
  · rw [nxt_f hb]
    obtain ⟨M2, e2, f2, ho⟩ := m_seq (d := d) (sd := 2 * p + 1) hN hd hk (by omega) hE1 hm1 hb (hk j hj).1 (by rw [f1.2.2.2.2.2 20 (by omega)]; exact h20)
    have hs2 := zSh_fr hE1.1 f2.1 f2.2.1 f2.2.2.1
    have fA : fPr p M M2 := f1.pr.trans (f2.pr (Or.inr rfl))
    cases hrr : sSq (tok β N) pt 8 (tok β N j).2.2.2 with
    | inl e =>
      rw [hrr] at ho
      obtain ⟨M', e3, f3, hf3⟩ := p114_flt (d := d + 2) (u := nI (if pF a = 0 then 1 else 0)) (by omega) hK hK1 hs2 hp e1 e2 ho
      exact ⟨M', e3, fA.trans f3, hf3⟩
    | inr y =>
      rw [hrr] at ho
      obtain ⟨o1, o2, o3, o4, o5, o6⟩ := ho
      have hE2 := EM_pr hE fA
      have hK2 : zK M2 146 = (11, 52) := by rw [hE2.1.2.1]; rfl
      obtain ⟨z18, -, -⟩ := mTok_ok o1 o2
      have ha2 : SdM (2 * p) a M2 := SdM_fr (SdM_pr (p := p) ha (f1.2.2.2.2.1 148 (by omega)) (by rw [f1.2.2.2.1])) (fun i h1 h2 => f2.2.2.2.2.2.1 i (by omega)) (fun i h1 h2 => f2.2.2.2.2.2.2.2 i (by omega))
      have h1522 : zI M2 152 (2 * p) = nI ki := by rw [f2.2.2.2.1 152 (by omega), f1.2.2.2.2.1 152 (by omega)]; exact h152
      have e126 := m_isSign (d := d + 2) (c := 126) (by omega) hE2 hk o1 o2 o3 (by omega) (by omega)
      show ∃ M', _ ∧ _ ∧ PeO N β p M' (rb (sOf (tok β N) pt y.2) (fun o j3 => sPe (tok β N) a y.1 ki o j3))
      unfold sOf
      by_cases h126 : (tok β N y.2).1 = 126
      · rw [if_pos h126] at e126
        rw [if_pos h126]
        generalize hM5 : zsI M2 152 (2 * p + 1) (nI 1) = M5
        have f5 : fPr p M2 M5 := by rw [← hM5]; exact fPr_152 (Or.inr rfl)
        have hE5 := EM_pr hE2 f5
        have hK5 : zK M5 146 = (11, 52) := by rw [hE5.1.2.1]; rfl
        have I5 : zI M5 146 = zI M2 146 := by rw [← hM5, zI_ne (by omega)]
        have hm5 : mTok (tok β N y.2) M5 := mTok_I o1 (fun i _ _ => by rw [I5])
        have e126' := m_isSign (d := d + 2) (c := 126) (by omega) hE5 hk hm5 o2 o3 (by omega) (by omega)
        rw [if_pos h126] at e126'
        obtain ⟨M10, e10, f10, -, hE10, hm10⟩ := m_adv (d := d + 2) (D := 0) (by omega) hE5 hk hm5 o2 o3
        have hK10 : zK M10 146 = (11, 52) := by rw [hE10.1.2.1]; rfl
        have head : ∀ M11, zV (d + 2) n_Mo_readCondition [.ref 146, .int (nI 1)] M10 = some (none, M11) → p114 (d + 2) p (nI (if pF a = 0 then 1 else 0)) M = p175 (d + 2) p (if pF a = 0 then 1 else 0) (if pF y.1 = 0 then 1 else 0) 0 M11 := by
          intro M11 e11
          obtain ⟨hN2, hKK2, hC2, hMo2, -⟩ := hs2
          unfold p114 p175
          rw [zg_Mo_readPromise_114]
          unfold zx_Mo_readPromise_114
          clear hE hm hk hE1 hm1 f1 f2 fA o1 o6 hE2 ha2 hE5 hm5 f5 f10 hE10 hm10 ha
          generalize (if pF a = 0 then 1 else 0) = u at *
          generalize (if pF y.1 = 0 then 1 else 0) = v at *
          simp (disch := omega) only [il, nI_add, nI_mul, nI_sub, nI_div, nI_rem, nI_N, i32_lt, i32_le, nI_toInt, nI_subI, nI_clamp, zinT, zifT, iteT, iteF, zQ, zS, zkc, zI_sI, zL_sL, zI_wI, zL_wL, Nat.reduceEqDiff, Nat.reduceAdd, Nat.reduceMul, Nat.reduceLT, Nat.reduceLeDiff, reduceIte, eq_self, and_self, true_and, and_true, false_and, and_false, true_or, or_true, or_false, false_or, not_true_eq_false, not_false_eq_true, zarr, ne_eq, hK, e1, hK1, e2, hKK2, hMo2, o5, e126, mo_flag1 (show 1 ≤ d + 2 by omega), hM5, hK5, e126', e10, hK10, e11]
        by_cases hb10 : (tok β N (tok β N y.2).2.2.2).1 = 3
        · rw [nxt_t hb10]
          obtain ⟨b1, b2⟩ := mTok_bad hm10 hb10
          obtain ⟨M11, e11, f11, g1, g2⟩ := m_readCondition_b (d := d + 2) (wh := 1) (by omega) hE10.1 b1 (by omega) (by omega)
          have hs11 := zSh_fr hE10.1 f11.1 f11.2.1 f11.2.2.1
          have f12 : fPr p M11 (zwL M11 154 (fil (4 * p) (zL M11 154) (zL M11 164) 4)) := ⟨rfl, rfl, rfl, fun _ _ => rfl, fun _ _ _ _ _ _ => rfl, fun _ _ => rfl, fun _ _ => rfl, fun b hb => zLw_ne (by omega), fun i _ => by rw [zLw_ne (by omega)], fun i hi => by rw [zLw_eq]; unfold fil; rw [if_neg (by omega)]⟩
          have hf : MF (1, (tok β N (tok β N y.2).2.2.2).2.2.1) (zwL M11 154 (fil (4 * p) (zL M11 154) (zL M11 164) 4)) := ⟨Nat.zero_lt_one, (show 1 < 10 by decide), g1.trans b1, g2.trans b2⟩
          refine ⟨_, ?_, (((fA.trans f5).trans f10.pr).trans f11.pr).trans f12, hf⟩
          rw [head M11 e11, m_p175 hs11 hp]
          exact m_p175_b (by omega) (by rw [show zK (zwL M11 154 (fil (4 * p) (zL M11 154) (zL M11 164) 4)) = zK M11 from rfl, hs11.2.1]; rfl) hf
        · rw [nxt_f hb10]
          obtain ⟨M11, e11, ho11⟩ := m_readCondition (d := d) (wh := 1) (n := 0) (k := 8) (i := (tok β N y.2).2.2.2) hN (by omega) hk (by omega) (by omega) hE10 hm10 hb10 (hk y.2 o3).1 (by rw [f10.2.2.2.2.2 20 (by omega), I5]; exact o4)
          rw [if_pos rfl] at ho11
          cases hr11 : sAn (tok β N) pt 8 (tok β N y.2).2.2.2 with
          | inl e =>
            rw [hr11] at ho11
            obtain ⟨f11, k11, hf11⟩ := ho11
            have hs11 := zSh_fr hE10.1 f11.1 f11.2.1 f11.2.2.1
            have f12 : fPr p M11 (zwL M11 154 (fil (4 * p) (zL M11 154) (zL M11 164) 4)) := ⟨rfl, rfl, rfl, fun _ _ => rfl, fun _ _ _ _ _ _ => rfl, fun _ _ => rfl, fun _ _ => rfl, fun b hb => zLw_ne (by omega), fun i _ => by rw [zLw_ne (by omega)], fun i hi => by rw [zLw_eq]; unfold fil; rw [if_neg (by omega)]⟩
            refine ⟨_, ?_, (((fA.trans f5).trans f10.pr).trans f11.pr).trans f12, hf11⟩
            rw [head M11 e11, m_p175 hs11 hp]
            exact m_p175_b (by omega) k11 hf11
          | inr t =>
            rw [hr11] at ho11
            obtain ⟨f11, k11, w1, w2, w3, w4, w5⟩ := ho11
            have hE11 := EM_fr hE10 f11
            generalize hM12 : zwL M11 154 (fil (4 * p) (zL M11 154) (zL M11 164) 4) = M12
            have f12 : fPr p M11 M12 := by
              rw [← hM12]
              exact ⟨rfl, rfl, rfl, fun _ _ => rfl, fun _ _ _ _ _ _ => rfl, fun _ _ => rfl, fun _ _ => rfl, fun b hb => zLw_ne (by omega), fun i _ => by rw [zLw_ne (by omega)], fun i hi => by rw [zLw_eq]; unfold fil; rw [if_neg (by omega)]⟩
            have hE12 := EM_pr hE11 f12
            have hK12 : zK M12 146 = (11, 52) := by rw [hE12.1.2.1]; rfl
            have I12 : zI M12 = zI M11 := by rw [← hM12]; rfl
            have L12 : ∀ b, b ≠ 154 → zL M12 b = zL M11 b := fun b hb => by rw [← hM12]; exact zLw_ne hb
            have hm12 : mTok (tok β N t.2) M12 := mTok_I w1 (fun i _ _ => by rw [I12])
            have i148 : zI M12 148 = zI M2 148 := by rw [I12, f11.2.2.2.1 148 (by omega) (by omega) (by omega) (by omega), f10.2.2.2.2.1 148 (by omega), ← hM5, zI_ne (by omega)]
            have l150 : zL M12 150 = zL M2 150 := by rw [L12 150 (by omega), f11.2.2.2.2.2.1 150 (by omega) (by omega) (by omega), f10.2.2.2.1, ← hM5]; rfl
            have i152 : zI M12 152 = zI M5 152 := by rw [I12, f11.2.2.2.1 152 (by omega) (by omega) (by omega) (by omega), f10.2.2.2.2.1 152 (by omega)]
            obtain ⟨M', M9, t1, t2, t3, t4, t5⟩ := m_ptail (d := d + 2) (p := p) (a := a) (b := y.1) (ki := ki) (o := some t.1) (by omega) hk hp hE12 hm12 w2 w3 (SdM_pr (p := p) ha2 i148 l150) (SdM_pr (p := p) o6 i148 l150) hki (by rw [i152, ← hM5, zI_sI, if_neg (fun z => by omega)]; exact h1522) (by rw [i152, ← hM5, zI_sI, if_pos ⟨rfl, rfl⟩]; rfl) (fun u hu q hq => by
              have hu : t.1 = u := Option.some.inj hu
              subst hu
              rw [← hM12, zLw_eq]
              unfold fil
              rw [if_pos (by omega), show 4 * p + q - 4 * p = q by omega]
              exact w5 q hq)
            obtain ⟨y18, -, -⟩ := mTok_ok hm12 w2
            have hK9 : zK M9 146 = (11, 52) := by
              have hc : (if (tok β N t.2).1 = 59 then 1 else 0) = 0 ∨ (if (tok β N t.2).1 = 59 then 1 else 0) = 1 := by split <;> omega
              rcases hc with hc | hc
              · rw [hc, m_requires_f (by omega) hK12 y18] at t2
                have : zsI (zsI M12 146 18 (nI 2)) 146 19 (zI M12 146 15) = M9 := congrArg Prod.snd (Option.some.inj t2)
                rw [← this]; exact hK12
              · rw [hc, m_requires_t (by omega)] at t2
                have : M12 = M9 := congrArg Prod.snd (Option.some.inj t2)
                rw [← this]; exact hK12
            refine ⟨M', ?_, ((((fA.trans f5).trans f10.pr).trans f11.pr).trans f12).trans t4, t5⟩
            rw [head M11 e11, m_p175 hE11.1 hp, hM12, m_p175_e hK12 hK9 y18 t1 t2]
            exact t3
      · rw [if_neg h126] at e126
        rw [if_neg h126]
        generalize hM5 : zsI M2 152 (2 * p + 1) (nI 0) = M5
        have f5 : fPr p M2 M5 := by rw [← hM5]; exact fPr_152 (Or.inr rfl)
        have hE5 := EM_pr hE2 f5
        have hK5 : zK M5 146 = (11, 52) := by rw [hE5.1.2.1]; rfl
        have I5 : zI M5 146 = zI M2 146 := by rw [← hM5, zI_ne (by omega)]
        have hm5 : mTok (tok β N y.2) M5 := mTok_I o1 (fun i _ _ => by rw [I5])
        have e126' := m_isSign (d := d + 2) (c := 126) (by omega) hE5 hk hm5 o2 o3 (by omega) (by omega)
        rw [if_neg h126] at e126'
        have i148 : zI M5 148 = zI M2 148 := by rw [← hM5, zI_ne (by omega)]
        have l150 : zL M5 150 = zL M2 150 := by rw [← hM5]; rfl
        obtain ⟨M', M9, t1, t2, t3, t4, t5⟩ := m_ptail (d := d + 2) (p := p) (a := a) (b := y.1) (ki := ki) (o := none) (by omega) hk hp hE5 hm5 o2 o3 (SdM_pr (p := p) ha2 i148 l150) (SdM_pr (p := p) o6 i148 l150) hki (by rw [← hM5, zI_sI, if_neg (fun z => by omega)]; exact h1522) (by rw [← hM5, zI_sI, if_pos ⟨rfl, rfl⟩]; rfl) (fun u hu => absurd hu (by simp))
        have y18 : zI M5 146 18 = nI 0 := by rw [I5]; exact z18
        refine ⟨M', ?_, (fA.trans f5).trans t4, t5⟩
        rw [← t3]
        obtain ⟨hN2, hKK2, hC2, hMo2, -⟩ := hs2
        unfold p114 p238
        rw [zg_Mo_readPromise_114]
        unfold zx_Mo_readPromise_114
        clear hE hm hk hE1 hm1 f1 f2 fA o1 o6 hE2 ha2 hE5 hm5 f5 ha t3 t4 t5
        generalize (if (tok β N y.2).1 = 59 then 1 else 0) = c59 at *
        by_cases q1 : pF a = 0
        · rw [if_pos q1, if_pos (Or.inl q1)]
          generalize (if pF y.1 = 0 then 1 else 0) = v at *
          simp (disch := omega) only [il, nI_add, nI_mul, nI_sub, nI_div, nI_rem, nI_N, i32_lt, i32_le, nI_toInt, nI_subI, nI_clamp, zinT, zifT, iteT, iteF, zQ, zS, zkc, zI_sI, zL_sL, zI_wI, zL_wL, Nat.reduceEqDiff, Nat.reduceAdd, Nat.reduceMul, Nat.reduceLT, Nat.reduceLeDiff, reduceIte, eq_self, and_self, true_and, and_true, false_and, and_false, true_or, or_true, or_false, false_or, not_true_eq_false, not_false_eq_true, zarr, ne_eq, hK, e1, hK1, e2, hKK2, hMo2, o5, e126, mo_flag0 (show 1 ≤ d + 2 by omega), hM5, hK5, e126', y18, t1, t2]
        · rw [if_neg q1]
          by_cases q2 : pF y.1 = 0
          · rw [if_pos q2] at o5
            rw [if_pos (show pF a = 0 ∨ pF y.1 = 0 from Or.inr q2)]
            simp (disch := omega) only [il, nI_add, nI_mul, nI_sub, nI_div, nI_rem, nI_N, i32_lt, i32_le, nI_toInt, nI_subI, nI_clamp, zinT, zifT, iteT, iteF, zQ, zS, zkc, zI_sI, zL_sL, zI_wI, zL_wL, Nat.reduceEqDiff, Nat.reduceAdd, Nat.reduceMul, Nat.reduceLT, Nat.reduceLeDiff, reduceIte, eq_self, and_self, true_and, and_true, false_and, and_false, true_or, or_true, or_false, false_or, not_true_eq_false, not_false_eq_true, zarr, ne_eq, hK, e1, hK1, e2, hKK2, hMo2, o5, e126, mo_flag0 (show 1 ≤ d + 2 by omega), hM5, hK5, e126', y18, t1, t2]
          · rw [if_neg q2] at o5
            rw [if_neg (show ¬ (pF a = 0 ∨ pF y.1 = 0) from fun z => z.elim q1 q2)]
            simp (disch := omega) only [il, nI_add, nI_mul, nI_sub, nI_div, nI_rem, nI_N, i32_lt, i32_le, nI_toInt, nI_subI, nI_clamp, zinT, zifT, iteT, iteF, zQ, zS, zkc, zI_sI, zL_sL, zI_wI, zL_wL, Nat.reduceEqDiff, Nat.reduceAdd, Nat.reduceMul, Nat.reduceLT, Nat.reduceLeDiff, reduceIte, eq_self, and_self, true_and, and_true, false_and, and_false, true_or, or_true, or_false, false_or, not_true_eq_false, not_false_eq_true, zarr, ne_eq, hK, e1, hK1, e2, hKK2, hMo2, o5, e126, mo_flag0 (show 1 ≤ d + 2 by omega), hM5, hK5, e126', y18, t1, t2]
