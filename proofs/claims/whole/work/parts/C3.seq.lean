/-! the reference's readSequence, whole -/
theorem m_ends {d L w sd : Nat} {x : Pc} {M : zM} (hd : 3 ≤ d) (hs : zSh L w M) (hsd : sd < 8) (h : Qst sd [(1, x)] M) : ∃ M', zV d n_Mo_ends [.ref 146, .int (nI sd)] M = some (none, M') ∧ zN M' = zN M ∧ zK M' = zK M ∧ zR M' = zR M ∧ (∀ b, b ≠ 148 → zI M' b = zI M b) ∧ (∀ j, (j < 45 * sd ∨ 45 * sd + 45 ≤ j) → zI M' 148 j = zI M 148 j) ∧ (∀ b, b ≠ 150 → zL M' b = zL M b) ∧ (∀ j, (j < 203 * sd ∨ 203 * sd + 203 ≤ j) → zL M' 150 j = zL M 150 j) ∧ SdM sd x M' := by
  obtain ⟨d, rfl, hd1⟩ := zdep hd
  obtain ⟨h38, hnum, p, c, hp, hc, i0, i1, i39, hok⟩ := h
  obtain ⟨wx, x1, x2, x3, x4⟩ := hnum (1, x) (by simp)
  have wx : wfp x := wx
  simp only at x1 x2 x3 x4
  have t0 : tt [(1, x)] = pN x := Nat.add_zero (pN x)
  have c0 : cc [(1, x)] = pC x := List.append_nil (pC x)
  rw [t0] at i39 hok
  have e0 := m_ends_0 (d := d) hs hsd
  have hs5 : zSh L w (enM M sd) := zSh_fr hs rfl rfl rfl
  have I5 : ∀ b, b ≠ 148 → zI (enM M sd) b = zI M b := fun b hb => by
    unfold enM
    rw [zI_ne hb, zI_ne hb, zI_ne hb]
    rfl
  have I5j : ∀ j, j ≠ 45 * sd + 2 → j ≠ 45 * sd + 3 → j ≠ 45 * sd + 4 → zI (enM M sd) 148 j = zI M 148 j := fun j h1 h2 h3 => by
    unfold enM
    simp (disch := omega) only [zL_sL, zI_sI, zS, iteF, iteT, eq_self, and_self, true_and, and_true, false_and, and_false, if_true, if_false, reduceIte, Nat.reduceEqDiff]
  have I52 : zI (enM M sd) 148 (45 * sd + 2) = zI M 170 1 := by
    unfold enM
    simp (disch := omega) only [zL_sL, zI_sI, zS, iteF, iteT, eq_self, and_self, true_and, and_true, false_and, and_false, if_true, if_false, reduceIte, Nat.reduceEqDiff]
  have I53 : zI (enM M sd) 148 (45 * sd + 3) = zI M 171 1 := by
    unfold enM
    simp (disch := omega) only [zL_sL, zI_sI, zS, iteF, iteT, eq_self, and_self, true_and, and_true, false_and, and_false, if_true, if_false, reduceIte, Nat.reduceEqDiff]
  have I54 : zI (enM M sd) 148 (45 * sd + 4) = zI M 172 1 := by
    unfold enM
    simp (disch := omega) only [zL_sL, zI_sI, zS, iteF, iteT, eq_self, and_self, true_and, and_true, false_and, and_false, if_true, if_false, reduceIte, Nat.reduceEqDiff]
  have L5 : ∀ b, b ≠ 150 → zL (enM M sd) b = zL M b := fun b hb => by
    show zL (zsL (zsL M 150 _ _) 150 _ _) b = _
    rw [zL_ne hb, zL_ne hb]
  have L5j : ∀ j, j ≠ 203 * sd → j ≠ 203 * sd + 1 → zL (enM M sd) 150 j = zL M 150 j := fun j h1 h2 => by
    show zL (zsL (zsL M 150 _ _) 150 _ _) 150 j = _
    rw [zL_sL, if_neg (fun z => h2 z.2), zL_sL, if_neg (fun z => h1 z.2)]
  have L50 : zL (enM M sd) 150 (203 * sd) = zL M 167 1 := by
    show zL (zsL (zsL M 150 _ _) 150 _ _) 150 (203 * sd) = _
    rw [zL_sL, if_neg (fun z => by omega), zL_sL, if_pos ⟨rfl, rfl⟩]
  have L51 : zL (enM M sd) 150 (203 * sd + 1) = zL M 168 1 := by
    show zL (zsL (zsL M 150 _ _) 150 _ _) 150 (203 * sd + 1) = _
    rw [zL_sL, if_pos ⟨rfl, rfl⟩]
  have n5 : zN (enM M sd) = zN M := rfl
  have k5' : zK (enM M sd) = zK M := rfl
  have r5 : zR (enM M sd) = zR M := rfl
  generalize enM M sd = M5 at *
  have fin : ∀ g : Int64, xe90 d sd 0 0 M5 = some (none, zsL M5 150 (203 * sd + 2) g) → (pN x ≤ 40 → SeqD (sqP x) (zsL M5 150 (203 * sd + 2) g) sd ∧ ∀ e t, (pC x)[e]? = some t → ∀ q, q < 4 → zL (zsL M5 150 (203 * sd + 2) g) 150 (203 * sd + 43 + (4 * e + q)) = t q) → ∃ M', zV (d + 1) n_Mo_ends [.ref 146, .int (nI sd)] M = some (none, M') ∧ zN M' = zN M ∧ zK M' = zK M ∧ zR M' = zR M ∧ (∀ b, b ≠ 148 → zI M' b = zI M b) ∧ (∀ j, (j < 45 * sd ∨ 45 * sd + 45 ≤ j) → zI M' 148 j = zI M 148 j) ∧ (∀ b, b ≠ 150 → zL M' b = zL M b) ∧ (∀ j, (j < 203 * sd ∨ 203 * sd + 203 ≤ j) → zL M' 150 j = zL M 150 j) ∧ SdM sd x M' := by
    intro g e1 hq
    refine ⟨_, e0.trans e1, n5, k5', r5, fun b hb => I5 b hb, fun j hj => I5j j (by omega) (by omega) (by omega), fun b hb => (zL_ne hb).trans (L5 b hb), fun j hj => ?_, wx, ?_, hq⟩
    · rw [zL_sL, if_neg (fun z => by omega)]
      exact L5j j (by omega) (by omega)
    · exact I52.trans x2
  by_cases hle : pN x ≤ 40
  · rw [if_pos hle] at i39
    obtain ⟨q1, q2, q3, q4, q5, q6⟩ := hok hle
    rw [t0] at q1
    rw [c0] at q2 q3
    subst q1
    have q6 : Fr (qF M sd) (qT M sd) 0 (pN x) (zB (zL M 167 1)) (zB (zL M 168 1)) (pL x) := q6.1
    have hCq : ∀ p, p < pN x → qC M sd p < 40 ∧ zI M 148 (45 * sd + 5 + p) = nI (qC M sd p) := by
      intro p hp2
      obtain ⟨e, he, hz⟩ := q4 p hp2
      have : qC M sd p = e := by
        unfold qC
        rw [hz, nI_clamp (by omega)]
      rw [this]
      exact ⟨by omega, hz⟩
    obtain ⟨g, e1, hg⟩ := m_good (d := d) (L := L) (w := w) (sd := sd) (n := pN x) (C := qC M sd) (M := M5) (F := fun q r => zb (zL M 150 (203 * sd + 3 + q)) r = true) (T := fun q v => v < 256 ∧ ful (qTb M sd) (qC M sd q) v = true) (E := zB (zL M 168 1)) hd1 hs5 (by rw [I5 146 (by omega)]; exact h38) (by rw [I5 146 (by omega)]; exact i39) hsd hle (by rw [I5j _ (by omega) (by omega) (by omega)]; exact i0) (fun p hp2 => ⟨(hCq p hp2).1, by rw [I5j _ (by omega) (by omega) (by omega)]; exact (hCq p hp2).2⟩) (fun q r hq => by rw [L5j _ (by omega) (by omega)]) (fun q r hq hr => by have := q6.2.2.1 q r (Nat.zero_le q) (by omega) hr; omega) (fun q hq => by
      have hfun : (fun k => zL M5 150 (203 * sd + 43 + 4 * qC M sd q + k)) = fun k => qTb M sd (4 * qC M sd q + k) := by
        funext k
        unfold qTb
        rw [L5j _ (by omega) (by omega), Nat.add_assoc (203 * sd + 43)]
      rw [hfun, fG_iff, ful_ex]
      exact Iff.rfl) (fun q hq => by rw [L5 168 (by omega)]; exact Iff.rfl)
    refine fin g e1 (fun _ => ?_)
    have hL : ∀ j, 203 * sd + 3 ≤ j → zL (zsL M5 150 (203 * sd + 2) g) 150 j = zL M 150 j := fun j hj => by
      rw [zL_sL, if_neg (fun z => by omega)]
      exact L5j j (by omega) (by omega)
    refine ⟨⟨pN x, qC M sd, hle, ?_, fun p hp2 => ⟨(hCq p hp2).1, ?_⟩, ?_, ?_, ?_, ?_, fun w hw => ?_⟩, fun e t he q hq => ?_⟩
    · exact (I5j _ (by omega) (by omega) (by omega)).trans i0
    · exact (I5j _ (by omega) (by omega) (by omega)).trans (hCq p hp2).2
    · show zI M5 148 (45 * sd + 1) = nI (pC x).length
      rw [I5j _ (by omega) (by omega) (by omega), ← q2]
      exact i1
    · show zI M5 148 (45 * sd + 2) = nI (pN x)
      rw [I52, x2, show min 1000000 (pN x) = pN x by omega]
    · show zI M5 148 (45 * sd + 3) = nI (pF x)
      have := wx.2.1
      have := wx.2.2.1
      rw [I53, x3, show min 1000000 (pF x) = pF x by omega]
    · show zI M5 148 (45 * sd + 4) = nI (pM x)
      have := wx.2.2.1
      rw [I54, x4, show min 1000000 (pM x) = pM x by omega]
    · have hB : (fun p => zL (zsL M5 150 (203 * sd + 2) g) 150 (203 * sd + 3 + p)) = fun p => zL M 150 (203 * sd + 3 + p) := funext fun p => hL _ (by omega)
      have hTT : (fun k => zL (zsL M5 150 (203 * sd + 2) g) 150 (203 * sd + 43 + k)) = qTb M sd := funext fun k => hL _ (by omega)
      have z0 : zL (zsL M5 150 (203 * sd + 2) g) 150 (203 * sd) = zL M 167 1 := by rw [zL_sL, if_neg (fun z => by omega)]; exact L50
      have z1 : zL (zsL M5 150 (203 * sd + 2) g) 150 (203 * sd + 1) = zL M 168 1 := by rw [zL_sL, if_neg (fun z => by omega)]; exact L51
      have z2 : zL (zsL M5 150 (203 * sd + 2) g) 150 (203 * sd + 2) = g := by rw [zL_sL, if_pos ⟨rfl, rfl⟩]
      rw [hB, hTT, z0, z1, z2]
      exact q_sem (B := fun p => zL M 150 (203 * sd + 3 + p)) (TT := qTb M sd) (C := qC M sd) (Lg := pL x) hle q6 hg w hw
    · rw [hL _ (by omega)]
      exact q3 e t he q hq
  · rw [if_neg hle] at i39
    exact fin 0 (m_e90_over hs5 hsd (by rw [I5 146 (by omega)]; exact i39)) (fun z => absurd z hle)
/-- what reading a side may change -/
def fRs (sd : Nat) (M M' : zM) : Prop := zN M' = zN M ∧ zK M' = zK M ∧ zR M' = zR M ∧ (∀ b, ¬ (b = 146 ∨ b = 148 ∨ (161 ≤ b ∧ b ≤ 163) ∨ b = 166 ∨ (169 ≤ b ∧ b ≤ 173)) → zI M' b = zI M b) ∧ (∀ j, (j < 14 ∨ 20 < j) → j ≠ 27 → j ≠ 37 → j ≠ 38 → j ≠ 39 → zI M' 146 j = zI M 146 j) ∧ (∀ j, (j < 45 * sd ∨ 45 * sd + 45 ≤ j) → zI M' 148 j = zI M 148 j) ∧ (∀ b, ¬ (b = 150 ∨ b = 159 ∨ b = 160 ∨ b = 164 ∨ b = 167 ∨ b = 168) → zL M' b = zL M b) ∧ (∀ j, (j < 203 * sd ∨ 203 * sd + 203 ≤ j) → zL M' 150 j = zL M 150 j)
theorem fRs.trans {sd : Nat} {M M1 M2 : zM} (h : fRs sd M M1) (g : fRs sd M1 M2) : fRs sd M M2 := by
  obtain ⟨a1, a2, a3, a4, a5, a6, a7, a8⟩ := h
  obtain ⟨b1, b2, b3, b4, b5, b6, b7, b8⟩ := g
  exact ⟨b1.trans a1, b2.trans a2, b3.trans a3, fun b h => (b4 b h).trans (a4 b h), fun j h1 h2 h3 h4 h5 => (b5 j h1 h2 h3 h4 h5).trans (a5 j h1 h2 h3 h4 h5), fun j h => (b6 j h).trans (a6 j h), fun b h => (b7 b h).trans (a7 b h), fun j h => (b8 j h).trans (a8 j h)⟩
theorem fSe.rs {sd l : Nat} {M M' : zM} (h : fSe sd l M M') : fRs sd M M' := ⟨h.1, h.2.1, h.2.2.1, h.2.2.2.1, fun j h1 h2 h3 _ h5 => h.2.2.2.2.1 j h1 h2 h3 h5, h.2.2.2.2.2.1, h.2.2.2.2.2.2.1, h.2.2.2.2.2.2.2.1⟩
theorem fPc.rs {sd : Nat} {M M' : zM} (h : fPc sd M M') : fRs sd M M' := (h.sq (l := 0) (fun j hj => by omega)).rs
theorem EM_rs {L w N sd : Nat} {β : Nat → Nat} {pt : Nat → Int64} {M M' : zM} (h : EM L w N β pt M) (f : fRs sd M M') : EM L w N β pt M' := by
  obtain ⟨h1, h2, h3⟩ := h
  refine ⟨zSh_fr h1 f.1 f.2.1 f.2.2.1, ?_, by rw [f.2.2.2.2.2.2.1 165 (by omega)]; exact h3⟩
  unfold tapeM
  rw [f.2.2.2.2.1 13 (by omega) (by omega) (by omega) (by omega) (by omega), f.2.2.2.1 158 (by omega)]
  exact h2
theorem m_seq_init {d L w sd : Nat} {M : zM} (hd : 1 ≤ d) (hs : zSh L w M) (hsd : sd < 8) : ∃ M', zV (d + 1) n_Mo_readSequence [.ref 146, .int (nI sd)] M = (if zI M' 146 18 ≠ 0 then (s86 d sd 0 M') else s86 d sd 1 M') ∧ fRs sd M M' ∧ zI M' 146 37 = nI 0 ∧ zI M' 146 38 = nI sd ∧ zI M' 146 39 = nI 0 ∧ (∀ j, j ≠ 37 → j ≠ 38 → j ≠ 39 → zI M' 146 j = zI M 146 j) ∧ zI M' 173 1 = nI 0 ∧ zI M' 173 11 = nI 0 ∧ (∀ j, j < 45 → zI M' 148 (45 * sd + j) = nI 0) ∧ ∀ j, j < 203 → zL M' 150 (203 * sd + j) = 0 := by
  generalize hM1 : zsI (zsI (zsI M 146 38 (nI sd)) 146 37 (nI 0)) 146 39 (nI 0) = M1
  have hs1 : zSh L w M1 := by rw [← hM1]; exact hs
  have hs2 := hs1
  obtain ⟨hN, hK, hC, hMo, -⟩ := hs1
  have k1 := zloop (n := 45) (g := fun k => zG d n_Mo_readSequence 17 [some (.ref 146), some (.int (nI sd)), some (.int (nI k))] [] (zwI M1 148 (fil (45 * sd) (zI M1 148) (fun _ => nI 0) k))) (by
    intro k hk
    show zG d n_Mo_readSequence 17 [some (.ref 146), some (.int (nI sd)), some (.int (nI k))] [] (zwI M1 148 (fil (45 * sd) (zI M1 148) (fun _ => nI 0) k)) = zG d n_Mo_readSequence 17 [some (.ref 146), some (.int (nI sd)), some (.int (nI (k + 1)))] [] (zwI M1 148 (fil (45 * sd) (zI M1 148) (fun _ => nI 0) (k + 1)))
    rw [← zsI_fil M1 148 (45 * sd) k (zI M1 148) (fun _ => nI 0) (nI 0) rfl, zg_Mo_readSequence_17]
    unfold zx_Mo_readSequence_17
    simp (disch := omega) only [il, nI_add, nI_mul, nI_sub, nI_div, nI_rem, nI_N, i32_lt, i32_le, nI_toInt, nI_subI, nI_clamp, zinT, zifT, iteT, iteF, zQ, zS, zkc, zI_sI, zL_sL, zI_wI, zL_wL, Nat.reduceEqDiff, Nat.reduceAdd, Nat.reduceMul, Nat.reduceLT, Nat.reduceLeDiff, reduceIte, eq_self, and_self, true_and, and_true, false_and, and_false, true_or, or_true, or_false, false_or, not_true_eq_false, not_false_eq_true, zarr, ne_eq, hK, hMo])
  generalize hM2 : zwI M1 148 (fil (45 * sd) (zI M1 148) (fun _ => nI 0) 45) = M2 at *
  have e1 : zG d n_Mo_readSequence 17 [some (.ref 146), some (.int (nI sd)), some (.int (nI 0))] [] M1 = zG d n_Mo_readSequence 17 [some (.ref 146), some (.int (nI sd)), some (.int (nI 45))] [] M2 := by
    have := k1
    simp only [fil_0, zwI_self, hM2] at this
    exact this
  have hs3 : zSh L w M2 := by rw [← hM2]; exact hs2
  have hs4 := hs3
  obtain ⟨hN2, hK2, hC2, hMo2, -⟩ := hs3
  have e2 : zG d n_Mo_readSequence 17 [some (.ref 146), some (.int (nI sd)), some (.int (nI 45))] [] M2 = zG d n_Mo_readSequence 43 [some (.ref 146), some (.int (nI sd)), some (.int (nI 0))] [] M2 := by
    rw [zg_Mo_readSequence_17]
    unfold zx_Mo_readSequence_17
    simp (disch := omega) only [il, nI_add, nI_mul, nI_sub, nI_div, nI_rem, nI_N, i32_lt, i32_le, nI_toInt, nI_subI, nI_clamp, zinT, zifT, iteT, iteF, zQ, zS, zkc, zI_sI, zL_sL, zI_wI, zL_wL, Nat.reduceEqDiff, Nat.reduceAdd, Nat.reduceMul, Nat.reduceLT, Nat.reduceLeDiff, reduceIte, eq_self, and_self, true_and, and_true, false_and, and_false, true_or, or_true, or_false, false_or, not_true_eq_false, not_false_eq_true, zarr, ne_eq]
  have k2 := zloop (n := 203) (g := fun k => zG d n_Mo_readSequence 43 [some (.ref 146), some (.int (nI sd)), some (.int (nI k))] [] (zwL M2 150 (fil (203 * sd) (zL M2 150) (fun _ => 0) k))) (by
    intro k hk
    show zG d n_Mo_readSequence 43 [some (.ref 146), some (.int (nI sd)), some (.int (nI k))] [] (zwL M2 150 (fil (203 * sd) (zL M2 150) (fun _ => 0) k)) = zG d n_Mo_readSequence 43 [some (.ref 146), some (.int (nI sd)), some (.int (nI (k + 1)))] [] (zwL M2 150 (fil (203 * sd) (zL M2 150) (fun _ => 0) (k + 1)))
    rw [← zsL_fil M2 150 (203 * sd) k (zL M2 150) (fun _ => 0) 0 rfl, zg_Mo_readSequence_43]
    unfold zx_Mo_readSequence_43
    simp (disch := omega) only [il, nI_add, nI_mul, nI_sub, nI_div, nI_rem, nI_N, i32_lt, i32_le, nI_toInt, nI_subI, nI_clamp, zinT, zifT, iteT, iteF, zQ, zS, zkc, zI_sI, zL_sL, zI_wI, zL_wL, Nat.reduceEqDiff, Nat.reduceAdd, Nat.reduceMul, Nat.reduceLT, Nat.reduceLeDiff, reduceIte, eq_self, and_self, true_and, and_true, false_and, and_false, true_or, or_true, or_false, false_or, not_true_eq_false, not_false_eq_true, zarr, ne_eq, hK2, hMo2])
  generalize hM3 : zwL M2 150 (fil (203 * sd) (zL M2 150) (fun _ => 0) 203) = M3 at *
  have e3 : zG d n_Mo_readSequence 43 [some (.ref 146), some (.int (nI sd)), some (.int (nI 0))] [] M2 = zG d n_Mo_readSequence 43 [some (.ref 146), some (.int (nI sd)), some (.int (nI 203))] [] M3 := by
    have := k2
    simp only [fil_0, zwL_self, hM3] at this
    exact this
  have hs5 : zSh L w M3 := by rw [← hM3]; exact hs4
  have I1 : ∀ j, j ≠ 37 → j ≠ 38 → j ≠ 39 → zI M1 146 j = zI M 146 j := fun j h1 h2 h3 => by rw [← hM1, zI_sI, if_neg (fun z => h3 z.2), zI_sI, if_neg (fun z => h1 z.2), zI_sI, if_neg (fun z => h2 z.2)]
  have I3 : ∀ b, b ≠ 148 → zI M3 b = zI M1 b := fun b hb => by rw [← hM3, ← hM2]; exact zIw_ne hb
  have h37 : zI M3 146 37 = nI 0 := by rw [I3 146 (by omega), ← hM1]; rfl
  have eo := m_opensSequence (d := d) (l := 0) hd hs5 h37 (by omega)
  generalize hM4 : zsI (zsI M3 173 (1 + 0) (nI 0)) 173 (11 + 0) (nI 0) = M4 at *
  have I4 : ∀ b, b ≠ 173 → zI M4 b = zI M3 b := fun b hb => by rw [← hM4, zI_ne hb, zI_ne hb]
  have hK3 : zK M3 146 = (11, 52) := by rw [hs5.2.1]; rfl
  have hK4 : zK M4 146 = (11, 52) := by rw [← hM4]; exact hK3
  have e4 : zG d n_Mo_readSequence 43 [some (.ref 146), some (.int (nI sd)), some (.int (nI 203))] [] M3 = (if zI M4 146 18 ≠ 0 then (s86 d sd 0 M4) else s86 d sd 1 M4) := by
    rw [zg_Mo_readSequence_43]
    unfold zx_Mo_readSequence_43 s86
    clear hs hs2 hs4 hs5 k1 k2 e1 e2 e3 hK hC hMo hK2 hC2 hMo2 I1 I3 I4
    simp (disch := omega) only [il, nI_add, nI_mul, nI_sub, nI_div, nI_rem, nI_N, i32_lt, i32_le, nI_toInt, nI_subI, nI_clamp, zinT, zifT, iteT, iteF, zQ, zS, zkc, zI_sI, zL_sL, zI_wI, zL_wL, Nat.reduceEqDiff, Nat.reduceAdd, Nat.reduceMul, Nat.reduceLT, Nat.reduceLeDiff, reduceIte, eq_self, and_self, true_and, and_true, false_and, and_false, true_or, or_true, or_false, false_or, not_true_eq_false, not_false_eq_true, zarr, ne_eq, hK3, eo, hK4]
  have ev : zV (d + 1) n_Mo_readSequence [.ref 146, .int (nI sd)] M = zG d n_Mo_readSequence 17 [some (.ref 146), some (.int (nI sd)), some (.int (nI 0))] [] M1 := by
    have hK0 : zK M 146 = (11, 52) := by rw [hs.2.1]; rfl
    rw [ze_Mo_readSequence]
    unfold zx_Mo_readSequence
    rw [← hM1]
    clear hs hs2 hs4 hs5 k1 k2 e1 e2 e3 e4 hK hC hMo hK2 hC2 hMo2 I1 I3 I4
    simp (disch := omega) only [il, nI_add, nI_mul, nI_sub, nI_div, nI_rem, nI_N, i32_lt, i32_le, nI_toInt, nI_subI, nI_clamp, zinT, zifT, iteT, iteF, zQ, zS, zkc, zI_sI, zL_sL, zI_wI, zL_wL, Nat.reduceEqDiff, Nat.reduceAdd, Nat.reduceMul, Nat.reduceLT, Nat.reduceLeDiff, reduceIte, eq_self, and_self, true_and, and_true, false_and, and_false, true_or, or_true, or_false, false_or, not_true_eq_false, not_false_eq_true, zarr, ne_eq, hK0]
  have L4 : ∀ b, b ≠ 150 → zL M4 b = zL M b := fun b hb => by
    rw [← hM4, ← hM3]
    show zL (zwL M2 150 _) b = _
    rw [zLw_ne hb, ← hM2, ← hM1]
    rfl
  have L4j : ∀ j, zL M4 150 j = if 203 * sd ≤ j ∧ j < 203 * sd + 203 then 0 else zL M 150 j := fun j => by
    rw [← hM4, ← hM3]
    show zL (zwL M2 150 (fil (203 * sd) (zL M2 150) (fun _ => 0) 203)) 150 j = _
    rw [zLw_eq]
    unfold fil
    by_cases hj : 203 * sd ≤ j ∧ j < 203 * sd + 203
    · rw [if_pos hj, if_pos hj]
    · rw [if_neg hj, if_neg hj, ← hM2, ← hM1]
      rfl
  have I4j : ∀ j, zI M4 148 j = if 45 * sd ≤ j ∧ j < 45 * sd + 45 then nI 0 else zI M 148 j := fun j => by
    rw [I4 148 (by omega), ← hM3, ← hM2]
    show zI (zwI M1 148 (fil (45 * sd) (zI M1 148) (fun _ => nI 0) 45)) 148 j = _
    rw [zIw_eq]
    unfold fil
    by_cases hj : 45 * sd ≤ j ∧ j < 45 * sd + 45
    · rw [if_pos hj, if_pos hj]
    · rw [if_neg hj, if_neg hj, ← hM1]
      rfl
  have I46 : ∀ j, zI M4 146 j = zI M1 146 j := fun j => by rw [I4 146 (by omega), I3 146 (by omega)]
  refine ⟨M4, (((ev.trans e1).trans e2).trans e3).trans e4, ⟨?_, ?_, ?_, fun b hb => ?_, fun j h1 h2 h3 h4 h5 => by rw [I46 j]; exact I1 j h3 h4 h5, fun j hj => by rw [I4j, if_neg (by omega)], fun b hb => L4 b (by omega), fun j hj => by rw [L4j, if_neg (by omega)]⟩, ?_, ?_, ?_, fun j h1 h2 h3 => by rw [I46 j]; exact I1 j h1 h2 h3, ?_, ?_, fun j hj => by rw [I4j, if_pos (by omega)], fun j hj => by rw [L4j, if_pos (by omega)]⟩
  · rw [← hM4, ← hM3, ← hM2, ← hM1]; rfl
  · rw [← hM4, ← hM3, ← hM2, ← hM1]; rfl
  · rw [← hM4, ← hM3, ← hM2, ← hM1]; rfl
  · rw [I4 b (by omega), I3 b (by omega), ← hM1, zI_ne (by omega), zI_ne (by omega), zI_ne (by omega)]
  · rw [I46, ← hM1]; rfl
  · rw [I46, ← hM1]; rfl
  · rw [I46, ← hM1]; rfl
  · rw [← hM4]; rfl
  · rw [← hM4]; rfl
theorem m_seq_b {d L w sd f : Nat} {M : zM} (hd : 1 ≤ d) (hs : zSh L w M) (hsd : sd < 8) (h18 : zI M 146 18 = nI f) (hf : 0 < f) (hf2 : f < 10) : ∃ M', zV (d + 1) n_Mo_readSequence [.ref 146, .int (nI sd)] M = some (none, M') ∧ fRs sd M M' ∧ zI M' 146 18 = zI M 146 18 ∧ zI M' 146 19 = zI M 146 19 := by
  obtain ⟨M1, e1, f1, h37, h38, h39, hI, -, -, -, -⟩ := m_seq_init (d := d) hd hs hsd
  have hK : zK M1 146 = (11, 52) := by rw [f1.2.1, hs.2.1]; rfl
  have i18 : zI M1 146 18 = nI f := (hI 18 (by omega) (by omega) (by omega)).trans h18
  refine ⟨M1, ?_, f1, hI 18 (by omega) (by omega) (by omega), hI 19 (by omega) (by omega) (by omega)⟩
  have n0 : ¬ zI M1 146 18 = nI 0 := by rw [i18]; exact nI_ne (by omega) (by omega) (by omega)
  rw [e1]
  refine (if_pos n0).trans ?_
  unfold s86
  rw [zg_Mo_readSequence_86]
  unfold zx_Mo_readSequence_86
  clear hs f1 hI e1
  simp (disch := omega) only [il, nI_add, nI_mul, nI_sub, nI_div, nI_rem, nI_N, i32_lt, i32_le, nI_toInt, nI_subI, nI_clamp, zinT, zifT, iteT, iteF, zQ, zS, zkc, zI_sI, zL_sL, zI_wI, zL_wL, Nat.reduceEqDiff, Nat.reduceAdd, Nat.reduceMul, Nat.reduceLT, Nat.reduceLeDiff, reduceIte, eq_self, and_self, true_and, and_true, false_and, and_false, true_or, or_true, or_false, false_or, not_true_eq_false, not_false_eq_true, zarr, ne_eq, hK, i18]
/-- the whole side has been read -/
theorem s86_end {d L w N sd n i : Nat} {β : Nat → Nat} {pt : Nat → Int64} {o : Option Pc} {t : Pc} {M : zM} (hd : 3 ≤ d) (hk : tkOk (tok β N) N) (hsd : sd < 8) (h : SG L w N β pt sd 0 n i [] o (some t) none M) : ∃ M', s86 d sd 0 M = some (none, M') ∧ fRs sd M M' ∧ zI M' 146 = zI M 146 ∧ zI M' 169 1 = nI (if pF (orQ o t) = 0 then 1 else 0) ∧ SdM sd (orQ o t) M' := by
  obtain ⟨s1, s2, s3, s4, s5, s6, s7, s8, s9, s10⟩ := h
  have hK : zK M 146 = (11, 52) := by rw [s1.1.2.1]; rfl
  obtain ⟨z18, -, -⟩ := mTok_ok s2 s3
  have s10' : Qst sd ([] ++ oL 1 o ++ [(11, t)]) M := by
    rw [show oL 0 none = [] from rfl, List.append_nil] at s10
    exact s10
  obtain ⟨M1, e1, f1, i1, c1, c2, q1⟩ := m_choosesO (d := d) (a := 1) (b := 11) (t := o) (x := t) (m := []) (by omega) s1.1 (by omega) (by omega) (by omega) s7 s10' (fun z hz => absurd hz (by simp))
  have hs1 := zSh_fr s1.1 f1.1 f1.2.1 f1.2.2.1
  have hK1 : zK M1 146 = (11, 52) := by rw [f1.2.1]; exact hK
  obtain ⟨M2, e2, g1, g2, g3, g4, g5, g6, g7, g8⟩ := m_ends (d := d) hd hs1 hsd q1
  have er := m_requires_t (d := d) (x := 2) (M := M) (by omega)
  have hq := (q1.2.1 (1, orQ o t) (by simp)).2.1
  refine ⟨M2, ?_, f1.rs.trans ⟨g1, g2, g3, fun b hb => g4 b (by omega), fun j _ _ _ _ _ => by rw [g4 146 (by omega)], g5, fun b hb => g6 b (by omega), g7⟩, by rw [g4 146 (by omega), i1], by rw [g4 169 (by omega)]; exact hq, g8⟩
  unfold s86
  rw [zg_Mo_readSequence_86]
  unfold zx_Mo_readSequence_86
  clear s1 s2 s9 s10 s10' f1 q1 g1 g2 g3 g4 g5 g6 g7 g8 hk hs1
  simp (disch := omega) only [il, nI_add, nI_mul, nI_sub, nI_div, nI_rem, nI_N, i32_lt, i32_le, nI_toInt, nI_subI, nI_clamp, zinT, zifT, iteT, iteF, zQ, zS, zkc, zI_sI, zL_sL, zI_wI, zL_wL, Nat.reduceEqDiff, Nat.reduceAdd, Nat.reduceMul, Nat.reduceLT, Nat.reduceLeDiff, reduceIte, eq_self, and_self, true_and, and_true, false_and, and_false, true_or, or_true, or_false, false_or, not_true_eq_false, not_false_eq_true, zarr, ne_eq, hK, z18, s5, er, e1, hK1, e2]
def SeO (N : Nat) (β : Nat → Nat) (sd : Nat) (M' : zM) : Rs Pc → Prop
  | .inl e => MF e M'
  | .inr x => mTok (tok β N x.2) M' ∧ (tok β N x.2).1 ≠ 3 ∧ x.2 ≤ N ∧ zI M' 146 20 = nI 0 ∧ zI M' 169 1 = nI (if pF x.1 = 0 then 1 else 0) ∧ SdM sd x.1 M'
theorem m_seq {d L w N sd i : Nat} {β : Nat → Nat} {pt : Nat → Int64} {M : zM} (hN : N ≤ 200) (hd : 5 ≤ d) (hk : tkOk (tok β N) N) (hsd : sd < 8) (hE : EM L w N β pt M) (hm : mTok (tok β N i) M) (h3 : (tok β N i).1 ≠ 3) (hi : i ≤ N) (h20 : zI M 146 20 = nI 0) : ∃ M', zV (d + 2) n_Mo_readSequence [.ref 146, .int (nI sd)] M = some (none, M') ∧ fRs sd M M' ∧ SeO N β sd M' (sSq (tok β N) pt 8 i) := by
  obtain ⟨M1, e1, f1, h37, h38, h39, hI, h1, h11, h148, h150⟩ := m_seq_init (d := d + 1) (by omega) hE.1 hsd
  have hE1 := EM_rs hE f1
  have hK1 : zK M1 146 = (11, 52) := by rw [hE1.1.2.1]; rfl
  obtain ⟨c18, -, -⟩ := mTok_ok hm h3
  have i18 : zI M1 146 18 = nI 0 := (hI 18 (by omega) (by omega) (by omega)).trans c18
  have hg : SG L w N β pt sd 0 0 i [] none none none M1 := by
    refine ⟨hE1, mTok_I hm (fun j _ _ => hI j (by omega) (by omega) (by omega)), h3, hi, h37, (hI 20 (by omega) (by omega) (by omega)).trans h20, h1, h11, fun z hz => absurd hz (by simp), h38, fun y hy => absurd hy (by simp [oL]), 0, 0, by omega, by omega, h148 0 (by omega), h148 1 (by omega), h39, fun _ => ⟨rfl, rfl, fun e t he => absurd he (by simp [oL, cc]), fun r hr => absurd hr (by omega), fun r _ hr => ?_, trivial⟩⟩
    rw [Nat.add_assoc]
    exact h150 (3 + r) (by omega)
  obtain ⟨M2, ho⟩ := x_side hN hd hk hsd hg
  have ev : zV (d + 2) n_Mo_readSequence [.ref 146, .int (nI sd)] M = bgF d sd M1 := by
    rw [e1, if_neg (by rw [i18]; decide), s86_1 hK1]
  cases hrr : sSq (tok β N) pt 8 i with
  | inl e =>
    rw [hrr] at ho
    obtain ⟨o1, o2, o3, o4⟩ := ho
    exact ⟨M2, ev.trans o4, f1.trans o1.rs, o3⟩
  | inr x =>
    rw [hrr] at ho
    obtain ⟨o1, o2, ⟨o, t, ox, hg2⟩, n44, n47, o4⟩ := ho
    obtain ⟨M3, e3, f3, i3, a3, q3⟩ := s86_end (d := d + 1) (by omega) hk hsd hg2
    refine ⟨M3, ?_, (f1.trans o1.rs).trans f3, mTok_I hg2.2.1 (fun j _ _ => by rw [i3]), hg2.2.2.1, hg2.2.2.2.1, by rw [i3]; exact hg2.2.2.2.2.2.1, by rw [ox]; exact a3, by rw [ox]; exact q3⟩
    rw [ev, o4, e2_out (by omega) hk (by omega) hg2 (Or.inl rfl), aft_stop (by omega) hk hg2 n44 n47]
    exact e3
