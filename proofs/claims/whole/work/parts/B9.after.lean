/-! the reference reads a sequence: behind a part -/
theorem sx_ne {l : Nat} {m : IP} {o : Option Pc} (hl : l ≤ 8) (h : ∀ z, z ∈ m → ixl l z.1) : ∀ z, z ∈ m ++ oL (1 + l) o → z.1 ≠ 11 + l := by
  intro z hz
  rcases List.mem_append.mp hz with hz | hz
  · have := h z hz
    unfold ixl at this
    omega
  · have := oL_mem hz
    omega
/-- at the head of readEnds: the times, and the part comes behind the others -/
theorem ed_times {d L w N sd l n i : Nat} {β : Nat → Nat} {pt : Nat → Int64} {m : IP} {o t : Option Pc} {x : Pc} {M : zM} (hd : 4 ≤ d) (hk : tkOk (tok β N) N) (hsd : sd < 8) (hl : l ≤ 8) (h : SG L w N β pt sd l n i m o t (some x) M) : ∃ M', fSe sd l M M' ∧ zK M' 146 = (11, 52) ∧ ((∃ e, sRpB (tok β N) x i = .inl e ∧ MF e M' ∧ edF d sd M = some (none, M')) ∨ (∃ y j, sRpB (tok β N) x i = .inr (y, j) ∧ SG L w N β pt sd l n j m o (some (chQ t y)) none M' ∧ edF d sd M = e2F d sd M')) := by
  have hK : zK M 146 = (11, 52) := by rw [h.1.1.2.1]; rfl
  obtain ⟨M1, e1, f1, ho⟩ := m_times (d := d) hd hk hsd h
  have hK1 : zK M1 146 = (11, 52) := by rw [f1.2.1]; exact hK
  cases hrr : sRpB (tok β N) x i with
  | inl e =>
    rw [hrr] at ho
    have ho : MF e M1 := ho
    refine ⟨M1, (fSq_rfl sd l M).trans f1 (by omega), hK1, Or.inl ⟨e, rfl, ho, ?_⟩⟩
    have hr : zG d n_Mo_readEnds 13 [some (.ref 146), some (.int (nI 1))] [] M = some (none, M1) := by
      obtain ⟨z1, z2, z3, z4⟩ := ho
      rw [zg_Mo_readEnds_13]
      unfold zx_Mo_readEnds_13
      simp only [zg_Mo_readEnds_33]
      unfold zx_Mo_readEnds_33
      have e13 := e13_0 (d := d) (M := M1)
      clear h f1
      simp (disch := omega) only [il, nI_add, nI_mul, nI_sub, nI_div, nI_rem, nI_N, i32_lt, i32_le, nI_toInt, nI_subI, nI_clamp, zinT, zifT, iteT, iteF, zQ, zS, zkc, zI_sI, zL_sL, zI_wI, zL_wL, Nat.reduceEqDiff, Nat.reduceAdd, Nat.reduceMul, Nat.reduceLT, Nat.reduceLeDiff, reduceIte, eq_self, and_self, true_and, and_true, false_and, and_false, true_or, or_true, or_false, false_or, not_true_eq_false, not_false_eq_true, zarr, ne_eq, hK, e1, hK1, z3, e13]
    unfold edF
    rw [hr, zbV_S, aft_bad (by omega) hK1 ho]
  | inr y =>
    rw [hrr] at ho
    obtain ⟨s1, s2, s3, s4, s5, s6, s7, s8, s9, s10⟩ := ho
    obtain ⟨z18, -, -⟩ := mTok_ok s2 s3
    obtain ⟨M2, e2, f2, i146, c1, c2, q2⟩ := m_chainsO (d := d) (a := 11 + l) (b := 0) (m := m ++ oL (1 + l) o) (t := t) (x := y.1) (by omega) s1.1 hsd (by omega) (by omega) (by omega) s8 s10 (sx_ne hl s9)
    have f2s : fSe sd l M1 M2 := f2.sq (fun j hj => c2 j (by omega))
    have hK2 : zK M2 146 = (11, 52) := by rw [f2.2.1]; exact hK1
    refine ⟨M2, ((fSq_rfl sd l M).trans f1 (by omega)).trans f2s (Nat.le_refl _), hK2, Or.inr ⟨y.1, y.2, rfl, ⟨EM_sq s1 f2s, mTok_I s2 (fun j _ _ => by rw [i146]), s3, s4, by rw [i146]; exact s5, by rw [i146]; exact s6, by rw [c2 _ (by omega)]; exact s7, c1, s9, ?_⟩, ?_⟩⟩
    · show Qst sd (m ++ oL (1 + l) o ++ [(11 + l, chQ t y.1)] ++ []) M2
      rw [List.append_nil]
      exact q2
    · unfold edF e2F
      congr 1
      rw [zg_Mo_readEnds_13]
      unfold zx_Mo_readEnds_13
      rw [if_neg (by decide), zif_t (by rw [hK]), e1, zbV_S, zif_t (by rw [hK1]), if_neg (by rw [z18]; decide)]
      show zG d n_Mo_readEnds 33 [some (.ref 146), none] [.int (nI 1)] M1 = _
      rw [zg_Mo_readEnds_33]
      unfold zx_Mo_readEnds_33
      rw [if_neg (by decide), zif_t (by rw [hK1]), zif_t (by rw [hK1]), s5]
      show zbV (zV d n_Mo_chains [.ref 146, .int (nI 11 + nI l), .int (nI 0)] M1) _ = _
      rw [nI_add, e2, zbV_S]
      rfl
/-- nothing to close -/
theorem e2_out {d L w N sd l n i : Nat} {β : Nat → Nat} {pt : Nat → Int64} {m : IP} {o t x : Option Pc} {M : zM} (hd : 2 ≤ d) (hk : tkOk (tok β N) N) (hl : l ≤ 8) (h : SG L w N β pt sd l n i m o t x M) (hno : l = 0 ∨ (tok β N i).1 ≠ 125) : e2F d sd M = aft (d + 1) sd M := by
  obtain ⟨s1, s2, s3, s4, s5, s6, s7, s8, s9, s10⟩ := h
  have hK : zK M 146 = (11, 52) := by rw [s1.1.2.1]; rfl
  unfold e2F
  by_cases h0 : l = 0
  · subst h0
    rw [zif_t (by rw [hK]), if_pos (by rw [s5]; decide), e71_0, zbV_S]
  · have e1 := m_isSign (d := d) (c := 125) (by omega) s1 hk s2 s3 s4 (by omega) (by omega)
    rw [if_neg (hno.resolve_left h0)] at e1
    have h37 : ¬ zI M 146 37 ≤ 0 := by
      rw [s5]
      show ¬ nI l ≤ nI 0
      rw [nI_E (by omega) (by omega)]
      omega
    rw [zif_t (by rw [hK]), if_neg h37, zif_t (by rw [hK])]
    show zbV (zbI (zV d n_Mo_isSign [.ref 146, .int (nI 125)] M) _) _ = _
    rw [e1, zbI_S, if_pos (by decide), e71_0, zbV_S]
/-- } -/
theorem e2_close {d L w N sd l n i : Nat} {β : Nat → Nat} {pt : Nat → Int64} {m : IP} {o' t' o : Option Pc} {t : Pc} {M : zM} (hd : 3 ≤ d) (hk : tkOk (tok β N) N) (hsd : sd < 8) (hl : l < 8) (hn : n < 8) (hm9 : ∀ z, z ∈ m → ixl l z.1) (h1 : zI M 173 (1 + l) = nI (oN o')) (h11 : zI M 173 (11 + l) = nI (oN t')) (h : SG L w N β pt sd (l + 1) (n + 1) i (m ++ oL (1 + l) o' ++ oL (11 + l) t') o (some t) none M) (h125 : (tok β N i).1 = 125) : ∃ M', fSe sd l M M' ∧ zK M' 146 = (11, 52) ∧ (((tok β N (tok β N i).2.2.2).1 = 3 ∧ MF (1, (tok β N (tok β N i).2.2.2).2.2.1) M' ∧ e2F d sd M = some (none, M')) ∨ ((tok β N (tok β N i).2.2.2).1 ≠ 3 ∧ SG L w N β pt sd l n (tok β N i).2.2.2 m o' t' (some (orQ o t)) M' ∧ e2F d sd M = edF d sd M')) := by
  obtain ⟨s1, s2, s3, s4, s5, s6, s7, s8, s9, s10⟩ := h
  have hK : zK M 146 = (11, 52) := by rw [s1.1.2.1]; rfl
  have e1 := m_isSign (d := d) (c := 125) (by omega) s1 hk s2 s3 s4 (by omega) (by omega)
  rw [if_pos h125] at e1
  have h37 : ¬ zI M 146 37 ≤ 0 := by
    rw [s5]
    show ¬ nI (l + 1) ≤ nI 0
    rw [nI_E (by omega) (by omega)]
    omega
  have s10' : Qst sd (m ++ oL (1 + l) o' ++ oL (11 + l) t' ++ oL (1 + (l + 1)) o ++ [(11 + (l + 1), t)]) M := by
    rw [show oL 0 none = [] from rfl, List.append_nil] at s10
    exact s10
  have hix : ∀ z, z ∈ m ++ oL (1 + l) o' ++ oL (11 + l) t' → ixl (l + 1) z.1 := mx_ix hm9
  obtain ⟨M1, e2, f1, i1, c1, c2, q1⟩ := m_choosesO (d := d) (a := 1 + (l + 1)) (b := 11 + (l + 1)) (t := o) (x := t) (by omega) s1.1 (by omega) (by omega) (by omega) s7 s10' (fun z hz => by have := hix z hz; unfold ixl at this; omega)
  have hs1 := zSh_fr s1.1 f1.1 f1.2.1 f1.2.2.1
  have hK1 : zK M1 146 = (11, 52) := by rw [f1.2.1]; exact hK
  obtain ⟨wy, y1, y2, y3, y4⟩ := q1.2.1 (1 + (l + 1), orQ o t) (by simp)
  have e3 := m_takes (d := d) (f := 1 + (l + 1)) (t := 0) (c := if pF (orQ o t) = 0 then 1 else 0) (by omega) hs1 (by omega) (by omega) y1 ite2
  have q2 := q_takes (t := 0) q1 (fun z hz => by have := hix z hz; unfold ixl at this; omega)
  have f2 : fPc sd M1 (tkM M1 (1 + (l + 1)) 0) := tkM_f
  have i2 : zI (tkM M1 (1 + (l + 1)) 0) 146 = zI M1 146 := rfl
  have c3 : ∀ j, j ≠ 0 → zI (tkM M1 (1 + (l + 1)) 0) 173 j = zI M1 173 j := fun j hj => (tkM_o hj).1
  generalize tkM M1 (1 + (l + 1)) 0 = M2 at *
  have hK2 : zK M2 146 = (11, 52) := by rw [f2.2.1]; exact hK1
  have fA : fSe sd l M M2 := (f1.sq (fun j hj => c2 j (by omega))).trans (f2.sq (fun j hj => c3 j (by omega))) (Nat.le_refl _)
  generalize hM3 : zsI (zsI M2 146 37 (nI l)) 146 20 (nI n) = M3
  have I3 : ∀ j, j ≠ 37 → j ≠ 20 → zI M3 146 j = zI M 146 j := fun j x1 x2 => by rw [← hM3, zI_sI, if_neg (fun z => x2 z.2), zI_sI, if_neg (fun z => x1 z.2), i2, i1]
  have I3o : ∀ b, b ≠ 146 → zI M3 b = zI M2 b := fun b hb => by rw [← hM3, zI_ne hb, zI_ne hb]
  have f3 : fSe sd l M2 M3 := by
    rw [← hM3]
    exact ⟨rfl, rfl, rfl, fun b hb => by rw [zI_ne (by omega), zI_ne (by omega)], fun j x1 x2 x3 x4 => by rw [zI_sI, if_neg (fun z => by omega), zI_sI, if_neg (fun z => x3 z.2)], fun _ _ => rfl, fun _ _ => rfl, fun _ _ => rfl, fun _ _ => rfl⟩
  have fB : fSe sd l M M3 := fA.trans f3 (Nat.le_refl _)
  have hE3 := EM_sq s1 fB
  have hK3 : zK M3 146 = (11, 52) := by rw [hE3.1.2.1]; rfl
  have hm3 : mTok (tok β N i) M3 := mTok_I s2 (fun j x1 x2 => I3 j (by omega) (by omega))
  obtain ⟨M4, e4, f4, -, hE4, hm4⟩ := m_adv (d := d) (D := 0) (by omega) hE3 hk hm3 s3 s4
  have hK4 : zK M4 146 = (11, 52) := by rw [hE4.1.2.1]; rfl
  have h372 : zI M2 146 37 = nI (l + 1) := by rw [i2, i1]; exact s5
  have h202 : zI M2 146 20 = nI (n + 1) := by rw [i2, i1]; exact s6
  have h371 : zI M1 146 37 = nI (l + 1) := by rw [i1]; exact s5
  have ev : e71 d 1 M = if zI M4 146 18 ≠ 0 then (zG d n_Mo_readEnds 13 [some (.ref 146), some (.int (nI 0))] [] M4) else zG d n_Mo_readEnds 13 [some (.ref 146), some (.int (nI 1))] [] M4 := by
    unfold e71
    rw [zg_Mo_readEnds_71]
    unfold zx_Mo_readEnds_71
    have hl1 : l + 1 - 1 = l := by omega
    have hn1 : n + 1 - 1 = n := by omega
    clear s1 s2 s9 s10 s10' hm9 hix f1 f2 f3 fA fB hE3 hm3 f4 hE4 hm4 q1 q2 hk I3 I3o c2 c3 e1
    simp (disch := omega) only [il, nI_add, nI_mul, nI_sub, nI_div, nI_rem, nI_N, i32_lt, i32_le, nI_toInt, nI_subI, nI_clamp, zinT, zifT, iteT, iteF, zQ, zS, zkc, zI_sI, zL_sL, zI_wI, zL_wL, Nat.reduceEqDiff, Nat.reduceAdd, Nat.reduceMul, Nat.reduceLT, Nat.reduceLeDiff, reduceIte, eq_self, and_self, true_and, and_true, false_and, and_false, true_or, or_true, or_false, false_or, not_true_eq_false, not_false_eq_true, zarr, ne_eq, hK, s5, e2, hK1, h371, e3, hK2, h372, h202, hl1, hn1, hM3, hK3, e4, hK4, ↓zbm_S]
  have ef : e2F d sd M = zbV (e71 d 1 M) (aft (d + 1) sd) := by
    unfold e2F
    rw [zif_t (by rw [hK]), if_neg h37, zif_t (by rw [hK])]
    show zbV (zbI (zV d n_Mo_isSign [.ref 146, .int (nI 125)] M) _) _ = _
    rw [e1, zbI_S, if_neg (by decide)]
  have fC : fSe sd l M M4 := fB.trans f4.sq (Nat.le_refl _)
  refine ⟨M4, fC, hK4, ?_⟩
  by_cases hb : (tok β N (tok β N i).2.2.2).1 = 3
  · obtain ⟨b1, b2⟩ := mTok_bad hm4 hb
    have hf : MF (1, (tok β N (tok β N i).2.2.2).2.2.1) M4 := ⟨Nat.zero_lt_one, (show 1 < 10 by decide), b1, b2⟩
    refine Or.inl ⟨hb, hf, ?_⟩
    rw [ef, ev, if_pos (by rw [b1]; decide), e13_0, zbV_S, aft_bad (by omega) hK4 hf]
  · obtain ⟨z18, -, -⟩ := mTok_ok hm4 hb
    refine Or.inr ⟨hb, ⟨hE4, hm4, hb, (hk i s4).1, ?_, ?_, ?_, ?_, hm9, ?_⟩, ?_⟩
    · rw [f4.2.2.2.2.2 37 (by omega), ← hM3, zI_sI, if_neg (fun z => by omega), zI_sI, if_pos ⟨rfl, rfl⟩]
    · rw [f4.2.2.2.2.2 20 (by omega), ← hM3, zI_sI, if_pos ⟨rfl, rfl⟩]
    · rw [f4.2.2.2.2.1 173 (by omega), I3o 173 (by omega), c3 _ (by omega), c2 _ (by omega)]; exact h1
    · rw [f4.2.2.2.2.1 173 (by omega), I3o 173 (by omega), c3 _ (by omega), c2 _ (by omega)]; exact h11
    · refine Qst_mc (M := M3) ?_ (f4.mc (D := 0))
      refine Qst_fr q2 ?_ ?_ (fun b hb => I3o b (by omega)) (fun b _ => by rw [← hM3]; rfl)
      · rw [I3 38 (by omega) (by omega), i2, i1]
      · rw [I3 39 (by omega) (by omega), i2, i1]
    · unfold edF
      rw [ef, ev, if_neg (by rw [z18]; decide)]
/-- , -/
theorem aft_comma {d L w N sd l n i : Nat} {β : Nat → Nat} {pt : Nat → Int64} {m : IP} {o t x : Option Pc} {M : zM} (hd : 3 ≤ d) (hk : tkOk (tok β N) N) (h : SG L w N β pt sd l n i m o t x M) (h44 : (tok β N i).1 = 44) : ∃ M', fSe sd l M M' ∧ zK M' 146 = (11, 52) ∧ (((tok β N (tok β N i).2.2.2).1 = 3 ∧ MF (1, (tok β N (tok β N i).2.2.2).2.2.1) M' ∧ aft (d + 1) sd M = some (none, M')) ∨ ((tok β N (tok β N i).2.2.2).1 ≠ 3 ∧ SG L w N β pt sd l n (tok β N i).2.2.2 m o t x M' ∧ aft (d + 1) sd M = bgF d sd M')) := by
  have h0 := h
  obtain ⟨s1, s2, s3, s4, s5, s6, s7, s8, s9, s10⟩ := h
  have hK : zK M 146 = (11, 52) := by rw [s1.1.2.1]; rfl
  have e1 := m_isSign (d := d + 1) (c := 44) (by omega) s1 hk s2 s3 s4 (by omega) (by omega)
  rw [if_pos h44] at e1
  have e2 := m_isSign (d := d + 1) (c := 47) (by omega) s1 hk s2 s3 s4 (by omega) (by omega)
  rw [if_neg (by omega)] at e2
  obtain ⟨M1, e3, f1, -, hE1, hm1⟩ := m_adv (d := d + 1) (D := 0) (by omega) s1 hk s2 s3 s4
  have hK1 : zK M1 146 = (11, 52) := by rw [hE1.1.2.1]; rfl
  have ea : aft (d + 1) sd M = s121 (d + 1) sd 1 M := by
    unfold aft
    rw [zif_t (by rw [hK])]
    show zbI (zV (d + 1) n_Mo_isSign [.ref 146, .int (nI 44)] M) _ = _
    rw [e1, zbI_S, if_pos (by decide)]
  have eb : s121 (d + 1) sd 1 M = if zI M1 146 18 ≠ 0 then (s86 (d + 1) sd 0 M1) else s86 (d + 1) sd 1 M1 := by
    unfold s121 s86
    rw [zg_Mo_readSequence_121]
    unfold zx_Mo_readSequence_121
    clear h0 s1 s2 s9 s10 f1 hE1 hm1 hk
    simp (disch := omega) only [il, nI_add, nI_mul, nI_sub, nI_div, nI_rem, nI_N, i32_lt, i32_le, nI_toInt, nI_subI, nI_clamp, zinT, zifT, iteT, iteF, zQ, zS, zkc, zI_sI, zL_sL, zI_wI, zL_wL, Nat.reduceEqDiff, Nat.reduceAdd, Nat.reduceMul, Nat.reduceLT, Nat.reduceLeDiff, reduceIte, eq_self, and_self, true_and, and_true, false_and, and_false, true_or, or_true, or_false, false_or, not_true_eq_false, not_false_eq_true, zarr, ne_eq, hK, e2, e3, hK1]
  refine ⟨M1, f1.sq, hK1, ?_⟩
  by_cases hb : (tok β N (tok β N i).2.2.2).1 = 3
  · obtain ⟨b1, b2⟩ := mTok_bad hm1 hb
    have hf : MF (1, (tok β N (tok β N i).2.2.2).2.2.1) M1 := ⟨Nat.zero_lt_one, (show 1 < 10 by decide), b1, b2⟩
    refine Or.inl ⟨hb, hf, ?_⟩
    rw [ea, eb, if_pos (by rw [b1]; decide), s86_bad hK1 hf]
  · obtain ⟨z18, -, -⟩ := mTok_ok hm1 hb
    refine Or.inr ⟨hb, SG_mo h0 f1 hm1 hb (hk i s4).1, ?_⟩
    rw [ea, eb, if_neg (by rw [z18]; decide), s86_1 hK1]
/-- / -/
theorem aft_slash {d L w N sd l n i : Nat} {β : Nat → Nat} {pt : Nat → Int64} {m : IP} {o : Option Pc} {t : Pc} {M : zM} (hd : 3 ≤ d) (hk : tkOk (tok β N) N) (hsd : sd < 8) (hl : l ≤ 8) (h : SG L w N β pt sd l n i m o (some t) none M) (h47 : (tok β N i).1 = 47) : ∃ M', fSe sd l M M' ∧ zK M' 146 = (11, 52) ∧ (((tok β N (tok β N i).2.2.2).1 = 3 ∧ MF (1, (tok β N (tok β N i).2.2.2).2.2.1) M' ∧ aft (d + 1) sd M = some (none, M')) ∨ ((tok β N (tok β N i).2.2.2).1 ≠ 3 ∧ SG L w N β pt sd l n (tok β N i).2.2.2 m (some (orQ o t)) none none M' ∧ aft (d + 1) sd M = bgF d sd M')) := by
  obtain ⟨s1, s2, s3, s4, s5, s6, s7, s8, s9, s10⟩ := h
  have hs := s1.1
  have hK : zK M 146 = (11, 52) := by rw [hs.2.1]; rfl
  have e1 := m_isSign (d := d + 1) (c := 44) (by omega) s1 hk s2 s3 s4 (by omega) (by omega)
  rw [if_neg (by omega)] at e1
  have e2 := m_isSign (d := d + 1) (c := 47) (by omega) s1 hk s2 s3 s4 (by omega) (by omega)
  rw [if_pos h47] at e2
  rw [show oL 0 none = [] from rfl, List.append_nil] at s10
  obtain ⟨M1, e3, f1, i1, c1, c2, q1⟩ := m_choosesO (d := d + 1) (a := 1 + l) (b := 11 + l) (t := o) (x := t) (by omega) hs (by omega) (by omega) (by omega) s7 s10 (fun z hz => by have := s9 z hz; unfold ixl at this; omega)
  have hs1 := zSh_fr hs f1.1 f1.2.1 f1.2.2.1
  obtain ⟨k0, -, -, -, -, -, -, -, k173⟩ := pc_k hs1
  have r36 := (pc_r hs1).2.2.2.2.2.2.2
  generalize hM2 : zsI M1 173 (11 + l) (nI 0) = M2
  have I2 : ∀ b, b ≠ 173 → zI M2 b = zI M1 b := fun b hb => by rw [← hM2, zI_ne hb]
  have f2 : fSe sd l M1 M2 := by
    rw [← hM2]
    exact ⟨rfl, rfl, rfl, fun b hb => zI_ne (by omega), fun _ _ _ _ _ => rfl, fun _ _ => rfl, fun _ _ => rfl, fun _ _ => rfl, fun j hj => by rw [zI_sI, if_neg (fun z => by omega)]⟩
  have fA : fSe sd l M M2 := (f1.sq (fun j hj => c2 j (by omega))).trans f2 (Nat.le_refl _)
  have hE2 := EM_sq s1 fA
  have hK2 : zK M2 146 = (11, 52) := by rw [hE2.1.2.1]; rfl
  have hm2 : mTok (tok β N i) M2 := mTok_I s2 (fun j _ _ => by rw [I2 146 (by omega), i1])
  obtain ⟨M3, e4, f3, -, hE3, hm3⟩ := m_adv (d := d + 1) (D := 0) (by omega) hE2 hk hm2 s3 s4
  have hK3 : zK M3 146 = (11, 52) := by rw [hE3.1.2.1]; rfl
  have h371 : zI M1 146 37 = nI l := by rw [i1]; exact s5
  have ea : aft (d + 1) sd M = s121 (d + 1) sd 1 M := by
    unfold aft
    rw [zif_t (by rw [hK])]
    show zbI (zV (d + 1) n_Mo_isSign [.ref 146, .int (nI 44)] M) _ = _
    rw [e1, zbI_S, if_neg (by decide), zif_t (by rw [hK])]
    show zbI (zV (d + 1) n_Mo_isSign [.ref 146, .int (nI 47)] M) _ = _
    rw [e2, zbI_S, if_neg (by decide)]
  have eb : s121 (d + 1) sd 1 M = if zI M3 146 18 ≠ 0 then (s86 (d + 1) sd 0 M3) else s86 (d + 1) sd 1 M3 := by
    unfold s121 s86
    rw [zg_Mo_readSequence_121]
    unfold zx_Mo_readSequence_121
    clear s1 s2 s9 s10 f1 f2 fA hE2 hE3 hm2 hm3 hk q1 I2 c2 f3 hs hs1
    simp (disch := omega) only [il, nI_add, nI_mul, nI_sub, nI_div, nI_rem, nI_N, i32_lt, i32_le, nI_toInt, nI_subI, nI_clamp, zinT, zifT, iteT, iteF, zQ, zS, zkc, zI_sI, zL_sL, zI_wI, zL_wL, Nat.reduceEqDiff, Nat.reduceAdd, Nat.reduceMul, Nat.reduceLT, Nat.reduceLeDiff, reduceIte, eq_self, and_self, true_and, and_true, false_and, and_false, true_or, or_true, or_false, false_or, not_true_eq_false, not_false_eq_true, zarr, ne_eq, hK, e2, s5, e3, k0, h371, r36, k173, zbast, nar_z0, hM2, hK2, e4, hK3]
  refine ⟨M3, fA.trans f3.sq (Nat.le_refl _), hK3, ?_⟩
  by_cases hb : (tok β N (tok β N i).2.2.2).1 = 3
  · obtain ⟨b1, b2⟩ := mTok_bad hm3 hb
    have hf : MF (1, (tok β N (tok β N i).2.2.2).2.2.1) M3 := ⟨Nat.zero_lt_one, (show 1 < 10 by decide), b1, b2⟩
    refine Or.inl ⟨hb, hf, ?_⟩
    rw [ea, eb, if_pos (by rw [b1]; decide), s86_bad hK3 hf]
  · obtain ⟨z18, -, -⟩ := mTok_ok hm3 hb
    refine Or.inr ⟨hb, ⟨hE3, hm3, hb, (hk i s4).1, ?_, ?_, ?_, ?_, s9, ?_⟩, ?_⟩
    · rw [f3.2.2.2.2.2 37 (by omega), I2 146 (by omega)]; exact h371
    · rw [f3.2.2.2.2.2 20 (by omega), I2 146 (by omega), i1]; exact s6
    · rw [f3.2.2.2.2.1 173 (by omega), ← hM2, zI_sI, if_neg (fun z => by omega)]; exact c1
    · rw [f3.2.2.2.2.1 173 (by omega), ← hM2, zI_sI, if_pos ⟨rfl, rfl⟩]; rfl
    · show Qst sd (m ++ [(1 + l, orQ o t)] ++ [] ++ []) M3
      rw [List.append_nil, List.append_nil]
      refine Qst_mc (M := M2) ?_ (f3.mc (D := 0))
      exact Qst_fr q1 (by rw [I2 146 (by omega)]) (by rw [I2 146 (by omega)]) (fun b hb => I2 b (by omega)) (fun b _ => by rw [← hM2]; rfl)
    · rw [ea, eb, if_neg (by rw [z18]; decide), s86_1 hK3]
/-- neither -/
theorem aft_stop {d L w N sd l n i : Nat} {β : Nat → Nat} {pt : Nat → Int64} {m : IP} {o t x : Option Pc} {M : zM} (hd : 2 ≤ d) (hk : tkOk (tok β N) N) (h : SG L w N β pt sd l n i m o t x M) (h44 : (tok β N i).1 ≠ 44) (h47 : (tok β N i).1 ≠ 47) : aft (d + 1) sd M = s86 (d + 1) sd 0 M := by
  obtain ⟨s1, s2, s3, s4, s5, s6, s7, s8, s9, s10⟩ := h
  have hK : zK M 146 = (11, 52) := by rw [s1.1.2.1]; rfl
  have e1 := m_isSign (d := d + 1) (c := 44) (by omega) s1 hk s2 s3 s4 (by omega) (by omega)
  rw [if_neg h44] at e1
  have e2 := m_isSign (d := d + 1) (c := 47) (by omega) s1 hk s2 s3 s4 (by omega) (by omega)
  rw [if_neg h47] at e2
  unfold aft
  rw [zif_t (by rw [hK])]
  show zbI (zV (d + 1) n_Mo_isSign [.ref 146, .int (nI 44)] M) _ = _
  rw [e1, zbI_S, if_neg (by decide), zif_t (by rw [hK])]
  show zbI (zV (d + 1) n_Mo_isSign [.ref 146, .int (nI 47)] M) _ = _
  rw [e2, zbI_S, if_pos (by decide), s121_0]
/-- a { is not ended -/
theorem s86_deep {d L w N sd l n i : Nat} {β : Nat → Nat} {pt : Nat → Int64} {m : IP} {o t x : Option Pc} {M : zM} (hd : 1 ≤ d) (h : SG L w N β pt sd l n i m o t x M) (hl : 1 ≤ l) (hl8 : l ≤ 8) : ∃ M', s86 d sd 0 M = some (none, M') ∧ fSe sd l M M' ∧ zK M' 146 = (11, 52) ∧ MF (2, plc (tok β N) i) M' := by
  obtain ⟨s1, s2, s3, s4, s5, s6, s7, s8, s9, s10⟩ := h
  have hK : zK M 146 = (11, 52) := by rw [s1.1.2.1]; rfl
  obtain ⟨c18, c15, c16⟩ := mTok_ok s2 s3
  have e1 := m_requires_f (d := d) (x := 2) (M := M) hd hK c18
  have f1 := (fMo_s M (j := 18) (by omega) (nI 2)).trans (fMo_s _ (j := 19) (by omega) (zI M 146 15))
  refine ⟨zsI (zsI M 146 18 (nI 2)) 146 19 (zI M 146 15), ?_, f1.sq, hK, Nat.zero_lt_two, (show 2 < 10 by decide), rfl, c15⟩
  unfold s86
  rw [zg_Mo_readSequence_86]
  unfold zx_Mo_readSequence_86
  clear s1 s2 s9 s10 f1
  simp (disch := omega) only [il, nI_add, nI_mul, nI_sub, nI_div, nI_rem, nI_N, i32_lt, i32_le, nI_toInt, nI_subI, nI_clamp, zinT, zifT, iteT, iteF, zQ, zS, zkc, zI_sI, zL_sL, zI_wI, zL_wL, Nat.reduceEqDiff, Nat.reduceAdd, Nat.reduceMul, Nat.reduceLT, Nat.reduceLeDiff, reduceIte, eq_self, and_self, true_and, and_true, false_and, and_false, true_or, or_true, or_false, false_or, not_true_eq_false, not_false_eq_true, zarr, ne_eq, hK, c18, s5, e1]
