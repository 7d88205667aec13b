/-! the reference's readCondition, whole -/
def CoM (L w N : Nat) (β : Nat → Nat) (pt : Nat → Int64) (n : Nat) (M0 M' : zM) : Rs T4 → Prop
  | .inl e => fMc 0 M0 M' ∧ zK M' 146 = (11, 52) ∧ MF e M'
  | .inr x => fMc 0 M0 M' ∧ zK M' 146 = (11, 52) ∧ mTok (tok β N x.2) M' ∧ (tok β N x.2).1 ≠ 3 ∧ x.2 ≤ N ∧ zI M' 146 20 = nI n ∧ ∀ q, q < 4 → zL M' 164 q = x.1 q
theorem m_readCondition {L w N d wh n k i : Nat} {β : Nat → Nat} {pt : Nat → Int64} {M : zM} (hN : N ≤ 200) (hd : 3 ≤ d) (hk : tkOk (tok β N) N) (hw : wh < 2) (hn : n + k = 8) (hE : EM L w N β pt M) (hm : mTok (tok β N i) M) (h3 : (tok β N i).1 ≠ 3) (hi : i ≤ N) (h20 : zI M 146 20 = nI n) : ∃ M', zV (d + 2) n_Mo_readCondition [.ref 146, .int (nI wh)] M = some (none, M') ∧ CoM L w N β pt n M M' (if wh = 1 then sAn (tok β N) pt k i else sNeg (tok β N) pt (rK (tok β N) pt k) 200 false i) := by
  have hK : zK M 146 = (11, 52) := by rw [hE.1.2.1]; rfl
  obtain ⟨c18, c15, c16⟩ := mTok_ok hm h3
  have e5 := m_opensDepth (d := d + 1) (l := 0) (M := zsI M 146 27 (nI 0)) (by omega) (hE.1.sI _ _ _) (by rw [zI_sI, if_pos ⟨rfl, rfl⟩]) (by omega)
  generalize hM2 : zsI (zsI (zsI (zsI M 146 27 (nI 0)) 161 0 (nI 0)) 162 0 (nI 0)) 163 0 (nI 0) = M2 at *
  have f2 : fMc 0 M M2 := by
    rw [← hM2]
    exact ⟨rfl, rfl, rfl, fun b h1 h2 h3 h4 => by rw [zI_ne h4, zI_ne h3, zI_ne h2, zI_ne h1], fun j h1 h2 => by rw [zI_ne (by omega), zI_ne (by omega), zI_ne (by omega), zI_sI, if_neg (fun z => h2 z.2)], fun _ _ _ _ => rfl, fun j hj => absurd hj (by omega), fun _ _ => ⟨rfl, rfl⟩⟩
  have hI2 : ∀ j, j ≠ 27 → zI M2 146 j = zI M 146 j := fun j hj => by rw [← hM2, zI_ne (by omega), zI_ne (by omega), zI_ne (by omega), zI_sI, if_neg (fun z => hj z.2)]
  have hE2 := EM_fr hE f2
  have hK2 : zK M2 146 = (11, 52) := by rw [hE2.1.2.1]; rfl
  have hg : MG L w N β pt 0 n i (none, none, false) M2 := by
    refine ⟨hE2, mTok_I hm (fun j _ _ => hI2 j (by omega)), h3, hi, ?_, (hI2 20 (by decide)).trans h20, ?_⟩
    · rw [← hM2]; rfl
    · rw [← hM2]
      exact ⟨rfl, fun t ht => absurd ht (by simp), rfl, fun t ht => absurd ht (by simp), rfl⟩
  have z18 : zI M2 146 18 = nI 0 := (hI2 18 (by decide)).trans c18
  have ev : zV (d + 2) n_Mo_readCondition [.ref 146, .int (nI wh)] M = opF d wh M2 := by
    rw [← m_c22_1 hK2, ze_Mo_readCondition]
    unfold zx_Mo_readCondition
    clear hE hm hg hE2 f2 hI2 hk
    simp (disch := omega) only [il, nI_add, nI_mul, nI_sub, nI_div, nI_rem, nI_N, i32_lt, i32_le, nI_toInt, nI_subI, nI_clamp, zinT, zifT, iteT, iteF, zQ, zS, zkc, zI_sI, zL_sL, zI_wI, zL_wL, Nat.reduceEqDiff, Nat.reduceAdd, Nat.reduceMul, Nat.reduceLT, Nat.reduceLeDiff, reduceIte, eq_self, and_self, true_and, and_true, false_and, and_false, true_or, or_true, or_false, false_or, not_true_eq_false, not_false_eq_true, zarr, ne_eq, hK, e5, hK2, z18]
  rw [ev]
  have hRA := (m_RA (L := L) (w := w) (β := β) (pt := pt) hN hd hk hw k n hn)
  have hwc : wh = 0 ∨ wh = 1 := by omega
  rcases hwc with rfl | rfl
  · rw [if_neg (by decide)]
    obtain ⟨M3, ho⟩ := m_neg hN hd hk hw (by omega) hRA.2 200 false 0 i M2 none none (by omega) (by omega) hg
    cases hrr : sNeg (tok β N) pt (rK (tok β N) pt k) 200 false i with
    | inl e =>
      rw [hrr] at ho
      obtain ⟨o1, o2, o3, o4⟩ := ho
      exact ⟨M3, o4, f2.trans o1 (Nat.le_refl _), o2, o3⟩
    | inr x =>
      rw [hrr] at ho
      obtain ⟨o1, o2, o3, o4⟩ := ho
      obtain ⟨M4, e4, f4, k4, -, h4⟩ := m_c22_0 (d := d + 1) (wh := 0) (by omega) (by omega) o3
      obtain ⟨t1, t2, t3⟩ := h4 rfl
      refine ⟨M4, ?_, (f2.trans o1 (Nat.le_refl _)).trans f4 (Nat.le_refl _), k4, t1, o3.2.2.1, o3.2.2.2.1, t2, t3⟩
      rw [o4]
      unfold c32
      rw [m_c32_0 (by omega) hk (by omega) o3 (Or.inl rfl), m_c140_no (by omega) hk (by omega) (by omega) o3 (Or.inl ⟨rfl, rfl⟩), e4]
  · rw [if_pos rfl, sAn_eq]
    obtain ⟨M3, ho⟩ := m_any hN hd hk hw (by omega) (Nat.zero_le n) (Or.inr rfl) (rK_mono hk k) hRA.2 hg
    cases hrr : sAnB (tok β N) pt (rK (tok β N) pt k) i with
    | inl e =>
      rw [hrr] at ho
      obtain ⟨o1, o2, o3, o4⟩ := ho
      exact ⟨M3, o4, f2.trans o1 (Nat.le_refl _), o2, o3⟩
    | inr x =>
      rw [hrr] at ho
      obtain ⟨o1, o2, ⟨oo, tt, ox, o3⟩, n38, n124, o4⟩ := ho
      obtain ⟨M4, e4, f4, k4, -, h4⟩ := m_c22_0 (d := d + 1) (wh := 1) (by omega) (by omega) o3
      obtain ⟨t1, t2, t3⟩ := h4 rfl
      refine ⟨M4, ?_, (f2.trans o1 (Nat.le_refl _)).trans f4 (Nat.le_refl _), k4, t1, o3.2.2.1, o3.2.2.2.1, t2, fun q hq => by rw [t3 q hq, ox]⟩
      rw [o4]
      unfold c32
      rw [m_c32_0 (by omega) hk (by omega) o3 (Or.inl rfl), m_c140_no (by omega) hk (by omega) (by omega) o3 (Or.inr ⟨n38, n124⟩), e4]
/-- readCondition where a fault stands already -/
theorem m_readCondition_b {L w d wh f : Nat} {M : zM} (hd : 2 ≤ d) (hs : zSh L w M) (h18 : zI M 146 18 = nI f) (hf : 0 < f) (hf2 : f < 100) : ∃ M', zV d n_Mo_readCondition [.ref 146, .int (nI wh)] M = some (none, M') ∧ fMc 0 M M' ∧ zI M' 146 18 = zI M 146 18 ∧ zI M' 146 19 = zI M 146 19 := by
  obtain ⟨d, rfl, hd1⟩ := zdep hd
  have hK : zK M 146 = (11, 52) := by rw [hs.2.1]; rfl
  have e5 := m_opensDepth (d := d) (l := 0) (M := zsI M 146 27 (nI 0)) (by omega) (hs.sI _ _ _) (by rw [zI_sI, if_pos ⟨rfl, rfl⟩]) (by omega)
  have e6 := m_c22_bad (d := d) (wh := wh) (M := zsI (zsI (zsI (zsI M 146 27 (nI 0)) 161 0 (nI 0)) 162 0 (nI 0)) 163 0 (nI 0)) hK h18 hf hf2
  refine ⟨zsI (zsI (zsI (zsI M 146 27 (nI 0)) 161 0 (nI 0)) 162 0 (nI 0)) 163 0 (nI 0), ?_, ⟨rfl, rfl, rfl, fun b h1 h2 h3 h4 => by rw [zI_ne h4, zI_ne h3, zI_ne h2, zI_ne h1], fun j h1 h2 => by rw [zI_ne (by omega), zI_ne (by omega), zI_ne (by omega), zI_sI, if_neg (fun z => h2 z.2)], fun _ _ _ _ => rfl, fun j hj => absurd hj (by omega), fun _ _ => ⟨rfl, rfl⟩⟩, rfl, rfl⟩
  rw [ze_Mo_readCondition]
  unfold zx_Mo_readCondition
  clear hs
  simp (disch := omega) only [il, nI_add, nI_mul, nI_sub, nI_div, nI_rem, nI_N, i32_lt, i32_le, nI_toInt, nI_subI, nI_clamp, zinT, zifT, iteT, iteF, zQ, zS, zkc, zI_sI, zL_sL, zI_wI, zL_wL, Nat.reduceEqDiff, Nat.reduceAdd, Nat.reduceMul, Nat.reduceLT, Nat.reduceLeDiff, reduceIte, eq_self, and_self, true_and, and_true, false_and, and_false, true_or, or_true, or_false, false_or, not_true_eq_false, not_false_eq_true, zarr, ne_eq, hK, e5, h18, e6]
