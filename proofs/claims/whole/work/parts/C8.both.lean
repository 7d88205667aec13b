/-! text: both answer the same -/
theorem zSh_swap {L w w' : Nat} {M M' : zM} (h : zSh L w M) (hw' : w' < 2) (hN : zN M' = zN M) (hK : zK M' = zK M) (hR : ∀ a i, ¬ (a = 2 ∧ (i = 7 ∨ i = 8)) → zR M' a i = zR M a i) (r7 : zR M' 2 7 = some (24 + w')) (r8 : zR M' 2 8 = some (25 - w')) : zSh L w' M' := by
  unfold zSh zRc zRm0 zRf zPle zSeq zWat zTra zShe at *
  rw [hN, hK]
  obtain ⟨h1, h2, h3, h4, ⟨h5, h6, h7, h8⟩, h9, h10, h11⟩ := h
  refine ⟨h1, h2, ?_, ?_, ⟨fun p hp => ?_, fun k hk => ?_, ?_, ?_⟩, hw', r7, r8⟩
  · simp (disch := omega) only [hR]
    exact h3
  · simp (disch := omega) only [hR]
    exact h4
  · have := h5 p hp
    simp (disch := omega) only [hR]
    exact this
  · have := h6 k hk
    simp (disch := omega) only [hR]
    exact this
  · simp (disch := omega) only [hR]
    exact h7
  · simp (disch := omega) only [hR]
    exact h8
theorem iWat_fr4 {A B : Sq} {ki ho a g k : Nat} {tr : Nat → Nat} {M M' : zM} (h : iWat A B ki ho tr M a g k) (hf : ∀ b, a ≤ b → b ≤ a + 6 → zI M' b = zI M b ∧ zL M' b = zL M b) (hg : ∀ b, g ≤ b → b ≤ g + 9 → zL M' b = zL M b) : iWat A B ki ho tr M' a g k := by
  unfold iWat
  rw [(hf a (by omega) (by omega)).1, (hf a (by omega) (by omega)).2, (hf (a + 1) (by omega) (by omega)).2, (hf (a + 2) (by omega) (by omega)).2, (hf (a + 3) (by omega) (by omega)).1, (hf (a + 4) (by omega) (by omega)).2, (hf (a + 5) (by omega) (by omega)).1, (hf (a + 6) (by omega) (by omega)).1, hg (g + 1) (by omega) (by omega), hg (g + 2) (by omega) (by omega), hg (g + 3) (by omega) (by omega), hg (g + 4) (by omega) (by omega), hg (g + 5) (by omega) (by omega), hg (g + 6) (by omega) (by omega), hg (g + 7) (by omega) (by omega), hg (g + 8) (by omega) (by omega), hg (g + 9) (by omega) (by omega)]
  exact h
theorem iPled_fr4 {A B : Sq} {ki ho g p : Nat} {M M' : zM} (h : iPled A B ki ho M g p) (hf : ∀ b, g ≤ b → b ≤ g + 9 → zI M' b = zI M b ∧ zL M' b = zL M b) (f4 : zI M' 147 = zI M 147) (f5 : zI M' 151 = zI M 151) (f6 : zL M' 149 = zL M 149) (f7 : zL M' 153 = zL M 153) : iPled A B ki ho M' g p := by
  obtain ⟨a1, a2, a3, a4, a5⟩ := h
  refine ⟨SeqC_fr a1 (hf _ (by omega) (by omega)).1 (fun b _ _ => (hf b (by omega) (by omega)).2), SeqM_fr a2 f4 f6, SeqC_fr a3 (hf _ (by omega) (by omega)).1 (fun b _ _ => (hf b (by omega) (by omega)).2), SeqM_fr a4 f4 f6, ?_⟩
  rw [(hf g (by omega) (by omega)).1, f5, (hf (g + 4) (by omega) (by omega)).2, (hf (g + 8) (by omega) (by omega)).2, (hf (g + 9) (by omega) (by omega)).2, f6, f7]
  exact a5
theorem iProm_fr4 {w t P : Nat} {tr : Nat → Nat} {M M' : zM} (h : iProm w t P tr M) (hf : ∀ p, p < 4 → ∀ b, (26 + 10 * w + 27 * p ≤ b ∧ b ≤ 26 + 10 * w + 27 * p + 9) ∨ (46 + 27 * p ≤ b ∧ b ≤ 46 + 27 * p + 6) → zI M' b = zI M b ∧ zL M' b = zL M b) (f2 : zI M' 2 9 = zI M 2 9) (f3 : zI M' 146 8 = zI M 146 8) (f4 : zI M' 147 = zI M 147) (f5 : zI M' 151 = zI M 151) (f6 : zL M' 149 = zL M 149) (f7 : zL M' 153 = zL M 153) : iProm w t P tr M' := by
  obtain ⟨h1, h2, h3, h4⟩ := h
  refine ⟨h1, f2.trans h2, f3.trans h3, fun p hp => ?_⟩
  obtain ⟨A, B, ki, ho, k, hk, b1, b2⟩ := h4 p hp
  exact ⟨A, B, ki, ho, k, hk, iPled_fr4 b1 (fun b x y => hf p (by omega) b (Or.inl ⟨x, y⟩)) f4 f5 f6 f7, iWat_fr4 b2 (fun b x y => hf p (by omega) b (Or.inr ⟨x, y⟩)) (fun b x y => (hf p (by omega) b (Or.inl ⟨x, y⟩)).2)⟩
/-- the class's answer, where there is a fault -/
theorem pt_text_bad {d L w e1 e2 : Nat} {M M1 : zM} (hs : zSh L w M) (hs1 : zSh L w M1) (er : zV d n_Re_readAll [.ref 3, .ref (25 - w)] M = some (some (.int (-1)), M1)) (h6 : zI M1 4 6 = nI e1) (h7 : zI M1 4 7 = nI e2) : zV (d + 1) n_PT_text [.ref 2] M = some (some (.int ((-10 : Int32) - nI e2)), zsI (zsI M1 4 1 (nI 0)) 2 10 (nI e1)) := by
  obtain ⟨hN, hK, hC, hMo, hF, hw, r7, r8⟩ := hs
  obtain ⟨hN1, hK1, hC1, hMo1, hF1, hw1, r71, r81⟩ := hs1
  rw [ze_PT_text]
  unfold zx_PT_text
  have hneg : ¬ (0 : Int32) ≤ -1 := by decide
  simp only [hK, hK1, hC, hC1, r8, zkc, zQ, zS, er, zif_T, zI_sI, h6, h7, Nat.reduceEqDiff, and_false, false_and, and_self, if_false, if_true, reduceIte, hneg]
  rfl
/-- and where the text is taken -/
theorem pt_text_ok {d L w n : Nat} {M M1 : zM} (hd : 3 ≤ d) (hs : zSh L w M) (hs1 : zSh L w M1) (hn : n ≤ 4) (er : zV d n_Re_readAll [.ref 3, .ref (25 - w)] M = some (some (.int (nI n)), M1)) (h6 : zI M1 4 6 = nI 0) : ∃ M2, zV (d + 1) n_PT_text [.ref 2] M = some (some (.int (nI n)), M2) ∧ zSh L (1 - w) M2 ∧ (∀ b, b ≠ 2 → b ≠ 4 → b ≠ 22 → (∀ p, p < 4 → b ≠ 46 + 27 * p) → zI M2 b = zI M1 b) ∧ (∀ b, (∀ p, p < 4 → b ≠ 46 + 27 * p) → zL M2 b = zL M1 b) ∧ (∀ j, j ≠ 9 → j ≠ 10 → zI M2 2 j = zI M1 2 j) ∧ zI M2 2 9 = nI n ∧ zI M2 2 10 = nI 0 ∧ zI M2 4 1 = nI 0 ∧ zI M2 22 0 = nI 0 ∧ zI M2 22 1 = nI 0 ∧ ∀ p, p < 4 → zI M2 (46 + 27 * p) 8 = nI 0 ∧ zL M2 (46 + 27 * p) 6 = 0 ∧ zL M2 (46 + 27 * p) 7 = 0 := by
  have hs1' := hs1
  obtain ⟨hN, hK, hC, hMo, hF, hw, r7, r8⟩ := hs
  obtain ⟨hN1, hK1, hC1, hMo1, hF1, hw1, r71, r81⟩ := hs1
  generalize hM5 : zsI (zsR (zsR (zsI (zsI M1 4 1 (nI 0)) 2 10 (nI 0)) 2 7 (some (25 - w))) 2 8 (some (24 + w))) 2 9 (nI n) = M5
  have hK5 : zK M5 = zKc L := by rw [← hM5]; exact hK1
  have hs5 : zSh L (1 - w) M5 := by
    refine zSh_swap (w' := 1 - w) hs1' (by omega) (by rw [← hM5]; rfl) (by rw [← hM5]; rfl) (fun a i h => ?_) ?_ ?_
    · rw [← hM5]
      show zR (zsR (zsR (zsI (zsI M1 4 1 (nI 0)) 2 10 (nI 0)) 2 7 (some (25 - w))) 2 8 (some (24 + w))) a i = _
      rw [zR_sR, if_neg (fun z => h ⟨z.1, Or.inr z.2⟩), zR_sR, if_neg (fun z => h ⟨z.1, Or.inl z.2⟩)]
      rfl
    · rw [← hM5]
      show zR (zsR (zsR (zsI (zsI M1 4 1 (nI 0)) 2 10 (nI 0)) 2 7 (some (25 - w))) 2 8 (some (24 + w))) 2 7 = _
      rw [zR_sR, if_neg (fun z => by omega), zR_sR, if_pos ⟨rfl, rfl⟩]
      congr 1
      omega
    · rw [← hM5]
      show zR (zsR (zsR (zsI (zsI M1 4 1 (nI 0)) 2 10 (nI 0)) 2 7 (some (25 - w))) 2 8 (some (24 + w))) 2 8 = _
      rw [zR_sR, if_pos ⟨rfl, rfl⟩]
      congr 1
      omega
  have e1 : zV (d + 1) n_PT_text [.ref 2] M = zG d n_PT_text 71 [some (.ref 2), some (.int (nI n)), none, some (.int (nI 0))] [] M5 := by
    have hpos : (0 : Int32) ≤ nI n := by show nI 0 ≤ nI n; rw [nI_E (by omega) (by omega)]; omega
    rw [ze_PT_text]
    unfold zx_PT_text
    rw [← hM5]
    simp only [hK, hK1, hC, hC1, r8, r71, r81, zkc, zQ, zS, er, zif_T, zI_sI, zR_sR, h6, Nat.reduceEqDiff, and_false, false_and, and_self, if_false, if_true, reduceIte, hpos]
    rfl
  have hs6 : zSh L (1 - w) (zsI (zsI M5 22 0 (nI 0)) 22 1 (nI 0)) := hs5
  obtain ⟨M7, e7, f7⟩ := pt_watchAnew (d := d) (by omega) hs6
  have hC5 := hs5.2.2.1
  have e2 : zG d n_PT_text 71 [some (.ref 2), some (.int (nI n)), none, some (.int (nI 0))] [] M5 = some (some (.int (nI n)), M7) := by
    rw [zg_PT_text_71]
    unfold zx_PT_text_71
    simp only [zg_PT_text_71]
    unfold zx_PT_text_71
    simp only [zg_PT_text_71]
    unfold zx_PT_text_71
    clear hs5 hs6 f7 hs1'
    simp (disch := omega) only [il, nI_add, nI_mul, nI_sub, nI_div, nI_rem, nI_N, i32_lt, i32_le, nI_toInt, nI_subI, nI_clamp, zinT, zifT, iteT, iteF, zQ, zS, zkc, zI_sI, zL_sL, zI_wI, zL_wL, Nat.reduceEqDiff, Nat.reduceAdd, Nat.reduceMul, Nat.reduceLT, Nat.reduceLeDiff, reduceIte, eq_self, and_self, true_and, and_true, false_and, and_false, true_or, or_true, or_false, false_or, not_true_eq_false, not_false_eq_true, zarr, ne_eq, hK5, hC5, zbast, nar_z0, e7]
  obtain ⟨g1, g2, g3, g4, g5⟩ := f7
  have I7 : ∀ b, (∀ p, p < 4 → b ≠ 46 + 27 * p) → zI M7 b = zI (zsI (zsI M5 22 0 (nI 0)) 22 1 (nI 0)) b := fun b hb => (g4 b hb).1
  have J5 : ∀ b, b ≠ 2 → b ≠ 4 → zI M5 b = zI M1 b := fun b h1 h2 => by
    rw [← hM5, zI_ne h1]
    show zI (zsI (zsI M1 4 1 (nI 0)) 2 10 (nI 0)) b = _
    rw [zI_ne h1, zI_ne h2]
  refine ⟨M7, e1.trans e2, zSh_fr hs6 g1 g2 g3, fun b h1 h2 h3 h4 => ?_, fun b hb => ?_, fun j h1 h2 => ?_, ?_, ?_, ?_, ?_, ?_, g5⟩
  · rw [I7 b h4, zI_ne h3, zI_ne h3, J5 b h1 h2]
  · rw [(g4 b hb).2]
    show zL M5 b = _
    rw [← hM5]
    rfl
  · rw [I7 2 (by omega), zI_ne (by omega), zI_ne (by omega), ← hM5, zI_sI, if_neg (fun z => h1 z.2)]
    show zI (zsI (zsI M1 4 1 (nI 0)) 2 10 (nI 0)) 2 j = _
    rw [zI_sI, if_neg (fun z => h2 z.2), zI_ne (by omega)]
  · rw [I7 2 (by omega), zI_ne (by omega), zI_ne (by omega), ← hM5, zI_sI, if_pos ⟨rfl, rfl⟩]
  · rw [I7 2 (by omega), zI_ne (by omega), zI_ne (by omega), ← hM5, zI_sI, if_neg (fun z => by omega)]
    show zI (zsI (zsI M1 4 1 (nI 0)) 2 10 (nI 0)) 2 10 = _
    rw [zI_sI, if_pos ⟨rfl, rfl⟩]
  · rw [I7 4 (by omega), zI_ne (by omega), zI_ne (by omega), ← hM5, zI_ne (by omega)]
    show zI (zsI (zsI M1 4 1 (nI 0)) 2 10 (nI 0)) 4 1 = _
    rw [zI_ne (by omega), zI_sI, if_pos ⟨rfl, rfl⟩]
  · rw [I7 22 (by omega)]
    rfl
  · rw [I7 22 (by omega)]
    rfl
