/-! the calls that do not ask what a promise says -/
theorem zI_ne {M : zM} {a i b : Nat} {x : Int32} (h : b ≠ a) : zI (zsI M a i x) b = zI M b := by
  funext j; rw [zI_sI, if_neg (fun q => h q.1)]
theorem zL_ne {M : zM} {a i b : Nat} {x : Int64} (h : b ≠ a) : zL (zsL M a i x) b = zL M b := by
  funext j; rw [zL_sL, if_neg (fun q => h q.1)]
theorem zIw_ne {M : zM} {a b : Nat} {f : Nat → Int32} (h : b ≠ a) : zI (zwI M a f) b = zI M b := by
  funext j; rw [zI_wI, if_neg h]
theorem zLw_ne {M : zM} {a b : Nat} {f : Nat → Int64} (h : b ≠ a) : zL (zwL M a f) b = zL M b := by
  funext j; rw [zL_wL, if_neg h]
theorem zIw_eq {M : zM} {a : Nat} {f : Nat → Int32} : zI (zwI M a f) a = f := by
  funext j; rw [zI_wI, if_pos rfl]
theorem zLw_eq {M : zM} {a : Nat} {f : Nat → Int64} : zL (zwL M a f) a = f := by
  funext j; rw [zL_wL, if_pos rfl]
def fI (M M' : zM) : Prop := zI M' 22 = zI M 22 ∧ zI M' 157 = zI M 157 ∧ zI M' 156 = zI M 156 ∧ ∀ b, 134 ≤ b → b < 138 → zI M' b = zI M b
def fS (M M' : zM) : Prop := zI M' 179 = zI M 179 ∧ zI M' 180 = zI M 180 ∧ zI M' 181 = zI M 181 ∧ ∀ b, 138 ≤ b → b < 146 → zI M' b = zI M b
theorem iImage_fr {M M' : zM} {k : Nat} (h : iImage M k) (hk : k < 2) (hf : fI M M') : iImage M' k := by
  obtain ⟨f1, f2, f3, f4⟩ := hf
  unfold iImage
  rw [f1, f2, f3, f4 (134 + 2 * k) (by omega) (by omega), f4 (135 + 2 * k) (by omega) (by omega)]
  exact h
theorem iSheet_fr {M M' : zM} {k : Nat} (h : iSheet M k) (hk : k < 4) (hf : fS M M') : iSheet M' k := by
  obtain ⟨f1, f2, f3, f4⟩ := hf
  unfold iSheet
  rw [f1, f2, f3, f4 (138 + 2 * k) (by omega) (by omega), f4 (139 + 2 * k) (by omega) (by omega)]
  exact h
theorem iTrace_fr {t : Nat} {tr : Nat → Nat} {M M' : zM} (h : iTrace t tr M) (h1 : zI M' 19 = zI M 19) (h2 : zI M' 20 = zI M 20) (h3 : zI M' 155 = zI M 155) : iTrace t tr M' := by
  unfold iTrace
  rw [h1, h2, h3]
  exact h
theorem st_feed {d L : Nat} {M : zM} (hd : 2 ≤ d) (hi : Inv L M) (x : Int32) : Cal d n_PT_feed n_Mo_feed L [.int x] M := by
  have hi0 := hi
  obtain ⟨w, n, t, P, tr, hs, hT, hfa, hto, htr, him, hsh, hp⟩ := hi
  obtain ⟨t1, t2, t3, t4⟩ := hT
  unfold Cal
  rw [pt_feed (by omega) hs t2 t1]
  by_cases h0 : 0 ≤ x.toInt ∧ x.toInt ≤ 127
  · rw [if_pos h0]
    by_cases h1 : n = 200
    · rw [if_pos h1]
      refine ⟨_, M, M, rfl, ?_, hi0⟩
      rw [mo_feed hd hs t3 t1, if_pos h0, if_pos h1]
    · rw [if_neg h1]
      refine ⟨_, _, zsI (zsI (zsI (zsI M 5 n x) 4 1 (nI (n + 1))) 158 n x) 146 13 (nI (n + 1)), rfl, ?_, ?_⟩
      · rw [mo_feed hd (hs.sI _ _ _ |>.sI _ _ _) (n := n) (by exact t3) t1, if_pos h0, if_neg h1]
      · refine ⟨w, n + 1, t, P, tr, hs, ⟨by omega, rfl, rfl, ?_⟩, hfa, hto, iTrace_fr htr rfl rfl rfl, fun k hk => iImage_fr (him k hk) hk ⟨rfl, rfl, rfl, fun b _ _ => by simp (disch := omega) only [zI_ne, zIw_ne, zS]⟩, fun k hk => iSheet_fr (hsh k hk) hk ⟨rfl, rfl, rfl, fun b _ _ => by simp (disch := omega) only [zI_ne, zIw_ne, zS]⟩, iProm_fr hs.2.2.2.2.2.1 hp ⟨fun b _ _ => ⟨by simp (disch := omega) only [zI_ne, zIw_ne, zS], by simp (disch := omega) only [zL_ne, zLw_ne, zS]⟩, rfl, rfl, rfl, rfl, rfl, rfl⟩ (Nat.le_refl _) (fun _ _ => rfl)⟩
        intro i hi2
        by_cases h2 : i = n
        · subst h2
          simp only [zI_sI, and_self, Nat.reduceEqDiff, false_and, reduceIte]
          exact ⟨trivial, h0⟩
        · have := t4 i (by omega)
          simp only [zI_sI, h2, and_false, Nat.reduceEqDiff, false_and, reduceIte]
          exact this
  · rw [if_neg h0]
    refine ⟨_, M, M, rfl, ?_, hi0⟩
    rw [mo_feed hd hs t3 t1, if_neg h0]
theorem st_end {d L : Nat} {M : zM} (hd : 2 ≤ d) (hi : Inv L M) (x : Int32) : Cal d n_PT_end n_Mo_end L [.int x] M := by
  have hi0 := hi
  obtain ⟨w, n, t, P, tr, hs, hT, hfa, hto, htr, him, hsh, hp⟩ := hi
  obtain ⟨t1, t2, t3, t4⟩ := hT
  obtain ⟨d, rfl, hd1⟩ := zdep hd
  have hs1 := hs
  obtain ⟨hN, hK, hC, hMo, hF, hw, h7, h8⟩ := hs1
  unfold Cal
  rw [ze_PT_end]
  unfold zx_PT_end
  simp only [ze_Mo_end]
  unfold zx_Mo_end
  rcases i_cases x (n + 1) (by omega) with ⟨k, hk, rfl⟩ | hx
  · refine ⟨nI n, zsI M 4 1 (nI k), zsI (zsI M 4 1 (nI k)) 146 13 (nI k), ?_, ?_, w, k, t, P, tr, hs, ⟨by omega, rfl, rfl, fun i hi => t4 i (by omega)⟩, hfa, hto, iTrace_fr htr rfl rfl rfl, fun k hk => iImage_fr (him k hk) hk ⟨rfl, rfl, rfl, fun b _ _ => by simp (disch := omega) only [zI_ne, zIw_ne, zS]⟩, fun k hk => iSheet_fr (hsh k hk) hk ⟨rfl, rfl, rfl, fun b _ _ => by simp (disch := omega) only [zI_ne, zIw_ne, zS]⟩, iProm_fr hw hp ⟨fun b _ _ => ⟨by simp (disch := omega) only [zI_ne, zIw_ne, zS], by simp (disch := omega) only [zL_ne, zLw_ne, zS]⟩, rfl, rfl, rfl, rfl, rfl, rfl⟩ (Nat.le_refl _) (fun _ _ => rfl)⟩
    · simp (disch := omega) only [il, nI_add, nI_mul, nI_sub, nI_div, nI_rem, nI_N, i32_lt, i32_le, nI_toInt, nI_subI, nI_clamp, zinT, zifT, iteT, iteF, zQ, zS, zkc, zI_sI, zL_sL, zI_wI, zL_wL, Nat.reduceEqDiff, Nat.reduceAdd, Nat.reduceMul, Nat.reduceLT, Nat.reduceLeDiff, reduceIte, eq_self, and_self, true_and, and_true, false_and, and_false, true_or, or_true, or_false, false_or, not_true_eq_false, not_false_eq_true, zarr, ne_eq, hK, hC, t2]
    · simp (disch := omega) only [il, nI_add, nI_mul, nI_sub, nI_div, nI_rem, nI_N, i32_lt, i32_le, nI_toInt, nI_subI, nI_clamp, zinT, zifT, iteT, iteF, zQ, zS, zkc, zI_sI, zL_sL, zI_wI, zL_wL, Nat.reduceEqDiff, Nat.reduceAdd, Nat.reduceMul, Nat.reduceLT, Nat.reduceLeDiff, reduceIte, eq_self, and_self, true_and, and_true, false_and, and_false, true_or, or_true, or_false, false_or, not_true_eq_false, not_false_eq_true, zarr, ne_eq, hK, hC, hMo, t2, t3, mo_in hd1, i64_toInt, zlit64]
  · refine ⟨-1, M, M, ?_, ?_, hi0⟩
    · by_cases h1 : x.toInt < 0
      · simp (disch := omega) only [il, nI_add, nI_mul, nI_sub, nI_div, nI_rem, nI_N, i32_lt, i32_le, nI_toInt, nI_subI, nI_clamp, zinT, zifT, iteT, iteF, zQ, zS, zkc, zI_sI, zL_sL, zI_wI, zL_wL, Nat.reduceEqDiff, Nat.reduceAdd, Nat.reduceMul, Nat.reduceLT, Nat.reduceLeDiff, reduceIte, eq_self, and_self, true_and, and_true, false_and, and_false, true_or, or_true, or_false, false_or, not_true_eq_false, not_false_eq_true, zarr, ne_eq, hK, hC, t2]
      · simp (disch := omega) only [il, nI_add, nI_mul, nI_sub, nI_div, nI_rem, nI_N, i32_lt, i32_le, nI_toInt, nI_subI, nI_clamp, zinT, zifT, iteT, iteF, zQ, zS, zkc, zI_sI, zL_sL, zI_wI, zL_wL, Nat.reduceEqDiff, Nat.reduceAdd, Nat.reduceMul, Nat.reduceLT, Nat.reduceLeDiff, reduceIte, eq_self, and_self, true_and, and_true, false_and, and_false, true_or, or_true, or_false, false_or, not_true_eq_false, not_false_eq_true, zarr, ne_eq, hK, hC, t2]
    · simp (disch := omega) only [il, nI_add, nI_mul, nI_sub, nI_div, nI_rem, nI_N, i32_lt, i32_le, nI_toInt, nI_subI, nI_clamp, zinT, zifT, iteT, iteF, zQ, zS, zkc, zI_sI, zL_sL, zI_wI, zL_wL, Nat.reduceEqDiff, Nat.reduceAdd, Nat.reduceMul, Nat.reduceLT, Nat.reduceLeDiff, reduceIte, eq_self, and_self, true_and, and_true, false_and, and_false, true_or, or_true, or_false, false_or, not_true_eq_false, not_false_eq_true, zarr, ne_eq, hK, hC, hMo, t2, t3, mo_in hd1, i64_toInt, zlit64]
theorem zb_0 (u : Nat) : zb 0 u = false := by
  unfold zb
  show BitVec.getLsbD 0#64 u = false
  rw [BitVec.getLsbD_zero]
/-- all watches begin anew -/
def fW (M M' : zM) : Prop := zN M' = zN M ∧ zK M' = zK M ∧ zR M' = zR M ∧ (∀ b, (∀ p, p < 4 → b ≠ 46 + 27 * p) → zI M' b = zI M b ∧ zL M' b = zL M b) ∧ ∀ p, p < 4 → zI M' (46 + 27 * p) 8 = nI 0 ∧ zL M' (46 + 27 * p) 6 = 0 ∧ zL M' (46 + 27 * p) 7 = 0
theorem zSh_fr {L w : Nat} {M M' : zM} (h : zSh L w M) (hN : zN M' = zN M) (hK : zK M' = zK M) (hR : zR M' = zR M) : zSh L w M' := by
  unfold zSh zRc zRm0 zRf zPle zSeq zWat zTra zShe at *
  rw [hN, hK, hR]
  exact h
theorem wa_restart {d : Nat} {M : zM} {a : Nat} (hd : 1 ≤ d) (hk : zK M a = (9, 9)) : zV d n_Wa_restart [.ref a] M = some (none, zsI (zsL (zsL M a 6 0) a 7 0) a 8 (nI 0)) := by
  obtain ⟨d, rfl, hd1⟩ := zdep hd
  rw [ze_Wa_restart]
  unfold zx_Wa_restart
  simp (disch := omega) only [il, nI_add, nI_mul, nI_sub, nI_div, nI_rem, nI_N, i32_lt, i32_le, nI_toInt, nI_subI, nI_clamp, zinT, zifT, iteT, iteF, zQ, zS, zkc, zI_sI, zL_sL, zI_wI, zL_wL, Nat.reduceEqDiff, Nat.reduceAdd, Nat.reduceMul, Nat.reduceLT, Nat.reduceLeDiff, reduceIte, eq_self, and_self, true_and, and_true, false_and, and_false, true_or, or_true, or_false, false_or, not_true_eq_false, not_false_eq_true, zarr, ne_eq, hk]
theorem pt_watchAnew {d L w : Nat} {M : zM} (hd : 2 ≤ d) (h : zSh L w M) : ∃ M', zV d n_PT_watchAnew [.ref 2] M = some (none, M') ∧ fW M M' := by
  obtain ⟨d, rfl, hd1⟩ := zdep hd
  rw [ze_PT_watchAnew]
  unfold zx_PT_watchAnew
  obtain ⟨M', e, hM'⟩ := zloopE (n := 4) (g := fun k M => zG d n_PT_watchAnew 2 [some (.ref 2), some (.int (nI k))] [] M) (P := fun k M' => zN M' = zN M ∧ zK M' = zK M ∧ zR M' = zR M ∧ (∀ b, (∀ p, p < 4 → b ≠ 46 + 27 * p) → zI M' b = zI M b ∧ zL M' b = zL M b) ∧ ∀ p, p < k → zI M' (46 + 27 * p) 8 = nI 0 ∧ zL M' (46 + 27 * p) 6 = 0 ∧ zL M' (46 + 27 * p) 7 = 0) (by
    intro k M' hk ⟨a1, a2, a3, a4, a5⟩
    have hs := zSh_fr h a1 a2 a3
    obtain ⟨hN, hK, hC, hMo, hF, hw, h7, h8⟩ := hs
    have hF1 := hF.1 k hk
    have hW : zK M' (46 + 27 * k) = (9, 9) := hF1.2.2.2.2.2.2.1.1
    refine ⟨zsI (zsL (zsL M' (46 + 27 * k) 6 0) (46 + 27 * k) 7 0) (46 + 27 * k) 8 (nI 0), ?_, a1, a2, a3, ?_, ?_⟩
    · show zG d n_PT_watchAnew 2 [some (.ref 2), some (.int (nI k))] [] M' = _
      rw [zg_PT_watchAnew_2]
      unfold zx_PT_watchAnew_2
      have e18 : zK M' 18 = (38, 4) := by rw [hK]; rfl
      have e2 : zK M' 2 = (10, 12) := by rw [hK]; rfl
      simp (disch := omega) only [il, nI_add, nI_mul, nI_sub, nI_div, nI_rem, nI_N, i32_lt, i32_le, nI_toInt, nI_subI, nI_clamp, zinT, zifT, iteT, iteF, zQ, zS, zkc, zI_sI, zL_sL, zI_wI, zL_wL, Nat.reduceEqDiff, Nat.reduceAdd, Nat.reduceMul, Nat.reduceLT, Nat.reduceLeDiff, reduceIte, eq_self, and_self, true_and, and_true, false_and, and_false, true_or, or_true, or_false, false_or, not_true_eq_false, not_false_eq_true, zarr, ne_eq, e18, e2, hC, hF1.2.2.1, hW, wa_restart hd1 hW]
    · intro b hb
      have := hb k (by omega)
      simp (disch := omega) only [zI_ne, zL_ne, zS]
      exact a4 b hb
    · intro p hp
      by_cases h1 : p = k
      · subst h1
        simp only [zI_sI, zL_sL, zS, and_self, reduceIte, and_false, Nat.reduceEqDiff, true_and]

      · have h2 : 46 + 27 * p ≠ 46 + 27 * k := by omega
        simp (disch := omega) only [zI_ne, zL_ne, zS]
        exact a5 p (by omega)) (s0 := M) ⟨rfl, rfl, rfl, fun _ _ => ⟨rfl, rfl⟩, fun _ h => absurd h (by omega)⟩
  refine ⟨M', ?_, hM'⟩
  refine Eq.trans e ?_
  show zG d n_PT_watchAnew 2 [some (.ref 2), some (.int (nI 4))] [] M' = _
  rw [zg_PT_watchAnew_2]
  rfl
theorem iProm_fW {w t P : Nat} {tr tr' : Nat → Nat} {M M' : zM} {t' : Nat} (hw : w < 2) (h : iProm w t P tr M) (hf : fW M M') : iProm w t' P tr' M' := by
  obtain ⟨h1, h2, h3, h4⟩ := h
  obtain ⟨f1, f2, f3, f4, f5⟩ := hf
  have g : ∀ b, (∀ p, p < 4 → b ≠ 46 + 27 * p) → zI M' b = zI M b := fun b hb => (f4 b hb).1
  have g2 : ∀ b, (∀ p, p < 4 → b ≠ 46 + 27 * p) → zL M' b = zL M b := fun b hb => (f4 b hb).2
  refine ⟨h1, by rw [g 2 (by omega)]; exact h2, by rw [g 146 (by omega)]; exact h3, fun p hp => ?_⟩
  obtain ⟨A, B, ki, ho, k, hk, b1, b2⟩ := h4 p hp
  refine ⟨A, B, ki, ho, 0, by omega, ?_, ?_⟩
  · obtain ⟨a1, a2, a3, a4, a5⟩ := b1
    refine ⟨SeqC_fr a1 (g _ (by omega)) (fun b _ _ => g2 b (by omega)), SeqM_fr a2 (g _ (by omega)) (g2 _ (by omega)), SeqC_fr a3 (g _ (by omega)) (fun b _ _ => g2 b (by omega)), SeqM_fr a4 (g _ (by omega)) (g2 _ (by omega)), ?_⟩
    rw [g (26 + 10 * w + 27 * p) (by omega), g 151 (by omega), g2 (26 + 10 * w + 27 * p + 4) (by omega), g2 (26 + 10 * w + 27 * p + 8) (by omega), g2 (26 + 10 * w + 27 * p + 9) (by omega), g2 149 (by omega), g2 153 (by omega)]
    exact a5
  · obtain ⟨c1, c2, c3⟩ := f5 p (by omega)
    refine ⟨c1, fun _ q => absurd q (by omega), fun _ _ q => absurd q (by omega), ?_, ?_, fun _ q => absurd q (by omega), fun _ q => absurd q (by omega)⟩
    · intro u _
      rw [c2, zb_0]
      exact ⟨fun q => absurd q (by decide), fun q => absurd q.1 (by omega)⟩
    · intro u _
      rw [c3, zb_0]
      exact ⟨fun q => absurd q (by decide), fun q => absurd q.1 (by omega)⟩
