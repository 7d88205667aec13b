/-! what a text says; the class reads it -/
def sTx (X : Nat → Tk) (pt : Nat → Int64) : Nat → Nat → Rs (List Pr)
  | 0, i => if (X i).1 = 0 then .inr ([], i) else if (X i).1 = 1 ∨ (X i).1 = 33 ∨ (X i).1 = 40 ∨ (X i).1 = 123 then .inl (4, plc X i) else .inl (2, plc X i)
  | f + 1, i => if (X i).1 = 0 then .inr ([], i) else if (X i).1 = 1 ∨ (X i).1 = 33 ∨ (X i).1 = 40 ∨ (X i).1 = 123 then rb (sPr X pt i) (fun y j => rb (sTx X pt f j) (fun ys k => .inr (y :: ys, k))) else .inl (2, plc X i)
theorem ta_beginsSequence {d k : Nat} {M : zM} (hd : 1 ≤ d) (hK : zK M 4 = (6, 8)) (h3 : zI M 4 3 = nI k) (hk : k < 128) : zV d n_Ta_beginsSequence [.ref 4] M = some (some (.int (nI (if k = 1 ∨ k = 33 ∨ k = 40 ∨ k = 123 then 1 else 0))), M) := by
  obtain ⟨d, rfl, hd1⟩ := zdep hd
  rw [ze_Ta_beginsSequence]
  unfold zx_Ta_beginsSequence
  by_cases h1 : k = 1
  · rw [if_pos (Or.inl h1)]
    simp (disch := omega) only [il, nI_add, nI_mul, nI_sub, nI_div, nI_rem, nI_N, i32_lt, i32_le, nI_toInt, nI_subI, nI_clamp, zinT, zifT, iteT, iteF, zQ, zS, zkc, zI_sI, zL_sL, zI_wI, zL_wL, Nat.reduceEqDiff, Nat.reduceAdd, Nat.reduceMul, Nat.reduceLT, Nat.reduceLeDiff, reduceIte, eq_self, and_self, true_and, and_true, false_and, and_false, true_or, or_true, or_false, false_or, not_true_eq_false, not_false_eq_true, zarr, ne_eq, hK, h3]
  · by_cases h33 : k = 33
    · rw [if_pos (Or.inr (Or.inl h33))]
      simp (disch := omega) only [il, nI_add, nI_mul, nI_sub, nI_div, nI_rem, nI_N, i32_lt, i32_le, nI_toInt, nI_subI, nI_clamp, zinT, zifT, iteT, iteF, zQ, zS, zkc, zI_sI, zL_sL, zI_wI, zL_wL, Nat.reduceEqDiff, Nat.reduceAdd, Nat.reduceMul, Nat.reduceLT, Nat.reduceLeDiff, reduceIte, eq_self, and_self, true_and, and_true, false_and, and_false, true_or, or_true, or_false, false_or, not_true_eq_false, not_false_eq_true, zarr, ne_eq, hK, h3]
    · by_cases h40 : k = 40
      · rw [if_pos (Or.inr (Or.inr (Or.inl h40)))]
        simp (disch := omega) only [il, nI_add, nI_mul, nI_sub, nI_div, nI_rem, nI_N, i32_lt, i32_le, nI_toInt, nI_subI, nI_clamp, zinT, zifT, iteT, iteF, zQ, zS, zkc, zI_sI, zL_sL, zI_wI, zL_wL, Nat.reduceEqDiff, Nat.reduceAdd, Nat.reduceMul, Nat.reduceLT, Nat.reduceLeDiff, reduceIte, eq_self, and_self, true_and, and_true, false_and, and_false, true_or, or_true, or_false, false_or, not_true_eq_false, not_false_eq_true, zarr, ne_eq, hK, h3]
      · by_cases h123 : k = 123
        · rw [if_pos (Or.inr (Or.inr (Or.inr h123)))]
          simp (disch := omega) only [il, nI_add, nI_mul, nI_sub, nI_div, nI_rem, nI_N, i32_lt, i32_le, nI_toInt, nI_subI, nI_clamp, zinT, zifT, iteT, iteF, zQ, zS, zkc, zI_sI, zL_sL, zI_wI, zL_wL, Nat.reduceEqDiff, Nat.reduceAdd, Nat.reduceMul, Nat.reduceLT, Nat.reduceLeDiff, reduceIte, eq_self, and_self, true_and, and_true, false_and, and_false, true_or, or_true, or_false, false_or, not_true_eq_false, not_false_eq_true, zarr, ne_eq, hK, h3]
        · rw [if_neg (show ¬ (k = 1 ∨ k = 33 ∨ k = 40 ∨ k = 123) by omega)]
          simp (disch := omega) only [il, nI_add, nI_mul, nI_sub, nI_div, nI_rem, nI_N, i32_lt, i32_le, nI_toInt, nI_subI, nI_clamp, zinT, zifT, iteT, iteF, zQ, zS, zkc, zI_sI, zL_sL, zI_wI, zL_wL, Nat.reduceEqDiff, Nat.reduceAdd, Nat.reduceMul, Nat.reduceLT, Nat.reduceLeDiff, reduceIte, eq_self, and_self, true_and, and_true, false_and, and_false, true_or, or_true, or_false, false_or, not_true_eq_false, not_false_eq_true, zarr, ne_eq, hK, h3]
theorem PrC_fr {y : Pr} {g : Nat} {M M' : zM} (h : PrC y M g) (hf : ∀ b, g ≤ b → b ≤ g + 9 → zI M' b = zI M b ∧ zL M' b = zL M b) : PrC y M' g := by
  obtain ⟨a1, a2, a3, a4, a5, a6, a7⟩ := h
  refine ⟨a1, SdOk_fr a2 (hf _ (by omega) (by omega)).1 (fun b _ _ => (hf b (by omega) (by omega)).2), SdOk_fr a3 (hf _ (by omega) (by omega)).1 (fun b _ _ => (hf b (by omega) (by omega)).2), a4, ?_, ?_, ?_⟩
  · rw [(hf g (by omega) (by omega)).1]; exact a5
  · rw [(hf g (by omega) (by omega)).1]; exact a6
  · rw [(hf (g + 9) (by omega) (by omega)).2]; exact a7
theorem EC_pg {L w N g : Nat} {β : Nat → Nat} {pt : Nat → Int64} {M M' : zM} (hg : 26 ≤ g) (h : EC L w N β pt M) (f : fPg g M M') : EC L w N β pt M' := by
  obtain ⟨h1, h2, h3⟩ := h
  refine ⟨zSh_made h1 f.1 f.2.1 f.2.2.1, ?_, by rw [f.2.2.2.2.2 0 (by omega) (by omega) (by omega) (by omega)]; exact h3⟩
  unfold tapeC
  rw [f.2.2.2.2.1, f.2.2.2.1 5 (by omega) (by omega) (by omega) (by omega) (by omega) (by omega) (by omega)]
  exact h2
/-- what reading the promises from p on may change -/
def fTx (w p : Nat) (M M' : zM) : Prop := zN M' = zN M ∧ zK M' = zK M ∧ (∀ a i, ¬ (a = 8 ∧ i = 6) → zR M' a i = zR M a i) ∧ (∀ b, b ≠ 4 → b ≠ 6 → b ≠ 8 → b ≠ 11 → b ≠ 12 → b ≠ 13 → (∀ r, p ≤ r → r < 4 → b < 36 - 10 * w + 27 * r ∨ 36 - 10 * w + 27 * r + 9 < b) → zI M' b = zI M b) ∧ zI M' 4 1 = zI M 4 1 ∧ ∀ b, b ≠ 7 → b ≠ 9 → b ≠ 10 → (∀ r, p ≤ r → r < 4 → b < 36 - 10 * w + 27 * r ∨ 36 - 10 * w + 27 * r + 9 < b) → zL M' b = zL M b
theorem fTx_rfl (w p : Nat) (M : zM) : fTx w p M M := ⟨rfl, rfl, fun _ _ _ => rfl, fun _ _ _ _ _ _ _ _ => rfl, rfl, fun _ _ _ _ _ => rfl⟩
theorem fTx.trans {w p p' : Nat} {M M1 M2 : zM} (h : fTx w p M M1) (g : fTx w p' M1 M2) (hp : p ≤ p') : fTx w p M M2 := by
  obtain ⟨a1, a2, a3, a4, a5, a6⟩ := h
  obtain ⟨c1, c2, c3, c4, c5, c6⟩ := g
  exact ⟨c1.trans a1, c2.trans a2, fun a i h => (c3 a i h).trans (a3 a i h), fun b h1 h2 h3 h4 h5 h6 h7 => (c4 b h1 h2 h3 h4 h5 h6 (fun r x y => h7 r (by omega) y)).trans (a4 b h1 h2 h3 h4 h5 h6 h7), c5.trans a5, fun b h1 h2 h3 h4 => (c6 b h1 h2 h3 (fun r x y => h4 r (by omega) y)).trans (a6 b h1 h2 h3 h4)⟩
theorem fPg.tx {w p : Nat} {M M' : zM} (h : fPg (36 - 10 * w + 27 * p) M M') (hp : p < 4) : fTx w p M M' := ⟨h.1, h.2.1, h.2.2.1, fun b h1 h2 h3 h4 h5 h6 h7 => h.2.2.2.1 b h1 h2 h3 h4 h5 h6 (h7 p (Nat.le_refl p) hp), h.2.2.2.2.1, fun b h1 h2 h3 h4 => h.2.2.2.2.2 b h1 h2 h3 (h4 p (Nat.le_refl p) hp)⟩
def OutT (w p : Nat) (M M' : zM) (b : Int32) : Rs (List Pr) → Prop
  | .inl e => fTx w p M M' ∧ 0 < e.1 ∧ e.1 < 10 ∧ zI M' 4 6 = nI e.1 ∧ zI M' 4 7 = nI e.2 ∧ b = -1
  | .inr x => fTx w p M M' ∧ b = nI (p + x.1.length) ∧ p + x.1.length ≤ 4 ∧ zI M' 4 6 = nI 0 ∧ ∀ j y, x.1[j]? = some y → PrC y M' (36 - 10 * w + 27 * (p + j))
theorem zS_pl {L w p : Nat} {M : zM} (hs : zSh L w M) (hp : p < 4) : zK M (25 - w) = (31, 4) ∧ zR M (25 - w) p = some (36 - 10 * w + 27 * p) ∧ zPle M (36 - 10 * w + 27 * p) := by
  obtain ⟨hN, hK, hC, hMo, hF, hw, h7, h8⟩ := hs
  obtain ⟨a1, a2, -, -, a3, a4, -⟩ := hF.1 p hp
  have : w = 0 ∨ w = 1 := by omega
  rcases this with rfl | rfl
  · exact ⟨by rw [hK]; rfl, a2, a4⟩
  · exact ⟨by rw [hK]; rfl, a1, a3⟩
theorem o4n : Int32.ofNat 4 = nI 4 := rfl
theorem re_txt_bad {d L w N p f : Nat} {β : Nat → Nat} {pt : Nat → Int64} {M : zM} (hd : 1 ≤ d) (hE : EC L w N β pt M) (h3 : zI M 4 3 = nI 3) (h6 : zI M 4 6 = nI f) (hf : 0 < f) (hf2 : f < 100) (hp : p ≤ 4) : zG d n_Re_readAll 16 [some (.ref 3), some (.ref (25 - w)), some (.int (nI p))] [] M = some (some (.int (-1)), M) := by
  obtain ⟨k3, k4, k6, r0, r1⟩ := c_k4 hE
  have e1 := ta_beginsSequence (d := d) hd k4 h3 (by omega)
  rw [if_neg (show ¬ (3 = 1 ∨ 3 = 33 ∨ 3 = 40 ∨ 3 = 123) by omega)] at e1
  have e2 := ta_refuse1 (d := d) (x := nI 2) hd k4 h6 hf hf2
  rw [zg_Re_readAll_16]
  unfold zx_Re_readAll_16
  clear hE
  simp (disch := omega) only [il, nI_add, nI_mul, nI_sub, nI_div, nI_rem, nI_N, i32_lt, i32_le, nI_toInt, nI_subI, nI_clamp, zinT, zifT, iteT, iteF, zQ, zS, zkc, zI_sI, zL_sL, zI_wI, zL_wL, Nat.reduceEqDiff, Nat.reduceAdd, Nat.reduceMul, Nat.reduceLT, Nat.reduceLeDiff, reduceIte, eq_self, and_self, true_and, and_true, false_and, and_false, true_or, or_true, or_false, false_or, not_true_eq_false, not_false_eq_true, zarr, ne_eq, k3, k4, r0, h3, e1, e2]
theorem re_txt_go {d L w N : Nat} {β : Nat → Nat} {pt : Nat → Int64} (hd : 44 ≤ d) (hk : tkOk (tok β N) N) : ∀ f p i M, p + f = 4 → EC L w N β pt M → cTok (tok β N i) M → (tok β N i).1 ≠ 3 → i ≤ N → zI M 6 1 = nI 0 → ∃ M' b, zG d n_Re_readAll 16 [some (.ref 3), some (.ref (25 - w)), some (.int (nI p))] [] M = some (some (.int b), M') ∧ OutT w p M M' b (sTx (tok β N) pt f i) := by
  intro f
  induction f with
  | zero =>
    intro p i M hp hE hc h3 hi hD
    obtain ⟨k3, k4, k6, r0, r1⟩ := c_k4 hE
    obtain ⟨c6, c3, c5⟩ := cTok_ok hc h3
    have hk128 := (hk i hi).2.2.2.2.2.1
    have hw := hE.1.2.2.2.2.2.1
    have kS := (zS_pl (p := 0) hE.1 (by omega)).1
    have e1 := ta_beginsSequence (d := d) (by omega) k4 c3 hk128
    show ∃ M' b, _ ∧ OutT w p M M' b (if (tok β N i).1 = 0 then .inr ([], i) else if (tok β N i).1 = 1 ∨ (tok β N i).1 = 33 ∨ (tok β N i).1 = 40 ∨ (tok β N i).1 = 123 then .inl (4, plc (tok β N) i) else .inl (2, plc (tok β N) i))
    rw [zg_Re_readAll_16]
    unfold zx_Re_readAll_16
    by_cases h0 : (tok β N i).1 = 0
    · rw [if_pos h0]
      refine ⟨M, nI p, ?_, fTx_rfl w p M, by rfl, by show p + 0 ≤ 4; omega, c6, fun j y h => absurd h (by simp)⟩
      clear hE hc hk
      simp (disch := omega) only [il, nI_add, nI_mul, nI_sub, nI_div, nI_rem, nI_N, i32_lt, i32_le, nI_toInt, nI_subI, nI_clamp, zinT, zifT, iteT, iteF, zQ, zS, zkc, zI_sI, zL_sL, zI_wI, zL_wL, Nat.reduceEqDiff, Nat.reduceAdd, Nat.reduceMul, Nat.reduceLT, Nat.reduceLeDiff, reduceIte, eq_self, and_self, true_and, and_true, false_and, and_false, true_or, or_true, or_false, false_or, not_true_eq_false, not_false_eq_true, zarr, ne_eq, k3, k4, r0, c3]
    · rw [if_neg h0]
      by_cases hb : (tok β N i).1 = 1 ∨ (tok β N i).1 = 33 ∨ (tok β N i).1 = 40 ∨ (tok β N i).1 = 123
      · rw [if_pos hb]
        rw [if_pos hb] at e1
        have e2 := ta_refuse0 (d := d) (x := 4) (by omega) k4 c6
        refine ⟨zsI (zsI M 4 6 (nI 4)) 4 7 (zI M 4 5), -1, ?_, ⟨rfl, rfl, fun _ _ _ => rfl, fun b x1 x2 x3 x4 x5 x6 x7 => by rw [zI_ne x1, zI_ne x1], rfl, fun _ _ _ _ _ => rfl⟩, (show 0 < 4 by decide), (show 4 < 10 by decide), rfl, c5, rfl⟩
        clear hE hc hk hb
        simp (disch := omega) only [il, nI_add, nI_mul, nI_sub, nI_div, nI_rem, nI_N, i32_lt, i32_le, nI_toInt, nI_subI, nI_clamp, zinT, zifT, iteT, iteF, zQ, zS, zkc, zI_sI, zL_sL, zI_wI, zL_wL, Nat.reduceEqDiff, Nat.reduceAdd, Nat.reduceMul, Nat.reduceLT, Nat.reduceLeDiff, reduceIte, eq_self, and_self, true_and, and_true, false_and, and_false, true_or, or_true, or_false, false_or, not_true_eq_false, not_false_eq_true, zarr, ne_eq, k3, k4, r0, c3, e1, kS, o4n, e2]
      · rw [if_neg hb]
        rw [if_neg hb] at e1
        have e2 := ta_refuse0 (d := d) (x := 2) (by omega) k4 c6
        refine ⟨zsI (zsI M 4 6 (nI 2)) 4 7 (zI M 4 5), -1, ?_, ⟨rfl, rfl, fun _ _ _ => rfl, fun b x1 x2 x3 x4 x5 x6 x7 => by rw [zI_ne x1, zI_ne x1], rfl, fun _ _ _ _ _ => rfl⟩, (show 0 < 2 by decide), (show 2 < 10 by decide), rfl, c5, rfl⟩
        clear hE hc hk hb
        simp (disch := omega) only [il, nI_add, nI_mul, nI_sub, nI_div, nI_rem, nI_N, i32_lt, i32_le, nI_toInt, nI_subI, nI_clamp, zinT, zifT, iteT, iteF, zQ, zS, zkc, zI_sI, zL_sL, zI_wI, zL_wL, Nat.reduceEqDiff, Nat.reduceAdd, Nat.reduceMul, Nat.reduceLT, Nat.reduceLeDiff, reduceIte, eq_self, and_self, true_and, and_true, false_and, and_false, true_or, or_true, or_false, false_or, not_true_eq_false, not_false_eq_true, zarr, ne_eq, k3, k4, r0, c3, e1, e2]
  | succ f ih =>
    intro p i M hp hE hc h3 hi hD
    obtain ⟨k3, k4, k6, r0, r1⟩ := c_k4 hE
    obtain ⟨c6, c3, c5⟩ := cTok_ok hc h3
    have hk128 := (hk i hi).2.2.2.2.2.1
    have hw := hE.1.2.2.2.2.2.1
    obtain ⟨kS, rS, pS⟩ := zS_pl (p := p) hE.1 (by omega)
    have e1 := ta_beginsSequence (d := d) (by omega) k4 c3 hk128
    show ∃ M' b, _ ∧ OutT w p M M' b (if (tok β N i).1 = 0 then .inr ([], i) else if (tok β N i).1 = 1 ∨ (tok β N i).1 = 33 ∨ (tok β N i).1 = 40 ∨ (tok β N i).1 = 123 then rb (sPr (tok β N) pt i) (fun y j => rb (sTx (tok β N) pt f j) (fun ys k => .inr (y :: ys, k))) else .inl (2, plc (tok β N) i))
    rw [zg_Re_readAll_16]
    unfold zx_Re_readAll_16
    by_cases h0 : (tok β N i).1 = 0
    · rw [if_pos h0]
      refine ⟨M, nI p, ?_, fTx_rfl w p M, by rfl, by show p + 0 ≤ 4; omega, c6, fun j y h => absurd h (by simp)⟩
      clear hE hc hk pS ih
      simp (disch := omega) only [il, nI_add, nI_mul, nI_sub, nI_div, nI_rem, nI_N, i32_lt, i32_le, nI_toInt, nI_subI, nI_clamp, zinT, zifT, iteT, iteF, zQ, zS, zkc, zI_sI, zL_sL, zI_wI, zL_wL, Nat.reduceEqDiff, Nat.reduceAdd, Nat.reduceMul, Nat.reduceLT, Nat.reduceLeDiff, reduceIte, eq_self, and_self, true_and, and_true, false_and, and_false, true_or, or_true, or_false, false_or, not_true_eq_false, not_false_eq_true, zarr, ne_eq, k3, k4, r0, c3]
    · rw [if_neg h0]
      by_cases hb : (tok β N i).1 = 1 ∨ (tok β N i).1 = 33 ∨ (tok β N i).1 = 40 ∨ (tok β N i).1 = 123
      · rw [if_pos hb]
        rw [if_pos hb] at e1
        obtain ⟨M1, b1, e2, ho⟩ := re_promise (d := d) (g := 36 - 10 * w + 27 * p) hd hk hE pS (by omega) hc h3 hi hD
        cases hrr : sPr (tok β N) pt i with
        | inl e =>
          rw [hrr] at ho
          obtain ⟨o1, o2, o3, o4, o5, o6⟩ := ho
          refine ⟨M1, -1, ?_, o1.tx (by omega), o2, o3, o4, o5, rfl⟩
          rcases o6 with rfl | ⟨rfl, o7⟩
          · clear hE hc hk pS ih hb o1
            simp (disch := omega) only [il, nI_add, nI_mul, nI_sub, nI_div, nI_rem, nI_N, i32_lt, i32_le, nI_toInt, nI_subI, nI_clamp, zinT, zifT, iteT, iteF, zQ, zS, zkc, zI_sI, zL_sL, zI_wI, zL_wL, Nat.reduceEqDiff, Nat.reduceAdd, Nat.reduceMul, Nat.reduceLT, Nat.reduceLeDiff, reduceIte, eq_self, and_self, true_and, and_true, false_and, and_false, true_or, or_true, or_false, false_or, not_true_eq_false, not_false_eq_true, zarr, ne_eq, k3, k4, r0, c3, e1, kS, rS, o4n, e2]
          · have e3 := re_txt_bad (d := d) (p := p + 1) (by omega) (EC_pg (by omega) hE o1) o7 o4 o2 (by omega) (by omega)
            clear hE hc hk pS ih hb o1
            simp (disch := omega) only [il, nI_add, nI_mul, nI_sub, nI_div, nI_rem, nI_N, i32_lt, i32_le, nI_toInt, nI_subI, nI_clamp, zinT, zifT, iteT, iteF, zQ, zS, zkc, zI_sI, zL_sL, zI_wI, zL_wL, Nat.reduceEqDiff, Nat.reduceAdd, Nat.reduceMul, Nat.reduceLT, Nat.reduceLeDiff, reduceIte, eq_self, and_self, true_and, and_true, false_and, and_false, true_or, or_true, or_false, false_or, not_true_eq_false, not_false_eq_true, zarr, ne_eq, k3, k4, r0, c3, e1, kS, rS, o4n, e2, e3]
        | inr z =>
          rw [hrr] at ho
          obtain ⟨o1, o2, o3, o4, o5, o6, o7⟩ := ho
          subst o2
          have hE1 := EC_pg (by omega) hE o1
          obtain ⟨M2, b2, e3, ho2⟩ := ih (p + 1) z.2 M1 (by omega) hE1 o4 o5 o3 o6
          have ff := o1.tx (w := w) (p := p) (by omega)
          refine ⟨M2, b2, ?_, ?_⟩
          · clear hE hc hk pS ih hb o1 hE1 o4 o7 ff ho2
            simp (disch := omega) only [il, nI_add, nI_mul, nI_sub, nI_div, nI_rem, nI_N, i32_lt, i32_le, nI_toInt, nI_subI, nI_clamp, zinT, zifT, iteT, iteF, zQ, zS, zkc, zI_sI, zL_sL, zI_wI, zL_wL, Nat.reduceEqDiff, Nat.reduceAdd, Nat.reduceMul, Nat.reduceLT, Nat.reduceLeDiff, reduceIte, eq_self, and_self, true_and, and_true, false_and, and_false, true_or, or_true, or_false, false_or, not_true_eq_false, not_false_eq_true, zarr, ne_eq, k3, k4, r0, c3, e1, kS, rS, o4n, e2, e3]
          · show OutT w p M M2 b2 (rb (sTx (tok β N) pt f z.2) (fun ys k => .inr (z.1 :: ys, k)))
            cases hr2 : sTx (tok β N) pt f z.2 with
            | inl e =>
              rw [hr2] at ho2
              exact ⟨ff.trans ho2.1 (by omega), ho2.2⟩
            | inr v =>
              rw [hr2] at ho2
              obtain ⟨q1, q2, q3, q4, q5⟩ := ho2
              refine ⟨ff.trans q1 (by omega), ?_, ?_, q4, ?_⟩
              · rw [q2]
                show nI (p + 1 + v.1.length) = nI (p + (v.1.length + 1))
                congr 1
                omega
              · show p + (v.1.length + 1) ≤ 4
                omega
              · intro j y hj
                cases j with
                | zero =>
                  have hy : z.1 = y := Option.some.inj hj
                  subst hy
                  refine PrC_fr o7 (fun b x1 x2 => ⟨?_, ?_⟩)
                  · exact q1.2.2.2.1 b (by omega) (by omega) (by omega) (by omega) (by omega) (by omega) (fun r y1 y2 => by omega)
                  · exact q1.2.2.2.2.2 b (by omega) (by omega) (by omega) (fun r y1 y2 => by omega)
                | succ j =>
                  have := q5 j y hj
                  rw [show p + (j + 1) = p + 1 + j by omega]
                  exact this
      · rw [if_neg hb]
        rw [if_neg hb] at e1
        have e2 := ta_refuse0 (d := d) (x := 2) (by omega) k4 c6
        refine ⟨zsI (zsI M 4 6 (nI 2)) 4 7 (zI M 4 5), -1, ?_, ⟨rfl, rfl, fun _ _ _ => rfl, fun b x1 x2 x3 x4 x5 x6 x7 => by rw [zI_ne x1, zI_ne x1], rfl, fun _ _ _ _ _ => rfl⟩, (show 0 < 2 by decide), (show 2 < 10 by decide), rfl, c5, rfl⟩
        clear hE hc hk hb pS ih
        simp (disch := omega) only [il, nI_add, nI_mul, nI_sub, nI_div, nI_rem, nI_N, i32_lt, i32_le, nI_toInt, nI_subI, nI_clamp, zinT, zifT, iteT, iteF, zQ, zS, zkc, zI_sI, zL_sL, zI_wI, zL_wL, Nat.reduceEqDiff, Nat.reduceAdd, Nat.reduceMul, Nat.reduceLT, Nat.reduceLeDiff, reduceIte, eq_self, and_self, true_and, and_true, false_and, and_false, true_or, or_true, or_false, false_or, not_true_eq_false, not_false_eq_true, zarr, ne_eq, k3, k4, r0, c3, e1, e2]
/-- the whole text -/
def sTt (X : Nat → Tk) (pt : Nat → Int64) : Rs (List Pr) := if (X 0).1 = 3 then .inl (1, plc X 0) else sTx X pt 4 0
theorem re_txt {d L w N : Nat} {β : Nat → Nat} {pt : Nat → Int64} {M : zM} (hd : 45 ≤ d) (hk : tkOk (tok β N) N) (hE : EC L w N β pt M) : ∃ M' b, zV d n_Re_readAll [.ref 3, .ref (25 - w)] M = some (some (.int b), M') ∧ OutT w 0 M M' b (sTt (tok β N) pt) := by
  obtain ⟨d, rfl, hd1⟩ := zdep hd
  obtain ⟨k3, k4, k6, r0, r1⟩ := c_k4 hE
  have f0 : fTx w 0 M (zsI (zsI (zsI M 4 2 (nI 0)) 4 6 (nI 0)) 4 7 (nI 0)) := ⟨rfl, rfl, fun _ _ _ => rfl, fun b x1 x2 x3 x4 x5 x6 x7 => by rw [zI_ne x1, zI_ne x1, zI_ne x1], rfl, fun _ _ _ _ _ => rfl⟩
  have hT0 : tapeC N β (zsI (zsI (zsI M 4 2 (nI 0)) 4 6 (nI 0)) 4 7 (nI 0)) := tapeC_fr hE.2.1 (((fTa_s M (j := 2) (by omega) _).trans (fTa_s _ (j := 6) (by omega) _)).trans (fTa_s _ (j := 7) (by omega) _))
  obtain ⟨M1, e1, f1, hc⟩ := ta_advance (d := d - 1) (i := 0) (M := zsI (zsI (zsI M 4 2 (nI 0)) 4 6 (nI 0)) 4 7 (nI 0)) (by omega) hE.1 hT0 (Nat.zero_le N) rfl rfl
  have eb : zV d n_Ta_begin [.ref 4] M = some (none, M1) := by
    obtain ⟨d, rfl, -⟩ := zdep (k := 0) (d := d) (by omega)
    rw [Nat.add_sub_cancel] at e1
    rw [ze_Ta_begin]
    unfold zx_Ta_begin
    clear hE f0 hT0 f1 hc
    simp (disch := omega) only [il, nI_add, nI_mul, nI_sub, nI_div, nI_rem, nI_N, i32_lt, i32_le, nI_toInt, nI_subI, nI_clamp, zinT, zifT, iteT, iteF, zQ, zS, zkc, zI_sI, zL_sL, zI_wI, zL_wL, Nat.reduceEqDiff, Nat.reduceAdd, Nat.reduceMul, Nat.reduceLT, Nat.reduceLeDiff, reduceIte, eq_self, and_self, true_and, and_true, false_and, and_false, true_or, or_true, or_false, false_or, not_true_eq_false, not_false_eq_true, zarr, ne_eq, k4, e1]
  have k41 : zK M1 3 = (3, 3) ∧ zK M1 6 = (8, 2) ∧ zR M1 3 1 = some 6 := by rw [f1.2.1, f1.2.2.1]; exact ⟨k3, k6, r1⟩
  have ec : zV d n_TS_clear [.ref 6] M1 = some (none, zsI M1 6 1 (nI 0)) := by
    obtain ⟨d, rfl, -⟩ := zdep (k := 0) (d := d) (by omega)
    rw [ze_TS_clear]
    unfold zx_TS_clear
    have := k41.2.1
    clear hE f0 hT0 f1 hc k41
    simp (disch := omega) only [il, nI_add, nI_mul, nI_sub, nI_div, nI_rem, nI_N, i32_lt, i32_le, nI_toInt, nI_subI, nI_clamp, zinT, zifT, iteT, iteF, zQ, zS, zkc, zI_sI, zL_sL, zI_wI, zL_wL, Nat.reduceEqDiff, Nat.reduceAdd, Nat.reduceMul, Nat.reduceLT, Nat.reduceLeDiff, reduceIte, eq_self, and_self, true_and, and_true, false_and, and_false, true_or, or_true, or_false, false_or, not_true_eq_false, not_false_eq_true, zarr, ne_eq, this]
  have f2 : fTx w 0 M (zsI M1 6 1 (nI 0)) := ⟨f1.1, f1.2.1, fun a i _ => by show zR M1 a i = _; rw [f1.2.2.1]; rfl, fun b x1 x2 x3 x4 x5 x6 x7 => by rw [zI_ne x2, f1.2.2.2.2.1 b x1, zI_ne x1, zI_ne x1, zI_ne x1], by rw [zI_ne (by omega), f1.2.2.2.2.2]; rfl, fun b _ _ _ _ => by show zL M1 b = _; rw [f1.2.2.2.1]; rfl⟩
  have hE2 : EC L w N β pt (zsI M1 6 1 (nI 0)) := ⟨zSh_made hE.1 f2.1 f2.2.1 f2.2.2.1, tape_I (tapeC_fr hT0 f1) (zI_ne (by omega)) (zI_ne (by omega)), by show zL M1 0 = pt; rw [f1.2.2.2.1]; exact hE.2.2⟩
  have hc2 : cTok (tok β N 0) (zsI M1 6 1 (nI 0)) := cTok_I hc (zI_ne (by omega))
  have ev : zV (d + 1) n_Re_readAll [.ref 3, .ref (25 - w)] M = zG d n_Re_readAll 16 [some (.ref 3), some (.ref (25 - w)), some (.int (nI 0))] [] (zsI M1 6 1 (nI 0)) := by
    rw [ze_Re_readAll]
    unfold zx_Re_readAll
    obtain ⟨q1, q2, q3⟩ := k41
    clear hE f0 hT0 f1 hc hE2 hc2 f2
    simp (disch := omega) only [il, nI_add, nI_mul, nI_sub, nI_div, nI_rem, nI_N, i32_lt, i32_le, nI_toInt, nI_subI, nI_clamp, zinT, zifT, iteT, iteF, zQ, zS, zkc, zI_sI, zL_sL, zI_wI, zL_wL, Nat.reduceEqDiff, Nat.reduceAdd, Nat.reduceMul, Nat.reduceLT, Nat.reduceLeDiff, reduceIte, eq_self, and_self, true_and, and_true, false_and, and_false, true_or, or_true, or_false, false_or, not_true_eq_false, not_false_eq_true, zarr, ne_eq, k3, r0, k4, eb, q1, q2, q3, ec]
  rw [ev]
  unfold sTt
  by_cases h3 : (tok β N 0).1 = 3
  · rw [if_pos h3]
    obtain ⟨b1, b2, b3⟩ := cTok_bad hc2 h3
    exact ⟨_, -1, re_txt_bad (by omega) hE2 b1 b2 (by omega) (by omega) (by omega), f2, Nat.zero_lt_one, (show 1 < 10 by decide), b2, b3, rfl⟩
  · rw [if_neg h3]
    obtain ⟨M', b, e, ho⟩ := re_txt_go (d := d) (L := L) (w := w) (pt := pt) (by omega) hk 4 0 0 _ (by omega) hE2 hc2 h3 (Nat.zero_le N) (by rw [zI_sI, if_pos ⟨rfl, rfl⟩])
    refine ⟨M', b, e, ?_⟩
    cases hr : sTx (tok β N) pt 4 0 with
    | inl e =>
      rw [hr] at ho
      exact ⟨f2.trans ho.1 (Nat.le_refl 0), ho.2⟩
    | inr v =>
      rw [hr] at ho
      exact ⟨f2.trans ho.1 (Nat.le_refl 0), ho.2⟩
