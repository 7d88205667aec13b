/-! the class reads what puts off; a sequence begins -/
theorem zSh_made {L w : Nat} {M M' : zM} (h : zSh L w M) (hN : zN M' = zN M) (hK : zK M' = zK M) (hR : ∀ a i, ¬ (a = 8 ∧ i = 6) → zR M' a i = zR M a i) : zSh L w M' := by
  unfold zSh zRc zRm0 zRf zPle zSeq zWat zTra zShe at *
  rw [hN, hK]
  obtain ⟨h1, h2, h3, h4, ⟨h5, h6, h7, h8⟩, h9, h10, h11⟩ := h
  refine ⟨h1, h2, ?_, ?_, ⟨fun p hp => ?_, fun k hk => ?_, ?_, ?_⟩, h9, ?_, ?_⟩
  · simp (disch := omega) only [hR]
    exact h3
  · simp (disch := omega) only [hR]
    exact h4
  · have := h5 p hp
    simp (disch := omega) only [hR]
    exact this
  · have := h6 k hk
    simp (disch := omega) only [hR]
    exact this
  · simp (disch := omega) only [hR]
    exact h7
  · simp (disch := omega) only [hR]
    exact h8
  · simp (disch := omega) only [hR]
    exact h10
  · simp (disch := omega) only [hR]
    exact h11
theorem zSeq_made {s : Nat} {M M' : zM} (h : zSeq M s) (hs : 26 ≤ s) (hK : zK M' = zK M) (hR : ∀ a i, ¬ (a = 8 ∧ i = 6) → zR M' a i = zR M a i) : zSeq M' s := by
  unfold zSeq at *
  rw [hK]
  simp (disch := omega) only [hR]
  exact h
theorem zPle_made {g : Nat} {M M' : zM} (h : zPle M g) (hs : 26 ≤ g) (hK : zK M' = zK M) (hR : ∀ a i, ¬ (a = 8 ∧ i = 6) → zR M' a i = zR M a i) : zPle M' g := by
  unfold zPle at *
  obtain ⟨h1, h2, h3, h4, h5, h6, h7⟩ := h
  exact ⟨by rw [hK]; exact h1, by rw [hK]; exact h2, by rw [hR _ _ (by omega)]; exact h3, by rw [hR _ _ (by omega)]; exact h4, by rw [hR _ _ (by omega)]; exact h5, zSeq_made h6 (by omega) hK hR, zSeq_made h7 (by omega) hK hR⟩
theorem bu_begin {d L w s : Nat} {M : zM} (hd : 2 ≤ d) (hs : zSh L w M) (hq : zSeq M s) (hs26 : 26 ≤ s) : ∃ M', zV d n_Bu_begin [.ref 8, .ref s] M = some (none, M') ∧ zN M' = zN M ∧ zK M' = zK M ∧ (∀ a i, ¬ (a = 8 ∧ i = 6) → zR M' a i = zR M a i) ∧ (∀ b, b ≠ 8 → b ≠ s → zI M' b = zI M b) ∧ zL M' = zL M ∧ Bst s [] M' := by
  obtain ⟨d, rfl, hd1⟩ := zdep hd
  obtain ⟨a1, a2, a3, a4, a5, a6, a7, a8, a9, a10, a11⟩ := kB_of hs
  have k1 := hq.1
  have ec : ∀ M1 : zM, zK M1 s = (4, 11) → zV d n_Se_clear [.ref s] M1 = some (none, zsI (zsI (zsI M1 s 6 (nI 0)) s 7 (nI 0)) s 10 (nI 0)) := by
    intro M1 hk
    obtain ⟨d', rfl, -⟩ := zdep hd1
    rw [ze_Se_clear]
    unfold zx_Se_clear
    simp (disch := omega) only [il, nI_add, nI_mul, nI_sub, nI_div, nI_rem, nI_N, i32_lt, i32_le, nI_toInt, nI_subI, nI_clamp, zinT, zifT, iteT, iteF, zQ, zS, zkc, zI_sI, zL_sL, zI_wI, zL_wL, Nat.reduceEqDiff, Nat.reduceAdd, Nat.reduceMul, Nat.reduceLT, Nat.reduceLeDiff, reduceIte, eq_self, and_self, true_and, and_true, false_and, and_false, true_or, or_true, or_false, false_or, not_true_eq_false, not_false_eq_true, zarr, ne_eq, hk]
  have r6 : zR (zsR M 8 6 (some s)) 8 6 = some s := by rw [zR_sR, if_pos ⟨rfl, rfl⟩]
  have e1 := ec (zsR M 8 6 (some s)) k1
  refine ⟨zsI (zsI (zsI (zsI (zsR M 8 6 (some s)) s 6 (nI 0)) s 7 (nI 0)) s 10 (nI 0)) 8 5 (nI 0), ?_, rfl, rfl, fun a i h => ?_, fun b h1 h2 => ?_, rfl, ?_⟩
  · rw [ze_Bu_begin]
    unfold zx_Bu_begin
    clear ec
    simp (disch := omega) only [il, nI_add, nI_mul, nI_sub, nI_div, nI_rem, nI_N, i32_lt, i32_le, nI_toInt, nI_subI, nI_clamp, zinT, zifT, iteT, iteF, zQ, zS, zkc, zI_sI, zL_sL, zI_wI, zL_wL, Nat.reduceEqDiff, Nat.reduceAdd, Nat.reduceMul, Nat.reduceLT, Nat.reduceLeDiff, reduceIte, eq_self, and_self, true_and, and_true, false_and, and_false, true_or, or_true, or_false, false_or, not_true_eq_false, not_false_eq_true, zarr, ne_eq, a1, r6, k1, e1]
  · show zR (zsR M 8 6 (some s)) a i = zR M a i
    rw [zR_sR, if_neg h]
  · exact (zI_ne h1).trans ((zI_ne h2).trans ((zI_ne h2).trans (zI_ne h2)))
  · refine ⟨r6, by simp (disch := omega) only [zL_sL, zI_sI, zS, iteF, iteT, eq_self, and_self, true_and, and_true, false_and, and_false, if_true, if_false, reduceIte, Nat.reduceEqDiff]; rfl, fun x hx => absurd hx (List.not_mem_nil), fun y hy => absurd hy (List.not_mem_nil), 0, 0, by omega, by omega, by simp (disch := omega) only [zL_sL, zI_sI, zS, iteF, iteT, eq_self, and_self, true_and, and_true, false_and, and_false, if_true, if_false, reduceIte, Nat.reduceEqDiff], by simp (disch := omega) only [zL_sL, zI_sI, zS, iteF, iteT, eq_self, and_self, true_and, and_true, false_and, and_false, if_true, if_false, reduceIte, Nat.reduceEqDiff], ?_, fun _ => ⟨rfl, rfl, fun e t he => ?_, fun e q he => by omega, trivial⟩⟩
    · rw [if_pos (show tot [] ≤ 40 by decide)]
      simp (disch := omega) only [zL_sL, zI_sI, zS, iteF, iteT, eq_self, and_self, true_and, and_true, false_and, and_false, if_true, if_false, reduceIte, Nat.reduceEqDiff]
    · exact absurd he (by simp [cds, cc, en])
def sOf (X : Nat → Tk) (pt : Nat → Int64) (j : Nat) : Rs (Option T4) := if (X j).1 = 126 then nxt X j (fun k => rb (sAn X pt 8 k) (fun t k' => .inr (some t, k'))) else .inr (none, j)
def fOf (g : Nat) (M M' : zM) : Prop := zN M' = zN M ∧ zK M' = zK M ∧ zR M' = zR M ∧ (∀ b, b ≠ 4 → b ≠ 6 → b ≠ g → zI M' b = zI M b) ∧ zI M' 4 1 = zI M 4 1 ∧ (∀ j, j ≠ 3 → zI M' g j = zI M g j) ∧ ∀ b, b ≠ 7 → b ≠ g + 9 → zL M' b = zL M b
theorem fCo.of {g D : Nat} {M M' : zM} (hg : 26 ≤ g) (h : fCo D M M') : fOf g M M' := ⟨h.1, h.2.1, h.2.2.1, fun b h1 h2 _ => h.2.2.2.1 b h1 h2, h.2.2.2.2.1, fun j _ => by rw [h.2.2.2.1 g (by omega) (by omega)], fun b h1 _ => h.2.2.2.2.2.1 b h1⟩
theorem fOf.trans {g : Nat} {M M1 M2 : zM} (h : fOf g M M1) (f : fOf g M1 M2) : fOf g M M2 := by
  obtain ⟨a1, a2, a3, a4, a5, a6, a7⟩ := h
  obtain ⟨c1, c2, c3, c4, c5, c6, c7⟩ := f
  exact ⟨c1.trans a1, c2.trans a2, c3.trans a3, fun b h1 h2 h3 => (c4 b h1 h2 h3).trans (a4 b h1 h2 h3), c5.trans a5, fun j hj => (c6 j hj).trans (a6 j hj), fun b h1 h2 => (c7 b h1 h2).trans (a7 b h1 h2)⟩
def OutF (X : Nat → Tk) (N g : Nat) (M M' : zM) (b : Int32) : Rs (Option T4) → Prop
  | .inl e => fOf g M M' ∧ 0 < e.1 ∧ e.1 < 10 ∧ zI M' 4 6 = nI e.1 ∧ zI M' 4 7 = nI e.2 ∧ (b = nI 0 ∨ (b = nI 1 ∧ zI M' 4 3 = nI 3))
  | .inr x => fOf g M M' ∧ b = nI 1 ∧ x.2 ≤ N ∧ cTok (X x.2) M' ∧ (X x.2).1 ≠ 3 ∧ zI M' 6 1 = nI 0 ∧ zI M' g 3 = nI (oN x.1) ∧ ∀ t, x.1 = some t → ∀ q, q < 4 → zL M' (g + 9) q = t q
theorem EC_of {L w N g : Nat} {β : Nat → Nat} {pt : Nat → Int64} {M M' : zM} (hg : 26 ≤ g) (h : EC L w N β pt M) (f : fOf g M M') : EC L w N β pt M' := by
  obtain ⟨h1, h2, h3⟩ := h
  refine ⟨zSh_fr h1 f.1 f.2.1 f.2.2.1, ?_, by rw [f.2.2.2.2.2.2 0 (by omega) (by omega)]; exact h3⟩
  unfold tapeC
  rw [f.2.2.2.2.1, f.2.2.2.1 5 (by omega) (by omega) (by omega)]
  exact h2
theorem fOf_h {g : Nat} {M : zM} (hg : 26 ≤ g) (x : Int32) : fOf g M (zsI M g 3 x) := ⟨rfl, rfl, rfl, fun b _ _ h3 => zI_ne h3, by rw [zI_ne (by omega)], fun j hj => by rw [zI_sI, if_neg (fun z => hj z.2)], fun _ _ _ => rfl⟩
theorem ts_move0 {d g : Nat} {M : zM} (hd : 1 ≤ d) (k6 : zK M 6 = (8, 2)) (k7 : zK M 7 = (23, 76)) (r6 : zR M 6 0 = some 7) (ka : zK M (g + 9) = (23, 4)) (hg : 26 ≤ g) (h1 : zI M 6 1 = nI 1) : ∃ M', zV d n_TS_moveTop [.ref 6, .ref (g + 9), .int (nI 0)] M = some (none, M') ∧ fOf g M M' ∧ zI M' 4 = zI M 4 ∧ zI M' g = zI M g ∧ zI M' 6 1 = nI 0 ∧ ∀ q, q < 4 → zL M' (g + 9) q = zL M 7 (4 * 0 + q) := by
  have e3 := ts_moveTop (d := d) (D := 0) (a := g + 9) (e := 0) (M := M) hd k6 k7 r6 ka (by omega) (by omega) (by omega) (by omega) h1
  have I0 : ∀ z, z ≠ 6 → zI (zwL (zsI M 6 1 (nI 0)) (g + 9) (fil (4 * 0) (zL M (g + 9)) (fun q => zL M 7 (4 * 0 + q)) 4)) z = zI M z := fun z hz => (show zI (zsI M 6 1 (nI 0)) z = zI M z from zI_ne hz)
  refine ⟨zwL (zsI M 6 1 (nI 0)) (g + 9) (fil (4 * 0) (zL M (g + 9)) (fun q => zL M 7 (4 * 0 + q)) 4), e3, ⟨rfl, rfl, rfl, fun z x1 x2 x3 => I0 z x2, by rw [I0 4 (by omega)], fun j _ => by rw [I0 g (by omega)], fun z x1 x2 => (show zL (zwL (zsI M 6 1 (nI 0)) (g + 9) _) z = zL M z from zLw_ne x2)⟩, I0 4 (by omega), I0 g (by omega), by simp (disch := omega) only [zL_sL, zI_sI, zS, iteF, iteT, eq_self, and_self, true_and, and_true, false_and, and_false, if_true, if_false, reduceIte, Nat.reduceEqDiff], fun q hq => ?_⟩
  rw [zL_wL, if_pos rfl]
  have := fil_in (b := 4 * 0) (f := zL M (g + 9)) (g := fun q => zL M 7 (4 * 0 + q)) (k := 4) hq
  rw [Nat.mul_zero, Nat.zero_add] at this ⊢
  rw [this]
set_option maxHeartbeats 4000000 in
theorem re_off {d L w N i g : Nat} {β : Nat → Nat} {pt : Nat → Int64} {M : zM} (hd : 42 ≤ d) (hk : tkOk (tok β N) N) (hE : EC L w N β pt M) (hg : zPle M g) (hg26 : 26 ≤ g) (hc : cTok (tok β N i) M) (h3 : (tok β N i).1 ≠ 3) (hi : i ≤ N) (hD : zI M 6 1 = nI 0) : ∃ M' b, zV d n_Re_readOff [.ref 3, .ref g] M = some (some (.int b), M') ∧ OutF (tok β N) N g M M' b (sOf (tok β N) pt i) := by
  obtain ⟨d, rfl, hd1⟩ := zdep hd
  obtain ⟨k3, k4, k6, r0, r1⟩ := c_k4 hE
  obtain ⟨c6, c3, c5⟩ := cTok_ok hc h3
  obtain ⟨g1, g2, g3, g4, g5, g6, g7⟩ := hg
  have hki := hk i hi
  unfold sOf
  by_cases h126 : (tok β N i).1 = 126
  · rw [if_pos h126]
    have c126 : zI M 4 3 = nI 126 := by rw [c3, h126]
    have f0 := fOf_h (M := M) hg26 (nI 1)
    have hE0 := EC_of hg26 hE f0
    have hc0 : cTok (tok β N i) (zsI M g 3 (nI 1)) := cTok_I hc (zI_ne (by omega))
    have i3 : zI (zsI M g 3 (nI 1)) g 3 = nI 1 := by rw [zI_sI, if_pos ⟨rfl, rfl⟩]
    obtain ⟨M1, e1, f1, hc1⟩ := c_adv (d := d) (by omega) hE0 hk hc0 h3 hi
    have hE1 := EC_fr hE0 (f1.co (D := 0))
    obtain ⟨k31, k41, k61, r01, r11⟩ := c_k4 hE1
    have ff1 : fOf g M M1 := f0.trans ((f1.co (D := 0)).of hg26)
    by_cases hb : (tok β N (tok β N i).2.2.2).1 = 3
    · rw [nxt_t hb]
      obtain ⟨b1, b2, b3⟩ := cTok_bad hc1 hb
      have e2 := re_any_bad (d := d) (n := 0) (by omega) hE1 b1 b2 (by omega) (by omega)
      refine ⟨M1, nI 0, ?_, ff1, Nat.zero_lt_one, (show 1 < 10 by decide), b2, b3, Or.inl rfl⟩
      rw [ze_Re_readOff]
      unfold zx_Re_readOff
      clear hE hE0 hE1 hc hc0 hc1 f0 f1 ff1 hk hki
      simp (disch := omega) only [il, nI_add, nI_mul, nI_sub, nI_div, nI_rem, nI_N, i32_lt, i32_le, nI_toInt, nI_subI, nI_clamp, zinT, zifT, iteT, iteF, zQ, zS, zkc, zI_sI, zL_sL, zI_wI, zL_wL, Nat.reduceEqDiff, Nat.reduceAdd, Nat.reduceMul, Nat.reduceLT, Nat.reduceLeDiff, reduceIte, eq_self, and_self, true_and, and_true, false_and, and_false, true_or, or_true, or_false, false_or, not_true_eq_false, not_false_eq_true, zarr, ne_eq, k3, k4, r0, c126, g1, i3, e1, k31, e2]
    · rw [nxt_f hb]
      have hD1 : zI M1 6 1 = nI 0 := by rw [f1.2.2.2.2.1 6 (by omega), zI_ne (by omega)]; exact hD
      obtain ⟨M2, b, e2, ho⟩ := (re_any_all (L := L) (w := w) (N := N) (β := β) (pt := pt) hk 8 0 (by omega)).2 d _ 0 M1 (by omega) hE1 hc1 hb hki.1 hD1 (by omega)
      cases hrr : sAn (tok β N) pt 8 (tok β N i).2.2.2 with
      | inl e =>
        rw [hrr] at ho
        obtain ⟨o1, o2, o3, o4, o5, o6⟩ := ho
        have hE2 := EC_fr hE1 o1
        obtain ⟨k32, k42, k62, r02, r12⟩ := c_k4 hE2
        have ff2 : fOf g M M2 := ff1.trans (o1.of hg26)
        rcases o6 with rfl | ⟨rfl, o7, o8⟩
        · refine ⟨M2, nI 0, ?_, ff2, o2, o3, o4, o5, Or.inl rfl⟩
          rw [ze_Re_readOff]
          unfold zx_Re_readOff
          clear hE hE0 hE1 hE2 hc hc0 hc1 f0 f1 ff1 ff2 hk hki o1 o4 o5
          simp (disch := omega) only [il, nI_add, nI_mul, nI_sub, nI_div, nI_rem, nI_N, i32_lt, i32_le, nI_toInt, nI_subI, nI_clamp, zinT, zifT, iteT, iteF, zQ, zS, zkc, zI_sI, zL_sL, zI_wI, zL_wL, Nat.reduceEqDiff, Nat.reduceAdd, Nat.reduceMul, Nat.reduceLT, Nat.reduceLeDiff, reduceIte, eq_self, and_self, true_and, and_true, false_and, and_false, true_or, or_true, or_false, false_or, not_true_eq_false, not_false_eq_true, zarr, ne_eq, k3, k4, r0, c126, g1, i3, e1, k31, e2]
        · obtain ⟨j6, j7, j60⟩ := k67_of hE2.1
          have gk : zK M2 (g + 9) = (23, 4) := by rw [ff2.2.1]; exact g2
          have gk1 : zK M2 g = (2, 5) := by rw [ff2.2.1]; exact g1
          have gr : zR M2 g 2 = some (g + 9) := by rw [ff2.2.2.1]; exact g5
          obtain ⟨M3, e3, m1, m2, m3, m4, m5⟩ := ts_move0 (d := d) (M := M2) (by omega) j6 j7 j60 gk hg26 o8
          refine ⟨M3, nI 1, ?_, ff2.trans m1, o2, o3, by rw [m2]; exact o4, by rw [m2]; exact o5, Or.inr ⟨rfl, by rw [m2]; exact o7⟩⟩
          clear m1 m2 m3 m4 m5
          rw [ze_Re_readOff]
          unfold zx_Re_readOff
          clear hE hE0 hE1 hE2 hc hc0 hc1 f0 f1 ff1 ff2 hk hki o1 o4 o5
          simp (disch := omega) only [il, nI_add, nI_mul, nI_sub, nI_div, nI_rem, nI_N, i32_lt, i32_le, nI_toInt, nI_subI, nI_clamp, zinT, zifT, iteT, iteF, zQ, zS, zkc, zI_sI, zL_sL, zI_wI, zL_wL, Nat.reduceEqDiff, Nat.reduceAdd, Nat.reduceMul, Nat.reduceLT, Nat.reduceLeDiff, reduceIte, eq_self, and_self, true_and, and_true, false_and, and_false, true_or, or_true, or_false, false_or, not_true_eq_false, not_false_eq_true, zarr, ne_eq, k3, k4, r0, c126, g1, i3, e1, k31, e2, k32, k62, r12, gk1, gr, e3]
      | inr x =>
        rw [hrr] at ho
        obtain ⟨o1, o2, o3, o4, o5, o6, o7⟩ := ho
        subst o2
        have hE2 := EC_fr hE1 o1
        obtain ⟨k32, k42, k62, r02, r12⟩ := c_k4 hE2
        have ff2 : fOf g M M2 := ff1.trans (o1.of hg26)
        obtain ⟨j6, j7, j60⟩ := k67_of hE2.1
        have gk : zK M2 (g + 9) = (23, 4) := by rw [ff2.2.1]; exact g2
        have gk1 : zK M2 g = (2, 5) := by rw [ff2.2.1]; exact g1
        have gr : zR M2 g 2 = some (g + 9) := by rw [ff2.2.2.1]; exact g5
        obtain ⟨M3, e3, m1, m2, m3, m4, m5⟩ := ts_move0 (d := d) (M := M2) (by omega) j6 j7 j60 gk hg26 o6
        have ig : zI M2 g 3 = nI 1 := by rw [o1.2.2.2.1 g (by omega) (by omega), f1.2.2.2.2.1 g (by omega)]; exact i3
        refine ⟨M3, nI 1, ?_, ff2.trans m1, rfl, o3, cTok_I o4 m2, o5, m4, by rw [m3]; exact ig, fun t ht q hq => ?_⟩
        · rw [ze_Re_readOff]
          unfold zx_Re_readOff
          clear hE hE0 hE1 hE2 hc hc0 hc1 f0 f1 ff1 ff2 hk hki o1 o4 o7 ig m1 m2 m3 m4 m5
          simp (disch := omega) only [il, nI_add, nI_mul, nI_sub, nI_div, nI_rem, nI_N, i32_lt, i32_le, nI_toInt, nI_subI, nI_clamp, zinT, zifT, iteT, iteF, zQ, zS, zkc, zI_sI, zL_sL, zI_wI, zL_wL, Nat.reduceEqDiff, Nat.reduceAdd, Nat.reduceMul, Nat.reduceLT, Nat.reduceLeDiff, reduceIte, eq_self, and_self, true_and, and_true, false_and, and_false, true_or, or_true, or_false, false_or, not_true_eq_false, not_false_eq_true, zarr, ne_eq, k3, k4, r0, c126, g1, i3, e1, k31, e2, k32, k62, r12, gk1, gr, e3]
        · have : x.1 = t := Option.some.inj ht
          rw [m5 q hq, o7 q hq, this]
  · rw [if_neg h126]
    have n126 : ¬ zI M 4 3 = nI 126 := by rw [c3]; exact nI_ne (by omega) (by omega) h126
    have i3 : zI (zsI M g 3 (nI 0)) g 3 = nI 0 := by rw [zI_sI, if_pos ⟨rfl, rfl⟩]
    refine ⟨zsI M g 3 (nI 0), nI 1, ?_, fOf_h hg26 (nI 0), rfl, hi, cTok_I hc (zI_ne (by omega)), h3, by rw [zI_ne (by omega)]; exact hD, i3, fun t ht => absurd ht (by simp)⟩
    rw [ze_Re_readOff]
    unfold zx_Re_readOff
    clear hE hc hk hki
    simp (disch := omega) only [il, nI_add, nI_mul, nI_sub, nI_div, nI_rem, nI_N, i32_lt, i32_le, nI_toInt, nI_subI, nI_clamp, zinT, zifT, iteT, iteF, zQ, zS, zkc, zI_sI, zL_sL, zI_wI, zL_wL, Nat.reduceEqDiff, Nat.reduceAdd, Nat.reduceMul, Nat.reduceLT, Nat.reduceLeDiff, reduceIte, eq_self, and_self, true_and, and_true, false_and, and_false, true_or, or_true, or_false, false_or, not_true_eq_false, not_false_eq_true, zarr, ne_eq, k3, k4, r0, n126, g1, i3]
