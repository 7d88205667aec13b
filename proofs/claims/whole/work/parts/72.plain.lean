/-! the class reads a condition: its methods -/
theorem nxt_t {α : Type} {X : Nat → Tk} {i : Nat} {f : Nat → Rs α} (h : (X (X i).2.2.2).1 = 3) : nxt X i f = .inl (1, (X (X i).2.2.2).2.2.1) := if_pos h
theorem nxt_f {α : Type} {X : Nat → Tk} {i : Nat} {f : Nat → Rs α} (h : ¬ (X (X i).2.2.2).1 = 3) : nxt X i f = f (X i).2.2.2 := if_neg h
def RM (y : Nat) (L w N : Nat) (β : Nat → Nat) (pt : Nat → Int64) (n c d0 : Nat) (r : Nat → Rs T4) : Prop := ∀ d i D M, d0 ≤ d → EC L w N β pt M → cTok (tok β N i) M → (tok β N i).1 ≠ 3 → i ≤ N → zI M 6 1 = nI D → D + c ≤ 19 → ∃ M' b, zV d y [.ref 3, .int (nI n)] M = some (some (.int b), M') ∧ OutC (tok β N) N D M M' b (r i)
theorem cTok_I {x : Tk} {M M' : zM} (h : cTok x M) (e : zI M' 4 = zI M 4) : cTok x M' := by
  unfold cTok
  rw [e]; exact h
theorem nI_ne {a b : Nat} (ha : a < 2 ^ 31) (hb : b < 2 ^ 31) (h : a ≠ b) : ¬ nI a = nI b := by
  rw [nI_eq ha hb]; exact h
/-- a refusal -/
theorem out_ref {d L w N i x D : Nat} {β : Nat → Nat} {pt : Nat → Int64} {M0 M : zM} (hd : 1 ≤ d) (h : EC L w N β pt M) (hc : cTok (tok β N i) M) (h3 : (tok β N i).1 ≠ 3) (hx : 0 < x) (hx2 : x < 10) (hf : fCo D M0 M) : ∃ M', zV d n_Ta_refuse [.ref 4, .int (nI x)] M = some (some (.int (nI 0)), M') ∧ OutC (tok β N) N D M0 M' (nI 0) (.inl (x, plc (tok β N) i)) := by
  obtain ⟨c6, c3, c5⟩ := cTok_ok hc h3
  obtain ⟨k3, k4, k6, r0, r1⟩ := c_k4 h
  have e := ta_refuse0 (d := d) (x := x) hd k4 c6
  refine ⟨_, e, ?_⟩
  refine ⟨hf.trans (D' := D) ?_ (Nat.le_refl D), hx, hx2, rfl, c5, Or.inl rfl⟩
  exact ⟨rfl, rfl, rfl, fun b h1 _ => by simp (disch := omega) only [zI_ne], rfl, fun _ _ => rfl, fun _ _ => rfl⟩
set_option maxHeartbeats 4000000 in
theorem re_plain {L w N n d0 : Nat} {β : Nat → Nat} {pt : Nat → Int64} {R : Option (Nat → Rs T4)} (hk : tkOk (tok β N) N) (hn : n ≤ 8) (hd0 : 5 ≤ d0) (hR : (n = 8 ∧ R = none) ∨ (n < 8 ∧ ∃ r, R = some r ∧ RM n_Re_readAnyOf L w N β pt (n + 1) (2 * (8 - n) + 1) d0 r)) : RM n_Re_readPlain L w N β pt n (2 * (8 - n) + 1) (d0 + 1) (sPl (tok β N) pt R) := by
  intro d i D M hd hE hc h3 hi hD hDc
  obtain ⟨d, rfl, hd1⟩ := zdep (show d0 + 1 ≤ d by omega)
  obtain ⟨k3, k4, k6, r0, r1⟩ := c_k4 hE
  obtain ⟨c6, c3, c5⟩ := cTok_ok hc h3
  have hki := hk i hi
  unfold sPl
  by_cases h1 : (tok β N i).1 = 1
  · rw [if_pos h1]
    have c4 : zI M 4 4 = nI (tok β N i).2.1 := hc.2.2.2.1 (Or.inl h1)
    obtain ⟨M7, e1, f1, g1, g2, g3⟩ := ts_pushWire (d := d) (v := (tok β N i).2.1) (D := D) (by omega) hE.1 (hki.2.2.2.1 h1) (by omega) hD
    have hE7 := EC_fr hE f1
    obtain ⟨M8, e2, f2, hc8⟩ := c_adv (d := d) (by omega) hE7 hk (cTok_I hc g1) h3 hi
    have k37 := (c_k4 hE7).1
    have k47 := (c_k4 hE7).2.1
    have r07 := (c_k4 hE7).2.2.2.1
    have ev : zV (d + 1) n_Re_readPlain [.ref 3, .int (nI n)] M = some (some (.int (nI 1)), M8) := by
      rw [ze_Re_readPlain]
      unfold zx_Re_readPlain
      rw [h1] at c3
      clear hR hk hE hE7 hc hc8 g3 f1 f2 hki
      simp (disch := omega) only [il, nI_add, nI_mul, nI_sub, nI_div, nI_rem, nI_N, i32_lt, i32_le, nI_toInt, nI_subI, nI_clamp, zinT, zifT, iteT, iteF, zQ, zS, zkc, zI_sI, zL_sL, zI_wI, zL_wL, Nat.reduceEqDiff, Nat.reduceAdd, Nat.reduceMul, Nat.reduceLT, Nat.reduceLeDiff, reduceIte, eq_self, and_self, true_and, and_true, false_and, and_false, true_or, or_true, or_false, false_or, not_true_eq_false, not_false_eq_true, zarr, ne_eq, k3, k4, k6, r0, r1, c3, c4, e1, k37, k47, r07, e2]
    refine ⟨M8, nI 1, ev, ?_⟩
    have fco : fCo D M M8 := f1.trans (f2.co (D := D)) (Nat.le_refl D)
    by_cases hb : (tok β N (tok β N i).2.2.2).1 = 3
    · rw [nxt_t hb]
      obtain ⟨b1, b2, b3⟩ := cTok_bad hc8 hb
      exact ⟨fco, Nat.zero_lt_one, (show 1 < 10 by decide), b2, b3, Or.inr ⟨rfl, b1, by rw [f2.2.2.2.2.1 6 (by omega)]; exact g2⟩⟩
    · rw [nxt_f hb]
      refine ⟨fco, rfl, hki.1, hc8, hb, ?_, ?_⟩
      · rw [f2.2.2.2.2.1 6 (by omega)]; exact g2
      · intro q hq
        rw [f2.2.2.2.1, g3 q hq, hE.2.2]
  · rw [if_neg h1]
    have n1 : ¬ zI M 4 3 = nI 1 := by rw [c3]; exact nI_ne (by omega) (by omega) h1
    by_cases h40 : (tok β N i).1 = 40
    · rw [if_pos h40]
      have c40 : zI M 4 3 = nI 40 := by rw [c3, h40]
      rcases hR with ⟨rfl, rfl⟩ | ⟨hn8, r, rfl, hr⟩
      · obtain ⟨M', e, ho⟩ := out_ref (d := d) (x := 4) (D := D) (M0 := M) (by omega) hE hc h3 (by omega) (by omega) (fCo_rfl D M)
        refine ⟨M', nI 0, ?_, ho⟩
        rw [ze_Re_readPlain]
        unfold zx_Re_readPlain
        clear hk hE hc ho hki
        simp (disch := omega) only [il, nI_add, nI_mul, nI_sub, nI_div, nI_rem, nI_N, i32_lt, i32_le, nI_toInt, nI_subI, nI_clamp, zinT, zifT, iteT, iteF, zQ, zS, zkc, zI_sI, zL_sL, zI_wI, zL_wL, Nat.reduceEqDiff, Nat.reduceAdd, Nat.reduceMul, Nat.reduceLT, Nat.reduceLeDiff, reduceIte, eq_self, and_self, true_and, and_true, false_and, and_false, true_or, or_true, or_false, false_or, not_true_eq_false, not_false_eq_true, zarr, ne_eq, k3, k4, k6, r0, r1, c40, e]
      · obtain ⟨M1, e1, f1, hc1⟩ := c_adv (d := d) (by omega) hE hk hc h3 hi
        have hE1 := EC_fr hE (f1.co (D := D))
        obtain ⟨k31, k41, k61, r01, r11⟩ := c_k4 hE1
        have hD1 : zI M1 6 1 = nI D := by rw [f1.2.2.2.2.1 6 (by omega)]; exact hD
        show ∃ M' b, _ ∧ OutC (tok β N) N D M M' b (nxt (tok β N) i (fun j => rb (r j) (fun t j' => if (tok β N j').1 = 41 then nxt (tok β N) j' (fun k => .inr (t, k)) else .inl (2, plc (tok β N) j'))))
        by_cases hb : (tok β N (tok β N i).2.2.2).1 = 3
        · rw [nxt_t hb]
          obtain ⟨b1, b2, b3⟩ := cTok_bad hc1 hb
          have e2 := re_any_bad (d := d) (n := n + 1) (by omega) hE1 b1 b2 (by omega) (by omega)
          refine ⟨M1, nI 0, ?_, f1.co, Nat.zero_lt_one, (show 1 < 10 by decide), b2, b3, Or.inl rfl⟩
          rw [ze_Re_readPlain]
          unfold zx_Re_readPlain
          clear hk hE hc hki hE1 hc1 hr
          simp (disch := omega) only [il, nI_add, nI_mul, nI_sub, nI_div, nI_rem, nI_N, i32_lt, i32_le, nI_toInt, nI_subI, nI_clamp, zinT, zifT, iteT, iteF, zQ, zS, zkc, zI_sI, zL_sL, zI_wI, zL_wL, Nat.reduceEqDiff, Nat.reduceAdd, Nat.reduceMul, Nat.reduceLT, Nat.reduceLeDiff, reduceIte, eq_self, and_self, true_and, and_true, false_and, and_false, true_or, or_true, or_false, false_or, not_true_eq_false, not_false_eq_true, zarr, ne_eq, k3, k4, k6, r0, r1, c40, e1, k31, e2]
        · rw [nxt_f hb]
          obtain ⟨M2, b, e2, ho⟩ := hr d (tok β N i).2.2.2 D M1 hd1 hE1 hc1 hb hki.1 hD1 (by omega)
          cases hrr : r (tok β N i).2.2.2 with
          | inl e =>
            rw [hrr] at ho
            obtain ⟨o1, o2, o3, o4, o5, o6⟩ := ho
            have hE2 := EC_fr hE1 o1
            obtain ⟨k32, k42, k62, r02, r12⟩ := c_k4 hE2
            refine ⟨M2, nI 0, ?_, (f1.co (D := D)).trans o1 (Nat.le_refl D), o2, o3, o4, o5, Or.inl rfl⟩
            rw [ze_Re_readPlain]
            unfold zx_Re_readPlain
            rcases o6 with rfl | ⟨rfl, o7, -⟩
            · clear hk hE hc hki hE1 hc1 hr hE2 o1 o4 o5
              simp (disch := omega) only [il, nI_add, nI_mul, nI_sub, nI_div, nI_rem, nI_N, i32_lt, i32_le, nI_toInt, nI_subI, nI_clamp, zinT, zifT, iteT, iteF, zQ, zS, zkc, zI_sI, zL_sL, zI_wI, zL_wL, Nat.reduceEqDiff, Nat.reduceAdd, Nat.reduceMul, Nat.reduceLT, Nat.reduceLeDiff, reduceIte, eq_self, and_self, true_and, and_true, false_and, and_false, true_or, or_true, or_false, false_or, not_true_eq_false, not_false_eq_true, zarr, ne_eq, k3, k4, k6, r0, r1, c40, e1, k31, e2]
            · have e3 := ta_refuse1 (d := d) (x := nI 2) (by omega) k42 o4 o2 (by omega)
              clear hk hE hc hki hE1 hc1 hr hE2 o1 o4 o5
              simp (disch := omega) only [il, nI_add, nI_mul, nI_sub, nI_div, nI_rem, nI_N, i32_lt, i32_le, nI_toInt, nI_subI, nI_clamp, zinT, zifT, iteT, iteF, zQ, zS, zkc, zI_sI, zL_sL, zI_wI, zL_wL, Nat.reduceEqDiff, Nat.reduceAdd, Nat.reduceMul, Nat.reduceLT, Nat.reduceLeDiff, reduceIte, eq_self, and_self, true_and, and_true, false_and, and_false, true_or, or_true, or_false, false_or, not_true_eq_false, not_false_eq_true, zarr, ne_eq, k3, k4, k6, r0, r1, c40, e1, k31, e2, k32, k42, r02, o7, e3]
          | inr x =>
            rw [hrr] at ho
            obtain ⟨o1, o2, o3, o4, o5, o6, o7⟩ := ho
            subst o2
            have hE2 := EC_fr hE1 o1
            obtain ⟨k32, k42, k62, r02, r12⟩ := c_k4 hE2
            obtain ⟨z6, z3, z5⟩ := cTok_ok o4 o5
            have f2 : fCo D M M2 := (f1.co (D := D)).trans o1 (Nat.le_refl D)
            show ∃ M' b, _ ∧ OutC (tok β N) N D M M' b (if (tok β N x.2).1 = 41 then nxt (tok β N) x.2 (fun k => .inr (x.1, k)) else .inl (2, plc (tok β N) x.2))
            by_cases h41 : (tok β N x.2).1 = 41
            · rw [if_pos h41]
              have z41 : zI M2 4 3 = nI 41 := by rw [z3, h41]
              obtain ⟨M3, e3, f3, hc3⟩ := c_adv (d := d) (by omega) hE2 hk o4 o5 o3
              have ev : zV (d + 1) n_Re_readPlain [.ref 3, .int (nI n)] M = some (some (.int (nI 1)), M3) := by
                rw [ze_Re_readPlain]
                unfold zx_Re_readPlain
                clear hk hE hc hki hE1 hc1 hr hE2 o1 o4 o7 f2 hc3
                simp (disch := omega) only [il, nI_add, nI_mul, nI_sub, nI_div, nI_rem, nI_N, i32_lt, i32_le, nI_toInt, nI_subI, nI_clamp, zinT, zifT, iteT, iteF, zQ, zS, zkc, zI_sI, zL_sL, zI_wI, zL_wL, Nat.reduceEqDiff, Nat.reduceAdd, Nat.reduceMul, Nat.reduceLT, Nat.reduceLeDiff, reduceIte, eq_self, and_self, true_and, and_true, false_and, and_false, true_or, or_true, or_false, false_or, not_true_eq_false, not_false_eq_true, zarr, ne_eq, k3, k4, k6, r0, r1, c40, e1, k31, e2, k32, k42, r02, z41, e3]
              refine ⟨M3, nI 1, ev, ?_⟩
              have f4 : fCo D M M3 := f2.trans (f3.co (D := D)) (Nat.le_refl D)
              by_cases hb3 : (tok β N (tok β N x.2).2.2.2).1 = 3
              · rw [nxt_t hb3]
                obtain ⟨b1, b2, b3⟩ := cTok_bad hc3 hb3
                exact ⟨f4, Nat.zero_lt_one, (show 1 < 10 by decide), b2, b3, Or.inr ⟨rfl, b1, by rw [f3.2.2.2.2.1 6 (by omega)]; exact o6⟩⟩
              · rw [nxt_f hb3]
                refine ⟨f4, rfl, (hk x.2 o3).1, hc3, hb3, ?_, ?_⟩
                · rw [f3.2.2.2.2.1 6 (by omega)]; exact o6
                · intro q hq
                  rw [f3.2.2.2.1]; exact o7 q hq
            · rw [if_neg h41]
              have z41 : ¬ zI M2 4 3 = nI 41 := by rw [z3]; exact nI_ne (by have := (hk x.2 o3).2.2.2.2.2.1; omega) (by omega) h41
              obtain ⟨M', e3, ho⟩ := out_ref (d := d) (x := 2) (D := D) (M0 := M) (by omega) hE2 o4 o5 (by omega) (by omega) f2
              refine ⟨M', nI 0, ?_, ho⟩
              rw [ze_Re_readPlain]
              unfold zx_Re_readPlain
              clear hk hE hc hki hE1 hc1 hr hE2 o1 o4 o7 f2 ho
              simp (disch := omega) only [il, nI_add, nI_mul, nI_sub, nI_div, nI_rem, nI_N, i32_lt, i32_le, nI_toInt, nI_subI, nI_clamp, zinT, zifT, iteT, iteF, zQ, zS, zkc, zI_sI, zL_sL, zI_wI, zL_wL, Nat.reduceEqDiff, Nat.reduceAdd, Nat.reduceMul, Nat.reduceLT, Nat.reduceLeDiff, reduceIte, eq_self, and_self, true_and, and_true, false_and, and_false, true_or, or_true, or_false, false_or, not_true_eq_false, not_false_eq_true, zarr, ne_eq, k3, k4, k6, r0, r1, c40, e1, k31, e2, k32, k42, r02, z41, e3]
    · rw [if_neg h40]
      have n40 : ¬ zI M 4 3 = nI 40 := by rw [c3]; exact nI_ne (by omega) (by omega) h40
      obtain ⟨M', e, ho⟩ := out_ref (d := d) (x := 2) (D := D) (M0 := M) (by omega) hE hc h3 (by omega) (by omega) (fCo_rfl D M)
      refine ⟨M', nI 0, ?_, ho⟩
      rw [ze_Re_readPlain]
      unfold zx_Re_readPlain
      clear hk hE hc ho hki hR
      simp (disch := omega) only [il, nI_add, nI_mul, nI_sub, nI_div, nI_rem, nI_N, i32_lt, i32_le, nI_toInt, nI_subI, nI_clamp, zinT, zifT, iteT, iteF, zQ, zS, zkc, zI_sI, zL_sL, zI_wI, zL_wL, Nat.reduceEqDiff, Nat.reduceAdd, Nat.reduceMul, Nat.reduceLT, Nat.reduceLeDiff, reduceIte, eq_self, and_self, true_and, and_true, false_and, and_false, true_or, or_true, or_false, false_or, not_true_eq_false, not_false_eq_true, zarr, ne_eq, k3, k4, k6, r0, r1, n1, n40, e]
