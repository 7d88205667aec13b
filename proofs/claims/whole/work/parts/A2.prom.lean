/-! the class reads a promise -/
noncomputable def pEnd (d g : Nat) (M : zM) : zO :=
  zif ((zK M 3).1 = 3)
      (zoR (zR M 3 0) fun q5 =>
      zif ((zK M q5).1 = 6)
      (if (zI M q5 3) = (59 : Int32) then (zif ((zK M g).1 = 2)
        (zoR (zR M g 0) fun q6 =>
        zif ((zK M q6).1 = 4)
        (if (zI M q6 8) = 0 then (zif ((zK M 3).1 = 3)
          (zoR (zR M 3 0) fun q7 =>
          zif ((zK M q7).1 = 6)
          (zbI (zV d n_Ta_refuse [.ref q7, .int (5 : Int32)] M) fun u3 M7 =>
          zif (u3 = 0 ∨ u3 = 1) (some (some (.int u3), M7)))))
        else zif ((zK M g).1 = 2)
        (zoR (zR M g 1) fun q8 =>
        zif ((zK M q8).1 = 4)
        (if (zI M q8 8) ≠ 0 then (zif ((zK M g).1 = 2)
          (zoR (zR M g 0) fun q9 =>
          zif ((zK M q9).1 = 4)
          (if (zI M q9 10) ≠ 0 then (zif ((zK M 3).1 = 3)
            (zoR (zR M 3 0) fun q10 =>
            zif ((zK M q10).1 = 6)
            (zbI (zV d n_Ta_refuse [.ref q10, .int (6 : Int32)] M) fun u4 M8 =>
            zif (u4 = 0 ∨ u4 = 1) (some (some (.int u4), M8)))))
          else zif ((zK M g).1 = 2)
          (zoR (zR M g 1) fun q11 =>
          zif ((zK M q11).1 = 4)
          (if (zI M q11 10) = 0 then (zif ((zK M 3).1 = 3)
            (zoR (zR M 3 0) fun q12 =>
            zif ((zK M q12).1 = 6)
            (zbV (zV d n_Ta_advance [.ref q12] M) fun M9 =>
            zif ((1 : Int32) = 0 ∨ (1 : Int32) = 1) (some (some (.int (1 : Int32)), M9)))))
          else zif ((zK M 3).1 = 3)
          (zoR (zR M 3 0) fun q13 =>
          zif ((zK M q13).1 = 6)
          (zbI (zV d n_Ta_refuse [.ref q13, .int (6 : Int32)] M) fun u5 M10 =>
          zif (u5 = 0 ∨ u5 = 1) (some (some (.int u5), M10)))))))))
        else zif ((zK M 3).1 = 3)
        (zoR (zR M 3 0) fun q14 =>
        zif ((zK M q14).1 = 6)
        (zbI (zV d n_Ta_refuse [.ref q14, .int (5 : Int32)] M) fun u6 M11 =>
        zif (u6 = 0 ∨ u6 = 1) (some (some (.int u6), M11)))))))))
      else zif ((zK M 3).1 = 3)
      (zoR (zR M 3 0) fun q15 =>
      zif ((zK M q15).1 = 6)
      (zbI (zV d n_Ta_refuse [.ref q15, .int (2 : Int32)] M) fun u7 M12 =>
      zif (u7 = 0 ∨ u7 = 1) (some (some (.int u7), M12))))))
theorem pEnd_bad {d L w N f g : Nat} {β : Nat → Nat} {pt : Nat → Int64} {M : zM} (hd : 1 ≤ d) (hE : EC L w N β pt M) (h3 : zI M 4 3 = nI 3) (h6 : zI M 4 6 = nI f) (hf : 0 < f) (hf2 : f < 100) : pEnd d g M = some (some (.int (nI 0)), M) := by
  obtain ⟨k3, k4, k6, r0, r1⟩ := c_k4 hE
  have e := ta_refuse1 (d := d) (x := nI 2) hd k4 h6 hf hf2
  unfold pEnd
  clear hE
  simp (disch := omega) only [il, nI_add, nI_mul, nI_sub, nI_div, nI_rem, nI_N, i32_lt, i32_le, nI_toInt, nI_subI, nI_clamp, zinT, zifT, iteT, iteF, zQ, zS, zkc, zI_sI, zL_sL, zI_wI, zL_wL, Nat.reduceEqDiff, Nat.reduceAdd, Nat.reduceMul, Nat.reduceLT, Nat.reduceLeDiff, reduceIte, eq_self, and_self, true_and, and_true, false_and, and_false, true_or, or_true, or_false, false_or, not_true_eq_false, not_false_eq_true, zarr, ne_eq, k3, k4, r0, h3, e]
theorem re_pe {d L w N j g ki : Nat} {β : Nat → Nat} {pt : Nat → Int64} {M : zM} {a b : Pc} {o : Option T4} (hd : 4 ≤ d) (hk : tkOk (tok β N) N) (hE : EC L w N β pt M) (hg : zPle M g) (hg26 : 26 ≤ g) (hc : cTok (tok β N j) M) (h3 : (tok β N j).1 ≠ 3) (hj : j ≤ N) (hD : zI M 6 1 = nI 0) (ha : SdOk (g + 1) a M) (hb : SdOk (g + 5) b M) (hki : ki < 2) (h4 : zI M g 4 = nI ki) (ho : zI M g 3 = nI (oN o)) (ho2 : ∀ t, o = some t → ∀ q, q < 4 → zL M (g + 9) q = t q) : ∃ M' b', pEnd d g M = some (some (.int b'), M') ∧ OutP (tok β N) N g M M' b' (sPe (tok β N) a b ki o j) := by
  obtain ⟨k3, k4, k6, r0, r1⟩ := c_k4 hE
  obtain ⟨c6, c3, c5⟩ := cTok_ok hc h3
  obtain ⟨g1, g2, g3, g4, g5, g6, g7⟩ := hg
  have ks1 := g6.1
  have ks2 := g7.1
  have hkj := hk j hj
  have a8 := ha.2.1
  have b8 := hb.2.1
  have a10 := ha.2.2.1
  have b10 := hb.2.2.1
  unfold sPe pEnd
  by_cases h59 : (tok β N j).1 = 59
  · rw [if_pos h59]
    have c59 : zI M 4 3 = nI 59 := by rw [c3, h59]
    by_cases h0 : pF a = 0 ∨ pF b = 0
    · rw [if_pos h0]
      obtain ⟨M', e, oo⟩ := out_refP (d := d) (x := 5) (g := g) (by omega) hE hc h3 (by omega) (by omega) hg26
      refine ⟨M', nI 0, ?_, oo⟩
      clear hE hc hk hkj oo ha hb
      by_cases ha0 : pF a = 0
      · have y : min 1000 (pF a) = 0 := by omega
        rw [y] at a8
        simp (disch := omega) only [il, nI_add, nI_mul, nI_sub, nI_div, nI_rem, nI_N, i32_lt, i32_le, nI_toInt, nI_subI, nI_clamp, zinT, zifT, iteT, iteF, zQ, zS, zkc, zI_sI, zL_sL, zI_wI, zL_wL, Nat.reduceEqDiff, Nat.reduceAdd, Nat.reduceMul, Nat.reduceLT, Nat.reduceLeDiff, reduceIte, eq_self, and_self, true_and, and_true, false_and, and_false, true_or, or_true, or_false, false_or, not_true_eq_false, not_false_eq_true, zarr, ne_eq, k3, k4, r0, c59, g1, g3, ks1, a8, e]
      · have y : min 1000 (pF b) = 0 := by omega
        rw [y] at b8
        clear h0
        simp (disch := omega) only [il, nI_add, nI_mul, nI_sub, nI_div, nI_rem, nI_N, i32_lt, i32_le, nI_toInt, nI_subI, nI_clamp, zinT, zifT, iteT, iteF, zQ, zS, zkc, zI_sI, zL_sL, zI_wI, zL_wL, Nat.reduceEqDiff, Nat.reduceAdd, Nat.reduceMul, Nat.reduceLT, Nat.reduceLeDiff, reduceIte, eq_self, and_self, true_and, and_true, false_and, and_false, true_or, or_true, or_false, false_or, not_true_eq_false, not_false_eq_true, zarr, ne_eq, k3, k4, r0, c59, g1, g3, g4, ks1, ks2, a8, b8, e]
    · rw [if_neg h0]
      by_cases h40 : pN a ≤ 40 ∧ pN b ≤ 40
      · rw [if_pos h40]
        obtain ⟨M1, e1, f1, hc1⟩ := c_adv (d := d) (by omega) hE hk hc h3 hj
        rw [if_pos h40.1] at a10
        rw [if_pos h40.2] at b10
        refine ⟨M1, nI 1, ?_, ?_⟩
        · clear hE hc hk hkj ha hb f1 hc1
          simp (disch := omega) only [il, nI_add, nI_mul, nI_sub, nI_div, nI_rem, nI_N, i32_lt, i32_le, nI_toInt, nI_subI, nI_clamp, zinT, zifT, iteT, iteF, zQ, zS, zkc, zI_sI, zL_sL, zI_wI, zL_wL, Nat.reduceEqDiff, Nat.reduceAdd, Nat.reduceMul, Nat.reduceLT, Nat.reduceLeDiff, reduceIte, eq_self, and_self, true_and, and_true, false_and, and_false, true_or, or_true, or_false, false_or, not_true_eq_false, not_false_eq_true, zarr, ne_eq, k3, k4, r0, c59, g1, g3, g4, ks1, ks2, a8, b8, a10, b10, e1]
        · have I1 := f1.2.2.2.2.1
          have L1 := f1.2.2.2.1
          by_cases hbt : (tok β N (tok β N j).2.2.2).1 = 3
          · rw [nxt_t hbt]
            obtain ⟨b1, b2, b3⟩ := cTok_bad hc1 hbt
            exact ⟨f1.pg, Nat.zero_lt_one, (show 1 < 10 by decide), b2, b3, Or.inr ⟨rfl, b1⟩⟩
          · rw [nxt_f hbt]
            refine ⟨f1.pg, rfl, hkj.1, hc1, hbt, by rw [I1 6 (by omega)]; exact hD, ⟨h40.1, h40.2, fun z => h0 (Or.inl z), fun z => h0 (Or.inr z)⟩, SdOk_fr ha (I1 _ (by omega)) (fun z _ _ => by rw [L1]), SdOk_fr hb (I1 _ (by omega)) (fun z _ _ => by rw [L1]), hki, by rw [I1 g (by omega)]; exact h4, by rw [I1 g (by omega)]; exact ho, fun t ht q hq => by rw [L1]; exact ho2 t ht q hq⟩
      · rw [if_neg h40]
        obtain ⟨M', e, oo⟩ := out_refP (d := d) (x := 6) (g := g) (by omega) hE hc h3 (by omega) (by omega) hg26
        refine ⟨M', nI 0, ?_, oo⟩
        clear hE hc hk hkj oo ha hb
        by_cases ha4 : pN a ≤ 40
        · rw [if_pos ha4] at a10
          rw [if_neg (fun z => h40 ⟨ha4, z⟩)] at b10
          simp (disch := omega) only [il, nI_add, nI_mul, nI_sub, nI_div, nI_rem, nI_N, i32_lt, i32_le, nI_toInt, nI_subI, nI_clamp, zinT, zifT, iteT, iteF, zQ, zS, zkc, zI_sI, zL_sL, zI_wI, zL_wL, Nat.reduceEqDiff, Nat.reduceAdd, Nat.reduceMul, Nat.reduceLT, Nat.reduceLeDiff, reduceIte, eq_self, and_self, true_and, and_true, false_and, and_false, true_or, or_true, or_false, false_or, not_true_eq_false, not_false_eq_true, zarr, ne_eq, k3, k4, r0, c59, g1, g3, g4, ks1, ks2, a8, b8, a10, b10, e]
        · rw [if_neg ha4] at a10
          simp (disch := omega) only [il, nI_add, nI_mul, nI_sub, nI_div, nI_rem, nI_N, i32_lt, i32_le, nI_toInt, nI_subI, nI_clamp, zinT, zifT, iteT, iteF, zQ, zS, zkc, zI_sI, zL_sL, zI_wI, zL_wL, Nat.reduceEqDiff, Nat.reduceAdd, Nat.reduceMul, Nat.reduceLT, Nat.reduceLeDiff, reduceIte, eq_self, and_self, true_and, and_true, false_and, and_false, true_or, or_true, or_false, false_or, not_true_eq_false, not_false_eq_true, zarr, ne_eq, k3, k4, r0, c59, g1, g3, g4, ks1, ks2, a8, b8, a10, e]
  · rw [if_neg h59]
    have n59 : ¬ zI M 4 3 = nI 59 := by rw [c3]; exact nI_ne (by omega) (by omega) h59
    obtain ⟨M', e, oo⟩ := out_refP (d := d) (x := 2) (g := g) (by omega) hE hc h3 (by omega) (by omega) hg26
    refine ⟨M', nI 0, ?_, oo⟩
    clear hE hc hk hkj oo ha hb
    simp (disch := omega) only [il, nI_add, nI_mul, nI_sub, nI_div, nI_rem, nI_N, i32_lt, i32_le, nI_toInt, nI_subI, nI_clamp, zinT, zifT, iteT, iteF, zQ, zS, zkc, zI_sI, zL_sL, zI_wI, zL_wL, Nat.reduceEqDiff, Nat.reduceAdd, Nat.reduceMul, Nat.reduceLT, Nat.reduceLeDiff, reduceIte, eq_self, and_self, true_and, and_true, false_and, and_false, true_or, or_true, or_false, false_or, not_true_eq_false, not_false_eq_true, zarr, ne_eq, k3, k4, r0, n59, e]
