/-! the reference: a condition becomes a piece -/
theorem mo_flag0 {d : Nat} {M : zM} (hd : 1 ≤ d) : zV d n_Mo_flag [.int (nI 0)] M = some (some (.int (nI 0)), M) := by rw [mo_flag hd]; rfl
theorem mo_flag1 {d : Nat} {M : zM} (hd : 1 ≤ d) : zV d n_Mo_flag [.int (nI 1)] M = some (some (.int (nI 1)), M) := by rw [mo_flag hd]; rfl
theorem m_op154 {d L w sd c : Nat} {M : zM} (hd : 1 ≤ d) (hs : zSh L w M) (h38 : zI M 146 38 = nI sd) (hsd : sd < 8) (h39 : zI M 146 39 = nI 0) (hc : c < 40) (h1 : zI M 148 (45 * sd + 1) = nI c) : zG d n_Mo_onePlace 154 [some (.ref 146), some (.int (nI (45 * sd))), none, some (.int (nI c)), some (.int (nI 0))] [] M = some (none, zsI (zwL M 150 (fil (203 * sd + 43 + 4 * c) (zL M 150) (zL M 164) 4)) 148 (45 * sd + 1) (nI (c + 1))) := by
  obtain ⟨hN, hK, hC, hMo, -⟩ := hs
  have key := zloop (n := 4) (g := fun k => zG d n_Mo_onePlace 154 [some (.ref 146), some (.int (nI (45 * sd))), none, some (.int (nI c)), some (.int (nI k))] [] (zwL M 150 (fil (203 * sd + 43 + 4 * c) (zL M 150) (zL M 164) k))) (by
    intro k hk
    show zG d n_Mo_onePlace 154 [some (.ref 146), some (.int (nI (45 * sd))), none, some (.int (nI c)), some (.int (nI k))] [] (zwL M 150 (fil (203 * sd + 43 + 4 * c) (zL M 150) (zL M 164) k)) = zG d n_Mo_onePlace 154 [some (.ref 146), some (.int (nI (45 * sd))), none, some (.int (nI c)), some (.int (nI (k + 1)))] [] (zwL M 150 (fil (203 * sd + 43 + 4 * c) (zL M 150) (zL M 164) (k + 1)))
    rw [← zsL_fil M 150 (203 * sd + 43 + 4 * c) k (zL M 150) (zL M 164) (zL M 164 k) rfl, zg_Mo_onePlace_154]
    unfold zx_Mo_onePlace_154
    simp (disch := omega) only [il, nI_add, nI_mul, nI_sub, nI_div, nI_rem, nI_N, i32_lt, i32_le, nI_toInt, nI_subI, nI_clamp, zinT, zifT, iteT, iteF, zQ, zS, zkc, zI_sI, zL_sL, zI_wI, zL_wL, Nat.reduceEqDiff, Nat.reduceAdd, Nat.reduceMul, Nat.reduceLT, Nat.reduceLeDiff, reduceIte, eq_self, and_self, true_and, and_true, false_and, and_false, true_or, or_true, or_false, false_or, not_true_eq_false, not_false_eq_true, zarr, ne_eq, hK, hMo, h38])
  have k0 : zG d n_Mo_onePlace 154 [some (.ref 146), some (.int (nI (45 * sd))), none, some (.int (nI c)), some (.int (nI 0))] [] M = zG d n_Mo_onePlace 154 [some (.ref 146), some (.int (nI (45 * sd))), none, some (.int (nI c)), some (.int (nI 4))] [] (zwL M 150 (fil (203 * sd + 43 + 4 * c) (zL M 150) (zL M 164) 4)) := by
    have := key
    simp only [fil_0, zwL_self] at this
    exact this
  rw [k0, zg_Mo_onePlace_154]
  unfold zx_Mo_onePlace_154
  clear key k0
  simp (disch := omega) only [il, nI_add, nI_mul, nI_sub, nI_div, nI_rem, nI_N, i32_lt, i32_le, nI_toInt, nI_subI, nI_clamp, zinT, zifT, iteT, iteF, zQ, zS, zkc, zI_sI, zL_sL, zI_wI, zL_wL, Nat.reduceEqDiff, Nat.reduceAdd, Nat.reduceMul, Nat.reduceLT, Nat.reduceLeDiff, reduceIte, eq_self, and_self, true_and, and_true, false_and, and_false, true_or, or_true, or_false, false_or, not_true_eq_false, not_false_eq_true, zarr, ne_eq, hK, hMo, h39, h1, mo_flag1 hd]
def o1M (M : zM) (s : Int64) : zM := zsI (zsI (zsI (zsI (zsL (zsL M 167 0 s) 168 0 s) 169 0 (nI 0)) 170 0 (nI 1)) 171 0 (nI 1)) 172 0 (nI 1)
theorem m_op80_1 {d L w sd p c : Nat} {M : zM} (hd : 1 ≤ d) (hs : zSh L w M) (hsd : sd < 8) (h39 : zI M 146 39 = nI 1) (hc : c ≤ 40) (h1 : zI M 148 (45 * sd + 1) = nI c) : zG d n_Mo_onePlace 80 [some (.ref 146), some (.int (nI (45 * sd))), some (.int (nI p)), some (.int (nI c)), none] [.long 0, .int (nI 0), .ref 167] M = some (none, zsI (o1M M 0) 148 (45 * sd + 1) (nI c)) := by
  obtain ⟨hN, hK, hC, hMo, -⟩ := hs
  rw [zg_Mo_onePlace_80]
  unfold zx_Mo_onePlace_80 o1M
  simp (disch := omega) only [il, nI_add, nI_mul, nI_sub, nI_div, nI_rem, nI_N, i32_lt, i32_le, nI_toInt, nI_subI, nI_clamp, zinT, zifT, iteT, iteF, zQ, zS, zkc, zI_sI, zL_sL, zI_wI, zL_wL, Nat.reduceEqDiff, Nat.reduceAdd, Nat.reduceMul, Nat.reduceLT, Nat.reduceLeDiff, reduceIte, eq_self, and_self, true_and, and_true, false_and, and_false, true_or, or_true, or_false, false_or, not_true_eq_false, not_false_eq_true, zarr, ne_eq, hK, hMo, h39, h1, mo_flag0 hd, zbast, nar_z0, ↓zbm_S, Nat.add_zero]
theorem stL {M : zM} {c t n : Nat} {x : Int64} {F : zM → zO} (hc : zK M c = (23, n)) (ht : t < n) (hn : n < 1000) : (zif ((zK M c).1 = 23 ∧ zin (nI t) (zK M c).2 = true) (zbm (zsL M c (Int32.toNatClampNeg (nI t)) x) F)) = F (zsL M c t x) := by
  simp (disch := omega) only [il, nI_add, nI_mul, nI_sub, nI_div, nI_rem, nI_N, i32_lt, i32_le, nI_toInt, nI_subI, nI_clamp, zinT, zifT, iteT, iteF, zQ, zS, zkc, zI_sI, zL_sL, zI_wI, zL_wL, Nat.reduceEqDiff, Nat.reduceAdd, Nat.reduceMul, Nat.reduceLT, Nat.reduceLeDiff, reduceIte, eq_self, and_self, true_and, and_true, false_and, and_false, true_or, or_true, or_false, false_or, not_true_eq_false, not_false_eq_true, zarr, ne_eq, hc]
theorem stI {M : zM} {r c t n : Nat} {x : Int32} {F : zM → zO} (hK : zK M 146 = (11, 52)) (hr : zR M 146 r = some c) (hc : zK M c = (20, n)) (ht : t < n) (hn : n < 1000) : (zif ((zK M 146).1 = 11) (zoR (zR M 146 r) fun q => zif ((zK M q).1 = 20 ∧ zin (nI t) (zK M q).2 = true) (zbm (zsI M q (Int32.toNatClampNeg (nI t)) x) F))) = F (zsI M c t x) := by
  simp (disch := omega) only [il, nI_add, nI_mul, nI_sub, nI_div, nI_rem, nI_N, i32_lt, i32_le, nI_toInt, nI_subI, nI_clamp, zinT, zifT, iteT, iteF, zQ, zS, zkc, zI_sI, zL_sL, zI_wI, zL_wL, Nat.reduceEqDiff, Nat.reduceAdd, Nat.reduceMul, Nat.reduceLT, Nat.reduceLeDiff, reduceIte, eq_self, and_self, true_and, and_true, false_and, and_false, true_or, or_true, or_false, false_or, not_true_eq_false, not_false_eq_true, zarr, ne_eq, hK, hr, hc]
theorem cpL {M : zM} {r r' c c' n : Nat} {F : zM → zO} (hK : zK M 146 = (11, 52)) (hr : zR M 146 r = some c) (hr' : zR M 146 r' = some c') (hc : zK M c = (23, n)) (hc' : zK M c' = (23, n)) (ht : 0 < n) (hn : n < 1000) : (zif ((zK M 146).1 = 11) (zoR (zR M 146 r) fun q1 => zif ((zK M 146).1 = 11) (zoR (zR M 146 r') fun q2 => zif (((zK M q2).1 = 23 ∨ (zK M q2).1 = 25) ∧ zin (nI 0) (zK M q2).2 = true) (zif ((zK M q1).1 = 23 ∧ zin (nI 0) (zK M q1).2 = true) (zbm (zsL M q1 (Int32.toNatClampNeg (nI 0)) (zL M q2 (Int32.toNatClampNeg (nI 0)))) F))))) = F (zsL M c 0 (zL M c' 0)) := by
  simp (disch := omega) only [il, nI_add, nI_mul, nI_sub, nI_div, nI_rem, nI_N, i32_lt, i32_le, nI_toInt, nI_subI, nI_clamp, zinT, zifT, iteT, iteF, zQ, zS, zkc, zI_sI, zL_sL, zI_wI, zL_wL, Nat.reduceEqDiff, Nat.reduceAdd, Nat.reduceMul, Nat.reduceLT, Nat.reduceLeDiff, reduceIte, eq_self, and_self, true_and, and_true, false_and, and_false, true_or, or_true, or_false, false_or, not_true_eq_false, not_false_eq_true, zarr, ne_eq, hK, hr, hr', hc, hc']
theorem m_op80_0 {d L w sd p c : Nat} {M : zM} {s : Int64} (hd : 1 ≤ d) (hs : zSh L w M) (h38 : zI M 146 38 = nI sd) (hsd : sd < 8) (h39 : zI M 146 39 = nI 0) (hp : p < 40) (hc : c < 40) (h0 : zI M 148 (45 * sd) = nI p) (h1 : zI M 148 (45 * sd + 1) = nI c) : zG d n_Mo_onePlace 80 [some (.ref 146), some (.int (nI (45 * sd))), some (.int (nI p)), some (.int (nI c)), none] [.long s, .int (nI 0), .ref 167] M = some (none, zsI (zwL (zsI (zsI (o1M M s) 148 (45 * sd + 5 + p) (nI c)) 148 (45 * sd) (nI (p + 1))) 150 (fil (203 * sd + 43 + 4 * c) (zL M 150) (zL M 164) 4)) 148 (45 * sd + 1) (nI (c + 1))) := by
  obtain ⟨k0, k166, k167, k168, k169, k170, k171, k172, k173⟩ := pc_k hs
  obtain ⟨r29, r30, r31, r32, r33, r34, r35, r36⟩ := pc_r hs
  have L150 : zL (o1M M s) 150 = zL M 150 := by
    show zL (zsL (zsL M 167 0 s) 168 0 s) 150 = _
    rw [zL_ne (by omega), zL_ne (by omega)]
  have L164 : zL (o1M M s) 164 = zL M 164 := by
    show zL (zsL (zsL M 167 0 s) 168 0 s) 164 = _
    rw [zL_ne (by omega), zL_ne (by omega)]
  have I146 : zI (o1M M s) 146 = zI M 146 := by
    unfold o1M
    rw [zI_ne (by omega), zI_ne (by omega), zI_ne (by omega), zI_ne (by omega)]
    rfl
  have I148 : zI (o1M M s) 148 = zI M 148 := by
    unfold o1M
    rw [zI_ne (by omega), zI_ne (by omega), zI_ne (by omega), zI_ne (by omega)]
    rfl
  have hs6 : zSh L w (o1M M s) := zSh_fr hs rfl rfl rfl
  rw [zg_Mo_onePlace_80]
  unfold zx_Mo_onePlace_80
  refine (stL (t := 0) (x := s) k167 (by omega) (by omega)).trans ?_
  refine (cpL (M := zsL M 167 0 s) k0 r31 r30 k168 k167 (by omega) (by omega)).trans ?_
  have hz : zL (zsL M 167 0 s) 167 0 = s := by rw [zL_sL, if_pos ⟨rfl, rfl⟩]
  rw [hz]
  refine (stB (e := 0) (t := 0) (M := zsL (zsL M 167 0 s) 168 0 s) k0 r32 k169 (by omega) (by omega) (by omega)).trans ?_
  refine (stI (t := 0) (x := nI 1) (M := zsI (zsL (zsL M 167 0 s) 168 0 s) 169 0 (nI 0)) k0 r33 k170 (by omega) (by omega)).trans ?_
  refine (stI (t := 0) (x := nI 1) (M := zsI (zsI (zsL (zsL M 167 0 s) 168 0 s) 169 0 (nI 0)) 170 0 (nI 1)) k0 r34 k171 (by omega) (by omega)).trans ?_
  refine (stI (t := 0) (x := nI 1) (M := zsI (zsI (zsI (zsL (zsL M 167 0 s) 168 0 s) 169 0 (nI 0)) 170 0 (nI 1)) 171 0 (nI 1)) k0 r35 k172 (by omega) (by omega)).trans ?_
  rw [← L150, ← L164]
  rw [← I146] at h38 h39
  rw [← I148] at h0 h1
  have hM6 : zsI (zsI (zsI (zsI (zsL (zsL M 167 0 s) 168 0 s) 169 0 (nI 0)) 170 0 (nI 1)) 171 0 (nI 1)) 172 0 (nI 1) = o1M M s := rfl
  rw [hM6]
  generalize o1M M s = M6 at *
  have e := m_op154 (d := d) (sd := sd) (c := c) (M := zsI (zsI M6 148 (45 * sd + 5 + p) (nI c)) 148 (45 * sd) (nI (p + 1))) hd hs6 h38 hsd h39 hc (by simp (disch := omega) only [zL_sL, zI_sI, zS, iteF, iteT, eq_self, and_self, true_and, and_true, false_and, and_false, if_true, if_false, reduceIte, Nat.reduceEqDiff, h1])
  refine Eq.trans ?_ e
  clear e L150 L164 I146 I148 hM6 hz
  obtain ⟨hN, hK, hC, hMo, -⟩ := hs6
  simp (disch := omega) only [il, nI_add, nI_mul, nI_sub, nI_div, nI_rem, nI_N, i32_lt, i32_le, nI_toInt, nI_subI, nI_clamp, zinT, zifT, iteT, iteF, zQ, zS, zkc, zI_sI, zL_sL, zI_wI, zL_wL, Nat.reduceEqDiff, Nat.reduceAdd, Nat.reduceMul, Nat.reduceLT, Nat.reduceLeDiff, reduceIte, eq_self, and_self, true_and, and_true, false_and, and_false, true_or, or_true, or_false, false_or, not_true_eq_false, not_false_eq_true, zarr, ne_eq, hK, hMo, h39, h0, h1, ↓zbm_S, Nat.add_zero]
theorem tt_1 (m : IP) (j : Nat) (x : Pc) : tt (m ++ [(j, x)]) = tt m + pN x := by rw [tt_app]; rfl
theorem cc_1 (m : IP) (j : Nat) (x : Pc) : cc (m ++ [(j, x)]) = cc m ++ pC x := by
  rw [cc_app]
  show cc m ++ (pC x ++ []) = _
  rw [List.append_nil]
theorem q_nums {sd : Nat} {m : IP} {x : Pc} {M M' : zM} (h : ∀ y, y ∈ m → wfp y.2 ∧ qN M y.1 y.2) (hm : ∀ y, y ∈ m → ∀ b, 169 ≤ b → b ≤ 172 → zI M' b y.1 = zI M b y.1) (hw : wfp x) (hn : qN M' 0 x) : ∀ y, y ∈ m ++ [(0, x)] → wfp y.2 ∧ qN M' y.1 y.2 := by
  intro y hy
  rcases List.mem_append.mp hy with hy | hy
  · obtain ⟨w1, n1⟩ := h y hy
    have g := hm y hy
    refine ⟨w1, ?_⟩
    unfold qN
    rw [g 169 (by omega) (by omega), g 170 (by omega) (by omega), g 171 (by omega) (by omega), g 172 (by omega) (by omega)]
    exact n1
  · have : y = (0, x) := by simpa using hy
    subst this
    exact ⟨hw, hn⟩
theorem m_onePlace {d L w sd : Nat} {M : zM} {m : IP} {t : T4} (hd : 2 ≤ d) (hs : zSh L w M) (hsd : sd < 8) (h : Qst sd m M) (hm : ∀ z, z ∈ m → z.1 ≠ 0) (ht : ∀ q, q < 4 → zL M 164 q = t q) : ∃ M', zV d n_Mo_onePlace [.ref 146] M = some (none, M') ∧ fPc sd M M' ∧ zI M' 173 = zI M 173 ∧ Qst sd (m ++ [(0, coP t)]) M' := by
  obtain ⟨d, rfl, hd1⟩ := zdep hd
  have hs0 := hs
  obtain ⟨hN, hK, hC, hMo, -⟩ := hs
  obtain ⟨h38, hnum, p, c, hp, hc, i0, i1, i39, hok⟩ := h
  have tt1 : tt (m ++ [(0, coP t)]) = tt m + 1 := tt_1 m 0 (coP t)
  have cc1 : cc (m ++ [(0, coP t)]) = cc m ++ [t] := cc_1 m 0 (coP t)
  -- too long
  have over : zV (d + 1) n_Mo_onePlace [.ref 146] M = zG d n_Mo_onePlace 80 [some (.ref 146), some (.int (nI (45 * sd))), some (.int (nI p)), some (.int (nI c)), none] [.long 0, .int (nI 0), .ref 167] (zsI (zsI M 166 0 (nI p)) 146 39 (nI 1)) → ¬ tt m + 1 ≤ 40 → ∃ M', zV (d + 1) n_Mo_onePlace [.ref 146] M = some (none, M') ∧ fPc sd M M' ∧ zI M' 173 = zI M 173 ∧ Qst sd (m ++ [(0, coP t)]) M' := by
    intro e hov
    have e2 := m_op80_1 (d := d) (sd := sd) (p := p) (c := c) (M := zsI (zsI M 166 0 (nI p)) 146 39 (nI 1)) hd1 hs0 hsd rfl hc (by rw [zI_ne (by omega), zI_ne (by omega)]; exact i1)
    refine ⟨_, e.trans e2, ?_, ?_, ?_⟩
    · unfold o1M
      refine ⟨rfl, rfl, rfl, fun b h1 h2 h3 h4 h5 h6 h7 h8 => ?_, fun j hj => ?_, fun j hj => ?_, fun b h1 h2 h3 => ?_, fun _ _ => rfl⟩
      · rw [zI_ne h2, zI_ne h7, zI_ne h6, zI_ne h5, zI_ne h4]
        show zI (zsI (zsI M 166 0 (nI p)) 146 39 (nI 1)) b = _
        rw [zI_ne h1, zI_ne h3]
      · simp (disch := omega) only [zL_sL, zI_sI, zS, iteF, iteT, eq_self, and_self, true_and, and_true, false_and, and_false, if_true, if_false, reduceIte, Nat.reduceEqDiff]
      · simp (disch := omega) only [zL_sL, zI_sI, zS, iteF, iteT, eq_self, and_self, true_and, and_true, false_and, and_false, if_true, if_false, reduceIte, Nat.reduceEqDiff]
      · show zL (zsL (zsL M 167 0 0) 168 0 0) b = _
        rw [zL_ne h3, zL_ne h2]
    · unfold o1M
      rw [zI_ne (by omega), zI_ne (by omega), zI_ne (by omega), zI_ne (by omega), zI_ne (by omega)]
      show zI (zsI (zsI M 166 0 (nI p)) 146 39 (nI 1)) 173 = _
      rw [zI_ne (by omega), zI_ne (by omega)]
    · refine ⟨h38, q_nums (sd := sd) hnum (fun y hy b h1 h2 => ?_) (wf_co t) ?_, p, c, hp, hc, ?_, ?_, ?_, ?_⟩
      · have := hm y hy
        unfold o1M
        simp (disch := omega) only [zL_sL, zI_sI, zS, iteF, iteT, eq_self, and_self, true_and, and_true, false_and, and_false, if_true, if_false, reduceIte, Nat.reduceEqDiff]
      · unfold o1M
        refine ⟨?_, ?_, ?_, ?_⟩
        all_goals simp (disch := omega) only [zL_sL, zI_sI, zS, iteF, iteT, eq_self, and_self, true_and, and_true, false_and, and_false, if_true, if_false, reduceIte, Nat.reduceEqDiff]; rfl
      · unfold o1M
        simp (disch := omega) only [zL_sL, zI_sI, zS, iteF, iteT, eq_self, and_self, true_and, and_true, false_and, and_false, if_true, if_false, reduceIte, Nat.reduceEqDiff, i0]
      · unfold o1M
        simp (disch := omega) only [zL_sL, zI_sI, zS, iteF, iteT, eq_self, and_self, true_and, and_true, false_and, and_false, if_true, if_false, reduceIte, Nat.reduceEqDiff]
      · rw [tt1, if_neg hov]
        unfold o1M
        simp (disch := omega) only [zL_sL, zI_sI, zS, iteF, iteT, eq_self, and_self, true_and, and_true, false_and, and_false, if_true, if_false, reduceIte, Nat.reduceEqDiff]
      · rw [tt1]
        exact fun z => absurd z hov
  by_cases hle : tt m ≤ 40
  · rw [if_pos hle] at i39
    obtain ⟨k1, k2, k3, k4, k5, k6⟩ := hok hle
    have hcl := cc_le (m := m) (fun y hy => (hnum y hy).1)
    by_cases hp40 : p = 40
    · refine over ?_ (by omega)
      rw [ze_Mo_onePlace]
      unfold zx_Mo_onePlace
      clear hok over k3 k4 k5 k6 hnum
      simp (disch := omega) only [il, nI_add, nI_mul, nI_sub, nI_div, nI_rem, nI_N, i32_lt, i32_le, nI_toInt, nI_subI, nI_clamp, zinT, zifT, iteT, iteF, zQ, zS, zkc, zI_sI, zL_sL, zI_wI, zL_wL, Nat.reduceEqDiff, Nat.reduceAdd, Nat.reduceMul, Nat.reduceLT, Nat.reduceLeDiff, reduceIte, eq_self, and_self, true_and, and_true, false_and, and_false, true_or, or_true, or_false, false_or, not_true_eq_false, not_false_eq_true, zarr, ne_eq, hK, hMo, h38, i0, i1, i39, Nat.add_zero, ↓zbm_S, ↓zbi_S]
    · clear over
      have e2 := m_op80_0 (d := d) (sd := sd) (p := p) (c := c) (s := b1 p) (M := zsI (zsI M 166 0 (nI p)) 146 39 (nI 0)) hd1 hs0 h38 hsd rfl (by omega) (by omega) (by rw [zI_ne (by omega), zI_ne (by omega)]; exact i0) (by rw [zI_ne (by omega), zI_ne (by omega)]; exact i1)
      have ev : zV (d + 1) n_Mo_onePlace [.ref 146] M = zG d n_Mo_onePlace 80 [some (.ref 146), some (.int (nI (45 * sd))), some (.int (nI p)), some (.int (nI c)), none] [.long (b1 p), .int (nI 0), .ref 167] (zsI (zsI M 166 0 (nI p)) 146 39 (nI 0)) := by
        rw [ze_Mo_onePlace]
        unfold zx_Mo_onePlace b1
        clear hok k3 k4 k5 k6 hnum e2
        simp (disch := omega) only [il, nI_add, nI_mul, nI_sub, nI_div, nI_rem, nI_N, i32_lt, i32_le, nI_toInt, nI_subI, nI_clamp, zinT, zifT, iteT, iteF, zQ, zS, zkc, zI_sI, zL_sL, zI_wI, zL_wL, Nat.reduceEqDiff, Nat.reduceAdd, Nat.reduceMul, Nat.reduceLT, Nat.reduceLeDiff, reduceIte, eq_self, and_self, true_and, and_true, false_and, and_false, true_or, or_true, or_false, false_or, not_true_eq_false, not_false_eq_true, zarr, ne_eq, hK, hMo, h38, i0, i1, i39, Nat.add_zero, ↓zbm_S, ↓zbi_S]
      generalize hM' : zsI (zwL (zsI (zsI (o1M (zsI (zsI M 166 0 (nI p)) 146 39 (nI 0)) (b1 p)) 148 (45 * sd + 5 + p) (nI c)) 148 (45 * sd) (nI (p + 1))) 150 (fil (203 * sd + 43 + 4 * c) (zL (zsI (zsI M 166 0 (nI p)) 146 39 (nI 0)) 150) (zL (zsI (zsI M 166 0 (nI p)) 146 39 (nI 0)) 164) 4)) 148 (45 * sd + 1) (nI (c + 1)) = M' at e2
      have L150 : ∀ j, zL M' 150 j = if 203 * sd + 43 + 4 * c ≤ j ∧ j < 203 * sd + 43 + 4 * c + 4 then zL M 164 (j - (203 * sd + 43 + 4 * c)) else zL M 150 j := by
        intro j
        rw [← hM']
        show zL (zwL _ 150 (fil (203 * sd + 43 + 4 * c) (zL M 150) (zL M 164) 4)) 150 j = _
        rw [zLw_eq]
        rfl
      have Lo : ∀ b j, b ≠ 150 → ((b ≠ 167 ∧ b ≠ 168) ∨ j ≠ 0) → zL M' b j = zL M b j := by
        intro b j h1 h2
        rw [← hM']
        show zL (zwL _ 150 _) b j = _
        rw [zL_wL, if_neg h1]
        unfold o1M
        show zL (zsL (zsL M 167 0 (b1 p)) 168 0 (b1 p)) b j = _
        rw [zL_sL, if_neg (by omega), zL_sL, if_neg (by omega)]
      have L67 : zL M' 167 0 = b1 p ∧ zL M' 168 0 = b1 p := by
        rw [← hM']
        unfold o1M
        constructor
        · simp (disch := omega) only [zL_sL, zI_sI, zS, iteF, iteT, eq_self, and_self, true_and, and_true, false_and, and_false, if_true, if_false, reduceIte, Nat.reduceEqDiff, zL_wL]
        · simp (disch := omega) only [zL_sL, zI_sI, zS, iteF, iteT, eq_self, and_self, true_and, and_true, false_and, and_false, if_true, if_false, reduceIte, Nat.reduceEqDiff, zL_wL]
      have I148 : ∀ j, j ≠ 45 * sd → j ≠ 45 * sd + 1 → j ≠ 45 * sd + 5 + p → zI M' 148 j = zI M 148 j := by
        intro j h1 h2 h3
        rw [← hM']
        unfold o1M
        simp (disch := omega) only [zL_sL, zI_sI, zS, iteF, iteT, eq_self, and_self, true_and, and_true, false_and, and_false, if_true, if_false, reduceIte, Nat.reduceEqDiff]
      have I148p : zI M' 148 (45 * sd + 5 + p) = nI c := by
        rw [← hM']
        unfold o1M
        simp (disch := omega) only [zL_sL, zI_sI, zS, iteF, iteT, eq_self, and_self, true_and, and_true, false_and, and_false, if_true, if_false, reduceIte, Nat.reduceEqDiff]
      have Io : ∀ b j, b ≠ 148 → ¬ (b = 146 ∧ j = 39) → ((b ≠ 166 ∧ b ≠ 169 ∧ b ≠ 170 ∧ b ≠ 171 ∧ b ≠ 172) ∨ j ≠ 0) → zI M' b j = zI M b j := by
        intro b j h1 h2 h3
        rw [← hM']
        unfold o1M
        simp (disch := omega) only [zL_sL, zI_sI, zS, iteF, iteT, eq_self, and_self, true_and, and_true, false_and, and_false, if_true, if_false, reduceIte, Nat.reduceEqDiff]
      have I0 : zI M' 166 0 = nI p := by
        rw [← hM']
        unfold o1M
        simp (disch := omega) only [zL_sL, zI_sI, zS, iteF, iteT, eq_self, and_self, true_and, and_true, false_and, and_false, if_true, if_false, reduceIte, Nat.reduceEqDiff]
      refine ⟨M', ev.trans e2, ?_, ?_, ?_⟩
      · refine ⟨by rw [← hM']; rfl, by rw [← hM']; rfl, by rw [← hM']; rfl, fun b h1 h2 h3 h4 h5 h6 h7 h8 => funext fun j => Io b j h2 (fun z => h1 z.1) (Or.inl ⟨h3, h4, h5, h6, h7⟩), fun j hj => Io 146 j (by omega) (fun z => hj z.2) (Or.inl (by omega)), fun j hj => I148 j (by omega) (by omega) (by omega), fun b h1 h2 h3 => funext fun j => Lo b j h1 (Or.inl ⟨h2, h3⟩), fun j hj => by rw [L150, if_neg (by omega)]⟩
      · exact funext fun j => Io 173 j (by omega) (by omega) (Or.inl (by omega))
      · have hpm : p = tt m := k1
        refine ⟨(Io 146 38 (by omega) (by omega) (Or.inl (by omega))).trans h38, q_nums (sd := sd) hnum (fun y hy b h1 h2 => Io b y.1 (by omega) (by omega) (Or.inr (hm y hy))) (wf_co t) ?_, p + 1, c + 1, by omega, by omega, ?_, ?_, ?_, fun _ => ⟨?_, ?_, ?_, ?_, ?_, ?_⟩⟩
        · rw [← hM']
          unfold o1M
          refine ⟨?_, ?_, ?_, ?_⟩
          all_goals simp (disch := omega) only [zL_sL, zI_sI, zS, iteF, iteT, eq_self, and_self, true_and, and_true, false_and, and_false, if_true, if_false, reduceIte, Nat.reduceEqDiff]; rfl
        · rw [← hM']
          unfold o1M
          simp (disch := omega) only [zL_sL, zI_sI, zS, iteF, iteT, eq_self, and_self, true_and, and_true, false_and, and_false, if_true, if_false, reduceIte, Nat.reduceEqDiff]
        · rw [← hM']
          unfold o1M
          simp (disch := omega) only [zL_sL, zI_sI, zS, iteF, iteT, eq_self, and_self, true_and, and_true, false_and, and_false, if_true, if_false, reduceIte, Nat.reduceEqDiff]
        · rw [tt1, if_pos (by omega), ← hM']
          unfold o1M
          simp (disch := omega) only [zL_sL, zI_sI, zS, iteF, iteT, eq_self, and_self, true_and, and_true, false_and, and_false, if_true, if_false, reduceIte, Nat.reduceEqDiff]
        · rw [tt1]; omega
        · rw [cc1, List.length_append, ← k2]; rfl
        · intro e u he q hq
          rw [cc1] at he
          by_cases hec : e < c
          · rw [List.getElem?_append_left (by omega)] at he
            show zL M' 150 (203 * sd + 43 + (4 * e + q)) = u q
            rw [L150, if_neg (by omega)]
            exact k3 e u he q hq
          · have hlt := get_lt he
            rw [List.length_append, ← k2] at hlt
            have : e = c := by
              have : [t].length = 1 := rfl
              omega
            subst this
            rw [List.getElem?_append_right (by omega), k2, Nat.sub_self] at he
            have hu : t = u := Option.some.inj he
            subst hu
            show zL M' 150 (203 * sd + 43 + (4 * e + q)) = t q
            rw [L150, if_pos (by omega), show 203 * sd + 43 + (4 * e + q) - (203 * sd + 43 + 4 * e) = q by omega]
            exact ht q hq
        · intro r hr
          by_cases hrp : r = p
          · subst hrp
            exact ⟨c, by omega, I148p⟩
          · obtain ⟨e, he, hz⟩ := k4 r (by omega)
            exact ⟨e, by omega, by rw [I148 _ (by omega) (by omega) (by omega)]; exact hz⟩
        · intro r h1 h2
          rw [L150, if_neg (by omega)]
          exact k5 r (by omega) h2
        · have hF : ∀ q, q < 40 → zL M' 150 (203 * sd + 3 + q) = zL M 150 (203 * sd + 3 + q) := fun q hq => by rw [L150, if_neg (by omega)]
          refine Stk_app.mpr ⟨Stk_congr k6 (fun q r h1 h2 => ?_) (fun q v h1 h2 => ?_) (fun y hy => ?_), ?_, ?_, trivial⟩
          · unfold qF
            rw [hF q (by omega)]
          · obtain ⟨e, he, hz⟩ := k4 q (by omega)
            unfold qT qC
            rw [I148 _ (by omega) (by omega) (by omega), hz, nI_clamp (by omega)]
            have : ∀ v, v < 256 → ful (qTb M' sd) e v = ful (qTb M sd) e v := by
              intro v hv
              unfold ful qTb
              rw [L150, if_neg (by omega)]
            exact ⟨fun z => ⟨z.1, by rw [this v z.1]; exact z.2⟩, fun z => ⟨z.1, by rw [← this v z.1]; exact z.2⟩⟩
          · have := hm y hy
            exact ⟨Lo 167 _ (by omega) (Or.inr this), Lo 168 _ (by omega) (Or.inr this), Io 166 _ (by omega) (by omega) (Or.inr this)⟩
          · show Fr _ _ (0 + tt m) 1 (zB (zL M' 167 0)) (zB (zL M' 168 0)) (pL (coP t))
            rw [L67.1, L67.2, Nat.zero_add, ← hpm]
            refine Fr_one (fun q => by rw [b1_B (by omega)]) (fun q => by rw [b1_B (by omega)]) (fun r => ?_) (fun v => ?_)
            · unfold qF
              rw [hF p (by omega), k5 p (Nat.le_refl p) (by omega), zb_0]
              decide
            · unfold qT qC tV
              rw [I148p, nI_clamp (by omega)]
              have : ∀ v, v < 256 → ful (qTb M' sd) c v = zb (t (v / 64)) (v % 64) := by
                intro v hv
                unfold ful qTb
                rw [L150, if_pos (by omega), show 203 * sd + 43 + (4 * c + v / 64) - (203 * sd + 43 + 4 * c) = v / 64 by omega, ht _ (by omega)]
              exact ⟨fun z => ⟨z.1, by rw [← this v z.1]; exact z.2⟩, fun z => ⟨z.1, by rw [this v z.1]; exact z.2⟩⟩
          · show zI M' 166 0 = nI (0 + tt m)
            rw [I0, Nat.zero_add, ← hpm]
  · rw [if_neg hle] at i39
    refine over ?_ (by omega)
    rw [ze_Mo_onePlace]
    unfold zx_Mo_onePlace
    clear hok over hnum
    simp (disch := omega) only [il, nI_add, nI_mul, nI_sub, nI_div, nI_rem, nI_N, i32_lt, i32_le, nI_toInt, nI_subI, nI_clamp, zinT, zifT, iteT, iteF, zQ, zS, zkc, zI_sI, zL_sL, zI_wI, zL_wL, Nat.reduceEqDiff, Nat.reduceAdd, Nat.reduceMul, Nat.reduceLT, Nat.reduceLeDiff, reduceIte, eq_self, and_self, true_and, and_true, false_and, and_false, true_or, or_true, or_false, false_or, not_true_eq_false, not_false_eq_true, zarr, ne_eq, hK, hMo, h38, i0, i1, i39, Nat.add_zero, ↓zbm_S, ↓zbi_S]
