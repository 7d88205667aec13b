/-! a sequence goes over ticks: the reference; matches, might -/
def SM (i n : Nat) (C : Nat → Nat) (M : zM) : Prop := n ≤ 40 ∧ zI M 147 (45 * i) = nI n ∧ ∀ p, p < n → C p < 40 ∧ zI M 147 (45 * i + 5 + p) = nI (C p)
abbrev mT (M : zM) (i : Nat) : Nat → Int64 := fun k => zL M 149 (203 * i + 43 + k)
abbrev mB (M : zM) (i : Nat) : Nat → Int64 := fun p => zL M 149 (203 * i + 3 + p)
theorem zsL_wL (M : zM) (a i : Nat) (f : Nat → Int64) (x : Int64) : zsL (zwL M a f) a i x = zwL M a (fun j => if j = i then x else f j) := by
  unfold zsL zwL
  congr 4
  funext c j
  unfold zu zrow
  by_cases h : c = a
  · subst h
    by_cases h2 : j = i
    · subst h2; simp
    · simp [h2]
  · simp [h]
theorem m_ful_in {d L w i n p k u t : Nat} {C : Nat → Nat} {M : zM} {tr : Nat → Nat} (hd : 1 ≤ d) (hs : zSh L w M) (hm : SM i n C M) (hi : i < 8) (ht : t ≤ 48) (htr : ∀ i, i < t → tr i < 256 ∧ zI M 155 (1 + i) = nI (tr i)) (hu : u < t) (hk : k < 2) :
    zG d n_Mo_findsFulfilling 33 [some (.ref 146), some (.int (nI p)), some (.int (nI k)), some (.int (nI i)), some (.int (nI u)), some (.long 0), none, some (.int (nI 0))] [] M = zG d n_Mo_findsFulfilling 16 [some (.ref 146), some (.int (nI p)), some (.int (nI k)), some (.int (nI i)), some (.int (nI (u + 1))), none, none, none] [] (zsL M 174 (48 * k + u) (mFul n C (mT M i) (tr u))) := by
  have hs1 := hs
  obtain ⟨hN, hK, hC, hMo, -⟩ := hs1
  obtain ⟨m1, m2, m3⟩ := hm
  obtain ⟨v1, v2⟩ := htr u hu
  have key := zloop (n := n) (g := fun q => zG d n_Mo_findsFulfilling 33 [some (.ref 146), some (.int (nI p)), some (.int (nI k)), some (.int (nI i)), some (.int (nI u)), some (.long (orU (fun p => if ful (mT M i) (C p) (tr u) = true then b1 p else 0) q)), none, some (.int (nI q))] [] M) (by
    intro q hq
    show zG d n_Mo_findsFulfilling 33 [some (.ref 146), some (.int (nI p)), some (.int (nI k)), some (.int (nI i)), some (.int (nI u)), some (.long (orU (fun p => if ful (mT M i) (C p) (tr u) = true then b1 p else 0) q)), none, some (.int (nI q))] [] M = zG d n_Mo_findsFulfilling 33 [some (.ref 146), some (.int (nI p)), some (.int (nI k)), some (.int (nI i)), some (.int (nI u)), some (.long (orU (fun p => if ful (mT M i) (C p) (tr u) = true then b1 p else 0) q ||| (if ful (mT M i) (C q) (tr u) = true then b1 q else 0))), none, some (.int (nI (q + 1)))] [] M
    rw [zg_Mo_findsFulfilling_33]
    unfold zx_Mo_findsFulfilling_33
    obtain ⟨c1, c2⟩ := m3 q hq
    have e1 := m_fulfilsOne (d := d) hd hs hi c1 v1
    unfold b1
    cases hb : ful (mT M i) (C q) (tr u)
    · rw [hb] at e1
      simp (disch := omega) only [il, nI_add, nI_mul, nI_sub, nI_div, nI_rem, nI_N, i32_lt, i32_le, nI_toInt, nI_subI, nI_clamp, zinT, zifT, iteT, iteF, zQ, zS, zkc, zI_sI, zL_sL, zI_wI, zL_wL, Nat.reduceEqDiff, Nat.reduceAdd, Nat.reduceMul, Nat.reduceLT, Nat.reduceLeDiff, reduceIte, eq_self, and_self, true_and, and_true, false_and, and_false, true_or, or_true, or_false, false_or, not_true_eq_false, not_false_eq_true, zarr, ne_eq, hK, hMo, Nat.add_zero, m2, c2, v2, e1, Bool.toNat_false, Bool.false_eq_true, z_or0]
    · rw [hb] at e1
      simp (disch := omega) only [il, nI_add, nI_mul, nI_sub, nI_div, nI_rem, nI_N, i32_lt, i32_le, nI_toInt, nI_subI, nI_clamp, zinT, zifT, iteT, iteF, zQ, zS, zkc, zI_sI, zL_sL, zI_wI, zL_wL, Nat.reduceEqDiff, Nat.reduceAdd, Nat.reduceMul, Nat.reduceLT, Nat.reduceLeDiff, reduceIte, eq_self, and_self, true_and, and_true, false_and, and_false, true_or, or_true, or_false, false_or, not_true_eq_false, not_false_eq_true, zarr, ne_eq, hK, hMo, Nat.add_zero, m2, c2, v2, e1, Bool.toNat_true])
  refine Eq.trans key ?_
  show zG d n_Mo_findsFulfilling 33 [some (.ref 146), some (.int (nI p)), some (.int (nI k)), some (.int (nI i)), some (.int (nI u)), some (.long (orU (fun p => if ful (mT M i) (C p) (tr u) = true then b1 p else 0) n)), none, some (.int (nI n))] [] M = _
  rw [zg_Mo_findsFulfilling_33]
  unfold zx_Mo_findsFulfilling_33 mFul
  simp (disch := omega) only [il, nI_add, nI_mul, nI_sub, nI_div, nI_rem, nI_N, i32_lt, i32_le, nI_toInt, nI_subI, nI_clamp, zinT, zifT, iteT, iteF, zQ, zS, zkc, zI_sI, zL_sL, zI_wI, zL_wL, Nat.reduceEqDiff, Nat.reduceAdd, Nat.reduceMul, Nat.reduceLT, Nat.reduceLeDiff, reduceIte, eq_self, and_self, true_and, and_true, false_and, and_false, true_or, or_true, or_false, false_or, not_true_eq_false, not_false_eq_true, zarr, ne_eq, hK, hMo, Nat.add_zero, m2]
theorem m_ful_mid {d L w i n p k t : Nat} {C : Nat → Nat} {M : zM} {tr : Nat → Nat} (hd : 1 ≤ d) (hs : zSh L w M) (hm : SM i n C M) (hi : i < 8) (ht : t ≤ 48) (ht0 : zI M 155 0 = nI t) (htr : ∀ i, i < t → tr i < 256 ∧ zI M 155 (1 + i) = nI (tr i)) (hk : k < 2) (f : Nat → Int64) :
    ∃ f', zG d n_Mo_findsFulfilling 16 [some (.ref 146), some (.int (nI p)), some (.int (nI k)), some (.int (nI i)), some (.int (nI 0)), none, none, none] [] (zwL M 174 f) = zG d n_Mo_findsFulfilling 2 [some (.ref 146), some (.int (nI p)), some (.int (nI (k + 1))), none, none, none, none, none] [] (zwL M 174 f') ∧ (∀ u, u < t → f' (48 * k + u) = mFul n C (mT M i) (tr u)) ∧ ∀ j, j < 48 * k → f' j = f j := by
  obtain ⟨f', e, hf1, hf2⟩ := zloopE (n := t) (g := fun u (f : Nat → Int64) => zG d n_Mo_findsFulfilling 16 [some (.ref 146), some (.int (nI p)), some (.int (nI k)), some (.int (nI i)), some (.int (nI u)), none, none, none] [] (zwL M 174 f)) (P := fun u f' => (∀ v, v < u → f' (48 * k + v) = mFul n C (mT M i) (tr v)) ∧ ∀ j, j < 48 * k → f' j = f j) (by
    intro u f1 hu ⟨a1, a2⟩
    refine ⟨fun j => if j = 48 * k + u then mFul n C (mT M i) (tr u) else f1 j, ?_, ?_, ?_⟩
    · show zG d n_Mo_findsFulfilling 16 [some (.ref 146), some (.int (nI p)), some (.int (nI k)), some (.int (nI i)), some (.int (nI u)), none, none, none] [] (zwL M 174 f1) = _
      rw [← zsL_wL]
      have e1 := m_ful_in (d := d) (w := w) (i := i) (n := n) (p := p) (k := k) (u := u) (t := t) (C := C) (M := zwL M 174 f1) (tr := tr) hd (hs.wL 174 f1) hm hi ht htr hu hk
      refine Eq.trans ?_ e1
      rw [zg_Mo_findsFulfilling_16]
      unfold zx_Mo_findsFulfilling_16
      obtain ⟨hN, hK, hC, hMo, -⟩ := hs
      simp (disch := omega) only [il, nI_add, nI_mul, nI_sub, nI_div, nI_rem, nI_N, i32_lt, i32_le, nI_toInt, nI_subI, nI_clamp, zinT, zifT, iteT, iteF, zQ, zS, zkc, zI_sI, zL_sL, zI_wI, zL_wL, Nat.reduceEqDiff, Nat.reduceAdd, Nat.reduceMul, Nat.reduceLT, Nat.reduceLeDiff, reduceIte, eq_self, and_self, true_and, and_true, false_and, and_false, true_or, or_true, or_false, false_or, not_true_eq_false, not_false_eq_true, zarr, ne_eq, hK, hMo, ht0]
    · intro v hv
      by_cases h1 : v = u
      · subst h1; simp
      · show (if 48 * k + v = 48 * k + u then _ else f1 (48 * k + v)) = _
        rw [if_neg (by omega)]
        exact a1 v (by omega)
    · intro j hj
      show (if j = 48 * k + u then _ else f1 j) = _
      rw [if_neg (by omega)]
      exact a2 j hj) (s0 := f) ⟨fun _ h => absurd h (by omega), fun _ _ => rfl⟩
  refine ⟨f', ?_, hf1, hf2⟩
  refine Eq.trans e ?_
  show zG d n_Mo_findsFulfilling 16 [some (.ref 146), some (.int (nI p)), some (.int (nI k)), some (.int (nI i)), some (.int (nI t)), none, none, none] [] (zwL M 174 f') = _
  rw [zg_Mo_findsFulfilling_16]
  unfold zx_Mo_findsFulfilling_16
  obtain ⟨hN, hK, hC, hMo, -⟩ := hs
  simp (disch := omega) only [il, nI_add, nI_mul, nI_sub, nI_div, nI_rem, nI_N, i32_lt, i32_le, nI_toInt, nI_subI, nI_clamp, zinT, zifT, iteT, iteF, zQ, zS, zkc, zI_sI, zL_sL, zI_wI, zL_wL, Nat.reduceEqDiff, Nat.reduceAdd, Nat.reduceMul, Nat.reduceLT, Nat.reduceLeDiff, reduceIte, eq_self, and_self, true_and, and_true, false_and, and_false, true_or, or_true, or_false, false_or, not_true_eq_false, not_false_eq_true, zarr, ne_eq, hK, hMo, ht0]
/-- what the ticks fulfil, of both sides -/
theorem m_findsFulfilling {d L w p t n0 n1 : Nat} {C0 C1 : Nat → Nat} {M : zM} {tr : Nat → Nat} (hd : 2 ≤ d) (hs : zSh L w M) (hp : p < 4) (hm0 : SM (2 * p) n0 C0 M) (hm1 : SM (2 * p + 1) n1 C1 M) (ht : t ≤ 48) (ht0 : zI M 155 0 = nI t) (htr : ∀ i, i < t → tr i < 256 ∧ zI M 155 (1 + i) = nI (tr i)) :
    ∃ f, zV d n_Mo_findsFulfilling [.ref 146, .int (nI p)] M = some (none, zwL M 174 f) ∧ (∀ u, u < t → f u = mFul n0 C0 (mT M (2 * p)) (tr u)) ∧ ∀ u, u < t → f (48 + u) = mFul n1 C1 (mT M (2 * p + 1)) (tr u) := by
  obtain ⟨d, rfl, hd1⟩ := zdep hd
  obtain ⟨f1, e1, g1, -⟩ := m_ful_mid (d := d) (p := p) (k := 0) hd1 hs hm0 (by omega) ht ht0 htr (by omega) (zL M 174)
  obtain ⟨f2, e2, g2, g3⟩ := m_ful_mid (d := d) (p := p) (k := 1) hd1 hs hm1 (by omega) ht ht0 htr (by omega) f1
  refine ⟨f2, ?_, ?_, ?_⟩
  · rw [ze_Mo_findsFulfilling]
    unfold zx_Mo_findsFulfilling
    simp only [il]
    rw [zg_Mo_findsFulfilling_2]
    unfold zx_Mo_findsFulfilling_2
    rw [zwL_self] at e1
    have q0 : ¬ (nI 2 ≤ nI 0) := by decide
    simp only [il, q0, if_false, zbi_S, nI_mul, nI_add, Nat.add_zero]
    rw [e1, zg_Mo_findsFulfilling_2]
    unfold zx_Mo_findsFulfilling_2
    have q1 : ¬ (nI 2 ≤ nI 1) := by decide
    simp only [il, q1, if_false, zbi_S, nI_mul, nI_add, Nat.zero_add]
    rw [e2, zg_Mo_findsFulfilling_2]
    rfl
  · intro u hu
    rw [g3 u (by omega)]
    have := g1 u hu
    rwa [Nat.mul_zero, Nat.zero_add] at this
  · intro u hu
    exact g2 u hu
theorem m_nextOf {d L w i n : Nat} {C : Nat → Nat} {M : zM} (hd : 1 ≤ d) (hs : zSh L w M) (hm : SM i n C M) (hi : i < 8) (st : Int64) : zV d n_Mo_nextOf [.ref 146, .int (nI i), .long st] M = some (some (.long (mNext n (mB M i) st)), M) := by
  obtain ⟨d, rfl, hd1⟩ := zdep hd
  obtain ⟨hN, hK, hC, hMo, -⟩ := hs
  obtain ⟨m1, m2, m3⟩ := hm
  rw [ze_Mo_nextOf]
  unfold zx_Mo_nextOf
  have key := zloop (n := n) (g := fun q => zG d n_Mo_nextOf 6 [some (.ref 146), some (.int (nI i)), some (.long st), none, some (.long (orU (fun p => if zb st p = true then mB M i p else 0) q)), none, some (.int (nI q))] [] M) (by
    intro q hq
    show zG d n_Mo_nextOf 6 [some (.ref 146), some (.int (nI i)), some (.long st), none, some (.long (orU (fun p => if zb st p = true then mB M i p else 0) q)), none, some (.int (nI q))] [] M = zG d n_Mo_nextOf 6 [some (.ref 146), some (.int (nI i)), some (.long st), none, some (.long (orU (fun p => if zb st p = true then mB M i p else 0) q ||| (if zb st q = true then mB M i q else 0))), none, some (.int (nI (q + 1)))] [] M
    rw [zg_Mo_nextOf_6]
    unfold zx_Mo_nextOf_6
    cases hb : zb st q
    · simp (disch := omega) only [il, nI_add, nI_mul, nI_sub, nI_div, nI_rem, nI_N, i32_lt, i32_le, nI_toInt, nI_subI, nI_clamp, zinT, zifT, iteT, iteF, zQ, zS, zkc, zI_sI, zL_sL, zI_wI, zL_wL, Nat.reduceEqDiff, Nat.reduceAdd, Nat.reduceMul, Nat.reduceLT, Nat.reduceLeDiff, reduceIte, eq_self, and_self, true_and, and_true, false_and, and_false, true_or, or_true, or_false, false_or, not_true_eq_false, not_false_eq_true, zarr, ne_eq, hK, hMo, Nat.add_zero, m2, t_s, hb, Bool.false_eq_true, z_or0]
    · simp (disch := omega) only [il, nI_add, nI_mul, nI_sub, nI_div, nI_rem, nI_N, i32_lt, i32_le, nI_toInt, nI_subI, nI_clamp, zinT, zifT, iteT, iteF, zQ, zS, zkc, zI_sI, zL_sL, zI_wI, zL_wL, Nat.reduceEqDiff, Nat.reduceAdd, Nat.reduceMul, Nat.reduceLT, Nat.reduceLeDiff, reduceIte, eq_self, and_self, true_and, and_true, false_and, and_false, true_or, or_true, or_false, false_or, not_true_eq_false, not_false_eq_true, zarr, ne_eq, hK, hMo, Nat.add_zero, m2, t_s, hb])
  refine Eq.trans key ?_
  show zG d n_Mo_nextOf 6 [some (.ref 146), some (.int (nI i)), some (.long st), none, some (.long (orU (fun p => if zb st p = true then mB M i p else 0) n)), none, some (.int (nI n))] [] M = _
  rw [zg_Mo_nextOf_6]
  unfold zx_Mo_nextOf_6 mNext
  simp (disch := omega) only [il, nI_add, nI_mul, nI_sub, nI_div, nI_rem, nI_N, i32_lt, i32_le, nI_toInt, nI_subI, nI_clamp, zinT, zifT, iteT, iteF, zQ, zS, zkc, zI_sI, zL_sL, zI_wI, zL_wL, Nat.reduceEqDiff, Nat.reduceAdd, Nat.reduceMul, Nat.reduceLT, Nat.reduceLeDiff, reduceIte, eq_self, and_self, true_and, and_true, false_and, and_false, true_or, or_true, or_false, false_or, not_true_eq_false, not_false_eq_true, zarr, ne_eq, hK, hMo, Nat.add_zero, m2]
theorem m_firstOf {d L w i : Nat} {M : zM} (hd : 1 ≤ d) (hs : zSh L w M) (hi : i < 8) : zV d n_Mo_firstOf [.ref 146, .int (nI i)] M = some (some (.long (zL M 149 (203 * i))), M) := by
  obtain ⟨d, rfl, hd1⟩ := zdep hd
  obtain ⟨hN, hK, hC, hMo, -⟩ := hs
  rw [ze_Mo_firstOf]
  unfold zx_Mo_firstOf
  simp (disch := omega) only [il, nI_add, nI_mul, nI_sub, nI_div, nI_rem, nI_N, i32_lt, i32_le, nI_toInt, nI_subI, nI_clamp, zinT, zifT, iteT, iteF, zQ, zS, zkc, zI_sI, zL_sL, zI_wI, zL_wL, Nat.reduceEqDiff, Nat.reduceAdd, Nat.reduceMul, Nat.reduceLT, Nat.reduceLeDiff, reduceIte, eq_self, and_self, true_and, and_true, false_and, and_false, true_or, or_true, or_false, false_or, not_true_eq_false, not_false_eq_true, zarr, ne_eq, hK, hMo, Nat.add_zero]
theorem m_isEnd {d L w i : Nat} {M : zM} (hd : 1 ≤ d) (hs : zSh L w M) (hi : i < 8) (st : Int64) : zV d n_Mo_isEnd [.ref 146, .int (nI i), .long st] M = some (some (.int (nI (if st &&& zL M 149 (203 * i + 1) = 0 then 0 else 1))), M) := by
  obtain ⟨d, rfl, hd1⟩ := zdep hd
  obtain ⟨hN, hK, hC, hMo, -⟩ := hs
  rw [ze_Mo_isEnd]
  unfold zx_Mo_isEnd
  by_cases h : st &&& zL M 149 (203 * i + 1) = 0
  · simp (disch := omega) only [il, nI_add, nI_mul, nI_sub, nI_div, nI_rem, nI_N, i32_lt, i32_le, nI_toInt, nI_subI, nI_clamp, zinT, zifT, iteT, iteF, zQ, zS, zkc, zI_sI, zL_sL, zI_wI, zL_wL, Nat.reduceEqDiff, Nat.reduceAdd, Nat.reduceMul, Nat.reduceLT, Nat.reduceLeDiff, reduceIte, eq_self, and_self, true_and, and_true, false_and, and_false, true_or, or_true, or_false, false_or, not_true_eq_false, not_false_eq_true, zarr, ne_eq, hK, hMo, t_n, h]
  · simp (disch := omega) only [il, nI_add, nI_mul, nI_sub, nI_div, nI_rem, nI_N, i32_lt, i32_le, nI_toInt, nI_subI, nI_clamp, zinT, zifT, iteT, iteF, zQ, zS, zkc, zI_sI, zL_sL, zI_wI, zL_wL, Nat.reduceEqDiff, Nat.reduceAdd, Nat.reduceMul, Nat.reduceLT, Nat.reduceLeDiff, reduceIte, eq_self, and_self, true_and, and_true, false_and, and_false, true_or, or_true, or_false, false_or, not_true_eq_false, not_false_eq_true, zarr, ne_eq, hK, hMo, t_n, h]
theorem m_canEnd {d L w i : Nat} {M : zM} (hd : 1 ≤ d) (hs : zSh L w M) (hi : i < 8) (st : Int64) : zV d n_Mo_canEnd [.ref 146, .int (nI i), .long st] M = some (some (.int (nI (if st &&& zL M 149 (203 * i + 2) = 0 then 0 else 1))), M) := by
  obtain ⟨d, rfl, hd1⟩ := zdep hd
  obtain ⟨hN, hK, hC, hMo, -⟩ := hs
  rw [ze_Mo_canEnd]
  unfold zx_Mo_canEnd
  by_cases h : st &&& zL M 149 (203 * i + 2) = 0
  · simp (disch := omega) only [il, nI_add, nI_mul, nI_sub, nI_div, nI_rem, nI_N, i32_lt, i32_le, nI_toInt, nI_subI, nI_clamp, zinT, zifT, iteT, iteF, zQ, zS, zkc, zI_sI, zL_sL, zI_wI, zL_wL, Nat.reduceEqDiff, Nat.reduceAdd, Nat.reduceMul, Nat.reduceLT, Nat.reduceLeDiff, reduceIte, eq_self, and_self, true_and, and_true, false_and, and_false, true_or, or_true, or_false, false_or, not_true_eq_false, not_false_eq_true, zarr, ne_eq, hK, hMo, t_n, h]
  · simp (disch := omega) only [il, nI_add, nI_mul, nI_sub, nI_div, nI_rem, nI_N, i32_lt, i32_le, nI_toInt, nI_subI, nI_clamp, zinT, zifT, iteT, iteF, zQ, zS, zkc, zI_sI, zL_sL, zI_wI, zL_wL, Nat.reduceEqDiff, Nat.reduceAdd, Nat.reduceMul, Nat.reduceLT, Nat.reduceLeDiff, reduceIte, eq_self, and_self, true_and, and_true, false_and, and_false, true_or, or_true, or_false, false_or, not_true_eq_false, not_false_eq_true, zarr, ne_eq, hK, hMo, t_n, h]
theorem mWalk_app {B G : Nat → Int64} {n : Nat} : ∀ (u u' : List Nat) (s : Int64), mWalk B n G (u ++ u') s = mWalk B n G u' (mWalk B n G u s)
  | [], _, _ => rfl
  | _ :: u, u', _ => mWalk_app u u' _
theorem mWalk_seg {B G : Nat → Int64} {n a b : Nat} {tr : Nat → Nat} {s : Int64} (h : a ≤ b) : mWalk B n G (seg tr a (b + 1)) s = mNext n B (mWalk B n G (seg tr a b) s &&& G (tr b)) := by
  rw [seg_snoc h, mWalk_app]
  rfl
/-- scratch of the reference may change -/
theorem Inv_scr {L : Nat} {M M' : zM} (h : Inv L M) (hN : zN M' = zN M) (hK : zK M' = zK M) (hR : zR M' = zR M) (f : ∀ b, b ≠ 146 → (b < 176 ∨ 178 < b) → zI M' b = zI M b) (g : ∀ b, (b < 174 ∨ 175 < b) → zL M' b = zL M b) (h1 : ∀ j, j ≠ 45 → j ≠ 46 → zI M' 146 j = zI M 146 j) : Inv L M' := by
  obtain ⟨w, n, t, P, tr, hs, hT, hfa, hto, htr, him, hsh, hp⟩ := h
  refine ⟨w, n, t, P, tr, zSh_fr hs hN hK hR, ?_, ?_, ?_, iTrace_fr htr (f _ (by omega) (by omega)) (f _ (by omega) (by omega)) (f _ (by omega) (by omega)), fun k hk => iImage_fr (him k hk) hk ⟨f _ (by omega) (by omega), f _ (by omega) (by omega), f _ (by omega) (by omega), fun b _ _ => f _ (by omega) (by omega)⟩, fun k hk => iSheet_fr (hsh k hk) hk ⟨f _ (by omega) (by omega), f _ (by omega) (by omega), f _ (by omega) (by omega), fun b _ _ => f _ (by omega) (by omega)⟩, iProm_fr hs.2.2.2.2.2.1 hp ⟨fun b _ _ => ⟨f _ (by omega) (by omega), g _ (by omega)⟩, by rw [f _ (by omega) (by omega)], h1 _ (by omega) (by omega), f _ (by omega) (by omega), f _ (by omega) (by omega), g _ (by omega), g _ (by omega)⟩ (Nat.le_refl _) (fun _ _ => rfl)⟩
  · unfold iTape
    rw [f 4 (by omega) (by omega), f 5 (by omega) (by omega), f 158 (by omega) (by omega), h1 13 (by omega) (by omega)]
    exact hT
  · rw [f 2 (by omega) (by omega), h1 18 (by omega) (by omega)]; exact hfa
  · rw [f 2 (by omega) (by omega), h1 51 (by omega) (by omega)]; exact ⟨hto.1, by unfold pat; rw [g 0 (by omega), g 165 (by omega)]; exact hto.2⟩
theorem SeqM_SM {A : Sq} {M : zM} {i : Nat} (h : SeqM A M i) : ∃ n C, SM i n C M ∧ ∀ w, bts w → (zL M 149 (203 * i + 2) &&& mWalk (mB M i) n (mFul n C (mT M i)) w (zL M 149 (203 * i)) ≠ 0 ↔ A.liv w) ∧ ∀ v, v < 256 → (zL M 149 (203 * i + 1) &&& (mWalk (mB M i) n (mFul n C (mT M i)) w (zL M 149 (203 * i)) &&& mFul n C (mT M i) v) ≠ 0 ↔ A.acc (w ++ [v])) := by
  obtain ⟨n, C, h1, h2, h3, -, -, -, -, h4⟩ := h
  exact ⟨n, C, ⟨h1, h2, h3⟩, h4⟩
theorem nflag {c c' : Prop} [Decidable c] [Decidable c'] (h : c ↔ c') : (if c then (0 : Nat) else 1) = (if c' then 0 else 1) := by
  by_cases h1 : c
  · rw [if_pos h1, if_pos (h.mp h1)]
  · rw [if_neg h1, if_neg (fun q => h1 (h.mpr q))]
theorem n_dflag (c : Prop) [Decidable c] : (if nI (if c then 0 else 1) = nI 0 then nI 0 else nI 1) = nI (if c then 0 else 1) := by
  by_cases h : c
  · rw [if_pos h, if_pos rfl]
  · rw [if_neg h, if_neg nI_10.2]
