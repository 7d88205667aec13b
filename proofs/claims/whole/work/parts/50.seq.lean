/-! a sequence goes over ticks: the class -/
theorem z_or0 (x : Int64) : x ||| 0 = x := by
  apply zb_ext
  intro i _
  rw [zb_or, zb_0, Bool.or_false]
theorem z_0and (x : Int64) : 0 &&& x = 0 := by
  apply zb_ext
  intro i _
  rw [zb_and, zb_0, Bool.false_and]
theorem z_andc (x y : Int64) : x &&& y = y &&& x := by
  apply zb_ext
  intro i _
  rw [zb_and, zb_and, Bool.and_comm]
theorem z_1 {x : Int64} : (x &&& 1 = 0) = (zb x 0 = false) := by
  rw [z_and1]
  cases zb x 0
  · simp
  · simp
theorem orU_stop {f : Nat → Int64} {q : Nat} : ∀ {n : Nat}, q ≤ n → (∀ k, q ≤ k → k < n → f k = 0) → orU f n = orU f q
  | 0, h, _ => by
    have : q = 0 := by omega
    rw [this]
  | n + 1, h, h2 => by
    by_cases hq : q = n + 1
    · rw [hq]
    · have e := orU_stop (f := f) (q := q) (n := n) (by omega) (fun k a b => h2 k a (by omega))
      show orU f n ||| f n = _
      rw [e, h2 n (by omega) (by omega), z_or0]
theorem se_openTo {d s c v : Nat} {M : zM} (hd : 2 ≤ d) (hs : zSeq M s) (hc : c ≤ 40) (h6 : zI M s 6 = nI c) (hv : v < 256) : zV d n_Se_openTo [.ref s, .int (nI v)] M = some (some (.long (cOpen c (zL M (s + 3)) (zL M (s + 2)) (zL M s 4) v)), M) := by
  obtain ⟨d, rfl, hd1⟩ := zdep hd
  obtain ⟨k1, k2, k3, k4, r1, r2, r3⟩ := hs
  rw [ze_Se_openTo]
  unfold zx_Se_openTo
  have key := zloop (n := c) (g := fun k => zG d n_Se_openTo 5 [some (.ref s), some (.int (nI v)), some (.long (orU (fun e => if ful (zL M (s + 3)) e v = true then zL M (s + 2) e else 0) k)), none, some (.int (nI k))] [] M) (by
    intro k hk
    show zG d n_Se_openTo 5 [some (.ref s), some (.int (nI v)), some (.long (orU (fun e => if ful (zL M (s + 3)) e v = true then zL M (s + 2) e else 0) k)), none, some (.int (nI k))] [] M = zG d n_Se_openTo 5 [some (.ref s), some (.int (nI v)), some (.long (orU (fun e => if ful (zL M (s + 3)) e v = true then zL M (s + 2) e else 0) k ||| (if ful (zL M (s + 3)) k v = true then zL M (s + 2) k else 0))), none, some (.int (nI (k + 1)))] [] M
    rw [zg_Se_openTo_5]
    unfold zx_Se_openTo_5
    have e1 := q_isFulfilled (d := d) (e := k) (by omega) k4 (by omega) (by omega) hv
    cases hb : ful (zL M (s + 3)) k v
    · rw [hb] at e1
      simp (disch := omega) only [il, nI_add, nI_mul, nI_sub, nI_div, nI_rem, nI_N, i32_lt, i32_le, nI_toInt, nI_subI, nI_clamp, zinT, zifT, iteT, iteF, zQ, zS, zkc, zI_sI, zL_sL, zI_wI, zL_wL, Nat.reduceEqDiff, Nat.reduceAdd, Nat.reduceMul, Nat.reduceLT, Nat.reduceLeDiff, reduceIte, eq_self, and_self, true_and, and_true, false_and, and_false, true_or, or_true, or_false, false_or, not_true_eq_false, not_false_eq_true, zarr, ne_eq, k1, k3, h6, r2, r3, e1, Bool.toNat_false, Bool.false_eq_true, z_or0]
    · rw [hb] at e1
      simp (disch := omega) only [il, nI_add, nI_mul, nI_sub, nI_div, nI_rem, nI_N, i32_lt, i32_le, nI_toInt, nI_subI, nI_clamp, zinT, zifT, iteT, iteF, zQ, zS, zkc, zI_sI, zL_sL, zI_wI, zL_wL, Nat.reduceEqDiff, Nat.reduceAdd, Nat.reduceMul, Nat.reduceLT, Nat.reduceLeDiff, reduceIte, eq_self, and_self, true_and, and_true, false_and, and_false, true_or, or_true, or_false, false_or, not_true_eq_false, not_false_eq_true, zarr, ne_eq, k1, k3, h6, r2, r3, e1, Bool.toNat_true])
  refine Eq.trans key ?_
  show zG d n_Se_openTo 5 [some (.ref s), some (.int (nI v)), some (.long (orU (fun e => if ful (zL M (s + 3)) e v = true then zL M (s + 2) e else 0) c)), none, some (.int (nI c))] [] M = _
  rw [zg_Se_openTo_5]
  unfold zx_Se_openTo_5 cOpen
  simp (disch := omega) only [il, nI_add, nI_mul, nI_sub, nI_div, nI_rem, nI_N, i32_lt, i32_le, nI_toInt, nI_subI, nI_clamp, zinT, zifT, iteT, iteF, zQ, zS, zkc, zI_sI, zL_sL, zI_wI, zL_wL, Nat.reduceEqDiff, Nat.reduceAdd, Nat.reduceMul, Nat.reduceLT, Nat.reduceLeDiff, reduceIte, eq_self, and_self, true_and, and_true, false_and, and_false, true_or, or_true, or_false, false_or, not_true_eq_false, not_false_eq_true, zarr, ne_eq, k1, h6]
theorem se_after_go {d s p : Nat} {M : zM} (hs : zSeq M s) (hp : p ≤ 40) (h7 : zI M s 7 = nI p) (st op : Int64) : ∀ k q (l7 : Int64), q + k = p + 1 → (∀ i, zb l7 i = zb st (q + i)) → zG d n_Se_after 9 [some (.ref s), none, none, some (.long op), none, some (.long (orU (fun q => if zb st q = true then zL M (s + 1) q else 0) q)), none, some (.long l7), none, some (.int (nI q))] [] M = some (some (.long (cTo p (zL M (s + 1)) st &&& op)), M) := by
  obtain ⟨k1, k2, k3, k4, r1, r2, r3⟩ := hs
  intro k
  induction k with
  | zero =>
    intro q l7 hq hl
    rw [zg_Se_after_9]
    unfold zx_Se_after_9 cTo
    have : q = p + 1 := by omega
    subst this
    simp (disch := omega) only [il, nI_add, nI_mul, nI_sub, nI_div, nI_rem, nI_N, i32_lt, i32_le, nI_toInt, nI_subI, nI_clamp, zinT, zifT, iteT, iteF, zQ, zS, zkc, zI_sI, zL_sL, zI_wI, zL_wL, Nat.reduceEqDiff, Nat.reduceAdd, Nat.reduceMul, Nat.reduceLT, Nat.reduceLeDiff, reduceIte, eq_self, and_self, true_and, and_true, false_and, and_false, true_or, or_true, or_false, false_or, not_true_eq_false, not_false_eq_true, zarr, ne_eq, k1, h7]
  | succ k ih =>
    intro q l7 hq hl
    rw [zg_Se_after_9]
    unfold zx_Se_after_9
    have hq2 : ¬ (nI p < nI q) := by rw [nI_L (by omega) (by omega)]; omega
    by_cases h0 : l7 = 0
    · have e : orU (fun q => if zb st q = true then zL M (s + 1) q else 0) q = cTo p (zL M (s + 1)) st := by
        unfold cTo
        refine (orU_stop (by omega) fun j a b => ?_).symm
        have := hl (j - q)
        rw [h0, zb_0, show q + (j - q) = j by omega] at this
        simp only [← this, Bool.false_eq_true, if_false]
      rw [e]
      simp (disch := omega) only [il, nI_add, nI_mul, nI_sub, nI_div, nI_rem, nI_N, i32_lt, i32_le, nI_toInt, nI_subI, nI_clamp, zinT, zifT, iteT, iteF, zQ, zS, zkc, zI_sI, zL_sL, zI_wI, zL_wL, Nat.reduceEqDiff, Nat.reduceAdd, Nat.reduceMul, Nat.reduceLT, Nat.reduceLeDiff, reduceIte, eq_self, and_self, true_and, and_true, false_and, and_false, true_or, or_true, or_false, false_or, not_true_eq_false, not_false_eq_true, zarr, ne_eq, k1, h7, t_n, h0]
    · have ih2 := ih (q + 1) ((Int64.toUInt64 l7 >>> (Int64.toUInt64 (Int32.toInt64 (nI 1)) &&& Int64.toUInt64 63)).toInt64) (by omega) (fun i => by rw [zb_ushr (by omega), hl]; congr 1; omega)
      have e0 := hl 0
      rw [Nat.add_zero] at e0
      show _ = _
      unfold orU at ih2
      cases hb : zb st q
      · rw [hb] at e0
        simp only [hb, Bool.false_eq_true, if_false, z_or0] at ih2
        simp (disch := omega) only [il, nI_add, nI_mul, nI_sub, nI_div, nI_rem, nI_N, i32_lt, i32_le, nI_toInt, nI_subI, nI_clamp, zinT, zifT, iteT, iteF, zQ, zS, zkc, zI_sI, zL_sL, zI_wI, zL_wL, Nat.reduceEqDiff, Nat.reduceAdd, Nat.reduceMul, Nat.reduceLT, Nat.reduceLeDiff, reduceIte, eq_self, and_self, true_and, and_true, false_and, and_false, true_or, or_true, or_false, false_or, not_true_eq_false, not_false_eq_true, zarr, ne_eq, k1, h7, t_n, h0, z_1, e0, ih2]
      · rw [hb] at e0
        simp only [hb, if_true] at ih2
        simp (disch := omega) only [il, nI_add, nI_mul, nI_sub, nI_div, nI_rem, nI_N, i32_lt, i32_le, nI_toInt, nI_subI, nI_clamp, zinT, zifT, iteT, iteF, zQ, zS, zkc, zI_sI, zL_sL, zI_wI, zL_wL, Nat.reduceEqDiff, Nat.reduceAdd, Nat.reduceMul, Nat.reduceLT, Nat.reduceLeDiff, reduceIte, eq_self, and_self, true_and, and_true, false_and, and_false, true_or, or_true, or_false, false_or, not_true_eq_false, not_false_eq_true, zarr, ne_eq, k1, k2, r1, h7, t_n, h0, z_1, e0, ih2, reduceCtorEq]
theorem se_after {d s p : Nat} {M : zM} (hd : 1 ≤ d) (hs : zSeq M s) (hp : p ≤ 40) (h7 : zI M s 7 = nI p) (st op : Int64) : zV d n_Se_after [.ref s, .long st, .long op] M = some (some (.long (cTo p (zL M (s + 1)) st &&& op)), M) := by
  obtain ⟨d, rfl, hd1⟩ := zdep hd
  rw [ze_Se_after]
  unfold zx_Se_after
  exact se_after_go hs hp h7 st op (p + 1) 0 st (by omega) (fun i => by rw [Nat.zero_add])
theorem seg_nil {tr : Nat → Nat} {a b : Nat} (h : b ≤ a) : seg tr a b = [] := by
  unfold seg
  rw [show b - a = 0 by omega]; rfl
theorem seg_cons {tr : Nat → Nat} {a b : Nat} (h : a < b) : seg tr a b = tr a :: seg tr (a + 1) b := by
  unfold seg
  rw [show b - a = (b - (a + 1)) + 1 by omega, List.range_succ_eq_map, List.map_cons, List.map_map]
  congr 1
  apply List.map_congr_left
  intro i _
  show tr (a + (i + 1)) = tr (a + 1 + i)
  congr 1; omega
theorem seg_snoc {tr : Nat → Nat} {a b : Nat} (h : a ≤ b) : seg tr a (b + 1) = seg tr a b ++ [tr b] := by
  unfold seg
  rw [show b + 1 - a = (b - a) + 1 by omega, List.range_succ, List.map_append]
  congr 2
  rw [List.map_singleton, show a + (b - a) = b by omega]
theorem bts_seg {tr : Nat → Nat} {a b t : Nat} (h : ∀ i, i < t → tr i < 256) (hb : b ≤ t) : bts (seg tr a b) := by
  intro v hv
  unfold seg at hv
  rw [List.mem_map] at hv
  obtain ⟨i, hi, rfl⟩ := hv
  rw [List.mem_range] at hi
  exact h _ (by omega)
theorem cTo_0 {n : Nat} {F : Nat → Int64} : cTo n F 0 = 0 := by
  unfold cTo
  rw [orU_stop (q := 0) (Nat.zero_le _) (fun k _ _ => by rw [zb_0]; rfl)]
  rfl
theorem cWalk_0 {F O : Nat → Int64} {n : Nat} : ∀ u, cWalk F n O u 0 = 0
  | [] => rfl
  | v :: u => by
    unfold cWalk
    rw [cTo_0, z_0and, cWalk_0 u]
theorem cWalk_app {F O : Nat → Int64} {n : Nat} : ∀ (u u' : List Nat) (s : Int64), cWalk F n O (u ++ u') s = cWalk F n O u' (cWalk F n O u s)
  | [], _, _ => rfl
  | _ :: u, u', _ => cWalk_app u u' _
theorem se_walk_go {d s c p t j : Nat} {M : zM} {tr : Nat → Nat} (hd : 2 ≤ d) (hs : zSeq M s) (hc : c ≤ 40) (hp : p ≤ 40) (h6 : zI M s 6 = nI c) (h7 : zI M s 7 = nI p) (hK19 : zK M 19 = (7, 2)) (hK20 : zK M 20 = (20, 48)) (hR : zR M 19 0 = some 20) (ht : t ≤ 48) (htr : ∀ i, i < t → tr i < 256 ∧ zI M 20 i = nI (tr i)) (hj : j ≤ t) :
    ∀ k i (st : Int64), i + k = j → zG d n_Se_walk 6 [some (.ref s), some (.ref 19), none, some (.int (nI j)), some (.long st), none, some (.int (nI i))] [] M = some (some (.long (cWalk (zL M (s + 1)) p (cOpen c (zL M (s + 3)) (zL M (s + 2)) (zL M s 4)) (seg tr i j) st)), M) := by
  intro k
  induction k with
  | zero =>
    intro i st hi
    rw [zg_Se_walk_6]
    unfold zx_Se_walk_6
    rw [seg_nil (by omega)]
    unfold cWalk
    simp (disch := omega) only [il, nI_add, nI_mul, nI_sub, nI_div, nI_rem, nI_N, i32_lt, i32_le, nI_toInt, nI_subI, nI_clamp, zinT, zifT, iteT, iteF, zQ, zS, zkc, zI_sI, zL_sL, zI_wI, zL_wL, Nat.reduceEqDiff, Nat.reduceAdd, Nat.reduceMul, Nat.reduceLT, Nat.reduceLeDiff, reduceIte, eq_self, and_self, true_and, and_true, false_and, and_false, true_or, or_true, or_false, false_or, not_true_eq_false, not_false_eq_true, zarr, ne_eq]
  | succ k ih =>
    intro i st hi
    rw [zg_Se_walk_6]
    unfold zx_Se_walk_6
    by_cases h0 : st = 0
    · rw [h0, cWalk_0]
      simp (disch := omega) only [il, nI_add, nI_mul, nI_sub, nI_div, nI_rem, nI_N, i32_lt, i32_le, nI_toInt, nI_subI, nI_clamp, zinT, zifT, iteT, iteF, zQ, zS, zkc, zI_sI, zL_sL, zI_wI, zL_wL, Nat.reduceEqDiff, Nat.reduceAdd, Nat.reduceMul, Nat.reduceLT, Nat.reduceLeDiff, reduceIte, eq_self, and_self, true_and, and_true, false_and, and_false, true_or, or_true, or_false, false_or, not_true_eq_false, not_false_eq_true, zarr, ne_eq, t_n]
    · obtain ⟨v1, v2⟩ := htr i (by omega)
      have e1 := se_openTo (d := d) hd hs hc h6 v1
      have e2 := se_after (d := d) (by omega) hs hp h7 st (cOpen c (zL M (s + 3)) (zL M (s + 2)) (zL M s 4) (tr i))
      have ih2 := ih (i + 1) (cTo p (zL M (s + 1)) st &&& cOpen c (zL M (s + 3)) (zL M (s + 2)) (zL M s 4) (tr i)) (by omega)
      have k1 := hs.1
      rw [seg_cons (by omega)]
      show _ = some (some (Value.long (cWalk (zL M (s + 1)) p (cOpen c (zL M (s + 3)) (zL M (s + 2)) (zL M s 4)) (seg tr (i + 1) j) (cTo p (zL M (s + 1)) st &&& cOpen c (zL M (s + 3)) (zL M (s + 2)) (zL M s 4) (tr i)))), M)
      simp (disch := omega) only [il, nI_add, nI_mul, nI_sub, nI_div, nI_rem, nI_N, i32_lt, i32_le, nI_toInt, nI_subI, nI_clamp, zinT, zifT, iteT, iteF, zQ, zS, zkc, zI_sI, zL_sL, zI_wI, zL_wL, Nat.reduceEqDiff, Nat.reduceAdd, Nat.reduceMul, Nat.reduceLT, Nat.reduceLeDiff, reduceIte, eq_self, and_self, true_and, and_true, false_and, and_false, true_or, or_true, or_false, false_or, not_true_eq_false, not_false_eq_true, zarr, ne_eq, t_n, h0, hK19, hK20, hR, v2, k1, e1, e2, ih2]
theorem se_walk {d s c p t i j : Nat} {M : zM} {tr : Nat → Nat} (hd : 3 ≤ d) (hs : zSeq M s) (hc : c ≤ 40) (hp : p ≤ 40) (h6 : zI M s 6 = nI c) (h7 : zI M s 7 = nI p) (hK19 : zK M 19 = (7, 2)) (hK20 : zK M 20 = (20, 48)) (hR : zR M 19 0 = some 20) (ht : t ≤ 48) (htr : ∀ i, i < t → tr i < 256 ∧ zI M 20 i = nI (tr i)) (hj : j ≤ t) (hij : i ≤ j) :
    zV d n_Se_walk [.ref s, .ref 19, .int (nI i), .int (nI j)] M = some (some (.long (cWalk (zL M (s + 1)) p (cOpen c (zL M (s + 3)) (zL M (s + 2)) (zL M s 4)) (seg tr i j) 1)), M) := by
  obtain ⟨d, rfl, hd1⟩ := zdep hd
  rw [ze_Se_walk]
  unfold zx_Se_walk
  exact se_walk_go hd1 hs hc hp h6 h7 hK19 hK20 hR ht htr hj (j - i) i 1 (by omega)
theorem se_hasEnded {d s : Nat} {M : zM} (hd : 1 ≤ d) (hs : zSeq M s) (st : Int64) : zV d n_Se_hasEnded [.ref s, .long st] M = some (some (.int (nI (if st &&& zL M s 3 = 0 then 0 else 1))), M) := by
  obtain ⟨d, rfl, hd1⟩ := zdep hd
  have k1 := hs.1
  rw [ze_Se_hasEnded]
  unfold zx_Se_hasEnded
  by_cases h : st &&& zL M s 3 = 0
  · simp (disch := omega) only [il, nI_add, nI_mul, nI_sub, nI_div, nI_rem, nI_N, i32_lt, i32_le, nI_toInt, nI_subI, nI_clamp, zinT, zifT, iteT, iteF, zQ, zS, zkc, zI_sI, zL_sL, zI_wI, zL_wL, Nat.reduceEqDiff, Nat.reduceAdd, Nat.reduceMul, Nat.reduceLT, Nat.reduceLeDiff, reduceIte, eq_self, and_self, true_and, and_true, false_and, and_false, true_or, or_true, or_false, false_or, not_true_eq_false, not_false_eq_true, zarr, ne_eq, k1, t_n, h]
  · simp (disch := omega) only [il, nI_add, nI_mul, nI_sub, nI_div, nI_rem, nI_N, i32_lt, i32_le, nI_toInt, nI_subI, nI_clamp, zinT, zifT, iteT, iteF, zQ, zS, zkc, zI_sI, zL_sL, zI_wI, zL_wL, Nat.reduceEqDiff, Nat.reduceAdd, Nat.reduceMul, Nat.reduceLT, Nat.reduceLeDiff, reduceIte, eq_self, and_self, true_and, and_true, false_and, and_false, true_or, or_true, or_false, false_or, not_true_eq_false, not_false_eq_true, zarr, ne_eq, k1, t_n, h]
theorem se_goesOn {d s : Nat} {M : zM} (hd : 1 ≤ d) (hs : zSeq M s) (st : Int64) : zV d n_Se_goesOn [.ref s, .long st] M = some (some (.int (nI (if st &&& zL M s 5 = 0 then 0 else 1))), M) := by
  obtain ⟨d, rfl, hd1⟩ := zdep hd
  have k1 := hs.1
  rw [ze_Se_goesOn]
  unfold zx_Se_goesOn
  by_cases h : st &&& zL M s 5 = 0
  · simp (disch := omega) only [il, nI_add, nI_mul, nI_sub, nI_div, nI_rem, nI_N, i32_lt, i32_le, nI_toInt, nI_subI, nI_clamp, zinT, zifT, iteT, iteF, zQ, zS, zkc, zI_sI, zL_sL, zI_wI, zL_wL, Nat.reduceEqDiff, Nat.reduceAdd, Nat.reduceMul, Nat.reduceLT, Nat.reduceLeDiff, reduceIte, eq_self, and_self, true_and, and_true, false_and, and_false, true_or, or_true, or_false, false_or, not_true_eq_false, not_false_eq_true, zarr, ne_eq, k1, t_n, h]
  · simp (disch := omega) only [il, nI_add, nI_mul, nI_sub, nI_div, nI_rem, nI_N, i32_lt, i32_le, nI_toInt, nI_subI, nI_clamp, zinT, zifT, iteT, iteF, zQ, zS, zkc, zI_sI, zL_sL, zI_wI, zL_wL, Nat.reduceEqDiff, Nat.reduceAdd, Nat.reduceMul, Nat.reduceLT, Nat.reduceLeDiff, reduceIte, eq_self, and_self, true_and, and_true, false_and, and_false, true_or, or_true, or_false, false_or, not_true_eq_false, not_false_eq_true, zarr, ne_eq, k1, t_n, h]
