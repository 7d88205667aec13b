/-! the class chooses of two -/
theorem bu_choose_x {d k fa fb ma mb : Nat} {M : zM} (hd : 1 ≤ d) (hB : kB M) (h5 : zI M 8 5 = nI (k + 2)) (hk : k + 1 < 19) (hfa : fa ≤ 1000) (hfb : fb ≤ 1000) (hma : ma ≤ 1000) (hmb : mb ≤ 1000) (e1 : zI M 12 k = nI fa) (e2 : zI M 12 (k + 1) = nI fb) (e3 : zI M 13 k = nI ma) (e4 : zI M 13 (k + 1) = nI mb) : zV d n_Bu_chooseOfTwo [.ref 8] M = some (none, zsI (zsI (zsL (zsL (zsI M 8 5 (nI (k + 1))) 9 k (zL M 9 k ||| zL M 9 (k + 1))) 10 k (zL M 10 k ||| zL M 10 (k + 1))) 12 k (nI (min fa fb))) 13 k (nI (max ma mb))) := by
  obtain ⟨d, rfl, hd1⟩ := zdep hd
  obtain ⟨a1, a2, a3, a4, a5, a6, a7, a8, a9, a10, a11⟩ := hB
  rw [ze_Bu_chooseOfTwo]
  unfold zx_Bu_chooseOfTwo
  have hx : k + 2 - 1 = k + 1 := by omega
  have hx2 : k + 1 - 1 = k := by omega
  have c1 : (if (fb : Int) < (fa : Int) then nI fb else nI fa) = nI (min fa fb) := by
    by_cases h : fb < fa
    · rw [if_pos (by omega), Nat.min_eq_right (by omega)]
    · rw [if_neg (by omega), Nat.min_eq_left (by omega)]
  have c2 : (if (ma : Int) < (mb : Int) then nI mb else nI ma) = nI (max ma mb) := by
    by_cases h : ma < mb
    · rw [if_pos (by omega), Nat.max_eq_right (by omega)]
    · rw [if_neg (by omega), Nat.max_eq_left (by omega)]
  simp (disch := omega) only [il, nI_add, nI_mul, nI_sub, nI_div, nI_rem, nI_N, i32_lt, i32_le, nI_toInt, nI_subI, nI_clamp, zinT, zifT, iteT, iteF, zQ, zS, zkc, zI_sI, zL_sL, zI_wI, zL_wL, Nat.reduceEqDiff, Nat.reduceAdd, Nat.reduceMul, Nat.reduceLT, Nat.reduceLeDiff, reduceIte, eq_self, and_self, true_and, and_true, false_and, and_false, true_or, or_true, or_false, false_or, not_true_eq_false, not_false_eq_true, zarr, ne_eq, ↓zbm_S, ↓zbi_S, a1, a2, a3, a5, a6, a7, a8, a10, a11, h5, hx, hx2, e1, e2, e3, e4, c1, c2]
