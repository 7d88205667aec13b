/-! draw -/
theorem got_c (x : Int32) : ((Int32.toUInt32 x >>> (Int32.toUInt32 (16 : Int32) &&& Int32.toUInt32 31)).toInt32) &&& (255 : Int32) = nI (x.toBitVec.toNat / 65536 % 256) := by
  apply Int32.toBitVec_inj.mp
  apply BitVec.eq_of_toNat_eq
  rw [Int32.toBitVec_and, BitVec.toNat_and]
  have e : ((Int32.toUInt32 x >>> (Int32.toUInt32 (16 : Int32) &&& Int32.toUInt32 31)).toInt32).toBitVec = x.toBitVec >>> 16 := by
    show (x.toUInt32 >>> (16 : UInt32)).toBitVec = _
    rw [UInt32.toBitVec_shiftRight]
    rfl
  rw [e, BitVec.toNat_ushiftRight]
  show x.toBitVec.toNat >>> 16 &&& 255 = (nI (x.toBitVec.toNat / 65536 % 256)).toBitVec.toNat
  have e2 : (nI (x.toBitVec.toNat / 65536 % 256)).toBitVec.toNat = x.toBitVec.toNat / 65536 % 256 := by
    show (BitVec.ofNat 32 (x.toBitVec.toNat / 65536 % 256)).toNat = _
    rw [BitVec.toNat_ofNat]
    exact Nat.mod_eq_of_lt (by omega)
  rw [e2, Nat.shiftRight_eq_div_pow]
  exact Nat.and_two_pow_sub_one_eq_mod _ 8
theorem got_m (x : Int32) : (x >>> ((16 : Int32) &&& 31)) &&& (32767 : Int32) = nI (x.toBitVec.toNat / 65536 % 32768) := by
  apply Int32.toBitVec_inj.mp
  have e : (x >>> ((16 : Int32) &&& 31)).toBitVec = x.toBitVec.sshiftRight 16 := by
    rw [Int32.toBitVec_shiftRight]
    rfl
  rw [Int32.toBitVec_and, e]
  have e3 : x.toBitVec.sshiftRight 16 &&& (32767 : Int32).toBitVec = (x.toBitVec >>> 16) &&& 32767#32 := by
    apply BitVec.eq_of_getLsbD_eq
    intro i hi
    rw [BitVec.getLsbD_and, BitVec.getLsbD_and, BitVec.getLsbD_sshiftRight, BitVec.getLsbD_ushiftRight]
    by_cases h : i < 15
    · have h1 : decide (32 ≤ i) = false := by simp; omega
      have h2 : 16 + i < 32 := by omega
      simp only [h1, h2, Bool.not_false, Bool.true_and, if_true]
      rfl
    · have h1 : BitVec.getLsbD 32767#32 i = false := by
        have : i = 15 ∨ i = 16 ∨ i = 17 ∨ i = 18 ∨ i = 19 ∨ i = 20 ∨ i = 21 ∨ i = 22 ∨ i = 23 ∨ i = 24 ∨ i = 25 ∨ i = 26 ∨ i = 27 ∨ i = 28 ∨ i = 29 ∨ i = 30 ∨ i = 31 := by omega
        rcases this with rfl | rfl | rfl | rfl | rfl | rfl | rfl | rfl | rfl | rfl | rfl | rfl | rfl | rfl | rfl | rfl | rfl <;> decide
      have h2 : (32767 : Int32).toBitVec = 32767#32 := rfl
      rw [h2, h1, Bool.and_false, Bool.and_false]
  rw [e3]
  apply BitVec.eq_of_toNat_eq
  rw [BitVec.toNat_and, BitVec.toNat_ushiftRight, Nat.shiftRight_eq_div_pow]
  have e2 : (nI (x.toBitVec.toNat / 65536 % 32768)).toBitVec.toNat = x.toBitVec.toNat / 65536 % 32768 := by
    show (BitVec.ofNat 32 (x.toBitVec.toNat / 65536 % 32768)).toNat = _
    rw [BitVec.toNat_ofNat]
    exact Nat.mod_eq_of_lt (by omega)
  rw [e2]
  exact Nat.and_two_pow_sub_one_eq_mod _ 15
theorem nI_and {a b : Nat} : nI a &&& nI b = nI ((a % 2 ^ 32) &&& (b % 2 ^ 32)) := by
  apply Int32.toBitVec_inj.mp
  rw [Int32.toBitVec_and]
  apply BitVec.eq_of_toNat_eq
  rw [BitVec.toNat_and]
  show (BitVec.ofNat 32 a).toNat &&& (BitVec.ofNat 32 b).toNat = (BitVec.ofNat 32 _).toNat
  rw [BitVec.toNat_ofNat, BitVec.toNat_ofNat, BitVec.toNat_ofNat]
  exact (Nat.mod_eq_of_lt (Nat.and_lt_two_pow _ (Nat.mod_lt _ (by decide)))).symm
def sdn (x : Int32) : Int32 := x * 1103515245 + 12345
def gt8 (x : Int32) : Nat := x.toBitVec.toNat / 65536 % 256
def sds (x : Int32) : Nat → Int32
  | 0 => x
  | j + 1 => sdn (sdn (sds x j))
def sdv (x : Int32) (j : Nat) : Nat := gt8 (sdn (sds x j)) &&& gt8 (sdn (sdn (sds x j)))
theorem sdv_lt (x : Int32) (j : Nat) : sdv x j < 256 := Nat.and_lt_two_pow (n := 8) _ (Nat.mod_lt _ (by decide))
theorem pt_nextSeed {d : Nat} (hd : 1 ≤ d) (x : Int32) (M : zM) : zV d n_PT_nextSeed [.int x] M = some (some (.int (sdn x)), M) := by
  obtain ⟨d, rfl, hd1⟩ := zdep hd
  rw [ze_PT_nextSeed]; rfl
theorem pt_got {d : Nat} (hd : 1 ≤ d) (x : Int32) (M : zM) : zV d n_PT_got [.int x] M = some (some (.int (nI (gt8 x))), M) := by
  obtain ⟨d, rfl, hd1⟩ := zdep hd
  rw [ze_PT_got]
  unfold zx_PT_got
  rw [got_c]; rfl
theorem tr_add {d t : Nat} {M : zM} (hd : 1 ≤ d) (ha : zTra M 19) (ht : zI M 19 1 = nI t) (h : t < 48) (x : Int32) : zV d n_Tr_add [.ref 19, .int x] M = some (none, zsI (zsI M 20 t x) 19 1 (nI (t + 1))) := by
  obtain ⟨d, rfl, hd1⟩ := zdep hd
  obtain ⟨a1, a2, a3⟩ := ha
  rw [ze_Tr_add]
  unfold zx_Tr_add
  simp (disch := omega) only [il, nI_add, nI_mul, nI_sub, nI_div, nI_rem, nI_N, i32_lt, i32_le, nI_toInt, nI_subI, nI_clamp, zinT, zifT, iteT, iteF, zQ, zS, zkc, zI_sI, zL_sL, zI_wI, zL_wL, Nat.reduceEqDiff, Nat.reduceAdd, Nat.reduceMul, Nat.reduceLT, Nat.reduceLeDiff, reduceIte, eq_self, and_self, true_and, and_true, false_and, and_false, true_or, or_true, or_false, false_or, not_true_eq_false, not_false_eq_true, zarr, ne_eq, a1, a2, a3, ht]
theorem mo_gets {d L w : Nat} {M : zM} (hd : 1 ≤ d) (hs : zSh L w M) : zV d n_Mo_gets [.ref 146] M = some (some (.int (nI ((sdn (zI M 146 47)).toBitVec.toNat / 65536 % 32768))), zsI M 146 47 (sdn (zI M 146 47))) := by
  obtain ⟨d, rfl, hd1⟩ := zdep hd
  obtain ⟨hN, hK, hC, hMo, -⟩ := hs
  rw [ze_Mo_gets]
  unfold zx_Mo_gets
  simp only [hK, zQ, zS, zkc, zI_sI, zL_sL, zI_wI, zL_wL, Nat.reduceEqDiff, Nat.reduceAdd, reduceIte, eq_self, and_self, true_and, and_true, false_and, and_false, true_or, or_true, or_false, false_or, not_true_eq_false, not_false_eq_true, zne, zarr, ne_eq]
  rw [got_m]
  rfl
theorem gt8_rem (x : Int32) : nI (x.toBitVec.toNat / 65536 % 32768) - nI (x.toBitVec.toNat / 65536 % 32768) / 256 * 256 = nI (gt8 x) := by
  show nI (x.toBitVec.toNat / 65536 % 32768) - nI (x.toBitVec.toNat / 65536 % 32768) / nI 256 * nI 256 = nI (gt8 x)
  rw [nI_div (by omega) (by decide) (by decide), nI_rem (by decide)]
  unfold gt8
  congr 1
  omega
theorem gt8_and (x y : Int32) : nI (gt8 x) &&& nI (gt8 y) = nI (gt8 x &&& gt8 y) := by
  rw [nI_and]
  unfold gt8
  rw [Nat.mod_eq_of_lt (show x.toBitVec.toNat / 65536 % 256 < 2 ^ 32 by omega), Nat.mod_eq_of_lt (show y.toBitVec.toNat / 65536 % 256 < 2 ^ 32 by omega)]
theorem pt_draw_loop {d L w t n : Nat} {M : zM} (hd : 1 ≤ d) (hs : zSh L w M) (ht : zI M 19 1 = nI t) (hn : t + n ≤ 48) (x : Int32) : ∃ M', zG d n_PT_draw 35 [some (.ref 2), none, some (.int (nI n)), some (.int x), some (.int (nI 0)), none] [] M = some (some (.int (nI (t + n))), M') ∧ zN M' = zN M ∧ zK M' = zK M ∧ zR M' = zR M ∧ zL M' = zL M ∧ (∀ b, b ≠ 19 → b ≠ 20 → zI M' b = zI M b) ∧ zI M' 19 1 = nI (t + n) ∧ (∀ i, i < t → zI M' 20 i = zI M 20 i) ∧ ∀ i, i < n → zI M' 20 (t + i) = nI (sdv x i) := by
  obtain ⟨M', e, a1, a2, a3, a4, a5, a6, a7, a8⟩ := zloopE (n := n) (g := fun k M => zG d n_PT_draw 35 [some (.ref 2), none, some (.int (nI n)), some (.int (sds x k)), some (.int (nI k)), none] [] M) (P := fun k M' => zN M' = zN M ∧ zK M' = zK M ∧ zR M' = zR M ∧ zL M' = zL M ∧ (∀ b, b ≠ 19 → b ≠ 20 → zI M' b = zI M b) ∧ zI M' 19 1 = nI (t + k) ∧ (∀ i, i < t → zI M' 20 i = zI M 20 i) ∧ ∀ i, i < k → zI M' 20 (t + i) = nI (sdv x i)) (by
    intro k M' hk ⟨a1, a2, a3, a4, a5, a6, a7, a8⟩
    have hs' := zSh_fr hs a1 a2 a3
    have hT := hs'.2.2.2.2.1.2.2.1
    have hK := hs'.2.1
    have hC := hs'.2.2.1
    refine ⟨zsI (zsI M' 20 (t + k) (nI (sdv x k))) 19 1 (nI (t + k + 1)), ?_, a1, a2, a3, a4, ?_, ?_, ?_, ?_⟩
    · show zG d n_PT_draw 35 [some (.ref 2), none, some (.int (nI n)), some (.int (sds x k)), some (.int (nI k)), none] [] M' = _
      rw [zg_PT_draw_35]
      unfold zx_PT_draw_35
      rw [if_neg (nI_ge hk (by omega))]
      simp (disch := omega) only [il, nI_add, nI_mul, nI_sub, nI_div, nI_rem, nI_N, i32_lt, i32_le, nI_toInt, nI_subI, nI_clamp, zinT, zifT, iteT, iteF, zQ, zS, zkc, zI_sI, zL_sL, zI_wI, zL_wL, Nat.reduceEqDiff, Nat.reduceAdd, Nat.reduceMul, Nat.reduceLT, Nat.reduceLeDiff, reduceIte, eq_self, and_self, true_and, and_true, false_and, and_false, true_or, or_true, or_false, false_or, not_true_eq_false, not_false_eq_true, zarr, ne_eq, hK, hC, pt_nextSeed hd, pt_got hd, gt8_and, tr_add hd hT a6 (show t + k < 48 by omega)]
      rfl
    · intro b h1 h2
      rw [zI_ne h1, zI_ne h2]; exact a5 b h1 h2
    · rw [zI_sI, if_pos ⟨rfl, rfl⟩]; rfl
    · intro i hi
      rw [zI_ne (by omega), zI_sI, if_neg (by omega)]; exact a7 i hi
    · intro i hi
      rw [zI_ne (by omega), zI_sI]
      by_cases h : i = k
      · subst h; rw [if_pos ⟨rfl, rfl⟩]
      · rw [if_neg (by omega)]; exact a8 i (by omega)) (s0 := M) ⟨rfl, rfl, rfl, rfl, fun _ _ _ => rfl, ht, fun _ _ => rfl, fun _ h => absurd h (by omega)⟩
  refine ⟨M', ?_, a1, a2, a3, a4, a5, a6, a7, a8⟩
  have hs' := zSh_fr hs a1 a2 a3
  have hK := hs'.2.1
  have hC := hs'.2.2.1
  refine Eq.trans e ?_
  show zG d n_PT_draw 35 [some (.ref 2), none, some (.int (nI n)), some (.int (sds x n)), some (.int (nI n)), none] [] M' = _
  rw [zg_PT_draw_35]
  unfold zx_PT_draw_35
  simp (disch := omega) only [il, nI_add, nI_mul, nI_sub, nI_div, nI_rem, nI_N, i32_lt, i32_le, nI_toInt, nI_subI, nI_clamp, zinT, zifT, iteT, iteF, zQ, zS, zkc, zI_sI, zL_sL, zI_wI, zL_wL, Nat.reduceEqDiff, Nat.reduceAdd, Nat.reduceMul, Nat.reduceLT, Nat.reduceLeDiff, reduceIte, eq_self, and_self, true_and, and_true, false_and, and_false, true_or, or_true, or_false, false_or, not_true_eq_false, not_false_eq_true, zarr, ne_eq, hK, hC, a6]
theorem mo_draw_loop {d L w t n : Nat} {M : zM} (hd : 1 ≤ d) (hs : zSh L w M) (ht : zI M 155 0 = nI t) (hn : t + n ≤ 48) (x : Int32) (hx : zI M 146 47 = x) : ∃ M', zG d n_Mo_draw 37 [some (.ref 146), none, some (.int (nI n)), some (.int (nI 0)), none] [] M = some (some (.int (nI (t + n))), M') ∧ zN M' = zN M ∧ zK M' = zK M ∧ zR M' = zR M ∧ zL M' = zL M ∧ (∀ b, b ≠ 146 → b ≠ 155 → zI M' b = zI M b) ∧ (∀ f, f ≠ 47 → zI M' 146 f = zI M 146 f) ∧ zI M' 155 0 = nI (t + n) ∧ (∀ i, i < t → zI M' 155 (1 + i) = zI M 155 (1 + i)) ∧ ∀ i, i < n → zI M' 155 (1 + (t + i)) = nI (sdv x i) := by
  obtain ⟨M', e, a0, a1, a2, a3, a4, a5, a9, a6, a7, a8⟩ := zloopE (n := n) (g := fun k M => zG d n_Mo_draw 37 [some (.ref 146), none, some (.int (nI n)), some (.int (nI k)), none] [] M) (P := fun k M' => zI M' 146 47 = sds x k ∧ zN M' = zN M ∧ zK M' = zK M ∧ zR M' = zR M ∧ zL M' = zL M ∧ (∀ b, b ≠ 146 → b ≠ 155 → zI M' b = zI M b) ∧ (∀ f, f ≠ 47 → zI M' 146 f = zI M 146 f) ∧ zI M' 155 0 = nI (t + k) ∧ (∀ i, i < t → zI M' 155 (1 + i) = zI M 155 (1 + i)) ∧ ∀ i, i < k → zI M' 155 (1 + (t + i)) = nI (sdv x i)) (by
    intro k M' hk ⟨a0, a1, a2, a3, a4, a5, a9, a6, a7, a8⟩
    have hs' := zSh_fr hs a1 a2 a3
    have hK := hs'.2.1
    have hMo := hs'.2.2.2.1
    have g1 := mo_gets hd hs'
    have hs2 : zSh L w (zsI M' 146 47 (sdn (zI M' 146 47))) := hs'
    have g2 := mo_gets hd hs2
    have q : zI (zsI M' 146 47 (sdn (zI M' 146 47))) 146 47 = sdn (sds x k) := by rw [zI_sI, if_pos ⟨rfl, rfl⟩, a0]
    rw [q] at g2
    rw [a0] at g1 g2
    refine ⟨zsI (zsI (zsI (zsI M' 146 47 (sdn (sds x k))) 146 47 (sdn (sdn (sds x k)))) 155 (1 + (t + k)) (nI (sdv x k))) 155 0 (nI (t + k + 1)), ?_, ?_, a1, a2, a3, a4, ?_, ?_, ?_, ?_, ?_⟩
    · show zG d n_Mo_draw 37 [some (.ref 146), none, some (.int (nI n)), some (.int (nI k)), none] [] M' = _
      rw [zg_Mo_draw_37]
      unfold zx_Mo_draw_37
      rw [if_neg (nI_ge hk (by omega))]
      have z1 : ¬ (0 = 1 + (t + k)) := by omega
      have c1 := gt8_rem (sdn (sds x k))
      have c2 := gt8_rem (sdn (sdn (sds x k)))
      simp only [hK, hMo, zQ, zS, zkc, zI_sI, zL_sL, zI_wI, zL_wL, Nat.reduceEqDiff, Nat.reduceAdd, reduceIte, eq_self, and_self, true_and, and_true, false_and, and_false, true_or, or_true, or_false, false_or, not_true_eq_false, not_false_eq_true, zne, zarr, ne_eq, g1, g2, c1, c2]
      rw [il 256] at *
      simp (disch := omega) only [il, nI_add, nI_mul, nI_sub, nI_div, nI_rem, nI_N, i32_lt, i32_le, nI_toInt, nI_subI, nI_clamp, zinT, zifT, iteT, iteF, zQ, zS, zkc, zI_sI, zL_sL, zI_wI, zL_wL, Nat.reduceEqDiff, Nat.reduceAdd, Nat.reduceMul, Nat.reduceLT, Nat.reduceLeDiff, reduceIte, eq_self, and_self, true_and, and_true, false_and, and_false, true_or, or_true, or_false, false_or, not_true_eq_false, not_false_eq_true, zarr, ne_eq, hK, hMo, g1, g2, a6, gt8_and, z1]
      rfl
    · rw [zI_ne (by omega), zI_ne (by omega), zI_sI, if_pos ⟨rfl, rfl⟩]; rfl
    · intro b h1 h2
      rw [zI_ne h2, zI_ne h2, zI_ne h1, zI_ne h1]; exact a5 b h1 h2
    · intro f hf
      rw [zI_ne (by omega), zI_ne (by omega), zI_sI, if_neg (fun q => hf q.2), zI_sI, if_neg (fun q => hf q.2)]; exact a9 f hf
    · rw [zI_sI, if_pos ⟨rfl, rfl⟩]; rfl
    · intro i hi
      rw [zI_sI, if_neg (by omega), zI_sI, if_neg (by omega), zI_ne (by omega), zI_ne (by omega)]; exact a7 i hi
    · intro i hi
      rw [zI_sI, if_neg (by omega), zI_sI]
      by_cases h : i = k
      · subst h; rw [if_pos ⟨rfl, rfl⟩]
      · rw [if_neg (by omega), zI_ne (by omega), zI_ne (by omega)]; exact a8 i (by omega)) (s0 := M) ⟨hx, rfl, rfl, rfl, rfl, fun _ _ _ => rfl, fun _ _ => rfl, ht, fun _ _ => rfl, fun _ h => absurd h (by omega)⟩
  refine ⟨M', ?_, a1, a2, a3, a4, a5, a9, a6, a7, a8⟩
  have hs' := zSh_fr hs a1 a2 a3
  have hK := hs'.2.1
  have hMo := hs'.2.2.2.1
  refine Eq.trans e ?_
  show zG d n_Mo_draw 37 [some (.ref 146), none, some (.int (nI n)), some (.int (nI n)), none] [] M' = _
  rw [zg_Mo_draw_37]
  unfold zx_Mo_draw_37
  simp (disch := omega) only [il, nI_add, nI_mul, nI_sub, nI_div, nI_rem, nI_N, i32_lt, i32_le, nI_toInt, nI_subI, nI_clamp, zinT, zifT, iteT, iteF, zQ, zS, zkc, zI_sI, zL_sL, zI_wI, zL_wL, Nat.reduceEqDiff, Nat.reduceAdd, Nat.reduceMul, Nat.reduceLT, Nat.reduceLeDiff, reduceIte, eq_self, and_self, true_and, and_true, false_and, and_false, true_or, or_true, or_false, false_or, not_true_eq_false, not_false_eq_true, zarr, ne_eq, hK, hMo, a6]
theorem st_draw {d L : Nat} {M : zM} (hd : 2 ≤ d) (hi : Inv L M) (x y : Int32) : Cal d n_PT_draw n_Mo_draw L [.int x, .int y] M := by
  have hi0 := hi
  obtain ⟨w, n, t, P, tr, hs, hT, hfa, hto, htr, him, hsh, hp⟩ := hi
  obtain ⟨d, rfl, hd1⟩ := zdep hd
  have hs1 := hs
  have htr1 := htr
  obtain ⟨hN, hK, hC, hMo, hF, hw, -⟩ := hs1
  obtain ⟨t1, t2, t3, t4⟩ := htr1
  unfold Cal
  rw [ze_PT_draw]
  simp only [ze_Mo_draw]
  unfold zx_PT_draw zx_Mo_draw
  by_cases hy : 1 ≤ y.toInt ∧ y.toInt ≤ 20
  · obtain ⟨m, hm, rfl⟩ : ∃ m, m < 21 ∧ y = nI m := by
      rcases i_cases y 21 (by omega) with ⟨k, hk, e⟩ | h
      · exact ⟨k, hk, e⟩
      · omega
    rw [nI_toInt (by omega)] at hy
    by_cases hf : t + m ≤ 48
    · obtain ⟨M1, e1, a1, a2, a3, a4, a5, a6, a7, a8⟩ := pt_draw_loop hd1 hs t2 hf x
      have hsm : zSh L w (zsI M1 146 47 x) := zSh_fr hs a1 a2 a3
      have q155 : zI M1 155 = zI M 155 := a5 155 (by omega) (by omega)
      have q0 : zI M1 155 0 = nI t := by rw [q155]; exact t3
      obtain ⟨M2, e2, b1, b2, b3, b4, b5, b9, b6, b7, b8⟩ := mo_draw_loop hd1 hsm (t := t) (by rw [zI_ne (by omega)]; exact q0) hf x (by rw [zI_sI, if_pos ⟨rfl, rfl⟩])
      have hK1 : zK M1 = zKc L := a2.trans hK
      have hMo1 : zRm0 M1 := (zSh_fr hs a1 a2 a3).2.2.2.1
      have r : ∀ b, b ≠ 19 → b ≠ 20 → b ≠ 146 → b ≠ 155 → zI M2 b = zI M b := fun b h1 h2 h3 h4 => by rw [b5 b h3 h4, zI_ne h3, a5 b h1 h2]
      have r146 : ∀ f, f ≠ 47 → zI M2 146 f = zI M 146 f := fun f hf => by rw [b9 f hf, zI_sI, if_neg (fun q => hf q.2), a5 146 (by omega) (by omega)]
      have rL : zL M2 = zL M := by rw [b4]; exact a4
      refine ⟨nI (t + m), M1, M2, ?_, ?_, ?_⟩
      · simp (disch := omega) only [il, nI_add, nI_mul, nI_sub, nI_div, nI_rem, nI_N, i32_lt, i32_le, nI_toInt, nI_subI, nI_clamp, zinT, zifT, iteT, iteF, zQ, zS, zkc, zI_sI, zL_sL, zI_wI, zL_wL, Nat.reduceEqDiff, Nat.reduceAdd, Nat.reduceMul, Nat.reduceLT, Nat.reduceLeDiff, reduceIte, eq_self, and_self, true_and, and_true, false_and, and_false, true_or, or_true, or_false, false_or, not_true_eq_false, not_false_eq_true, zarr, ne_eq, hK, hC, t2, e1]
      · simp (disch := omega) only [il, nI_add, nI_mul, nI_sub, nI_div, nI_rem, nI_N, i32_lt, i32_le, nI_toInt, nI_subI, nI_clamp, zinT, zifT, iteT, iteF, zQ, zS, zkc, zI_sI, zL_sL, zI_wI, zL_wL, Nat.reduceEqDiff, Nat.reduceAdd, Nat.reduceMul, Nat.reduceLT, Nat.reduceLeDiff, reduceIte, eq_self, and_self, true_and, and_true, false_and, and_false, true_or, or_true, or_false, false_or, not_true_eq_false, not_false_eq_true, zarr, ne_eq, hK1, hMo1, q0, mo_in hd1, i64_toInt, zlit64, e2]
      · refine Inv_tr (P' := P) (t' := t + m) (tr' := fun i => if i < t then tr i else sdv x (i - t)) hs hT hfa him hsh (fun b _ _ _ _ _ _ => r b (by omega) (by omega) (by omega) (by omega)) (b1.trans a1) (b2.trans a2) (b3.trans a3) (by rw [r 2 (by omega) (by omega) (by omega) (by omega)]) ⟨by rw [r 2 (by omega) (by omega) (by omega) (by omega), r146 51 (by omega)]; exact hto.1, by unfold pat; rw [rL]; exact hto.2⟩ (r146 18 (by omega)) (r146 13 (by omega)) ?_ ?_
        · refine ⟨hf, ?_, b6, ?_⟩
          · rw [b5 19 (by omega) (by omega), zI_ne (by omega)]; exact a6
          · intro i hi2
            by_cases h : i < t
            · simp only [h, if_true]
              refine ⟨(t4 i h).1, ?_, ?_⟩
              · rw [b5 20 (by omega) (by omega), zI_ne (by omega), a7 i h]; exact (t4 i h).2.1
              · rw [b7 i h, zI_ne (by omega), q155]; exact (t4 i h).2.2
            · simp only [h, if_false]
              have e : i = t + (i - t) := by omega
              refine ⟨sdv_lt _ _, ?_, ?_⟩
              · rw [b5 20 (by omega) (by omega), zI_ne (by omega)]
                have := a8 (i - t) (by omega)
                rw [← e] at this; exact this
              · have := b8 (i - t) (by omega)
                rw [← e] at this; exact this
        · refine iProm_fr hw hp ⟨fun b _ _ => ⟨r b (by omega) (by omega) (by omega) (by omega), by rw [rL]⟩, by rw [r 2 (by omega) (by omega) (by omega) (by omega)], r146 8 (by omega), r 147 (by omega) (by omega) (by omega) (by omega), r 151 (by omega) (by omega) (by omega) (by omega), by rw [rL], by rw [rL]⟩ (by omega) (fun i hi => if_pos hi)
    · refine ⟨-3, M, M, ?_, ?_, hi0⟩
      · simp (disch := omega) only [il, nI_add, nI_mul, nI_sub, nI_div, nI_rem, nI_N, i32_lt, i32_le, nI_toInt, nI_subI, nI_clamp, zinT, zifT, iteT, iteF, zQ, zS, zkc, zI_sI, zL_sL, zI_wI, zL_wL, Nat.reduceEqDiff, Nat.reduceAdd, Nat.reduceMul, Nat.reduceLT, Nat.reduceLeDiff, reduceIte, eq_self, and_self, true_and, and_true, false_and, and_false, true_or, or_true, or_false, false_or, not_true_eq_false, not_false_eq_true, zarr, ne_eq, hK, hC, t2]
      · simp (disch := omega) only [il, nI_add, nI_mul, nI_sub, nI_div, nI_rem, nI_N, i32_lt, i32_le, nI_toInt, nI_subI, nI_clamp, zinT, zifT, iteT, iteF, zQ, zS, zkc, zI_sI, zL_sL, zI_wI, zL_wL, Nat.reduceEqDiff, Nat.reduceAdd, Nat.reduceMul, Nat.reduceLT, Nat.reduceLeDiff, reduceIte, eq_self, and_self, true_and, and_true, false_and, and_false, true_or, or_true, or_false, false_or, not_true_eq_false, not_false_eq_true, zarr, ne_eq, hK, hMo, t3, mo_in hd1, i64_toInt, zlit64]
  · refine ⟨-1, M, M, ?_, ?_, hi0⟩
    · by_cases h1 : y.toInt < 1
      · simp (disch := omega) only [il, nI_add, nI_mul, nI_sub, nI_div, nI_rem, nI_N, i32_lt, i32_le, nI_toInt, nI_subI, nI_clamp, zinT, zifT, iteT, iteF, zQ, zS, zkc, zI_sI, zL_sL, zI_wI, zL_wL, Nat.reduceEqDiff, Nat.reduceAdd, Nat.reduceMul, Nat.reduceLT, Nat.reduceLeDiff, reduceIte, eq_self, and_self, true_and, and_true, false_and, and_false, true_or, or_true, or_false, false_or, not_true_eq_false, not_false_eq_true, zarr, ne_eq, hK, hC, t2]
      · simp (disch := omega) only [il, nI_add, nI_mul, nI_sub, nI_div, nI_rem, nI_N, i32_lt, i32_le, nI_toInt, nI_subI, nI_clamp, zinT, zifT, iteT, iteF, zQ, zS, zkc, zI_sI, zL_sL, zI_wI, zL_wL, Nat.reduceEqDiff, Nat.reduceAdd, Nat.reduceMul, Nat.reduceLT, Nat.reduceLeDiff, reduceIte, eq_self, and_self, true_and, and_true, false_and, and_false, true_or, or_true, or_false, false_or, not_true_eq_false, not_false_eq_true, zarr, ne_eq, hK, hC, t2]
    · simp (disch := omega) only [il, nI_add, nI_mul, nI_sub, nI_div, nI_rem, nI_N, i32_lt, i32_le, nI_toInt, nI_subI, nI_clamp, zinT, zifT, iteT, iteF, zQ, zS, zkc, zI_sI, zL_sL, zI_wI, zL_wL, Nat.reduceEqDiff, Nat.reduceAdd, Nat.reduceMul, Nat.reduceLT, Nat.reduceLeDiff, reduceIte, eq_self, and_self, true_and, and_true, false_and, and_false, true_or, or_true, or_false, false_or, not_true_eq_false, not_false_eq_true, zarr, ne_eq, hK, hMo, t3, mo_in hd1, i64_toInt, zlit64]
