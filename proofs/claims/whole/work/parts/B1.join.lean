/-! the reference chains two pieces, chooses of two -/
theorem mo_leastN {d u v : Nat} {M : zM} (hd : 1 ≤ d) (hu : u < 2 ^ 31) (hv : v < 2 ^ 31) : zV d n_Mo_least [.int (nI u), .int (nI v)] M = some (some (.int (nI (min u v))), M) := by
  rw [mo_least hd]
  by_cases h : v ≤ u
  · rw [if_pos (by rw [nI_E hv hu]; exact h), show min u v = v by omega]
  · rw [if_neg (by rw [nI_E hv hu]; exact h), show min u v = u by omega]
theorem mo_greatestN {d u v : Nat} {M : zM} (hd : 1 ≤ d) (hu : u < 2 ^ 31) (hv : v < 2 ^ 31) : zV d n_Mo_greatest [.int (nI u), .int (nI v)] M = some (some (.int (nI (max u v))), M) := by
  rw [mo_greatest hd]
  by_cases h : u ≤ v
  · rw [if_pos (by rw [nI_E hu hv]; exact h), show max u v = v by omega]
  · rw [if_neg (by rw [nI_E hu hv]; exact h), show max u v = u by omega]
theorem mo_sum {d u v : Nat} {M : zM} (hd : 2 ≤ d) (hu : u ≤ 1000000) (hv : v ≤ 1000000) : zV d n_Mo_sum [.int (nI u), .int (nI v)] M = some (some (.int (nI (min 1000000 (u + v)))), M) := by
  obtain ⟨d, rfl, hd1⟩ := zdep hd
  rw [ze_Mo_sum]
  unfold zx_Mo_sum
  rw [nI_add, show (1000000 : Int32) = nI 1000000 from rfl, mo_leastN hd1 (by omega) (by omega), zbI_S, Nat.min_comm]
def flw (sd : Nat) (x y : Int64) (f : Nat → Int64) (n : Nat) : Nat → Int64 := fun j => if 203 * sd + 3 ≤ j ∧ j < 203 * sd + 3 + n ∧ zb x (j - (203 * sd + 3)) = true then f j ||| y else f j
theorem flw_at {sd q n : Nat} {x y : Int64} {f : Nat → Int64} (h : q < n) : flw sd x y f n (203 * sd + 3 + q) = if zb x q = true then f (203 * sd + 3 + q) ||| y else f (203 * sd + 3 + q) := by
  unfold flw
  rw [show 203 * sd + 3 + q - (203 * sd + 3) = q by omega]
  by_cases hz : zb x q = true
  · rw [if_pos ⟨by omega, by omega, hz⟩, if_pos hz]
  · rw [if_neg (fun z => hz z.2.2), if_neg hz]
theorem flw_out {sd j n : Nat} {x y : Int64} {f : Nat → Int64} (h : j < 203 * sd + 3 ∨ 203 * sd + 3 + n ≤ j) : flw sd x y f n j = f j := by
  unfold flw
  rw [if_neg (fun z => by omega)]
theorem m_follows {d L w sd : Nat} {M : zM} (hd : 1 ≤ d) (hs : zSh L w M) (h38 : zI M 146 38 = nI sd) (hsd : sd < 8) (x y : Int64) : zV d n_Mo_follows [.ref 146, .long x, .long y] M = some (none, zwL M 150 (flw sd x y (zL M 150) 40)) := by
  obtain ⟨d, rfl, hd1⟩ := zdep hd
  obtain ⟨hN, hK, hC, hMo, -⟩ := hs
  have key := zloop (n := 40) (g := fun k => zG d n_Mo_follows 3 [some (.ref 146), some (.long x), none, some (.long y), none, some (.int (nI k))] [] (zwL M 150 (flw sd x y (zL M 150) k))) (by
    intro k hk
    show zG d n_Mo_follows 3 [some (.ref 146), some (.long x), none, some (.long y), none, some (.int (nI k))] [] (zwL M 150 (flw sd x y (zL M 150) k)) = zG d n_Mo_follows 3 [some (.ref 146), some (.long x), none, some (.long y), none, some (.int (nI (k + 1)))] [] (zwL M 150 (flw sd x y (zL M 150) (k + 1)))
    cases hz : zb x k
    · have e1 : flw sd x y (zL M 150) (k + 1) = flw sd x y (zL M 150) k := by
        funext j
        by_cases hj : j = 203 * sd + 3 + k
        · subst hj
          rw [flw_at (by omega), hz, if_neg (by decide), flw_out (by omega)]
        · unfold flw
          by_cases h : 203 * sd + 3 ≤ j ∧ j < 203 * sd + 3 + k ∧ zb x (j - (203 * sd + 3)) = true
          · rw [if_pos h, if_pos ⟨h.1, by omega, h.2.2⟩]
          · rw [if_neg h, if_neg (fun z => h ⟨z.1, by omega, z.2.2⟩)]
      rw [e1, zg_Mo_follows_3]
      unfold zx_Mo_follows_3
      simp (disch := omega) only [il, nI_add, nI_mul, nI_sub, nI_div, nI_rem, nI_N, i32_lt, i32_le, nI_toInt, nI_subI, nI_clamp, zinT, zifT, iteT, iteF, zQ, zS, zkc, zI_sI, zL_sL, zI_wI, zL_wL, Nat.reduceEqDiff, Nat.reduceAdd, Nat.reduceMul, Nat.reduceLT, Nat.reduceLeDiff, reduceIte, eq_self, and_self, true_and, and_true, false_and, and_false, true_or, or_true, or_false, false_or, not_true_eq_false, not_false_eq_true, zarr, ne_eq, t_s, hz, Bool.false_eq_true]
    · have e1 : flw sd x y (zL M 150) (k + 1) = fun j => if j = 203 * sd + 3 + k then zL M 150 (203 * sd + 3 + k) ||| y else flw sd x y (zL M 150) k j := by
        funext j
        by_cases hj : j = 203 * sd + 3 + k
        · subst hj
          rw [flw_at (by omega), if_pos hz, if_pos rfl]
        · rw [if_neg hj]
          unfold flw
          by_cases h : 203 * sd + 3 ≤ j ∧ j < 203 * sd + 3 + k ∧ zb x (j - (203 * sd + 3)) = true
          · rw [if_pos h, if_pos ⟨h.1, by omega, h.2.2⟩]
          · rw [if_neg h, if_neg (fun z => h ⟨z.1, by omega, z.2.2⟩)]
      have e2 : flw sd x y (zL M 150) k (203 * sd + 3 + k) = zL M 150 (203 * sd + 3 + k) := flw_out (by omega)
      rw [e1, ← zsL_wL, zg_Mo_follows_3]
      unfold zx_Mo_follows_3
      simp (disch := omega) only [il, nI_add, nI_mul, nI_sub, nI_div, nI_rem, nI_N, i32_lt, i32_le, nI_toInt, nI_subI, nI_clamp, zinT, zifT, iteT, iteF, zQ, zS, zkc, zI_sI, zL_sL, zI_wI, zL_wL, Nat.reduceEqDiff, Nat.reduceAdd, Nat.reduceMul, Nat.reduceLT, Nat.reduceLeDiff, reduceIte, eq_self, and_self, true_and, and_true, false_and, and_false, true_or, or_true, or_false, false_or, not_true_eq_false, not_false_eq_true, zarr, ne_eq, t_s, hz, hK, hMo, h38, e2])
  have e0 : flw sd x y (zL M 150) 0 = zL M 150 := by
    funext j
    exact flw_out (by omega)
  have k0 : zG d n_Mo_follows 3 [some (.ref 146), some (.long x), none, some (.long y), none, some (.int (nI 0))] [] M = zG d n_Mo_follows 3 [some (.ref 146), some (.long x), none, some (.long y), none, some (.int (nI 40))] [] (zwL M 150 (flw sd x y (zL M 150) 40)) := by
    have := key
    simp only [e0, zwL_self] at this
    exact this
  rw [ze_Mo_follows]
  unfold zx_Mo_follows
  refine Eq.trans k0 ?_
  rw [zg_Mo_follows_3]
  unfold zx_Mo_follows_3
  rfl
theorem stC {M : zM} {c t n e : Nat} {F : zM → zO} (hc : zK M c = (21, n)) (ht : t < n) (hn : n < 1000) (he2 : e < 2) : zbast M c (nI t) (nI e) F = F (zsI M c t (nI e)) := by
  have : e = 0 ∨ e = 1 := by omega
  rcases this with rfl | rfl
  · simp (disch := omega) only [il, nI_add, nI_mul, nI_sub, nI_div, nI_rem, nI_N, i32_lt, i32_le, nI_toInt, nI_subI, nI_clamp, zinT, zifT, iteT, iteF, zQ, zS, zkc, zI_sI, zL_sL, zI_wI, zL_wL, Nat.reduceEqDiff, Nat.reduceAdd, Nat.reduceMul, Nat.reduceLT, Nat.reduceLeDiff, reduceIte, eq_self, and_self, true_and, and_true, false_and, and_false, true_or, or_true, or_false, false_or, not_true_eq_false, not_false_eq_true, zarr, ne_eq, hc, zbast, nar_z0]
  · simp (disch := omega) only [il, nI_add, nI_mul, nI_sub, nI_div, nI_rem, nI_N, i32_lt, i32_le, nI_toInt, nI_subI, nI_clamp, zinT, zifT, iteT, iteF, zQ, zS, zkc, zI_sI, zL_sL, zI_wI, zL_wL, Nat.reduceEqDiff, Nat.reduceAdd, Nat.reduceMul, Nat.reduceLT, Nat.reduceLeDiff, reduceIte, eq_self, and_self, true_and, and_true, false_and, and_false, true_or, or_true, or_false, false_or, not_true_eq_false, not_false_eq_true, zarr, ne_eq, hc, zbast, nar_z1]
theorem smI {M : zM} {d y r c a b n v : Nat} {F : zM → zO} (hK : zK M 146 = (11, 52)) (hr : zR M 146 r = some c) (hc : zK M c = (20, n)) (ha : a < n) (hb : b < n) (hn : n < 1000) (he : zV d y [.int (zI M c a), .int (zI M c b)] M = some (some (.int (nI v)), M)) : (zif ((zK M 146).1 = 11) (zoR (zR M 146 r) fun q1 => zif ((zK M 146).1 = 11) (zoR (zR M 146 r) fun q2 => zif (((zK M q2).1 = 20 ∨ (zK M q2).1 = 24) ∧ zin (nI a) (zK M q2).2 = true) (zif ((zK M 146).1 = 11) (zoR (zR M 146 r) fun q3 => zif (((zK M q3).1 = 20 ∨ (zK M q3).1 = 24) ∧ zin (nI b) (zK M q3).2 = true) (zbI (zV d y [.int (zI M q2 (Int32.toNatClampNeg (nI a))), .int (zI M q3 (Int32.toNatClampNeg (nI b)))] M) fun u1 M2 => zif ((zK M2 q1).1 = 20 ∧ zin (nI a) (zK M2 q1).2 = true) (zbm (zsI M2 q1 (Int32.toNatClampNeg (nI a)) u1) F))))))) = F (zsI M c a (nI v)) := by
  simp (disch := omega) only [il, nI_add, nI_mul, nI_sub, nI_div, nI_rem, nI_N, i32_lt, i32_le, nI_toInt, nI_subI, nI_clamp, zinT, zifT, iteT, iteF, zQ, zS, zkc, zI_sI, zL_sL, zI_wI, zL_wL, Nat.reduceEqDiff, Nat.reduceAdd, Nat.reduceMul, Nat.reduceLT, Nat.reduceLeDiff, reduceIte, eq_self, and_self, true_and, and_true, false_and, and_false, true_or, or_true, or_false, false_or, not_true_eq_false, not_false_eq_true, zarr, ne_eq, hK, hr, hc, he]
/-- the rows of the pieces -/
theorem pc_k {L w : Nat} {M : zM} (hs : zSh L w M) : zK M 146 = (11, 52) ∧ zK M 166 = (20, 21) ∧ zK M 167 = (23, 21) ∧ zK M 168 = (23, 21) ∧ zK M 169 = (21, 21) ∧ zK M 170 = (20, 21) ∧ zK M 171 = (20, 21) ∧ zK M 172 = (20, 21) ∧ zK M 173 = (21, 21) := by
  rw [hs.2.1]
  exact ⟨rfl, rfl, rfl, rfl, rfl, rfl, rfl, rfl, rfl⟩
theorem pc_r {L w : Nat} {M : zM} (hs : zSh L w M) : zR M 146 29 = some 166 ∧ zR M 146 30 = some 167 ∧ zR M 146 31 = some 168 ∧ zR M 146 32 = some 169 ∧ zR M 146 33 = some 170 ∧ zR M 146 34 = some 171 ∧ zR M 146 35 = some 172 ∧ zR M 146 36 = some 173 := by
  obtain ⟨hN, hK, hC, hMo, -⟩ := hs
  exact ⟨by simp only [hMo], by simp only [hMo], by simp only [hMo], by simp only [hMo], by simp only [hMo], by simp only [hMo], by simp only [hMo], by simp only [hMo]⟩
theorem m_ch120 {d L w a b e u1 v1 u2 v2 u3 v3 : Nat} {M : zM} (hd : 2 ≤ d) (hs : zSh L w M) (ha : a < 21) (hb : b < 21) (hab : b ≠ a) (he : e < 2) (l1 : u1 ≤ 1000000) (l2 : v1 ≤ 1000000) (l3 : u2 ≤ 1000000) (l4 : v2 ≤ 1000000) (l5 : u3 ≤ 1000000) (l6 : v3 ≤ 1000000) (h1 : zI M 170 a = nI u1) (h2 : zI M 170 b = nI v1) (h3 : zI M 171 a = nI u2) (h4 : zI M 171 b = nI v2) (h5 : zI M 172 a = nI u3) (h6 : zI M 172 b = nI v3) : zG d n_Mo_chains 120 [some (.ref 146), some (.int (nI a)), some (.int (nI b))] [.int (nI e), .int (nI a), .ref 169] M = some (none, zsI (zsI (zsI (zsI M 169 a (nI e)) 170 a (nI (min 1000000 (u1 + v1)))) 171 a (nI (min 1000000 (u2 + v2)))) 172 a (nI (min 1000000 (u3 + v3)))) := by
  obtain ⟨k0, -, -, -, k169, k170, k171, k172, -⟩ := pc_k hs
  obtain ⟨-, -, -, -, r33, r34, r35, -⟩ := pc_r hs
  rw [zg_Mo_chains_120]
  unfold zx_Mo_chains_120
  refine (stC k169 ha (by omega) he).trans ?_
  refine (smI (M := zsI M 169 a (nI e)) (v := min 1000000 (u1 + v1)) k0 r33 k170 ha hb (by omega) (by rw [zI_ne (by omega), h1, h2]; exact mo_sum hd l1 l2)).trans ?_
  refine (smI (M := zsI (zsI M 169 a (nI e)) 170 a (nI (min 1000000 (u1 + v1)))) (v := min 1000000 (u2 + v2)) k0 r34 k171 ha hb (by omega) (by rw [zI_ne (by omega), zI_ne (by omega), h3, h4]; exact mo_sum hd l3 l4)).trans ?_
  exact smI (M := zsI (zsI (zsI M 169 a (nI e)) 170 a (nI (min 1000000 (u1 + v1)))) 171 a (nI (min 1000000 (u2 + v2)))) (v := min 1000000 (u3 + v3)) k0 r35 k172 ha hb (by omega) (by rw [zI_ne (by omega), zI_ne (by omega), zI_ne (by omega), h5, h6]; exact mo_sum hd l5 l6)
theorem m_ch58 {d L w a b ca cb : Nat} {M : zM} {s0 s1 : Int64} (hs : zSh L w M) (ha : a < 21) (hb : b < 21) (hab : b ≠ a) (hca : ca < 2) (hcb : cb < 2) (h1 : zI M 169 a = nI ca) (h2 : zI M 169 b = nI cb) : zG d n_Mo_chains 58 [some (.ref 146), some (.int (nI a)), some (.int (nI b))] [.long s0, .long s1, .int (nI a), .ref 167] M = zG d n_Mo_chains 120 [some (.ref 146), some (.int (nI a)), some (.int (nI b))] [.int (nI (if ca = 1 ∧ cb = 1 then 1 else 0)), .int (nI a), .ref 169] (zsL (zsL M 167 a (s1 ||| s0)) 168 a (zL M 168 b ||| (if cb = 1 then zL M 168 a else 0))) := by
  obtain ⟨hN, hK, hC, hMo, -⟩ := hs
  rw [zg_Mo_chains_58]
  unfold zx_Mo_chains_58
  have ea : ca = 0 ∨ ca = 1 := by omega
  have eb : cb = 0 ∨ cb = 1 := by omega
  rcases ea with rfl | rfl <;> rcases eb with rfl | rfl <;> (simp (disch := omega) only [il, nI_add, nI_mul, nI_sub, nI_div, nI_rem, nI_N, i32_lt, i32_le, nI_toInt, nI_subI, nI_clamp, zinT, zifT, iteT, iteF, zQ, zS, zkc, zI_sI, zL_sL, zI_wI, zL_wL, Nat.reduceEqDiff, Nat.reduceAdd, Nat.reduceMul, Nat.reduceLT, Nat.reduceLeDiff, reduceIte, eq_self, and_self, true_and, and_true, false_and, and_false, true_or, or_true, or_false, false_or, not_true_eq_false, not_false_eq_true, zarr, ne_eq, hK, hMo, h1, h2, ↓zbm_S])
def chM (M : zM) (sd a b ca cb n1 n2 n3 : Nat) : zM := zsI (zsI (zsI (zsI (zsL (zsL (zwL M 150 (flw sd (zL M 168 a) (zL M 167 b) (zL M 150) 40)) 167 a (zL M 167 a ||| (if ca = 1 then zL M 167 b else 0))) 168 a (zL M 168 b ||| (if cb = 1 then zL M 168 a else 0))) 169 a (nI (if ca = 1 ∧ cb = 1 then 1 else 0))) 170 a (nI n1)) 171 a (nI n2)) 172 a (nI n3)
theorem m_chains_x {d L w sd a b ca cb u1 v1 u2 v2 u3 v3 : Nat} {M : zM} (hd : 3 ≤ d) (hs : zSh L w M) (h38 : zI M 146 38 = nI sd) (hsd : sd < 8) (ha : a < 21) (hb : b < 21) (hab : b ≠ a) (h173 : zI M 173 a = nI 1) (hca : ca < 2) (hcb : cb < 2) (l1 : u1 ≤ 1000000) (l2 : v1 ≤ 1000000) (l3 : u2 ≤ 1000000) (l4 : v2 ≤ 1000000) (l5 : u3 ≤ 1000000) (l6 : v3 ≤ 1000000) (e1 : zI M 169 a = nI ca) (e2 : zI M 169 b = nI cb) (h1 : zI M 170 a = nI u1) (h2 : zI M 170 b = nI v1) (h3 : zI M 171 a = nI u2) (h4 : zI M 171 b = nI v2) (h5 : zI M 172 a = nI u3) (h6 : zI M 172 b = nI v3) : zV d n_Mo_chains [.ref 146, .int (nI a), .int (nI b)] M = some (none, chM M sd a b ca cb (min 1000000 (u1 + v1)) (min 1000000 (u2 + v2)) (min 1000000 (u3 + v3))) := by
  obtain ⟨d, rfl, hd1⟩ := zdep hd
  have hs0 := hs
  obtain ⟨hN, hK, hC, hMo, -⟩ := hs
  have ef := m_follows (d := d) (by omega) hs0 h38 hsd (zL M 168 a) (zL M 167 b)
  have e58 : zV (d + 1) n_Mo_chains [.ref 146, .int (nI a), .int (nI b)] M = zG d n_Mo_chains 58 [some (.ref 146), some (.int (nI a)), some (.int (nI b))] [.long (if ca = 1 then zL M 167 b else 0), .long (zL M 167 a), .int (nI a), .ref 167] (zwL M 150 (flw sd (zL M 168 a) (zL M 167 b) (zL M 150) 40)) := by
    rw [ze_Mo_chains]
    unfold zx_Mo_chains
    have ea : ca = 0 ∨ ca = 1 := by omega
    rcases ea with rfl | rfl
    · simp (disch := omega) only [il, nI_add, nI_mul, nI_sub, nI_div, nI_rem, nI_N, i32_lt, i32_le, nI_toInt, nI_subI, nI_clamp, zinT, zifT, iteT, iteF, zQ, zS, zkc, zI_sI, zL_sL, zI_wI, zL_wL, Nat.reduceEqDiff, Nat.reduceAdd, Nat.reduceMul, Nat.reduceLT, Nat.reduceLeDiff, reduceIte, eq_self, and_self, true_and, and_true, false_and, and_false, true_or, or_true, or_false, false_or, not_true_eq_false, not_false_eq_true, zarr, ne_eq, hK, hMo, h173, ef, e1]
    · simp (disch := omega) only [il, nI_add, nI_mul, nI_sub, nI_div, nI_rem, nI_N, i32_lt, i32_le, nI_toInt, nI_subI, nI_clamp, zinT, zifT, iteT, iteF, zQ, zS, zkc, zI_sI, zL_sL, zI_wI, zL_wL, Nat.reduceEqDiff, Nat.reduceAdd, Nat.reduceMul, Nat.reduceLT, Nat.reduceLeDiff, reduceIte, eq_self, and_self, true_and, and_true, false_and, and_false, true_or, or_true, or_false, false_or, not_true_eq_false, not_false_eq_true, zarr, ne_eq, hK, hMo, h173, ef, e1]
  rw [e58, m_ch58 (ca := ca) (cb := cb) (hs0.wL _ _) ha hb hab hca hcb e1 e2]
  have e120 := m_ch120 (d := d) (a := a) (b := b) (e := if ca = 1 ∧ cb = 1 then 1 else 0) (M := zsL (zsL (zwL M 150 (flw sd (zL M 168 a) (zL M 167 b) (zL M 150) 40)) 167 a (zL M 167 a ||| (if ca = 1 then zL M 167 b else 0))) 168 a (zL M 168 b ||| (if cb = 1 then zL M 168 a else 0))) hd1 hs0 ha hb hab (by split <;> omega) l1 l2 l3 l4 l5 l6 h1 h2 h3 h4 h5 h6
  exact e120
theorem chM_f {sd a b ca cb n1 n2 n3 : Nat} {M : zM} : fPc sd M (chM M sd a b ca cb n1 n2 n3) := by
  unfold chM
  refine ⟨rfl, rfl, rfl, fun b h1 h2 h3 h4 h5 h6 h7 h8 => by rw [zI_ne h7, zI_ne h6, zI_ne h5, zI_ne h4]; rfl, fun _ _ => rfl, fun _ _ => rfl, fun b h1 h2 h3 => ?_, fun j hj => ?_⟩
  · show zL (zsL (zsL (zwL M 150 _) 167 a _) 168 a _) b = _
    rw [zL_ne h3, zL_ne h2, zLw_ne h1]
  · show zL (zwL M 150 (flw sd (zL M 168 a) (zL M 167 _) (zL M 150) 40)) 150 j = _
    rw [zLw_eq, flw_out (by omega)]
theorem chM_o {sd a b ca cb n1 n2 n3 j c : Nat} {M : zM} (h : j ≠ a) : zI (chM M sd a b ca cb n1 n2 n3) c j = zI M c j ∧ (c ≠ 150 → zL (chM M sd a b ca cb n1 n2 n3) c j = zL M c j) := by
  unfold chM
  constructor
  · simp (disch := omega) only [zI_sI, zS, iteF]
  · intro hc
    show zL (zsL (zsL (zwL M 150 _) 167 a _) 168 a _) c j = _
    simp (disch := omega) only [zL_sL, zL_wL, zS, iteF]
theorem zb_ora {x y : Int64} {c q : Nat} : zb (x ||| (if c = 1 then y else 0)) q = true ↔ zb x q = true ∨ (c = 1 ∧ zb y q = true) := by
  rw [zb_or, Bool.or_eq_true, zb_ite]
theorem q_chains {sd a b n1 n2 n3 : Nat} {m : IP} {x y : Pc} {M : zM} (h : Qst sd (m ++ [(a, x), (b, y)]) M) (hm : ∀ z, z ∈ m → z.1 ≠ a) (e1 : n1 = min 1000000 (pN x + pN y)) (e2 : n2 = min 1000000 (pF x + pF y)) (e3 : n3 = min 1000000 (pM x + pM y)) : Qst sd (m ++ [(a, chP x y)]) (chM M sd a b (if pF x = 0 then 1 else 0) (if pF y = 0 then 1 else 0) n1 n2 n3) := by
  obtain ⟨wx, nx1⟩ := h.2.1 (a, x) (by simp)
  obtain ⟨wy, ny1⟩ := h.2.1 (b, y) (by simp)
  have wx : wfp x := wx
  have wy : wfp y := wy
  have ta : tt [(a, x), (b, y)] = pN x + (pN y + 0) := rfl
  refine Qst_rep h rfl rfl rfl ?_ ?_ ?_ ?_ ?_ ?_ ?_
  · show pN x + pN y + 0 = pN x + (pN y + 0)
    omega
  · show pC x ++ pC y ++ [] = pC x ++ (pC y ++ [])
    rw [List.append_nil, List.append_nil]
  · intro z hz
    have : z = (a, chP x y) := by simpa using hz
    subst this
    refine ⟨wf_ch wx wy, ?_, ?_, ?_, ?_⟩
    · show zI (chM _ _ _ _ _ _ _ _ _) 169 a = nI (if pF x + pF y = 0 then 1 else 0)
      unfold chM
      simp (disch := omega) only [zL_sL, zI_sI, zS, iteF, iteT, eq_self, and_self, true_and, and_true, false_and, and_false, if_true, if_false, reduceIte, Nat.reduceEqDiff]
      congr 1
      by_cases h1 : pF x = 0
      · by_cases h2 : pF y = 0
        · rw [if_pos h1, if_pos h2, if_pos ⟨rfl, rfl⟩, if_pos (by omega)]
        · rw [if_pos h1, if_neg h2, if_neg (by decide), if_neg (by omega)]
      · rw [if_neg h1, if_neg (fun z => absurd z.1 (by decide)), if_neg (by omega)]
    · show zI (chM _ _ _ _ _ _ _ _ _) 170 a = nI (min 1000000 (pN x + pN y))
      unfold chM
      simp (disch := omega) only [zL_sL, zI_sI, zS, iteF, iteT, eq_self, and_self, true_and, and_true, false_and, and_false, if_true, if_false, reduceIte, Nat.reduceEqDiff, e1]
    · show zI (chM _ _ _ _ _ _ _ _ _) 171 a = nI (min 1000000 (pF x + pF y))
      unfold chM
      simp (disch := omega) only [zL_sL, zI_sI, zS, iteF, iteT, eq_self, and_self, true_and, and_true, false_and, and_false, if_true, if_false, reduceIte, Nat.reduceEqDiff, e2]
    · show zI (chM _ _ _ _ _ _ _ _ _) 172 a = nI (min 1000000 (pM x + pM y))
      unfold chM
      simp (disch := omega) only [zL_sL, zI_sI, zS, iteF, iteT, eq_self, and_self, true_and, and_true, false_and, and_false, if_true, if_false, reduceIte, Nat.reduceEqDiff, e3]
  · intro z hz
    have hn := hm z hz
    exact ⟨fun c _ _ => (chM_o hn).1, (chM_o hn).2 (by omega), (chM_o hn).2 (by omega)⟩
  · intro k hk
    show zL (zwL M 150 (flw sd (zL M 168 a) (zL M 167 b) (zL M 150) 40)) 150 (203 * sd + 43 + k) = zL M 150 (203 * sd + 43 + k)
    rw [zLw_eq, flw_out (by omega)]
  · intro r h1 h2
    obtain ⟨-, -, p, c, -, -, -, -, -, hok⟩ := h
    by_cases hle : tt (m ++ [(a, x), (b, y)]) ≤ 40
    · obtain ⟨-, -, -, -, -, k6⟩ := hok hle
      obtain ⟨-, s2⟩ := Stk_app.mp k6
      obtain ⟨f1, -, -⟩ := s2
      rw [tt_app, ta] at h1
      show zL (zwL M 150 (flw sd (zL M 168 a) (zL M 167 b) (zL M 150) 40)) 150 (203 * sd + 3 + r) = _
      rw [zLw_eq, flw_at h2, if_neg]
      intro hz
      have := f1.2.1 r hz
      simp only at this
      omega
    · omega
  · intro hle hs hT
    rw [tt_app, ta] at hle
    obtain ⟨f1, g1, f2, g2, -⟩ := hs
    have f1 : Fr (qF M sd) (qT M sd) (tt m) (pN x) (zB (zL M 167 a)) (zB (zL M 168 a)) (pL x) := f1
    have f2 : Fr (qF M sd) (qT M sd) (tt m + pN x) (pN y) (zB (zL M 167 b)) (zB (zL M 168 b)) (pL y) := f2
    have hF : ∀ q r, q < 40 → (qF (chM M sd a b (if pF x = 0 then 1 else 0) (if pF y = 0 then 1 else 0) n1 n2 n3) sd q r ↔ qF M sd q r ∨ (zB (zL M 168 a) q ∧ zB (zL M 167 b) r)) := by
      intro q r hq
      show zb (zL (zwL M 150 (flw sd (zL M 168 a) (zL M 167 b) (zL M 150) 40)) 150 (203 * sd + 3 + q)) r = true ↔ _
      rw [zLw_eq, flw_at hq]
      unfold qF zB
      by_cases hz : zb (zL M 168 a) q = true
      · rw [if_pos hz, zb_or, Bool.or_eq_true]
        exact ⟨fun u => u.elim Or.inl (fun v => Or.inr ⟨hz, v⟩), fun u => u.elim Or.inl (fun v => Or.inr v.2)⟩
      · rw [if_neg hz]
        exact ⟨Or.inl, fun u => u.elim id (fun v => absurd v.1 hz)⟩
    refine ⟨fun q r hq => ?_, ?_, ?_, trivial⟩
    · rw [hF q r (by omega)]
      exact ⟨Or.inl, fun u => u.elim id (fun v => by have := f1.2.1 q v.1; omega)⟩
    · have hch := Fr.chain (F' := qF (chM M sd a b (if pF x = 0 then 1 else 0) (if pF y = 0 then 1 else 0) n1 n2 n3) sd) (B' := zB (zL M 167 a ||| (if (if pF x = 0 then 1 else 0) = 1 then zL M 167 b else 0))) (E' := zB (zL M 168 b ||| (if (if pF y = 0 then 1 else 0) = 1 then zL M 168 a else 0))) (N1 := pF x = 0) (N2 := pF y = 0) f1 f2 wx.1 wy.1 (fun q r h1 h2 => hF q r (by omega)) (fun q r h1 h2 => by
          rw [hF q r (by omega)]
          exact ⟨fun u => u.elim id (fun v => by have := f1.2.1 q v.1; omega), Or.inl⟩) (fun q => by
          unfold zB
          rw [zb_ora]
          by_cases h1 : pF x = 0
          · rw [if_pos h1]; exact ⟨fun u => u.elim Or.inl (fun v => Or.inr ⟨h1, v.2⟩), fun u => u.elim Or.inl (fun v => Or.inr ⟨rfl, v.2⟩)⟩
          · rw [if_neg h1]; exact ⟨fun u => u.elim Or.inl (fun v => absurd v.1 (by decide)), fun u => u.elim Or.inl (fun v => absurd v.1 h1)⟩) (fun q => by
          unfold zB
          rw [zb_ora]
          by_cases h1 : pF y = 0
          · rw [if_pos h1]; exact ⟨fun u => u.elim Or.inl (fun v => Or.inr ⟨h1, v.2⟩), fun u => u.elim Or.inl (fun v => Or.inr ⟨rfl, v.2⟩)⟩
          · rw [if_neg h1]; exact ⟨fun u => u.elim Or.inl (fun v => absurd v.1 (by decide)), fun u => u.elim Or.inl (fun v => absurd v.1 h1)⟩)
      have r1 : zL (chM M sd a b (if pF x = 0 then 1 else 0) (if pF y = 0 then 1 else 0) n1 n2 n3) 167 a = zL M 167 a ||| (if (if pF x = 0 then 1 else 0) = 1 then zL M 167 b else 0) := by
        unfold chM
        simp (disch := omega) only [zL_sL, zI_sI, zS, iteF, iteT, eq_self, and_self, true_and, and_true, false_and, and_false, if_true, if_false, reduceIte, Nat.reduceEqDiff]
      have r2 : zL (chM M sd a b (if pF x = 0 then 1 else 0) (if pF y = 0 then 1 else 0) n1 n2 n3) 168 a = zL M 168 b ||| (if (if pF y = 0 then 1 else 0) = 1 then zL M 168 a else 0) := by
        unfold chM
        simp (disch := omega) only [zL_sL, zI_sI, zS, iteF, iteT, eq_self, and_self, true_and, and_true, false_and, and_false, if_true, if_false, reduceIte, Nat.reduceEqDiff]
      show Fr _ _ (tt m) (pN x + pN y) (zB (zL (chM M sd a b (if pF x = 0 then 1 else 0) (if pF y = 0 then 1 else 0) n1 n2 n3) 167 a)) (zB (zL (chM M sd a b (if pF x = 0 then 1 else 0) (if pF y = 0 then 1 else 0) n1 n2 n3) 168 a)) (lch (pL x) (pL y))
      rw [r1, r2]
      exact hch.congr (fun _ _ _ _ => Iff.rfl) (fun q v h1 h2 => hT q v (by rw [tt_app, ta]; omega)) (fun _ => Iff.rfl) (fun _ => Iff.rfl)
    · exact g1
theorem m_chains {d L w sd a b : Nat} {M : zM} {m : IP} {x y : Pc} (hd : 3 ≤ d) (hs : zSh L w M) (hsd : sd < 8) (ha : a < 21) (hb : b < 21) (hab : b ≠ a) (h173 : zI M 173 a = nI 1) (h : Qst sd (m ++ [(a, x), (b, y)]) M) (hm : ∀ z, z ∈ m → z.1 ≠ a) : ∃ M', zV d n_Mo_chains [.ref 146, .int (nI a), .int (nI b)] M = some (none, M') ∧ fPc sd M M' ∧ zI M' 173 = zI M 173 ∧ zI M' 146 = zI M 146 ∧ Qst sd (m ++ [(a, chP x y)]) M' := by
  obtain ⟨wx, x1, x2, x3, x4⟩ := h.2.1 (a, x) (by simp)
  obtain ⟨wy, y1, y2, y3, y4⟩ := h.2.1 (b, y) (by simp)
  have e := m_chains_x (d := d) (ca := if pF x = 0 then 1 else 0) (cb := if pF y = 0 then 1 else 0) hd hs h.1 hsd ha hb hab h173 (by split <;> omega) (by split <;> omega) (Nat.min_le_left _ _) (Nat.min_le_left _ _) (Nat.min_le_left _ _) (Nat.min_le_left _ _) (Nat.min_le_left _ _) (Nat.min_le_left _ _) x1 y1 x2 y2 x3 y3 x4 y4
  exact ⟨_, e, chM_f, rfl, rfl, q_chains h hm (by simp only; omega) (by simp only; omega) (by simp only; omega)⟩
