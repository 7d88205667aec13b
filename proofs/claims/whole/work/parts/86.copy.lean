/-! the class copies a block -/
theorem fil_lt {α : Type} {b : Nat} {f g : Nat → α} {k i : Nat} (h : i < b) : fil b f g k i = f i := if_neg (fun z => by omega)
theorem fil_in {α : Type} {b : Nat} {f g : Nat → α} {k i : Nat} (h : i < k) : fil b f g k (b + i) = g i := by
  unfold fil
  rw [if_pos (by omega), Nat.add_sub_cancel_left]
theorem se_cp60 {d s p lo n W k : Nat} {l5 : Int64} {M : zM} (hs : zSeq M s) (hW : p + 1 = lo + W) (hW1 : 1 ≤ W) (hk1 : 1 ≤ k) (hkn : k < n) (hn : n ≤ 9) (hX : p + W * (n - 1) ≤ 40) : zG d n_Se_copyBlock 60 [some (.ref s), some (.int (nI lo)), some (.int (nI n)), some (.int (nI p)), some (.int (nI W)), some (.long l5), none, some (.int (nI k)), some (.int (nI (k * W))), some (.int (nI lo)), none] [] M = zG d n_Se_copyBlock 44 [some (.ref s), some (.int (nI lo)), some (.int (nI n)), some (.int (nI p)), some (.int (nI W)), some (.long l5), none, some (.int (nI (k + 1))), none, none, none] [] (zwL M (s + 1) (fil (lo + k * W) (zL M (s + 1)) (fun i => zL M (s + 1) (lo + i) <<< (Int32.toInt64 (nI (k * W)) &&& 63)) W)) := by
  obtain ⟨k1, k2, k3, k4, r1, r2, r3⟩ := hs
  have hkW : W ≤ k * W := Nat.le_mul_of_pos_left W hk1
  have hkX : k * W ≤ W * (n - 1) := by rw [Nat.mul_comm W]; exact Nat.mul_le_mul_right W (by omega)
  have key := zloop (n := W) (g := fun i => zG d n_Se_copyBlock 60 [some (.ref s), some (.int (nI lo)), some (.int (nI n)), some (.int (nI p)), some (.int (nI W)), some (.long l5), none, some (.int (nI k)), some (.int (nI (k * W))), some (.int (nI (lo + i))), none] [] (zwL M (s + 1) (fil (lo + k * W) (zL M (s + 1)) (fun i => zL M (s + 1) (lo + i) <<< (Int32.toInt64 (nI (k * W)) &&& 63)) i))) (by
    intro i hi
    have hf := zsL_fil M (s + 1) (lo + k * W) i (zL M (s + 1)) (fun i => zL M (s + 1) (lo + i) <<< (Int32.toInt64 (nI (k * W)) &&& 63)) (zL M (s + 1) (lo + i) <<< (Int32.toInt64 (nI (k * W)) &&& 63)) rfl
    have hg : fil (lo + k * W) (zL M (s + 1)) (fun i => zL M (s + 1) (lo + i) <<< (Int32.toInt64 (nI (k * W)) &&& 63)) i (lo + i) = zL M (s + 1) (lo + i) := fil_lt (by omega)
    have hx : lo + i + k * W = lo + k * W + i := by omega
    show zG d n_Se_copyBlock 60 [some (.ref s), some (.int (nI lo)), some (.int (nI n)), some (.int (nI p)), some (.int (nI W)), some (.long l5), none, some (.int (nI k)), some (.int (nI (k * W))), some (.int (nI (lo + i))), none] [] (zwL M (s + 1) (fil (lo + k * W) (zL M (s + 1)) (fun i => zL M (s + 1) (lo + i) <<< (Int32.toInt64 (nI (k * W)) &&& 63)) i)) = zG d n_Se_copyBlock 60 [some (.ref s), some (.int (nI lo)), some (.int (nI n)), some (.int (nI p)), some (.int (nI W)), some (.long l5), none, some (.int (nI k)), some (.int (nI (k * W))), some (.int (nI (lo + (i + 1)))), none] [] (zwL M (s + 1) (fil (lo + k * W) (zL M (s + 1)) (fun i => zL M (s + 1) (lo + i) <<< (Int32.toInt64 (nI (k * W)) &&& 63)) (i + 1)))
    rw [zg_Se_copyBlock_60]
    unfold zx_Se_copyBlock_60
    generalize k * W = kW at *
    simp (disch := omega) only [il, nI_add, nI_mul, nI_sub, nI_div, nI_rem, nI_N, i32_lt, i32_le, nI_toInt, nI_subI, nI_clamp, zinT, zifT, iteT, iteF, zQ, zS, zkc, zI_sI, zL_sL, zI_wI, zL_wL, Nat.reduceEqDiff, Nat.reduceAdd, Nat.reduceMul, Nat.reduceLT, Nat.reduceLeDiff, reduceIte, eq_self, and_self, true_and, and_true, false_and, and_false, true_or, or_true, or_false, false_or, not_true_eq_false, not_false_eq_true, zarr, ne_eq, k1, k2, r1, hg, hx, hf]
    rfl)
  have e0 : zwL M (s + 1) (fil (lo + k * W) (zL M (s + 1)) (fun i => zL M (s + 1) (lo + i) <<< (Int32.toInt64 (nI (k * W)) &&& 63)) 0) = M := by rw [fil_0]; exact zwL_self M (s + 1)
  simp only [e0, Nat.add_zero] at key
  refine Eq.trans key ?_
  rw [zg_Se_copyBlock_60]
  unfold zx_Se_copyBlock_60
  clear key e0
  simp (disch := omega) only [il, nI_add, nI_mul, nI_sub, nI_div, nI_rem, nI_N, i32_lt, i32_le, nI_toInt, nI_subI, nI_clamp, zinT, zifT, iteT, iteF, zQ, zS, zkc, zI_sI, zL_sL, zI_wI, zL_wL, Nat.reduceEqDiff, Nat.reduceAdd, Nat.reduceMul, Nat.reduceLT, Nat.reduceLeDiff, reduceIte, eq_self, and_self, true_and, and_true, false_and, and_false, true_or, or_true, or_false, false_or, not_true_eq_false, not_false_eq_true, zarr, ne_eq]
/-- frame: only what comes behind, and the places -/
def fSq (s : Nat) (M M' : zM) : Prop := zN M' = zN M ∧ zK M' = zK M ∧ zR M' = zR M ∧ zI M' = zI M ∧ ∀ b, b ≠ s + 1 → b ≠ s + 2 → zL M' b = zL M b
theorem se_cp44 {d s p lo n W : Nat} {l5 : Int64} {M : zM} (hs : zSeq M s) (hW : p + 1 = lo + W) (hW1 : 1 ≤ W) (hn1 : 1 ≤ n) (hn : n ≤ 9) (hX : p + W * (n - 1) ≤ 40) : ∃ M', zG d n_Se_copyBlock 44 [some (.ref s), some (.int (nI lo)), some (.int (nI n)), some (.int (nI p)), some (.int (nI W)), some (.long l5), none, some (.int (nI 1)), none, none, none] [] M = zG d n_Se_copyBlock 101 [some (.ref s), none, some (.int (nI n)), some (.int (nI p)), some (.int (nI W)), some (.long l5), none, some (.int (nI 0)), none, none, none] [] M' ∧ fSq s M M' ∧ zL M' (s + 2) = zL M (s + 2) ∧ (∀ q, q ≤ p → zL M' (s + 1) q = zL M (s + 1) q) ∧ ∀ q j, 1 ≤ j → j < n → lo ≤ q → q ≤ p → zL M' (s + 1) (q + j * W) = zL M (s + 1) q <<< (Int32.toInt64 (nI (j * W)) &&& 63) := by
  obtain ⟨M', e, f1, f2, f3, f4⟩ := zloopE (n := n - 1) (g := fun k M1 => zG d n_Se_copyBlock 44 [some (.ref s), some (.int (nI lo)), some (.int (nI n)), some (.int (nI p)), some (.int (nI W)), some (.long l5), none, some (.int (nI (k + 1))), none, none, none] [] M1) (P := fun k M1 => fSq s M M1 ∧ zL M1 (s + 2) = zL M (s + 2) ∧ (∀ q, q ≤ p → zL M1 (s + 1) q = zL M (s + 1) q) ∧ ∀ q j, 1 ≤ j → j < k + 1 → lo ≤ q → q ≤ p → zL M1 (s + 1) (q + j * W) = zL M (s + 1) q <<< (Int32.toInt64 (nI (j * W)) &&& 63)) (by
    intro k M1 hk ⟨f1, f2, f3, f4⟩
    have hs1 := zSeq_fr hs f1.2.1 f1.2.2.1
    have e1 := se_cp60 (d := d) (l5 := l5) (M := M1) (k := k + 1) hs1 hW hW1 (by omega) (by omega) hn hX
    have hkW : W ≤ (k + 1) * W := Nat.le_mul_of_pos_left W (by omega)
    refine ⟨zwL M1 (s + 1) (fil (lo + (k + 1) * W) (zL M1 (s + 1)) (fun i => zL M1 (s + 1) (lo + i) <<< (Int32.toInt64 (nI ((k + 1) * W)) &&& 63)) W), ?_, ⟨f1.1, f1.2.1, f1.2.2.1, f1.2.2.2.1, fun b h1 h2 => (zLw_ne h1).trans (f1.2.2.2.2 b h1 h2)⟩, (zLw_ne (by omega)).trans f2, ?_, ?_⟩
    · show zG d n_Se_copyBlock 44 [some (.ref s), some (.int (nI lo)), some (.int (nI n)), some (.int (nI p)), some (.int (nI W)), some (.long l5), none, some (.int (nI (k + 1))), none, none, none] [] M1 = _
      rw [← e1, zg_Se_copyBlock_44]
      unfold zx_Se_copyBlock_44
      clear f1 f2 f3 f4 e1
      simp (disch := omega) only [il, nI_add, nI_mul, nI_sub, nI_div, nI_rem, nI_N, i32_lt, i32_le, nI_toInt, nI_subI, nI_clamp, zinT, zifT, iteT, iteF, zQ, zS, zkc, zI_sI, zL_sL, zI_wI, zL_wL, Nat.reduceEqDiff, Nat.reduceAdd, Nat.reduceMul, Nat.reduceLT, Nat.reduceLeDiff, reduceIte, eq_self, and_self, true_and, and_true, false_and, and_false, true_or, or_true, or_false, false_or, not_true_eq_false, not_false_eq_true, zarr, ne_eq]
    · intro q hq
      rw [zL_wL, if_pos rfl, fil_lt (by omega)]
      exact f3 q hq
    · intro q j h1 h2 h3 h4
      rw [zL_wL, if_pos rfl]
      by_cases hj : j = k + 1
      · subst hj
        rw [show q + (k + 1) * W = lo + (k + 1) * W + (q - lo) by omega, fil_in (by omega), show lo + (q - lo) = q by omega, f3 q h4]
      · have hjk : j * W + W ≤ (k + 1) * W := by
          have := Nat.mul_le_mul_right W (show j + 1 ≤ k + 1 by omega)
          rw [Nat.add_mul j 1, Nat.one_mul] at this
          exact this
        rw [fil_lt (by omega)]
        exact f4 q j h1 (by omega) h3 h4) (s0 := M) ⟨⟨rfl, rfl, rfl, rfl, fun _ _ _ => rfl⟩, rfl, fun _ _ => rfl, fun q j h1 h2 => by omega⟩
  refine ⟨M', ?_, f1, f2, f3, fun q j h1 h2 => f4 q j h1 (by omega)⟩
  refine Eq.trans e ?_
  show zG d n_Se_copyBlock 44 [some (.ref s), some (.int (nI lo)), some (.int (nI n)), some (.int (nI p)), some (.int (nI W)), some (.long l5), none, some (.int (nI (n - 1 + 1))), none, none, none] [] M' = _
  rw [show n - 1 + 1 = n by omega, zg_Se_copyBlock_44]
  unfold zx_Se_copyBlock_44
  clear e f1 f2 f3 f4
  simp (disch := omega) only [il, nI_add, nI_mul, nI_sub, nI_div, nI_rem, nI_N, i32_lt, i32_le, nI_toInt, nI_subI, nI_clamp, zinT, zifT, iteT, iteF, zQ, zS, zkc, zI_sI, zL_sL, zI_wI, zL_wL, Nat.reduceEqDiff, Nat.reduceAdd, Nat.reduceMul, Nat.reduceLT, Nat.reduceLeDiff, reduceIte, eq_self, and_self, true_and, and_true, false_and, and_false, true_or, or_true, or_false, false_or, not_true_eq_false, not_false_eq_true, zarr, ne_eq]
/-- a condition's places, with those of the copies -/
def cpP (x own : Int64) (W : Nat) : Nat → Int64
  | 0 => x
  | k + 1 => cpP x own W k ||| (own <<< (Int32.toInt64 (nI ((k + 1) * W)) &&& 63))
theorem zwL_id {M : zM} {a : Nat} {f : Nat → Int64} (h : ∀ j, f j = zL M a j) : zwL M a f = M := by
  rw [show f = zL M a from funext h]
  exact zwL_self M a
theorem zwL_wL (M : zM) (a : Nat) (f g : Nat → Int64) : zwL (zwL M a f) a g = zwL M a g := by
  unfold zwL
  congr 4
  funext b
  unfold zrow
  by_cases h : b = a
  · subst h; simp
  · simp [h]
theorem se_cp125 {d s p n W e : Nat} {l5 own : Int64} {M : zM} (hs : zSeq M s) (he : e < 40) (hn1 : 1 ≤ n) (hn : n ≤ 9) (hX : p + W * (n - 1) ≤ 40) : zG d n_Se_copyBlock 125 [some (.ref s), none, some (.int (nI n)), some (.int (nI p)), some (.int (nI W)), some (.long l5), none, some (.int (nI e)), some (.long own), none, some (.int (nI 1))] [] M = zG d n_Se_copyBlock 101 [some (.ref s), none, some (.int (nI n)), some (.int (nI p)), some (.int (nI W)), some (.long l5), none, some (.int (nI (e + 1))), none, none, none] [] (zwL M (s + 2) (fun j => if j = e then cpP (zL M (s + 2) e) own W (n - 1) else zL M (s + 2) j)) := by
  obtain ⟨k1, k2, k3, k4, r1, r2, r3⟩ := hs
  have key := zloop (n := n - 1) (g := fun k => zG d n_Se_copyBlock 125 [some (.ref s), none, some (.int (nI n)), some (.int (nI p)), some (.int (nI W)), some (.long l5), none, some (.int (nI e)), some (.long own), none, some (.int (nI (k + 1)))] [] (zwL M (s + 2) (fun j => if j = e then cpP (zL M (s + 2) e) own W k else zL M (s + 2) j))) (by
    intro k hk
    have hf : zsL (zwL M (s + 2) (fun j => if j = e then cpP (zL M (s + 2) e) own W k else zL M (s + 2) j)) (s + 2) e (cpP (zL M (s + 2) e) own W k ||| (own <<< (Int32.toInt64 (nI ((k + 1) * W)) &&& 63))) = zwL M (s + 2) (fun j => if j = e then cpP (zL M (s + 2) e) own W (k + 1) else zL M (s + 2) j) := by
      rw [zsL_wL]
      congr 1
      funext j
      by_cases h : j = e
      · rw [if_pos h, if_pos h]; rfl
      · rw [if_neg h, if_neg h, if_neg h]
    have hkX : (k + 1) * W ≤ W * (n - 1) := by rw [Nat.mul_comm W]; exact Nat.mul_le_mul_right W (by omega)
    show zG d n_Se_copyBlock 125 [some (.ref s), none, some (.int (nI n)), some (.int (nI p)), some (.int (nI W)), some (.long l5), none, some (.int (nI e)), some (.long own), none, some (.int (nI (k + 1)))] [] (zwL M (s + 2) (fun j => if j = e then cpP (zL M (s + 2) e) own W k else zL M (s + 2) j)) = zG d n_Se_copyBlock 125 [some (.ref s), none, some (.int (nI n)), some (.int (nI p)), some (.int (nI W)), some (.long l5), none, some (.int (nI e)), some (.long own), none, some (.int (nI (k + 1 + 1)))] [] (zwL M (s + 2) (fun j => if j = e then cpP (zL M (s + 2) e) own W (k + 1) else zL M (s + 2) j))
    rw [zg_Se_copyBlock_125]
    unfold zx_Se_copyBlock_125
    simp (disch := omega) only [il, nI_add, nI_mul, nI_sub, nI_div, nI_rem, nI_N, i32_lt, i32_le, nI_toInt, nI_subI, nI_clamp, zinT, zifT, iteT, iteF, zQ, zS, zkc, zI_sI, zL_sL, zI_wI, zL_wL, Nat.reduceEqDiff, Nat.reduceAdd, Nat.reduceMul, Nat.reduceLT, Nat.reduceLeDiff, reduceIte, eq_self, and_self, true_and, and_true, false_and, and_false, true_or, or_true, or_false, false_or, not_true_eq_false, not_false_eq_true, zarr, ne_eq, k1, k3, r2, hf])
  have e0 : zwL M (s + 2) (fun j => if j = e then cpP (zL M (s + 2) e) own W 0 else zL M (s + 2) j) = M := zwL_id fun j => by
    by_cases h : j = e
    · rw [if_pos h, h]; rfl
    · rw [if_neg h]
  simp only [e0] at key
  refine Eq.trans key ?_
  show zG d n_Se_copyBlock 125 [some (.ref s), none, some (.int (nI n)), some (.int (nI p)), some (.int (nI W)), some (.long l5), none, some (.int (nI e)), some (.long own), none, some (.int (nI (n - 1 + 1)))] [] (zwL M (s + 2) (fun j => if j = e then cpP (zL M (s + 2) e) own W (n - 1) else zL M (s + 2) j)) = _
  rw [show n - 1 + 1 = n by omega, zg_Se_copyBlock_125]
  unfold zx_Se_copyBlock_125
  clear key e0
  simp (disch := omega) only [il, nI_add, nI_mul, nI_sub, nI_div, nI_rem, nI_N, i32_lt, i32_le, nI_toInt, nI_subI, nI_clamp, zinT, zifT, iteT, iteF, zQ, zS, zkc, zI_sI, zL_sL, zI_wI, zL_wL, Nat.reduceEqDiff, Nat.reduceAdd, Nat.reduceMul, Nat.reduceLT, Nat.reduceLeDiff, reduceIte, eq_self, and_self, true_and, and_true, false_and, and_false, true_or, or_true, or_false, false_or, not_true_eq_false, not_false_eq_true, zarr, ne_eq]
theorem se_cp101 {d s p n W c : Nat} {l5 : Int64} {M : zM} (hs : zSeq M s) (hc : c ≤ 40) (h6 : zI M s 6 = nI c) (hn1 : 1 ≤ n) (hn : n ≤ 9) (hX : p + W * (n - 1) ≤ 40) : zG d n_Se_copyBlock 101 [some (.ref s), none, some (.int (nI n)), some (.int (nI p)), some (.int (nI W)), some (.long l5), none, some (.int (nI 0)), none, none, none] [] M = some (none, zsI (zwL M (s + 2) (fun j => if j < c then cpP (zL M (s + 2) j) (zL M (s + 2) j &&& l5) W (n - 1) else zL M (s + 2) j)) s 7 (nI (p + W * (n - 1)))) := by
  have hs0 := hs
  obtain ⟨k1, k2, k3, k4, r1, r2, r3⟩ := hs
  have key := zloop (n := c) (g := fun e => zG d n_Se_copyBlock 101 [some (.ref s), none, some (.int (nI n)), some (.int (nI p)), some (.int (nI W)), some (.long l5), none, some (.int (nI e)), none, none, none] [] (zwL M (s + 2) (fun j => if j < e then cpP (zL M (s + 2) j) (zL M (s + 2) j &&& l5) W (n - 1) else zL M (s + 2) j))) (by
    intro e he
    have e1 := se_cp125 (d := d) (p := p) (l5 := l5) (own := zL M (s + 2) e &&& l5) (M := zwL M (s + 2) (fun j => if j < e then cpP (zL M (s + 2) j) (zL M (s + 2) j &&& l5) W (n - 1) else zL M (s + 2) j)) (e := e) (zSeq_fr hs0 rfl rfl) (by omega) hn1 hn hX
    have hf : zwL (zwL M (s + 2) (fun j => if j < e then cpP (zL M (s + 2) j) (zL M (s + 2) j &&& l5) W (n - 1) else zL M (s + 2) j)) (s + 2) (fun j => if j = e then cpP (zL (zwL M (s + 2) (fun j => if j < e then cpP (zL M (s + 2) j) (zL M (s + 2) j &&& l5) W (n - 1) else zL M (s + 2) j)) (s + 2) e) (zL M (s + 2) e &&& l5) W (n - 1) else zL (zwL M (s + 2) (fun j => if j < e then cpP (zL M (s + 2) j) (zL M (s + 2) j &&& l5) W (n - 1) else zL M (s + 2) j)) (s + 2) j) = zwL M (s + 2) (fun j => if j < e + 1 then cpP (zL M (s + 2) j) (zL M (s + 2) j &&& l5) W (n - 1) else zL M (s + 2) j) := by
      rw [zwL_wL]
      congr 1
      funext j
      simp only [zL_wL, if_true]
      by_cases h : j = e
      · subst h
        rw [if_pos rfl, if_neg (Nat.lt_irrefl j), if_pos (Nat.lt_succ_self j)]
      · rw [if_neg h]
        by_cases hj : j < e
        · rw [if_pos hj, if_pos (by omega)]
        · rw [if_neg hj, if_neg (by omega)]
    rw [hf] at e1
    show zG d n_Se_copyBlock 101 [some (.ref s), none, some (.int (nI n)), some (.int (nI p)), some (.int (nI W)), some (.long l5), none, some (.int (nI e)), none, none, none] [] (zwL M (s + 2) (fun j => if j < e then cpP (zL M (s + 2) j) (zL M (s + 2) j &&& l5) W (n - 1) else zL M (s + 2) j)) = zG d n_Se_copyBlock 101 [some (.ref s), none, some (.int (nI n)), some (.int (nI p)), some (.int (nI W)), some (.long l5), none, some (.int (nI (e + 1))), none, none, none] [] (zwL M (s + 2) (fun j => if j < e + 1 then cpP (zL M (s + 2) j) (zL M (s + 2) j &&& l5) W (n - 1) else zL M (s + 2) j))
    rw [← e1, zg_Se_copyBlock_101]
    unfold zx_Se_copyBlock_101
    clear e1 hf
    simp (disch := omega) only [il, nI_add, nI_mul, nI_sub, nI_div, nI_rem, nI_N, i32_lt, i32_le, nI_toInt, nI_subI, nI_clamp, zinT, zifT, iteT, iteF, zQ, zS, zkc, zI_sI, zL_sL, zI_wI, zL_wL, Nat.reduceEqDiff, Nat.reduceAdd, Nat.reduceMul, Nat.reduceLT, Nat.reduceLeDiff, reduceIte, eq_self, and_self, true_and, and_true, false_and, and_false, true_or, or_true, or_false, false_or, not_true_eq_false, not_false_eq_true, zarr, ne_eq, k1, k3, r2, h6, Nat.lt_irrefl])
  have e0 : zwL M (s + 2) (fun j => if j < 0 then cpP (zL M (s + 2) j) (zL M (s + 2) j &&& l5) W (n - 1) else zL M (s + 2) j) = M := zwL_id fun j => if_neg (Nat.not_lt_zero j)
  simp only [e0] at key
  refine Eq.trans key ?_
  show zG d n_Se_copyBlock 101 [some (.ref s), none, some (.int (nI n)), some (.int (nI p)), some (.int (nI W)), some (.long l5), none, some (.int (nI c)), none, none, none] [] (zwL M (s + 2) (fun j => if j < c then cpP (zL M (s + 2) j) (zL M (s + 2) j &&& l5) W (n - 1) else zL M (s + 2) j)) = _
  rw [zg_Se_copyBlock_101]
  unfold zx_Se_copyBlock_101
  clear key e0
  simp (disch := omega) only [il, nI_add, nI_mul, nI_sub, nI_div, nI_rem, nI_N, i32_lt, i32_le, nI_toInt, nI_subI, nI_clamp, zinT, zifT, iteT, iteF, zQ, zS, zkc, zI_sI, zL_sL, zI_wI, zL_wL, Nat.reduceEqDiff, Nat.reduceAdd, Nat.reduceMul, Nat.reduceLT, Nat.reduceLeDiff, reduceIte, eq_self, and_self, true_and, and_true, false_and, and_false, true_or, or_true, or_false, false_or, not_true_eq_false, not_false_eq_true, zarr, ne_eq, k1, h6]
def blk (lo W : Nat) : Int64 := (((1 : Int64) <<< (Int32.toInt64 (nI W) &&& 63)) - 1) <<< (Int32.toInt64 (nI lo) &&& 63)
theorem se_copyBlock {d s c p lo n W : Nat} {M : zM} (hd : 1 ≤ d) (hs : zSeq M s) (hs26 : 26 ≤ s) (hc : c ≤ 40) (h6 : zI M s 6 = nI c) (h7 : zI M s 7 = nI p) (hW : p + 1 = lo + W) (hW1 : 1 ≤ W) (hn1 : 1 ≤ n) (hn : n ≤ 9) (hX : p + W * (n - 1) ≤ 40) : ∃ M', zV d n_Se_copyBlock [.ref s, .int (nI lo), .int (nI n)] M = some (none, M') ∧ zN M' = zN M ∧ zK M' = zK M ∧ zR M' = zR M ∧ (∀ b, b ≠ s → zI M' b = zI M b) ∧ (∀ j, j ≠ 7 → zI M' s j = zI M s j) ∧ zI M' s 7 = nI (p + W * (n - 1)) ∧ (∀ b, b ≠ s + 1 → b ≠ s + 2 → zL M' b = zL M b) ∧ (∀ q, q ≤ p → zL M' (s + 1) q = zL M (s + 1) q) ∧ (∀ q j, 1 ≤ j → j < n → lo ≤ q → q ≤ p → zL M' (s + 1) (q + j * W) = zL M (s + 1) q <<< (Int32.toInt64 (nI (j * W)) &&& 63)) ∧ ∀ e, e < c → zL M' (s + 2) e = cpP (zL M (s + 2) e) (zL M (s + 2) e &&& blk lo W) W (n - 1) := by
  obtain ⟨d, rfl, hd1⟩ := zdep hd
  obtain ⟨M1, e1, f1, f2, f3, f4⟩ := se_cp44 (d := d) (l5 := blk lo W) hs hW hW1 hn1 hn hX
  have e2 := se_cp101 (d := d) (p := p) (W := W) (n := n) (l5 := blk lo W) (M := M1) (zSeq_fr hs f1.2.1 f1.2.2.1) hc (by rw [f1.2.2.2.1]; exact h6) hn1 hn hX
  refine ⟨zsI (zwL M1 (s + 2) (fun j => if j < c then cpP (zL M1 (s + 2) j) (zL M1 (s + 2) j &&& blk lo W) W (n - 1) else zL M1 (s + 2) j)) s 7 (nI (p + W * (n - 1))), ?_, f1.1, f1.2.1, f1.2.2.1, fun b hb => ?_, fun j hj => ?_, ?_, fun b h1 h2 => ?_, fun q hq => ?_, fun q j h1 h2 h3 h4 => ?_, fun e he => ?_⟩
  · rw [← e2, ← e1, ze_Se_copyBlock]
    unfold zx_Se_copyBlock blk
    have hW' : p - lo + 1 = W := by omega
    obtain ⟨k1, -⟩ := hs
    clear e1 e2 f1 f2 f3 f4
    simp (disch := omega) only [il, nI_add, nI_mul, nI_sub, nI_div, nI_rem, nI_N, i32_lt, i32_le, nI_toInt, nI_subI, nI_clamp, zinT, zifT, iteT, iteF, zQ, zS, zkc, zI_sI, zL_sL, zI_wI, zL_wL, Nat.reduceEqDiff, Nat.reduceAdd, Nat.reduceMul, Nat.reduceLT, Nat.reduceLeDiff, reduceIte, eq_self, and_self, true_and, and_true, false_and, and_false, true_or, or_true, or_false, false_or, not_true_eq_false, not_false_eq_true, zarr, ne_eq, k1, h7, hW']
  · exact (zI_ne hb).trans (congrFun f1.2.2.2.1 b)
  · rw [zI_sI, if_neg (fun z => hj z.2)]; exact congrFun (congrFun f1.2.2.2.1 s) j
  · rw [zI_sI, if_pos ⟨rfl, rfl⟩]
  · exact (zLw_ne h2).trans (f1.2.2.2.2 b h1 h2)
  · exact (congrFun (zLw_ne (show s + 1 ≠ s + 2 by omega)) q).trans (f3 q hq)
  · exact (congrFun (zLw_ne (show s + 1 ≠ s + 2 by omega)) (q + j * W)).trans (f4 q j h1 h2 h3 h4)
  · show (if s + 2 = s + 2 then _ else _) = _
    rw [if_pos rfl, if_pos he, f2]
theorem se_copyBlock_o {d s p lo n W : Nat} {M : zM} (hd : 1 ≤ d) (hs : zSeq M s) (h7 : zI M s 7 = nI p) (hW : p + 1 = lo + W) (hW1 : 1 ≤ W) (hp : p ≤ 40) (hn1 : 1 ≤ n) (hn : n ≤ 9) (hX : 40 < p + W * (n - 1)) : zV d n_Se_copyBlock [.ref s, .int (nI lo), .int (nI n)] M = some (none, zsI M s 10 (nI 1)) := by
  obtain ⟨d, rfl, hd1⟩ := zdep hd
  rw [ze_Se_copyBlock]
  unfold zx_Se_copyBlock
  have hW' : p - lo + 1 = W := by omega
  have hX2 : W * (n - 1) ≤ 41 * 8 := Nat.mul_le_mul (by omega) (by omega)
  obtain ⟨k1, -⟩ := hs
  simp (disch := omega) only [il, nI_add, nI_mul, nI_sub, nI_div, nI_rem, nI_N, i32_lt, i32_le, nI_toInt, nI_subI, nI_clamp, zinT, zifT, iteT, iteF, zQ, zS, zkc, zI_sI, zL_sL, zI_wI, zL_wL, Nat.reduceEqDiff, Nat.reduceAdd, Nat.reduceMul, Nat.reduceLT, Nat.reduceLeDiff, reduceIte, eq_self, and_self, true_and, and_true, false_and, and_false, true_or, or_true, or_false, false_or, not_true_eq_false, not_false_eq_true, zarr, ne_eq, k1, h7, hW']
theorem zb_blk0 : ∀ W, W < 64 → ∀ i, i < 64 → zb (((1 : Int64) <<< (Int32.toInt64 (nI W) &&& 63)) - 1) i = decide (i < W) := by decide +kernel
theorem zb_blk {lo W i : Nat} (h : lo + W < 64) (hi : i < 64) : zb (blk lo W) i = true ↔ lo ≤ i ∧ i < lo + W := by
  unfold blk
  rw [zb_shl (by omega) _ hi]
  by_cases h1 : lo ≤ i
  · rw [zb_blk0 W (by omega) (i - lo) (by omega)]
    rw [decide_eq_true h1, Bool.true_and, decide_eq_true_eq]
    constructor
    · intro h2; exact ⟨h1, by omega⟩
    · intro h2; omega
  · rw [decide_eq_false h1, Bool.false_and]
    exact ⟨fun h2 => absurd h2 Bool.false_ne_true, fun h2 => absurd h2.1 h1⟩
theorem zb_cpP {x own : Int64} {W i : Nat} (hi : i < 64) : ∀ {k : Nat}, k * W < 64 → (zb (cpP x own W k) i = true ↔ zb x i = true ∨ ∃ j, 1 ≤ j ∧ j ≤ k ∧ j * W ≤ i ∧ zb own (i - j * W) = true)
  | 0, _ => ⟨Or.inl, fun h => h.elim id (fun ⟨j, h1, h2, _⟩ => by omega)⟩
  | k + 1, hk => by
    have hk' : k * W < 64 := by
      have := Nat.mul_le_mul_right W (show k ≤ k + 1 by omega)
      omega
    show zb (cpP x own W k ||| (own <<< (Int32.toInt64 (nI ((k + 1) * W)) &&& 63))) i = true ↔ _
    rw [zb_or, Bool.or_eq_true, zb_cpP hi hk', zb_shl hk _ hi, Bool.and_eq_true, decide_eq_true_eq]
    constructor
    · rintro ((h | ⟨j, h1, h2, h3, h4⟩) | ⟨h1, h2⟩)
      · exact Or.inl h
      · exact Or.inr ⟨j, h1, by omega, h3, h4⟩
      · exact Or.inr ⟨k + 1, by omega, by omega, h1, h2⟩
    · rintro (h | ⟨j, h1, h2, h3, h4⟩)
      · exact Or.inl (Or.inl h)
      · by_cases hj : j = k + 1
        · subst hj; exact Or.inr ⟨h3, h4⟩
        · exact Or.inl (Or.inr ⟨j, h1, by omega, h3, h4⟩)
