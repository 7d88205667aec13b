/-! the reference goes through a try: all ticks -/
noncomputable def cB (c : Prop) : Bool := cif c true false
theorem cB_iff {c : Prop} : cB c = true ↔ c := by
  unfold cB
  by_cases h : c
  · rw [cif_t h]; exact ⟨fun _ => h, fun _ => rfl⟩
  · rw [cif_f h]; exact ⟨fun q => absurd q (by decide), fun q => absurd q h⟩
theorem cB_f {c : Prop} (h : ¬ c) : cB c = false := cif_f h
theorem cB_t {c : Prop} (h : c) : cB c = true := cif_t h
def exB (f : Nat → Bool) (i : Nat) : Nat → Bool
  | 0 => false
  | k + 1 => exB f i k || f (i + k)
theorem exB_iff {f : Nat → Bool} {i : Nat} : ∀ {k : Nat}, exB f i k = true ↔ ∃ q, i ≤ q ∧ q < i + k ∧ f q = true
  | 0 => ⟨fun h => absurd h (by unfold exB; decide), fun ⟨q, h1, h2, _⟩ => by omega⟩
  | k + 1 => by
    unfold exB
    rw [Bool.or_eq_true, exB_iff (k := k)]
    constructor
    · rintro (⟨q, h1, h2, h3⟩ | h)
      · exact ⟨q, h1, by omega, h3⟩
      · exact ⟨i + k, by omega, by omega, h⟩
    · rintro ⟨q, h1, h2, h3⟩
      by_cases h : q = i + k
      · subst h; exact Or.inr h3
      · exact Or.inl ⟨q, h1, by omega, h3⟩
theorem m4_ne {k : Nat} (h : k < 100) : ¬ nI k = -nI 4 := by
  have : ∀ k, k < 100 → ¬ nI k = -nI 4 := by decide +kernel
  exact this k h
theorem m_isAny {d L w i u : Nat} {M : zM} {f : Nat → Bool} {x : Int32} (hd : 1 ≤ d) (hs : zSh L w M) (hu : u < 48) (hi : i ≤ u) (hf : ∀ q, i ≤ q → q ≤ u → ((zI M 178 q = nI 0 ∧ f q = false) ∨ (zI M 178 q = nI 1 ∧ ((x = -nI 4 ∧ f q = true) ∨ (¬ x = -nI 4 ∧ (zI M 176 q = x ↔ f q = true)))))) : zV d n_Mo_isAny [.ref 146, .int (nI i), .int (nI u), .int x] M = some (some (.int (nI (exB f i (u + 1 - i)).toNat)), M) := by
  obtain ⟨d, rfl, hd1⟩ := zdep hd
  obtain ⟨hN, hK, hC, hMo, -⟩ := hs
  rw [ze_Mo_isAny]
  unfold zx_Mo_isAny
  have key := zloop (n := u + 1 - i) (g := fun k => zG d n_Mo_isAny 6 [some (.ref 146), none, some (.int (nI u)), some (.int x), some (.int (nI (exB f i k).toNat)), some (.int (nI (i + k)))] [] M) (by
    intro k hk
    show zG d n_Mo_isAny 6 [some (.ref 146), none, some (.int (nI u)), some (.int x), some (.int (nI (exB f i k).toNat)), some (.int (nI (i + k)))] [] M = zG d n_Mo_isAny 6 [some (.ref 146), none, some (.int (nI u)), some (.int x), some (.int (nI (exB f i k || f (i + k)).toNat)), some (.int (nI (i + k + 1)))] [] M
    rw [zg_Mo_isAny_6]
    unfold zx_Mo_isAny_6
    cases hb : exB f i k
    · rcases hf (i + k) (by omega) (by omega) with ⟨h1, h2⟩ | ⟨h1, ⟨h2, h3⟩ | ⟨h2, h3⟩⟩
      · simp (disch := omega) only [il, nI_add, nI_mul, nI_sub, nI_div, nI_rem, nI_N, i32_lt, i32_le, nI_toInt, nI_subI, nI_clamp, zinT, zifT, iteT, iteF, zQ, zS, zkc, zI_sI, zL_sL, zI_wI, zL_wL, Nat.reduceEqDiff, Nat.reduceAdd, Nat.reduceMul, Nat.reduceLT, Nat.reduceLeDiff, reduceIte, eq_self, and_self, true_and, and_true, false_and, and_false, true_or, or_true, or_false, false_or, not_true_eq_false, not_false_eq_true, zarr, ne_eq, hK, hMo, h1, h2, Bool.toNat_false, Bool.or_false]
      · simp (disch := omega) only [il, nI_add, nI_mul, nI_sub, nI_div, nI_rem, nI_N, i32_lt, i32_le, nI_toInt, nI_subI, nI_clamp, zinT, zifT, iteT, iteF, zQ, zS, zkc, zI_sI, zL_sL, zI_wI, zL_wL, Nat.reduceEqDiff, Nat.reduceAdd, Nat.reduceMul, Nat.reduceLT, Nat.reduceLeDiff, reduceIte, eq_self, and_self, true_and, and_true, false_and, and_false, true_or, or_true, or_false, false_or, not_true_eq_false, not_false_eq_true, zarr, ne_eq, hK, hMo, h1, h2, h3, Bool.toNat_false, Bool.toNat_true, Bool.or_true]
      · by_cases h4 : zI M 176 (i + k) = x
        · have h5 := h3.mp h4
          simp (disch := omega) only [il, nI_add, nI_mul, nI_sub, nI_div, nI_rem, nI_N, i32_lt, i32_le, nI_toInt, nI_subI, nI_clamp, zinT, zifT, iteT, iteF, zQ, zS, zkc, zI_sI, zL_sL, zI_wI, zL_wL, Nat.reduceEqDiff, Nat.reduceAdd, Nat.reduceMul, Nat.reduceLT, Nat.reduceLeDiff, reduceIte, eq_self, and_self, true_and, and_true, false_and, and_false, true_or, or_true, or_false, false_or, not_true_eq_false, not_false_eq_true, zarr, ne_eq, hK, hMo, h1, h2, h4, h5, Bool.toNat_false, Bool.toNat_true, Bool.or_true]
        · have h5 : f (i + k) = false := by rw [← Bool.not_eq_true]; exact fun q => h4 (h3.mpr q)
          simp (disch := omega) only [il, nI_add, nI_mul, nI_sub, nI_div, nI_rem, nI_N, i32_lt, i32_le, nI_toInt, nI_subI, nI_clamp, zinT, zifT, iteT, iteF, zQ, zS, zkc, zI_sI, zL_sL, zI_wI, zL_wL, Nat.reduceEqDiff, Nat.reduceAdd, Nat.reduceMul, Nat.reduceLT, Nat.reduceLeDiff, reduceIte, eq_self, and_self, true_and, and_true, false_and, and_false, true_or, or_true, or_false, false_or, not_true_eq_false, not_false_eq_true, zarr, ne_eq, hK, hMo, h1, h2, h4, h5, Bool.toNat_false, Bool.or_false]
    · simp (disch := omega) only [il, nI_add, nI_mul, nI_sub, nI_div, nI_rem, nI_N, i32_lt, i32_le, nI_toInt, nI_subI, nI_clamp, zinT, zifT, iteT, iteF, zQ, zS, zkc, zI_sI, zL_sL, zI_wI, zL_wL, Nat.reduceEqDiff, Nat.reduceAdd, Nat.reduceMul, Nat.reduceLT, Nat.reduceLeDiff, reduceIte, eq_self, and_self, true_and, and_true, false_and, and_false, true_or, or_true, or_false, false_or, not_true_eq_false, not_false_eq_true, zarr, ne_eq, hK, hMo, Bool.toNat_true, Bool.true_or])
  simp only [Nat.add_zero] at key
  refine Eq.trans key ?_
  rw [zg_Mo_isAny_6]
  unfold zx_Mo_isAny_6
  cases hb : exB f i (u + 1 - i)
  · simp (disch := omega) only [il, nI_add, nI_mul, nI_sub, nI_div, nI_rem, nI_N, i32_lt, i32_le, nI_toInt, nI_subI, nI_clamp, zinT, zifT, iteT, iteF, zQ, zS, zkc, zI_sI, zL_sL, zI_wI, zL_wL, Nat.reduceEqDiff, Nat.reduceAdd, Nat.reduceMul, Nat.reduceLT, Nat.reduceLeDiff, reduceIte, eq_self, and_self, true_and, and_true, false_and, and_false, true_or, or_true, or_false, false_or, not_true_eq_false, not_false_eq_true, zarr, ne_eq, Bool.toNat_false]
  · simp (disch := omega) only [il, nI_add, nI_mul, nI_sub, nI_div, nI_rem, nI_N, i32_lt, i32_le, nI_toInt, nI_subI, nI_clamp, zinT, zifT, iteT, iteF, zQ, zS, zkc, zI_sI, zL_sL, zI_wI, zL_wL, Nat.reduceEqDiff, Nat.reduceAdd, Nat.reduceMul, Nat.reduceLT, Nat.reduceLeDiff, reduceIte, eq_self, and_self, true_and, and_true, false_and, and_false, true_or, or_true, or_false, false_or, not_true_eq_false, not_false_eq_true, zarr, ne_eq, Bool.toNat_true]
/-- what there is of duties in a try from i, by the ticks before n -/
def TD (A B : Sq) (ki : Nat) (tr : Nat → Nat) (i n : Nat) (wk : List Nat → Int64) (M : zM) : Prop := ∀ q, i ≤ q → q < n → (A.acc (seg tr i (q + 1)) → zI M 178 q = nI 1 ∧ MDS (MDu M q) (dst B ki tr q (n - 1 - q)) (wk (seg tr (q + ki) n))) ∧ (¬ A.acc (seg tr i (q + 1)) → zI M 178 q = nI 0)
theorem m_verdictBy {A B : Sq} {d L w ki ho p t n0 n1 i u : Nat} {off : Nat → Prop} {tr C0 C1 : Nat → Nat} {M : zM} (hd : 3 ≤ d) (hs : zSh L w M) (hE : ME A B ki ho off p t tr n0 n1 C0 C1 M) (hu : u < t) (hi : i ≤ u) (wk : List Nat → Int64) (hT : TD A B ki tr i (u + 1) wk M) : zV d n_Mo_verdictBy [.ref 146, .int (nI p), .int (nI i), .int (nI u), .long (mwk M (2 * p) n0 C0 (seg tr i (u + 1)))] M = some (some (.int (nI (vstep A B ki off tr i u))), M) := by
  obtain ⟨d, rfl, hd1⟩ := zdep hd
  have hs1 := hs
  obtain ⟨hN, hK, hC, hMo, -⟩ := hs1
  obtain ⟨⟨t1, t2, t3⟩, ⟨p1, p2, p3, p4, p5⟩, ho1, sm0, sm1, lg0, lg1, nB, ff0, ff1⟩ := hE
  obtain ⟨v1, v2⟩ := t3 u hu
  rw [ze_Mo_verdictBy]
  unfold zx_Mo_verdictBy vstep
  have e1 := m_fulfilsOff (d := d) (by omega) hs p1 v1 p3 p5
  have key : ∀ c, c < 3 → zV d n_Mo_isAny [.ref 146, .int (nI i), .int (nI u), .int (nI c)] M = some (some (.int (nI (cB (∃ q, i ≤ q ∧ q ≤ u ∧ A.acc (seg tr i (q + 1)) ∧ (dst B ki tr q (u - q)).1 = c)).toNat)), M) := by
    intro c hc
    have := m_isAny (d := d) (i := i) (u := u) (x := nI c) (f := fun q => cB (A.acc (seg tr i (q + 1)) ∧ (dst B ki tr q (u - q)).1 = c)) (by omega) hs (by omega) hi (by
      intro q h1 h2
      obtain ⟨m1, m2⟩ := hT q h1 (by omega)
      rw [Nat.add_sub_cancel] at m1
      by_cases ha : A.acc (seg tr i (q + 1))
      · obtain ⟨m3, m4, -⟩ := m1 ha
        have h3 := dst_lt3 (B := B) (ki := ki) (u := q) (tr := tr) (u - q)
        refine Or.inr ⟨m3, Or.inr ⟨m4_ne (by omega), ?_⟩⟩
        rw [cB_iff]
        have m4 : zI M 176 q = nI (dst B ki tr q (u - q)).1 := m4
        rw [m4, nI_eq (by omega) (by omega)]
        exact ⟨fun h => ⟨ha, h⟩, fun h => h.2⟩
      · exact Or.inl ⟨m2 ha, cB_f (fun h => ha h.1)⟩)
    rw [this]
    have e : exB (fun q => cB (A.acc (seg tr i (q + 1)) ∧ (dst B ki tr q (u - q)).1 = c)) i (u + 1 - i) = cB (∃ q, i ≤ q ∧ q ≤ u ∧ A.acc (seg tr i (q + 1)) ∧ (dst B ki tr q (u - q)).1 = c) := by
      apply Bool.eq_iff_iff.mpr
      rw [exB_iff, cB_iff]
      constructor
      · rintro ⟨q, h1, h2, h3⟩; exact ⟨q, h1, by omega, cB_iff.mp h3⟩
      · rintro ⟨q, h1, h2, h3⟩; exact ⟨q, h1, by omega, cB_iff.mpr h3⟩
    rw [e]
  have keyN : zV d n_Mo_isAny [.ref 146, .int (nI i), .int (nI u), .int (-nI 4)] M = some (some (.int (nI (cB (∃ q, i ≤ q ∧ q ≤ u ∧ A.acc (seg tr i (q + 1)))).toNat)), M) := by
    have := m_isAny (d := d) (i := i) (u := u) (x := -nI 4) (f := fun q => cB (A.acc (seg tr i (q + 1)))) (by omega) hs (by omega) hi (by
      intro q h1 h2
      obtain ⟨m1, m2⟩ := hT q h1 (by omega)
      by_cases ha : A.acc (seg tr i (q + 1))
      · exact Or.inr ⟨(m1 ha).1, Or.inl ⟨rfl, cB_t ha⟩⟩
      · exact Or.inl ⟨m2 ha, cB_f ha⟩)
    rw [this]
    have e : exB (fun q => cB (A.acc (seg tr i (q + 1)))) i (u + 1 - i) = cB (∃ q, i ≤ q ∧ q ≤ u ∧ A.acc (seg tr i (q + 1))) := by
      apply Bool.eq_iff_iff.mpr
      rw [exB_iff, cB_iff]
      constructor
      · rintro ⟨q, h1, h2, h3⟩; exact ⟨q, h1, by omega, cB_iff.mp h3⟩
      · rintro ⟨q, h1, h2, h3⟩; exact ⟨q, h1, by omega, cB_iff.mpr h3⟩
    rw [e]
  have k2 := key 2 (by omega)
  have k0 := key 0 (by omega)
  have hb1 : bts (seg tr i (u + 1)) := bts_seg (t := t) (fun i hi => (t3 i hi).1) (by omega)
  have q2 := (LG_acc lg0 hb1).1
  have e2 := m_canEnd (d := d) (i := 2 * p) (by omega) hs (by omega) (mwk M (2 * p) n0 C0 (seg tr i (u + 1)))
  clear hT key
  generalize mwk M (2 * p) n0 C0 (seg tr i (u + 1)) = X at *
  by_cases h4 : off (tr u)
  · rw [cif_t h4]
    rw [if_pos ((ho1 _ v1).mpr h4)] at e1
    clear ho1 lg0 lg1 ff0 ff1 q2
    simp (disch := omega) only [il, nI_add, nI_mul, nI_sub, nI_div, nI_rem, nI_N, i32_lt, i32_le, nI_toInt, nI_subI, nI_clamp, zinT, zifT, iteT, iteF, zQ, zS, zkc, zI_sI, zL_sL, zI_wI, zL_wL, Nat.reduceEqDiff, Nat.reduceAdd, Nat.reduceMul, Nat.reduceLT, Nat.reduceLeDiff, reduceIte, eq_self, and_self, true_and, and_true, false_and, and_false, true_or, or_true, or_false, false_or, not_true_eq_false, not_false_eq_true, zarr, ne_eq, hK, hMo, v2, e1]
  · rw [cif_f h4]
    rw [if_neg (fun q => h4 ((ho1 _ v1).mp q))] at e1
    clear ho1 lg0 lg1 ff0 ff1
    by_cases h2 : ∃ q, i ≤ q ∧ q ≤ u ∧ A.acc (seg tr i (q + 1)) ∧ (dst B ki tr q (u - q)).1 = 2
    · rw [cif_t h2]
      rw [cB_t h2] at k2
      clear h2 q2
      simp (disch := omega) only [il, nI_add, nI_mul, nI_sub, nI_div, nI_rem, nI_N, i32_lt, i32_le, nI_toInt, nI_subI, nI_clamp, zinT, zifT, iteT, iteF, zQ, zS, zkc, zI_sI, zL_sL, zI_wI, zL_wL, Nat.reduceEqDiff, Nat.reduceAdd, Nat.reduceMul, Nat.reduceLT, Nat.reduceLeDiff, reduceIte, eq_self, and_self, true_and, and_true, false_and, and_false, true_or, or_true, or_false, false_or, not_true_eq_false, not_false_eq_true, zarr, ne_eq, hK, hMo, v2, e1, k2, Bool.toNat_true]
    · rw [cif_f h2]
      rw [cB_f h2] at k2
      clear h2
      by_cases h0 : ∃ q, i ≤ q ∧ q ≤ u ∧ A.acc (seg tr i (q + 1)) ∧ (dst B ki tr q (u - q)).1 = 0
      · rw [cif_t (Or.inl h0)]
        rw [cB_t h0] at k0
        clear h0 q2
        simp (disch := omega) only [il, nI_add, nI_mul, nI_sub, nI_div, nI_rem, nI_N, i32_lt, i32_le, nI_toInt, nI_subI, nI_clamp, zinT, zifT, iteT, iteF, zQ, zS, zkc, zI_sI, zL_sL, zI_wI, zL_wL, Nat.reduceEqDiff, Nat.reduceAdd, Nat.reduceMul, Nat.reduceLT, Nat.reduceLeDiff, reduceIte, eq_self, and_self, true_and, and_true, false_and, and_false, true_or, or_true, or_false, false_or, not_true_eq_false, not_false_eq_true, zarr, ne_eq, hK, hMo, v2, e1, k2, k0, Bool.toNat_true, Bool.toNat_false]
      · rw [cB_f h0] at k0
        by_cases hl : A.liv (seg tr i (u + 1))
        · rw [cif_t (Or.inr hl)]
          rw [if_neg (fun q => q2.mp q hl)] at e2
          clear h0 q2
          simp (disch := omega) only [il, nI_add, nI_mul, nI_sub, nI_div, nI_rem, nI_N, i32_lt, i32_le, nI_toInt, nI_subI, nI_clamp, zinT, zifT, iteT, iteF, zQ, zS, zkc, zI_sI, zL_sL, zI_wI, zL_wL, Nat.reduceEqDiff, Nat.reduceAdd, Nat.reduceMul, Nat.reduceLT, Nat.reduceLeDiff, reduceIte, eq_self, and_self, true_and, and_true, false_and, and_false, true_or, or_true, or_false, false_or, not_true_eq_false, not_false_eq_true, zarr, ne_eq, hK, hMo, v2, e1, k2, k0, e2, Bool.toNat_false]
        · rw [cif_f (fun q => q.elim h0 hl)]
          rw [if_pos (q2.mpr hl)] at e2
          clear h0 q2
          by_cases h1 : ∃ q, i ≤ q ∧ q ≤ u ∧ A.acc (seg tr i (q + 1))
          · rw [cif_t h1]
            rw [cB_t h1] at keyN
            clear h1
            simp (disch := omega) only [il, nI_add, nI_mul, nI_sub, nI_div, nI_rem, nI_N, i32_lt, i32_le, nI_toInt, nI_subI, nI_clamp, zinT, zifT, iteT, iteF, zQ, zS, zkc, zI_sI, zL_sL, zI_wI, zL_wL, Nat.reduceEqDiff, Nat.reduceAdd, Nat.reduceMul, Nat.reduceLT, Nat.reduceLeDiff, reduceIte, eq_self, and_self, true_and, and_true, false_and, and_false, true_or, or_true, or_false, false_or, not_true_eq_false, not_false_eq_true, zarr, ne_eq, hK, hMo, v2, e1, k2, k0, e2, keyN, Bool.toNat_false, Bool.toNat_true]
          · rw [cif_f h1]
            rw [cB_f h1] at keyN
            clear h1
            simp (disch := omega) only [il, nI_add, nI_mul, nI_sub, nI_div, nI_rem, nI_N, i32_lt, i32_le, nI_toInt, nI_subI, nI_clamp, zinT, zifT, iteT, iteF, zQ, zS, zkc, zI_sI, zL_sL, zI_wI, zL_wL, Nat.reduceEqDiff, Nat.reduceAdd, Nat.reduceMul, Nat.reduceLT, Nat.reduceLeDiff, reduceIte, eq_self, and_self, true_and, and_true, false_and, and_false, true_or, or_true, or_false, false_or, not_true_eq_false, not_false_eq_true, zarr, ne_eq, hK, hMo, v2, e1, k2, k0, e2, keyN, Bool.toNat_false]
