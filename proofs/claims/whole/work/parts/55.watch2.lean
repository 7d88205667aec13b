/-! a watch takes in a tick: tries move, a duty begins, tries are judged -/
def fT (a : Nat) (M M' : zM) : Prop := fO a M M' ∧ zL M' (a + 2) = zL M (a + 2) ∧ zI M' (a + 3) = zI M (a + 3) ∧ zI M' (a + 5) = zI M (a + 5) ∧ zI M' (a + 6) = zI M (a + 6) ∧ zI M' a = zI M a ∧ zL M' a = zL M a
theorem fT_rfl (a : Nat) (M : zM) : fT a M M := ⟨fO_rfl a M, rfl, rfl, rfl, rfl, rfl, rfl⟩
theorem wa_moveTries {d a s p k : Nat} {M : zM} {op : Int64} (hd : 2 ≤ d) (hw : zWat M a) (hs : zSeq M s) (hsa : s + 3 < a ∨ a + 6 < s) (hp : p ≤ 40) (h7 : zI M s 7 = nI p) (h8 : zI M a 8 = nI k) (hk : k < 48) : ∃ M' c, zV d n_Wa_moveTries [.ref a, .ref s, .long op] M = some (some (.int (nI c)), M') ∧ fT a M M' ∧ c < 2 ∧ (c = 1 ↔ ∃ t, t ≤ k ∧ (cTo p (zL M (s + 1)) (zL M (a + 1) t) &&& op) &&& zL M s 3 ≠ 0) ∧
    (∀ t, t ≤ k → zL M' (a + 1) t = cTo p (zL M (s + 1)) (zL M (a + 1) t) &&& op) ∧
    (∀ t, t ≤ k → zL M' (a + 4) t = if (cTo p (zL M (s + 1)) (zL M (a + 1) t) &&& op) &&& zL M s 3 = 0 then zL M (a + 4) t else zL M (a + 4) t ||| b1 k) := by
  obtain ⟨d, rfl, hd1⟩ := zdep hd
  rw [ze_Wa_moveTries]
  unfold zx_Wa_moveTries
  obtain ⟨⟨c, M'⟩, e, f1, f2, f3, f4, f5, f6⟩ := zloopE (n := k + 1) (σ := Nat × zM) (g := fun t q => zG d n_Wa_moveTries 6 [some (.ref a), some (.ref s), some (.long op), none, some (.int (nI q.1)), some (.int (nI t))] [] q.2) (P := fun n q => fT a M q.2 ∧ q.1 < 2 ∧ (q.1 = 1 ↔ ∃ t, t < n ∧ (cTo p (zL M (s + 1)) (zL M (a + 1) t) &&& op) &&& zL M s 3 ≠ 0) ∧
      (∀ t, t < n → zL q.2 (a + 1) t = cTo p (zL M (s + 1)) (zL M (a + 1) t) &&& op) ∧
      (∀ t, t < n → zL q.2 (a + 4) t = if (cTo p (zL M (s + 1)) (zL M (a + 1) t) &&& op) &&& zL M s 3 = 0 then zL M (a + 4) t else zL M (a + 4) t ||| b1 k) ∧
      (∀ t, n ≤ t → zL q.2 (a + 1) t = zL M (a + 1) t ∧ zL q.2 (a + 4) t = zL M (a + 4) t)) (by
    rintro t ⟨c, M1⟩ ht ⟨f1, f2, f3, f4, f5, f6⟩
    simp only at f1 f2 f3 f4 f5 f6
    have f1O := f1.1
    have hw1 := zWat_fr hw f1O.2.1 f1O.2.2.1
    have hs1 := zSeq_fr hs f1O.2.1 f1O.2.2.1
    have sI : zI M1 s = zI M s := (f1O.2.2.2 s (by omega)).1
    have sL : zL M1 s = zL M s := (f1O.2.2.2 s (by omega)).2
    have sL1 : zL M1 (s + 1) = zL M (s + 1) := (f1O.2.2.2 (s + 1) (by omega)).2
    have h81 : zI M1 a 8 = nI k := by rw [f1.2.2.2.2.2.1]; exact h8
    have h71 : zI M1 s 7 = nI p := by rw [sI]; exact h7
    obtain ⟨w0, w1, w2, w3, w4, w5, w6, r0, r1, r2, r3, r4, r5⟩ := hw1
    have s0 := hs1.1
    obtain ⟨x1, x4⟩ := f6 t (Nat.le_refl t)
    by_cases h0 : zL M (a + 1) t = 0
    · have z0 : cTo p (zL M (s + 1)) (zL M (a + 1) t) &&& op = 0 := by rw [h0, cTo_0, z_0and]
      refine ⟨(c, M1), ?_, f1, f2, ?_, ?_, ?_, ?_⟩
      · show zG d n_Wa_moveTries 6 [some (.ref a), some (.ref s), some (.long op), none, some (.int (nI c)), some (.int (nI t))] [] M1 = _
        rw [zg_Wa_moveTries_6]
        unfold zx_Wa_moveTries_6
        simp (disch := omega) only [il, nI_add, nI_mul, nI_sub, nI_div, nI_rem, nI_N, i32_lt, i32_le, nI_toInt, nI_subI, nI_clamp, zinT, zifT, iteT, iteF, zQ, zS, zkc, zI_sI, zL_sL, zI_wI, zL_wL, Nat.reduceEqDiff, Nat.reduceAdd, Nat.reduceMul, Nat.reduceLT, Nat.reduceLeDiff, reduceIte, eq_self, and_self, true_and, and_true, false_and, and_false, true_or, or_true, or_false, false_or, not_true_eq_false, not_false_eq_true, zarr, ne_eq, w0, w1, r0, h81, x1, h0, t_n]
      · rw [f3]
        constructor
        · rintro ⟨i, h1, h2⟩; exact ⟨i, by omega, h2⟩
        · rintro ⟨i, h1, h2⟩
          by_cases hi : i = t
          · subst hi; rw [z0, z_0and] at h2; exact absurd rfl h2
          · exact ⟨i, by omega, h2⟩
      · intro i hi
        by_cases h : i = t
        · subst h; show zL M1 (a + 1) i = _; rw [z0, x1, h0]
        · exact f4 i (by omega)
      · intro i hi
        by_cases h : i = t
        · subst h; show zL M1 (a + 4) i = _; rw [z0, z_0and, if_pos rfl]; exact x4
        · exact f5 i (by omega)
      · intro i hi
        exact f6 i (by omega)
    · have e2 := se_after (d := d) (by omega) hs1 hp h71 (zL M (a + 1) t) op
      rw [sL1] at e2
      have e3 := se_hasEnded (d := d) (M := zsL M1 (a + 1) t (cTo p (zL M (s + 1)) (zL M (a + 1) t) &&& op)) (by omega) hs1 (cTo p (zL M (s + 1)) (zL M (a + 1) t) &&& op)
      rw [zL_ne (by omega), sL] at e3
      generalize hy : cTo p (zL M (s + 1)) (zL M (a + 1) t) &&& op = y at *
      by_cases hE : y &&& zL M s 3 = 0
      · refine ⟨(c, zsL M1 (a + 1) t y), ?_, ⟨⟨f1O.1, f1O.2.1, f1O.2.2.1, fun b hb => ⟨(f1O.2.2.2 b hb).1, (zL_ne (by omega)).trans (f1O.2.2.2 b hb).2⟩⟩, (zL_ne (by omega)).trans f1.2.1, f1.2.2.1, f1.2.2.2.1, f1.2.2.2.2.1, f1.2.2.2.2.2.1, (zL_ne (by omega)).trans f1.2.2.2.2.2.2⟩, f2, ?_, ?_, ?_, ?_⟩
        · show zG d n_Wa_moveTries 6 [some (.ref a), some (.ref s), some (.long op), none, some (.int (nI c)), some (.int (nI t))] [] M1 = _
          rw [zg_Wa_moveTries_6]
          unfold zx_Wa_moveTries_6
          simp (disch := omega) only [il, nI_add, nI_mul, nI_sub, nI_div, nI_rem, nI_N, i32_lt, i32_le, nI_toInt, nI_subI, nI_clamp, zinT, zifT, iteT, iteF, zQ, zS, zkc, zI_sI, zL_sL, zI_wI, zL_wL, Nat.reduceEqDiff, Nat.reduceAdd, Nat.reduceMul, Nat.reduceLT, Nat.reduceLeDiff, reduceIte, eq_self, and_self, true_and, and_true, false_and, and_false, true_or, or_true, or_false, false_or, not_true_eq_false, not_false_eq_true, zarr, ne_eq, w0, w1, r0, s0, h81, x1, h0, t_n, e2, e3, hE]
        · rw [f3]
          constructor
          · rintro ⟨i, h1, h2⟩; exact ⟨i, by omega, h2⟩
          · rintro ⟨i, h1, h2⟩
            by_cases hi : i = t
            · subst hi; rw [hy] at h2; exact absurd hE h2
            · exact ⟨i, by omega, h2⟩
        · intro i hi
          by_cases h : i = t
          · subst h; show zL (zsL M1 (a + 1) i y) (a + 1) i = _; rw [zL_sL, if_pos ⟨rfl, rfl⟩, hy]
          · show zL (zsL M1 (a + 1) t y) (a + 1) i = _; rw [zL_sL, if_neg (fun q => h q.2)]; exact f4 i (by omega)
        · intro i hi
          show zL (zsL M1 (a + 1) t y) (a + 4) i = _
          rw [zL_ne (by omega)]
          by_cases h : i = t
          · subst h; rw [hy, if_pos hE]; exact x4
          · exact f5 i (by omega)
        · intro i hi
          show zL (zsL M1 (a + 1) t y) (a + 1) i = _ ∧ zL (zsL M1 (a + 1) t y) (a + 4) i = _
          rw [zL_sL, if_neg (fun q => by omega), zL_ne (by omega)]
          exact f6 i (by omega)
      · refine ⟨(1, zsL (zsL M1 (a + 1) t y) (a + 4) t (zL M (a + 4) t ||| b1 k)), ?_, ⟨⟨f1O.1, f1O.2.1, f1O.2.2.1, fun b hb => ⟨(f1O.2.2.2 b hb).1, (zL_ne (by omega)).trans ((zL_ne (by omega)).trans (f1O.2.2.2 b hb).2)⟩⟩, (zL_ne (by omega)).trans ((zL_ne (by omega)).trans f1.2.1), f1.2.2.1, f1.2.2.2.1, f1.2.2.2.2.1, f1.2.2.2.2.2.1, (zL_ne (by omega)).trans ((zL_ne (by omega)).trans f1.2.2.2.2.2.2)⟩, Nat.lt_succ_self 1, ?_, ?_, ?_, ?_⟩
        · show zG d n_Wa_moveTries 6 [some (.ref a), some (.ref s), some (.long op), none, some (.int (nI c)), some (.int (nI t))] [] M1 = _
          rw [zg_Wa_moveTries_6]
          unfold zx_Wa_moveTries_6 b1
          have x4' := (zL_ne (M := M1) (a := a + 1) (i := t) (b := a + 4) (x := y) (by omega)).trans rfl
          simp (disch := omega) only [il, nI_add, nI_mul, nI_sub, nI_div, nI_rem, nI_N, i32_lt, i32_le, nI_toInt, nI_subI, nI_clamp, zinT, zifT, iteT, iteF, zQ, zS, zkc, zI_sI, zL_sL, zI_wI, zL_wL, Nat.reduceEqDiff, Nat.reduceAdd, Nat.reduceMul, Nat.reduceLT, Nat.reduceLeDiff, reduceIte, eq_self, and_self, true_and, and_true, false_and, and_false, true_or, or_true, or_false, false_or, not_true_eq_false, not_false_eq_true, zarr, ne_eq, w0, w1, w4, r0, r3, s0, h81, x1, x4, h0, t_n, e2, e3, hE]
        · exact ⟨fun _ => ⟨t, by omega, by rw [hy]; exact hE⟩, fun _ => rfl⟩
        · intro i hi
          show zL (zsL (zsL M1 (a + 1) t y) (a + 4) t (zL M (a + 4) t ||| b1 k)) (a + 1) i = _
          rw [zL_ne (by omega)]
          by_cases h : i = t
          · subst h; rw [zL_sL, if_pos ⟨rfl, rfl⟩, hy]
          · rw [zL_sL, if_neg (fun q => h q.2)]; exact f4 i (by omega)
        · intro i hi
          show zL (zsL (zsL M1 (a + 1) t y) (a + 4) t (zL M (a + 4) t ||| b1 k)) (a + 4) i = _
          by_cases h : i = t
          · subst h; rw [zL_sL, if_pos ⟨rfl, rfl⟩, hy, if_neg hE]
          · rw [zL_sL, if_neg (fun q => h q.2), zL_ne (by omega)]; exact f5 i (by omega)
        · intro i hi
          show zL (zsL (zsL M1 (a + 1) t y) (a + 4) t (zL M (a + 4) t ||| b1 k)) (a + 1) i = _ ∧ zL (zsL (zsL M1 (a + 1) t y) (a + 4) t (zL M (a + 4) t ||| b1 k)) (a + 4) i = _
          rw [zL_sL, if_neg (fun q => by omega), zL_sL, if_neg (fun q => by omega), zL_sL, if_neg (fun q => by omega), zL_ne (by omega)]
          exact f6 i (by omega)) (s0 := (0, M)) ⟨fT_rfl a M, Nat.zero_lt_two, ⟨fun h => absurd h Nat.zero_ne_one, fun ⟨t, h, _⟩ => absurd h (by omega)⟩, fun _ h => absurd h (by omega), fun _ h => absurd h (by omega), fun _ _ => ⟨rfl, rfl⟩⟩
  simp only at f1 f2 f3 f4 f5 f6
  refine ⟨M', c, ?_, f1, f2, ?_, fun t ht => f4 t (by omega), fun t ht => f5 t (by omega)⟩
  · refine Eq.trans e ?_
    show zG d n_Wa_moveTries 6 [some (.ref a), some (.ref s), some (.long op), none, some (.int (nI c)), some (.int (nI (k + 1)))] [] M' = _
    rw [zg_Wa_moveTries_6]
    unfold zx_Wa_moveTries_6
    have w0 := (zWat_fr hw f1.1.2.1 f1.1.2.2.1).1
    have h81 : zI M' a 8 = nI k := by rw [f1.2.2.2.2.2.1]; exact h8
    have hc : nI c = nI 0 ∨ nI c = nI 1 := by
      have : c = 0 ∨ c = 1 := by omega
      rcases this with rfl | rfl
      · exact Or.inl rfl
      · exact Or.inr rfl
    simp (disch := omega) only [il, nI_add, nI_mul, nI_sub, nI_div, nI_rem, nI_N, i32_lt, i32_le, nI_toInt, nI_subI, nI_clamp, zinT, zifT, iteT, iteF, zQ, zS, zkc, zI_sI, zL_sL, zI_wI, zL_wL, Nat.reduceEqDiff, Nat.reduceAdd, Nat.reduceMul, Nat.reduceLT, Nat.reduceLeDiff, reduceIte, eq_self, and_self, true_and, and_true, false_and, and_false, true_or, or_true, or_false, false_or, not_true_eq_false, not_false_eq_true, zarr, ne_eq, w0, h81, hc]
  · rw [f3]
    constructor
    · rintro ⟨i, h1, h2⟩; exact ⟨i, by omega, h2⟩
    · rintro ⟨i, h1, h2⟩; exact ⟨i, by omega, h2⟩
theorem wa_beginDuty {d a g p k ki : Nat} {M : zM} {op : Int64} (hd : 3 ≤ d) (hw : zWat M a) (hg : zPle M g) (hga : g + 9 < a ∨ a + 6 < g) (hp : p ≤ 40) (h7 : zI M (g + 5) 7 = nI p) (h4 : zI M g 4 = nI ki) (hki : ki < 2) (h8 : zI M a 8 = nI k) (hk : k < 48) : ∃ M', zV d n_Wa_beginDuty [.ref a, .ref g, .long op] M = some (none, M') ∧ fD a M M' ∧ ∀ i, Du a M' i = if i = k then sett (zL M (g + 5) 3) (zL M (g + 5) 5) k (if ki = 1 then 1 else cTo p (zL M (g + 6)) 1 &&& op, (Du a M k).2) else Du a M i := by
  obtain ⟨d, rfl, hd1⟩ := zdep hd
  rw [ze_Wa_beginDuty]
  unfold zx_Wa_beginDuty
  obtain ⟨g1, g2, g3, g4, g5, g6, g7⟩ := hg
  have hw' := hw
  obtain ⟨w0, w1, w2, w3, w4, w5, w6, r0, r1, r2, r3, r4, r5⟩ := hw'
  have s0 := g7.1
  have key : ∀ y : Int64, ∃ M', zV d n_Wa_settleDuty [.ref a, .ref (g + 5), .int (nI k)] (zsL M (a + 2) k y) = some (none, M') ∧ fD a M M' ∧ ∀ i, Du a M' i = if i = k then sett (zL M (g + 5) 3) (zL M (g + 5) 5) k (y, (Du a M k).2) else Du a M i := by
    intro y
    obtain ⟨M2, e3, q1, q2⟩ := wa_settle (d := d) (a := a) (s := g + 5) (u := k) (k := k) (M := zsL M (a + 2) k y) (by omega) hw g7 h8 hk
    refine ⟨M2, e3, fD.trans (M1 := zsL M (a + 2) k y) ⟨⟨rfl, rfl, rfl, fun b hb => ⟨rfl, zL_ne (by omega)⟩⟩, zL_ne (by omega), zL_ne (by omega), rfl, rfl, rfl⟩ q1, ?_⟩
    intro i
    rw [q2]
    by_cases hi : i = k
    · subst hi
      rw [if_pos rfl, if_pos rfl, zL_ne (by omega)]
      congr 1
      unfold Du
      simp (disch := omega) only [zL_sL, zI_sI, zS, iteF, iteT, eq_self, and_self, true_and, and_true, false_and, and_false, if_true, if_false, reduceIte, Nat.reduceEqDiff]
    · rw [if_neg hi, if_neg hi]
      unfold Du
      simp (disch := omega) only [zL_sL, zI_sI, zS, iteF, iteT, eq_self, and_self, true_and, and_true, false_and, and_false, if_true, if_false, reduceIte, Nat.reduceEqDiff, hi]
  have : ki = 0 ∨ ki = 1 := by omega
  rcases this with rfl | rfl
  · have e2 := se_after (d := d) (by omega) g7 hp h7 1 op
    obtain ⟨M', k1, k2, k3⟩ := key (cTo p (zL M (g + 5 + 1)) 1 &&& op)
    refine ⟨M', ?_, k2, k3⟩
    simp (disch := omega) only [il, nI_add, nI_mul, nI_sub, nI_div, nI_rem, nI_N, i32_lt, i32_le, nI_toInt, nI_subI, nI_clamp, zinT, zifT, iteT, iteF, zQ, zS, zkc, zI_sI, zL_sL, zI_wI, zL_wL, Nat.reduceEqDiff, Nat.reduceAdd, Nat.reduceMul, Nat.reduceLT, Nat.reduceLeDiff, reduceIte, eq_self, and_self, true_and, and_true, false_and, and_false, true_or, or_true, or_false, false_or, not_true_eq_false, not_false_eq_true, zarr, ne_eq, g1, g4, w0, w2, r1, s0, h4, h8, e2, k1]
  · obtain ⟨M', k1, k2, k3⟩ := key 1
    refine ⟨M', ?_, k2, k3⟩
    simp (disch := omega) only [il, nI_add, nI_mul, nI_sub, nI_div, nI_rem, nI_N, i32_lt, i32_le, nI_toInt, nI_subI, nI_clamp, zinT, zifT, iteT, iteF, zQ, zS, zkc, zI_sI, zL_sL, zI_wI, zL_wL, Nat.reduceEqDiff, Nat.reduceAdd, Nat.reduceMul, Nat.reduceLT, Nat.reduceLeDiff, reduceIte, eq_self, and_self, true_and, and_true, false_and, and_false, true_or, or_true, or_false, false_or, not_true_eq_false, not_false_eq_true, zarr, ne_eq, g1, g4, w0, w2, r1, s0, h4, h8, k1]
/-- how the class judges a try -/
def jdg (X m b st O : Int64) : Nat := if X &&& b = 0 then (if X &&& (m ^^^ (-1)) = 0 ∧ st &&& O = 0 then (if X = 0 then 3 else 1) else 0) else 2
theorem wa_judge {d a s t : Nat} {M : zM} (hd : 2 ≤ d) (hw : zWat M a) (hs : zSeq M s) (ht : t < 48) : zV d n_Wa_judge [.ref a, .ref s, .int (nI t)] M = some (some (.int (nI (jdg (zL M (a + 4) t) (zL M a 6) (zL M a 7) (zL M (a + 1) t) (zL M s 5)))), M) := by
  obtain ⟨d, rfl, hd1⟩ := zdep hd
  rw [ze_Wa_judge]
  unfold zx_Wa_judge jdg
  obtain ⟨w0, w1, w2, w3, w4, w5, w6, r0, r1, r2, r3, r4, r5⟩ := hw
  have s0 := hs.1
  have e1 := se_goesOn (d := d) (by omega) hs (zL M (a + 1) t)
  by_cases h1 : zL M (a + 4) t &&& zL M a 7 = 0
  · by_cases h2 : zL M (a + 4) t &&& (zL M a 6 ^^^ (-1)) = 0
    · by_cases h3 : zL M (a + 1) t &&& zL M s 5 = 0
      · by_cases h4 : zL M (a + 4) t = 0
        · rw [if_pos h1, if_pos ⟨h2, h3⟩, if_pos h4]
          simp (disch := omega) only [il, nI_add, nI_mul, nI_sub, nI_div, nI_rem, nI_N, i32_lt, i32_le, nI_toInt, nI_subI, nI_clamp, zinT, zifT, iteT, iteF, zQ, zS, zkc, zI_sI, zL_sL, zI_wI, zL_wL, Nat.reduceEqDiff, Nat.reduceAdd, Nat.reduceMul, Nat.reduceLT, Nat.reduceLeDiff, reduceIte, eq_self, and_self, true_and, and_true, false_and, and_false, true_or, or_true, or_false, false_or, not_true_eq_false, not_false_eq_true, zarr, ne_eq, w0, w1, w4, r0, r3, s0, e1, t_n, h1, h2, h3, h4, z_0and]
        · rw [if_pos h1, if_pos ⟨h2, h3⟩, if_neg h4]
          simp (disch := omega) only [il, nI_add, nI_mul, nI_sub, nI_div, nI_rem, nI_N, i32_lt, i32_le, nI_toInt, nI_subI, nI_clamp, zinT, zifT, iteT, iteF, zQ, zS, zkc, zI_sI, zL_sL, zI_wI, zL_wL, Nat.reduceEqDiff, Nat.reduceAdd, Nat.reduceMul, Nat.reduceLT, Nat.reduceLeDiff, reduceIte, eq_self, and_self, true_and, and_true, false_and, and_false, true_or, or_true, or_false, false_or, not_true_eq_false, not_false_eq_true, zarr, ne_eq, w0, w1, w4, r0, r3, s0, e1, t_n, h1, h2, h3, h4]
      · rw [if_pos h1, if_neg (fun q => h3 q.2)]
        simp (disch := omega) only [il, nI_add, nI_mul, nI_sub, nI_div, nI_rem, nI_N, i32_lt, i32_le, nI_toInt, nI_subI, nI_clamp, zinT, zifT, iteT, iteF, zQ, zS, zkc, zI_sI, zL_sL, zI_wI, zL_wL, Nat.reduceEqDiff, Nat.reduceAdd, Nat.reduceMul, Nat.reduceLT, Nat.reduceLeDiff, reduceIte, eq_self, and_self, true_and, and_true, false_and, and_false, true_or, or_true, or_false, false_or, not_true_eq_false, not_false_eq_true, zarr, ne_eq, w0, w1, w4, r0, r3, s0, e1, t_n, h1, h2, h3]
    · rw [if_pos h1, if_neg (fun q => h2 q.1)]
      simp (disch := omega) only [il, nI_add, nI_mul, nI_sub, nI_div, nI_rem, nI_N, i32_lt, i32_le, nI_toInt, nI_subI, nI_clamp, zinT, zifT, iteT, iteF, zQ, zS, zkc, zI_sI, zL_sL, zI_wI, zL_wL, Nat.reduceEqDiff, Nat.reduceAdd, Nat.reduceMul, Nat.reduceLT, Nat.reduceLeDiff, reduceIte, eq_self, and_self, true_and, and_true, false_and, and_false, true_or, or_true, or_false, false_or, not_true_eq_false, not_false_eq_true, zarr, ne_eq, w0, w1, w4, r0, r3, s0, e1, t_n, h1, h2]
  · rw [if_neg h1]
    simp (disch := omega) only [il, nI_add, nI_mul, nI_sub, nI_div, nI_rem, nI_N, i32_lt, i32_le, nI_toInt, nI_subI, nI_clamp, zinT, zifT, iteT, iteF, zQ, zS, zkc, zI_sI, zL_sL, zI_wI, zL_wL, Nat.reduceEqDiff, Nat.reduceAdd, Nat.reduceMul, Nat.reduceLT, Nat.reduceLeDiff, reduceIte, eq_self, and_self, true_and, and_true, false_and, and_false, true_or, or_true, or_false, false_or, not_true_eq_false, not_false_eq_true, zarr, ne_eq, w0, w1, w4, r0, r3, s0, e1, t_n, h1]
def fJ (a : Nat) (M M' : zM) : Prop := fO a M M' ∧ zL M' = zL M ∧ zI M' (a + 3) = zI M (a + 3) ∧ zI M' a = zI M a
theorem wa_judgeTries {d a g k off : Nat} {M : zM} (hd : 3 ≤ d) (hw : zWat M a) (hg : zPle M g) (hga : g + 9 < a ∨ a + 6 < g) (hoff : off < 2) (h8 : zI M a 8 = nI k) (hk : k < 48) : ∃ M', zV d n_Wa_judgeTries [.ref a, .ref g, .int (nI off)] M = some (none, M') ∧ fJ a M M' ∧ ∀ t, t ≤ k → (zI M' (a + 5) t, zI M' (a + 6) t) = if zI M (a + 5) t = nI 0 then (nI (if off = 1 then 4 else jdg (zL M (a + 4) t) (zL M a 6) (zL M a 7) (zL M (a + 1) t) (zL M (g + 1) 5)), nI k) else (zI M (a + 5) t, zI M (a + 6) t) := by
  obtain ⟨d, rfl, hd1⟩ := zdep hd
  rw [ze_Wa_judgeTries]
  unfold zx_Wa_judgeTries
  obtain ⟨M', e, f1, f2, f3⟩ := zloopE (n := k + 1) (g := fun t M' => zG d n_Wa_judgeTries 2 [some (.ref a), some (.ref g), some (.int (nI off)), some (.int (nI t))] [] M') (P := fun n M' => fJ a M M' ∧ (∀ t, t < n → (zI M' (a + 5) t, zI M' (a + 6) t) = if zI M (a + 5) t = nI 0 then (nI (if off = 1 then 4 else jdg (zL M (a + 4) t) (zL M a 6) (zL M a 7) (zL M (a + 1) t) (zL M (g + 1) 5)), nI k) else (zI M (a + 5) t, zI M (a + 6) t)) ∧ ∀ t, n ≤ t → zI M' (a + 5) t = zI M (a + 5) t ∧ zI M' (a + 6) t = zI M (a + 6) t) (by
    intro t M1 ht ⟨f1, f2, f3⟩
    have f1O := f1.1
    have hw1 := zWat_fr hw f1O.2.1 f1O.2.2.1
    have hg1 := zPle_fr hg f1O.2.1 f1O.2.2.1
    have h81 : zI M1 a 8 = nI k := by rw [f1.2.2.2]; exact h8
    have e1 := wa_judge (d := d) (t := t) (by omega) hw1 hg1.2.2.2.2.2.1 (by omega)
    rw [f1.2.1] at e1
    obtain ⟨g1, g2, g3, g4, g5, g6, g7⟩ := hg1
    obtain ⟨w0, w1, w2, w3, w4, w5, w6, r0, r1, r2, r3, r4, r5⟩ := hw1
    obtain ⟨x5, x6⟩ := f3 t (Nat.le_refl t)
    by_cases hv : zI M (a + 5) t = nI 0
    · have key : ∀ v : Nat, (off = 1 → v = 4) → (off = 0 → v = jdg (zL M (a + 4) t) (zL M a 6) (zL M a 7) (zL M (a + 1) t) (zL M (g + 1) 5)) → fJ a M (zsI (zsI M1 (a + 5) t (nI v)) (a + 6) t (nI k)) ∧ (∀ i, i < t + 1 → (zI (zsI (zsI M1 (a + 5) t (nI v)) (a + 6) t (nI k)) (a + 5) i, zI (zsI (zsI M1 (a + 5) t (nI v)) (a + 6) t (nI k)) (a + 6) i) = if zI M (a + 5) i = nI 0 then (nI (if off = 1 then 4 else jdg (zL M (a + 4) i) (zL M a 6) (zL M a 7) (zL M (a + 1) i) (zL M (g + 1) 5)), nI k) else (zI M (a + 5) i, zI M (a + 6) i)) ∧ ∀ i, t + 1 ≤ i → zI (zsI (zsI M1 (a + 5) t (nI v)) (a + 6) t (nI k)) (a + 5) i = zI M (a + 5) i ∧ zI (zsI (zsI M1 (a + 5) t (nI v)) (a + 6) t (nI k)) (a + 6) i = zI M (a + 6) i := by
        intro v hv1 hv2
        refine ⟨⟨⟨f1O.1, f1O.2.1, f1O.2.2.1, fun b hb => ⟨(zI_ne (by omega)).trans ((zI_ne (by omega)).trans (f1O.2.2.2 b hb).1), (f1O.2.2.2 b hb).2⟩⟩, f1.2.1, (zI_ne (by omega)).trans ((zI_ne (by omega)).trans f1.2.2.1), (zI_ne (by omega)).trans ((zI_ne (by omega)).trans f1.2.2.2)⟩, ?_, ?_⟩
        · intro i hi
          by_cases h : i = t
          · subst h
            rw [if_pos hv]
            have : v = if off = 1 then 4 else jdg (zL M (a + 4) i) (zL M a 6) (zL M a 7) (zL M (a + 1) i) (zL M (g + 1) 5) := by
              by_cases h1 : off = 1
              · rw [if_pos h1]; exact hv1 h1
              · rw [if_neg h1]; exact hv2 (by omega)
            rw [← this]
            simp (disch := omega) only [zL_sL, zI_sI, zS, iteF, iteT, eq_self, and_self, true_and, and_true, false_and, and_false, if_true, if_false, reduceIte, Nat.reduceEqDiff]
          · rw [← f2 i (by omega)]
            simp (disch := omega) only [zL_sL, zI_sI, zS, iteF, iteT, eq_self, and_self, true_and, and_true, false_and, and_false, if_true, if_false, reduceIte, Nat.reduceEqDiff, h]
        · intro i hi
          have h : ¬ i = t := by omega
          simp (disch := omega) only [zL_sL, zI_sI, zS, iteF, iteT, eq_self, and_self, true_and, and_true, false_and, and_false, if_true, if_false, reduceIte, Nat.reduceEqDiff, h]
          exact f3 i (by omega)
      have : off = 0 ∨ off = 1 := by omega
      rcases this with rfl | rfl
      · obtain ⟨k1, k2, k3⟩ := key (jdg (zL M (a + 4) t) (zL M a 6) (zL M a 7) (zL M (a + 1) t) (zL M (g + 1) 5)) (fun h => absurd h (by decide)) (fun _ => rfl)
        refine ⟨_, ?_, k1, k2, k3⟩
        show zG d n_Wa_judgeTries 2 [some (.ref a), some (.ref g), some (.int (nI 0)), some (.int (nI t))] [] M1 = _
        rw [zg_Wa_judgeTries_2]
        unfold zx_Wa_judgeTries_2
        simp (disch := omega) only [il, nI_add, nI_mul, nI_sub, nI_div, nI_rem, nI_N, i32_lt, i32_le, nI_toInt, nI_subI, nI_clamp, zinT, zifT, iteT, iteF, zQ, zS, zkc, zI_sI, zL_sL, zI_wI, zL_wL, Nat.reduceEqDiff, Nat.reduceAdd, Nat.reduceMul, Nat.reduceLT, Nat.reduceLeDiff, reduceIte, eq_self, and_self, true_and, and_true, false_and, and_false, true_or, or_true, or_false, false_or, not_true_eq_false, not_false_eq_true, zarr, ne_eq, w0, w5, w6, r4, r5, g1, g3, h81, x5, hv, e1]
      · obtain ⟨k1, k2, k3⟩ := key 4 (fun _ => rfl) (fun h => absurd h (by decide))
        refine ⟨_, ?_, k1, k2, k3⟩
        show zG d n_Wa_judgeTries 2 [some (.ref a), some (.ref g), some (.int (nI 1)), some (.int (nI t))] [] M1 = _
        rw [zg_Wa_judgeTries_2]
        unfold zx_Wa_judgeTries_2
        simp (disch := omega) only [il, nI_add, nI_mul, nI_sub, nI_div, nI_rem, nI_N, i32_lt, i32_le, nI_toInt, nI_subI, nI_clamp, zinT, zifT, iteT, iteF, zQ, zS, zkc, zI_sI, zL_sL, zI_wI, zL_wL, Nat.reduceEqDiff, Nat.reduceAdd, Nat.reduceMul, Nat.reduceLT, Nat.reduceLeDiff, reduceIte, eq_self, and_self, true_and, and_true, false_and, and_false, true_or, or_true, or_false, false_or, not_true_eq_false, not_false_eq_true, zarr, ne_eq, w0, w5, w6, r4, r5, g1, g3, h81, x5, hv]
    · refine ⟨M1, ?_, f1, ?_, fun i hi => f3 i (by omega)⟩
      · show zG d n_Wa_judgeTries 2 [some (.ref a), some (.ref g), some (.int (nI off)), some (.int (nI t))] [] M1 = _
        rw [zg_Wa_judgeTries_2]
        unfold zx_Wa_judgeTries_2
        simp (disch := omega) only [il, nI_add, nI_mul, nI_sub, nI_div, nI_rem, nI_N, i32_lt, i32_le, nI_toInt, nI_subI, nI_clamp, zinT, zifT, iteT, iteF, zQ, zS, zkc, zI_sI, zL_sL, zI_wI, zL_wL, Nat.reduceEqDiff, Nat.reduceAdd, Nat.reduceMul, Nat.reduceLT, Nat.reduceLeDiff, reduceIte, eq_self, and_self, true_and, and_true, false_and, and_false, true_or, or_true, or_false, false_or, not_true_eq_false, not_false_eq_true, zarr, ne_eq, w0, w5, w6, r4, r5, h81, x5, hv]
      · intro i hi
        by_cases h : i = t
        · subst h; rw [if_neg hv, x5, x6]
        · exact f2 i (by omega)) (s0 := M) ⟨⟨fO_rfl a M, rfl, rfl, rfl⟩, fun _ h => absurd h (by omega), fun _ _ => ⟨rfl, rfl⟩⟩
  refine ⟨M', ?_, f1, fun t ht => f2 t (by omega)⟩
  refine Eq.trans e ?_
  show zG d n_Wa_judgeTries 2 [some (.ref a), some (.ref g), some (.int (nI off)), some (.int (nI (k + 1)))] [] M' = _
  rw [zg_Wa_judgeTries_2]
  unfold zx_Wa_judgeTries_2
  have w0 := (zWat_fr hw f1.1.2.1 f1.1.2.2.1).1
  have h81 : zI M' a 8 = nI k := by rw [f1.2.2.2]; exact h8
  simp (disch := omega) only [il, nI_add, nI_mul, nI_sub, nI_div, nI_rem, nI_N, i32_lt, i32_le, nI_toInt, nI_subI, nI_clamp, zinT, zifT, iteT, iteF, zQ, zS, zkc, zI_sI, zL_sL, zI_wI, zL_wL, Nat.reduceEqDiff, Nat.reduceAdd, Nat.reduceMul, Nat.reduceLT, Nat.reduceLeDiff, reduceIte, eq_self, and_self, true_and, and_true, false_and, and_false, true_or, or_true, or_false, false_or, not_true_eq_false, not_false_eq_true, zarr, ne_eq, w0, h81]
theorem pl_isPutOffBy {d g v ho : Nat} {M : zM} (hd : 2 ≤ d) (hg : zPle M g) (hv : v < 256) (hho : ho < 2) (h3 : zI M g 3 = nI ho) : ∃ c, c < 2 ∧ zV d n_Pl_isPutOffBy [.ref g, .int (nI v)] M = some (some (.int (nI c)), M) ∧ (c = 1 ↔ pOff ho (zL M (g + 9)) v) := by
  obtain ⟨d, rfl, hd1⟩ := zdep hd
  rw [ze_Pl_isPutOffBy]
  unfold zx_Pl_isPutOffBy pOff
  obtain ⟨g1, g2, g3, g4, g5, g6, g7⟩ := hg
  have : ho = 0 ∨ ho = 1 := by omega
  rcases this with rfl | rfl
  · refine ⟨0, by decide, ?_, ⟨fun h => absurd h (by decide), fun h => absurd h.1 (by decide)⟩⟩
    simp (disch := omega) only [il, nI_add, nI_mul, nI_sub, nI_div, nI_rem, nI_N, i32_lt, i32_le, nI_toInt, nI_subI, nI_clamp, zinT, zifT, iteT, iteF, zQ, zS, zkc, zI_sI, zL_sL, zI_wI, zL_wL, Nat.reduceEqDiff, Nat.reduceAdd, Nat.reduceMul, Nat.reduceLT, Nat.reduceLeDiff, reduceIte, eq_self, and_self, true_and, and_true, false_and, and_false, true_or, or_true, or_false, false_or, not_true_eq_false, not_false_eq_true, zarr, ne_eq, g1, h3]
  · have e1 := q_isFulfilled (d := d) (e := 0) (by omega) g2 (by omega) (by omega) hv
    cases hb : ful (zL M (g + 9)) 0 v
    · rw [hb] at e1
      refine ⟨0, by decide, ?_, ⟨fun h => absurd h (by decide), fun h => absurd h.2 (by decide)⟩⟩
      simp (disch := omega) only [il, nI_add, nI_mul, nI_sub, nI_div, nI_rem, nI_N, i32_lt, i32_le, nI_toInt, nI_subI, nI_clamp, zinT, zifT, iteT, iteF, zQ, zS, zkc, zI_sI, zL_sL, zI_wI, zL_wL, Nat.reduceEqDiff, Nat.reduceAdd, Nat.reduceMul, Nat.reduceLT, Nat.reduceLeDiff, reduceIte, eq_self, and_self, true_and, and_true, false_and, and_false, true_or, or_true, or_false, false_or, not_true_eq_false, not_false_eq_true, zarr, ne_eq, g1, g5, h3, e1, Bool.toNat_false]
    · rw [hb] at e1
      refine ⟨1, by decide, ?_, ⟨fun _ => ⟨rfl, rfl⟩, fun _ => rfl⟩⟩
      simp (disch := omega) only [il, nI_add, nI_mul, nI_sub, nI_div, nI_rem, nI_N, i32_lt, i32_le, nI_toInt, nI_subI, nI_clamp, zinT, zifT, iteT, iteF, zQ, zS, zkc, zI_sI, zL_sL, zI_wI, zL_wL, Nat.reduceEqDiff, Nat.reduceAdd, Nat.reduceMul, Nat.reduceLT, Nat.reduceLeDiff, reduceIte, eq_self, and_self, true_and, and_true, false_and, and_false, true_or, or_true, or_false, false_or, not_true_eq_false, not_false_eq_true, zarr, ne_eq, g1, g5, h3, e1, Bool.toNat_true]
