/-! the class's builder: two pieces become one -/
theorem en_1 (m : List Pc) (x : Pc) : en 0 (m ++ [x]) = en 0 m ++ [(m.length, x)] := by rw [en_app, Nat.zero_add]; rfl
theorem en_2 (m : List Pc) (a b : Pc) : en 0 (m ++ [a, b]) = en 0 m ++ [(m.length, a), (m.length + 1, b)] := by rw [en_app, Nat.zero_add]; rfl
theorem lnk_at {fr to : Int64} {f : Nat → Int64} {p q r : Nat} (hq : q ≤ p) : zb (lnk fr to f (p + 1) q) r = true ↔ zb (f q) r = true ∨ (zb fr q = true ∧ zb to r = true) := by
  unfold lnk
  by_cases h : zb fr q = true
  · rw [if_pos ⟨by omega, h⟩, zb_or, Bool.or_eq_true]
    exact ⟨fun z => z.elim Or.inl (fun y => Or.inr ⟨h, y⟩), fun z => z.elim Or.inl (fun y => Or.inr y.2)⟩
  · rw [if_neg (fun z => h z.2)]
    exact ⟨Or.inl, fun z => z.elim id (fun y => absurd y.1 h)⟩
theorem Bst_two {s : Nat} {m : List Pc} {a b x : Pc} {M M' : zM} (hB : Bst s (m ++ [a, b]) M) (hx : wfp x) (hN : pN x = pN a + pN b) (hC : pC x = pC a ++ pC b) (hR : zR M' = zR M) (h5 : zI M' 8 5 = nI (m.length + 1)) (h12 : ∀ j, j < m.length → zI M' 12 j = zI M 12 j ∧ zI M' 13 j = zI M 13 j) (hbn : bN M' m.length x) (hS : zI M' s = zI M s) (h2 : zL M' (s + 2) = zL M (s + 2)) (h3 : zL M' (s + 3) = zL M (s + 3)) (h11 : zI M' 11 = zI M 11) (h9 : ∀ j, j < m.length → zL M' 9 j = zL M 9 j ∧ zL M' 10 j = zL M 10 j)
    (hst : ∀ c, tot m + (pN a + pN b) ≤ 40 → zI M s 7 = nI (tot m + (pN a + pN b)) → Fr (cF M s) (cT M s c) (1 + tot m) (pN a) (zB (zL M 9 m.length)) (zB (zL M 10 m.length)) (pL a) → Fr (cF M s) (cT M s c) (1 + tot m + pN a) (pN b) (zB (zL M 9 (m.length + 1))) (zB (zL M 10 (m.length + 1))) (pL b) → (∀ q r, 1 ≤ q → q < 1 + tot m → (cF M s q r ↔ cF M' s q r)) ∧ Fr (cF M' s) (cT M s c) (1 + tot m) (pN a + pN b) (zB (zL M' 9 m.length)) (zB (zL M' 10 m.length)) (pL x)) : Bst s (m ++ [x]) M' := by
  obtain ⟨B1, B2, B3, B4, p, c, hp, hc, h7, h6, h10, hok⟩ := hB
  have t2 : tot (m ++ [a, b]) = tot m + (pN a + pN b) := by rw [tot_app, tot_2]
  have t1 : tot (m ++ [x]) = tot m + (pN a + pN b) := by rw [tot_app, tot_1, hN]
  have c2 : cds (m ++ [a, b]) = cds m ++ (pC a ++ pC b) := by rw [cds_app, cds_2]
  have c1 : cds (m ++ [x]) = cds m ++ (pC a ++ pC b) := by rw [cds_app, cds_1, hC]
  have hm : ∀ y, y ∈ m → wfp y := fun y hy => B3 y (List.mem_append_left _ hy)
  refine ⟨by rw [hR]; exact B1, by rw [h5, List.length_append]; rfl, wf_app hm hx, bN_app (M := M) (fun y hy => B4 y (by rw [en_2]; exact List.mem_append_left _ hy)) h12 hbn, p, c, hp, hc, by rw [hS]; exact h7, by rw [hS]; exact h6, by rw [hS, h10, t1, t2], fun ht => ?_⟩
  rw [t1] at ht
  obtain ⟨g1, g2, g3, g4, g5⟩ := hok (by rw [t2]; exact ht)
  have hTT : cT M' s c = cT M s c := by unfold cT; rw [h2, h3]
  refine ⟨by rw [g1, t1, t2], by rw [g2, c1, c2], fun e t he q hq => ?_, fun e q he hz => ?_, ?_⟩
  · rw [c1, ← c2] at he
    rw [h3]
    exact g3 e t he q hq
  · rw [h2] at hz
    exact g4 e q he hz
  · rw [en_2] at g5
    obtain ⟨g6, g7, g8, g9, g10, -⟩ := Stk_app.mp g5
    obtain ⟨r1, r2⟩ := hst c ht (by rw [h7, g1, t2]) g7 g9
    rw [en_1, hTT]
    refine Stk_app.mpr ⟨Stk_congr g6 r1 (fun _ _ _ _ => Iff.rfl) (fun y hy => ?_), ?_, ?_, trivial⟩
    · have := en_mem hy
      exact ⟨(h9 y.1 (by omega)).1, (h9 y.1 (by omega)).2, by rw [h11]⟩
    · show Fr (cF M' s) (cT M s c) (1 + tot m) (pN x) (zB (zL M' 9 m.length)) (zB (zL M' 10 m.length)) (pL x)
      rw [hN]
      exact r2
    · rw [h11]; exact g8
theorem bu_chain {d L w s : Nat} {M : zM} {m : List Pc} {a b : Pc} (hd : 2 ≤ d) (hs : zSh L w M) (hq : zSeq M s) (hs26 : 26 ≤ s) (hB : Bst s (m ++ [a, b]) M) (hl : m.length + 1 < 19) : ∃ M', zV d n_Bu_chainTwo [.ref 8] M = some (none, M') ∧ fBu s M M' ∧ zI M' 4 = zI M 4 ∧ zI M' 6 = zI M 6 ∧ Bst s (m ++ [chP a b]) M' := by
  have hB0 := hB
  obtain ⟨B1, B2, B3, B4, p, c, hp, hc, h7, h6, h10, hok⟩ := hB
  have ha := B4 (m.length, a) (by rw [en_2]; simp)
  have hb := B4 (m.length + 1, b) (by rw [en_2]; simp)
  have wa := B3 a (by simp)
  have wb := B3 b (by simp)
  have hlen : (m ++ [a, b]).length = m.length + 2 := by rw [List.length_append]; rfl
  rw [hlen] at B2
  obtain ⟨M', e, m1, m2, m3, m4, m5, m6, m7, m8, m9, m10, m11⟩ := bu_chain_x (d := d) (p := p) hd (kB_of hs) B1 hq hs26 hp h7 B2 hl (Nat.min_le_left 1000 (pF a)) (Nat.min_le_left 1000 (pF b)) (Nat.min_le_left 1000 (pM a)) (Nat.min_le_left 1000 (pM b)) ha.1 hb.1 ha.2 hb.2
  refine ⟨M', e, ⟨m1, m2, m3, fun z a1 a2 a3 a4 a5 a6 a7 => m4 z a3 a5 a6, by rw [m4 4 (by omega) (by omega) (by omega)], fun z a1 a2 a3 a4 a5 a6 a7 => m8 z a2 a3 a5⟩, m4 4 (by omega) (by omega) (by omega), m4 6 (by omega) (by omega) (by omega), ?_⟩
  refine Bst_two hB0 (wf_ch wa wb) rfl rfl m3 m5 (fun j hj => ⟨by rw [m6, if_neg (by omega)], by rw [m7, if_neg (by omega)]⟩) ⟨?_, ?_⟩ (m4 s (by omega) (by omega) (by omega)) (m8 _ (by omega) (by omega) (by omega)) (m8 _ (by omega) (by omega) (by omega)) (m4 11 (by omega) (by omega) (by omega)) (fun j hj => ⟨by rw [m10, if_neg (by omega)], by rw [m11, if_neg (by omega)]⟩) ?_
  · rw [m6, if_pos rfl]
    congr 1
    show min 1000 (min 1000 (pF a) + min 1000 (pF b)) = min 1000 (pF a + pF b)
    omega
  · rw [m7, if_pos rfl]
    congr 1
    show min 1000 (min 1000 (pM a) + min 1000 (pM b)) = min 1000 (pM a + pM b)
    omega
  · intro c' ht hp7 f1 f2
    have hpp : p = tot m + (pN a + pN b) := by
      rw [h7] at hp7
      exact (nI_eq (by omega) (by omega)).mp hp7
    have hE1 := f1.2.1
    refine ⟨fun q r a1 a2 => ?_, f1.chain (N1 := pF a = 0) (N2 := pF b = 0) f2 wa.1 wb.1 (fun q r a1 a2 => ?_) (fun q r a1 a2 => ?_) (fun q => ?_) (fun q => ?_)⟩
    · unfold cF
      rw [m9, lnk_at (by omega)]
      exact ⟨Or.inl, fun z => z.elim id (fun y => by have := hE1 q y.1; omega)⟩
    · unfold cF
      rw [m9, lnk_at (by omega)]
      exact Iff.rfl
    · unfold cF
      rw [m9, lnk_at (by omega)]
      exact ⟨fun z => z.elim id (fun y => by have := hE1 q y.1; omega), Or.inl⟩
    · unfold zB
      rw [m10, if_pos rfl]
      by_cases h : pF a = 0
      · rw [if_pos (by omega), zb_or, Bool.or_eq_true]
        exact ⟨fun z => z.elim Or.inl (fun y => Or.inr ⟨h, y⟩), fun z => z.elim Or.inl (fun y => Or.inr y.2)⟩
      · rw [if_neg (by omega)]
        exact ⟨Or.inl, fun z => z.elim id (fun y => absurd y.1 h)⟩
    · unfold zB
      rw [m11, if_pos rfl]
      by_cases h : pF b = 0
      · rw [if_pos (by omega), zb_or, Bool.or_eq_true]
        exact ⟨fun z => z.elim (fun y => Or.inr ⟨h, y⟩) Or.inl, fun z => z.elim Or.inr (fun y => Or.inl y.2)⟩
      · rw [if_neg (by omega)]
        exact ⟨Or.inl, fun z => z.elim id (fun y => absurd y.1 h)⟩
theorem bu_choose {d L w s : Nat} {M : zM} {m : List Pc} {a b : Pc} (hd : 1 ≤ d) (hs : zSh L w M) (hs26 : 26 ≤ s) (hB : Bst s (m ++ [a, b]) M) (hl : m.length + 1 < 19) : ∃ M', zV d n_Bu_chooseOfTwo [.ref 8] M = some (none, M') ∧ fBu s M M' ∧ zI M' 4 = zI M 4 ∧ zI M' 6 = zI M 6 ∧ Bst s (m ++ [orP a b]) M' := by
  have hB0 := hB
  obtain ⟨B1, B2, B3, B4, p, c, hp, hc, h7, h6, h10, hok⟩ := hB
  have ha := B4 (m.length, a) (by rw [en_2]; simp)
  have hb := B4 (m.length + 1, b) (by rw [en_2]; simp)
  have wa := B3 a (by simp)
  have wb := B3 b (by simp)
  have hlen : (m ++ [a, b]).length = m.length + 2 := by rw [List.length_append]; rfl
  rw [hlen] at B2
  have e := bu_choose_x (d := d) hd (kB_of hs) B2 hl (Nat.min_le_left 1000 (pF a)) (Nat.min_le_left 1000 (pF b)) (Nat.min_le_left 1000 (pM a)) (Nat.min_le_left 1000 (pM b)) ha.1 hb.1 ha.2 hb.2
  have I0 : ∀ z, z ≠ 8 → z ≠ 12 → z ≠ 13 → zI (zsI (zsI (zsL (zsL (zsI M 8 5 (nI (m.length + 1))) 9 m.length (zL M 9 m.length ||| zL M 9 (m.length + 1))) 10 m.length (zL M 10 m.length ||| zL M 10 (m.length + 1))) 12 m.length (nI (min (min 1000 (pF a)) (min 1000 (pF b))))) 13 m.length (nI (max (min 1000 (pM a)) (min 1000 (pM b))))) z = zI M z := fun z h1 h2 h3 => (zI_ne h3).trans ((zI_ne h2).trans (zI_ne h1))
  have L0 : ∀ z, z ≠ 9 → z ≠ 10 → zL (zsI (zsI (zsL (zsL (zsI M 8 5 (nI (m.length + 1))) 9 m.length (zL M 9 m.length ||| zL M 9 (m.length + 1))) 10 m.length (zL M 10 m.length ||| zL M 10 (m.length + 1))) 12 m.length (nI (min (min 1000 (pF a)) (min 1000 (pF b))))) 13 m.length (nI (max (min 1000 (pM a)) (min 1000 (pM b))))) z = zL M z := fun z h1 h2 => (zL_ne h2).trans (zL_ne h1)
  refine ⟨_, e, ⟨rfl, rfl, rfl, fun z a1 a2 a3 a4 a5 a6 a7 => I0 z a3 a5 a6, by rw [I0 4 (by omega) (by omega) (by omega)], fun z a1 a2 a3 a4 a5 a6 a7 => L0 z a2 a3⟩, I0 4 (by omega) (by omega) (by omega), I0 6 (by omega) (by omega) (by omega), ?_⟩
  refine Bst_two hB0 (wf_or wa wb) rfl rfl rfl (by simp (disch := omega) only [zL_sL, zI_sI, zS, iteF, iteT, eq_self, and_self, true_and, and_true, false_and, and_false, if_true, if_false, reduceIte, Nat.reduceEqDiff]) (fun j hj => ⟨by simp (disch := omega) only [zL_sL, zI_sI, zS, iteF, iteT, eq_self, and_self, true_and, and_true, false_and, and_false, if_true, if_false, reduceIte, Nat.reduceEqDiff], by simp (disch := omega) only [zL_sL, zI_sI, zS, iteF, iteT, eq_self, and_self, true_and, and_true, false_and, and_false, if_true, if_false, reduceIte, Nat.reduceEqDiff]⟩) ⟨?_, ?_⟩ (I0 s (by omega) (by omega) (by omega)) (L0 _ (by omega) (by omega)) (L0 _ (by omega) (by omega)) (I0 11 (by omega) (by omega) (by omega)) (fun j hj => ⟨by simp (disch := omega) only [zL_sL, zI_sI, zS, iteF, iteT, eq_self, and_self, true_and, and_true, false_and, and_false, if_true, if_false, reduceIte, Nat.reduceEqDiff], by simp (disch := omega) only [zL_sL, zI_sI, zS, iteF, iteT, eq_self, and_self, true_and, and_true, false_and, and_false, if_true, if_false, reduceIte, Nat.reduceEqDiff]⟩) ?_
  · simp (disch := omega) only [zL_sL, zI_sI, zS, iteF, iteT, eq_self, and_self, true_and, and_true, false_and, and_false, if_true, if_false, reduceIte, Nat.reduceEqDiff]
    congr 1
    show min (min 1000 (pF a)) (min 1000 (pF b)) = min 1000 (min (pF a) (pF b))
    omega
  · simp (disch := omega) only [zL_sL, zI_sI, zS, iteF, iteT, eq_self, and_self, true_and, and_true, false_and, and_false, if_true, if_false, reduceIte, Nat.reduceEqDiff]
    congr 1
    show max (min 1000 (pM a)) (min 1000 (pM b)) = min 1000 (max (pM a) (pM b))
    omega
  · intro c' ht hp7 f1 f2
    have hF : cF (zsI (zsI (zsL (zsL (zsI M 8 5 (nI (m.length + 1))) 9 m.length (zL M 9 m.length ||| zL M 9 (m.length + 1))) 10 m.length (zL M 10 m.length ||| zL M 10 (m.length + 1))) 12 m.length (nI (min (min 1000 (pF a)) (min 1000 (pF b))))) 13 m.length (nI (max (min 1000 (pM a)) (min 1000 (pM b))))) s = cF M s := by
      unfold cF
      rw [L0 (s + 1) (by omega) (by omega)]
    rw [hF]
    refine ⟨fun _ _ _ _ => Iff.rfl, f1.choose f2 (fun q => ?_) (fun q => ?_)⟩
    · unfold zB
      simp (disch := omega) only [zL_sL, zI_sI, zS, iteF, iteT, eq_self, and_self, true_and, and_true, false_and, and_false, if_true, if_false, reduceIte, Nat.reduceEqDiff, zb_or, Bool.or_eq_true]
    · unfold zB
      simp (disch := omega) only [zL_sL, zI_sI, zS, iteF, iteT, eq_self, and_self, true_and, and_true, false_and, and_false, if_true, if_false, reduceIte, Nat.reduceEqDiff, zb_or, Bool.or_eq_true]
