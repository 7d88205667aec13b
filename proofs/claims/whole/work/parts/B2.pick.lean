/-! the reference chooses of two pieces -/
theorem m_cs74 {d L w a b e u1 v1 u2 v2 u3 v3 : Nat} {M : zM} (hd : 2 ≤ d) (hs : zSh L w M) (ha : a < 21) (hb : b < 21) (hab : b ≠ a) (he : e < 2) (l1 : u1 ≤ 1000000) (l2 : v1 ≤ 1000000) (l3 : u2 ≤ 1000000) (l4 : v2 ≤ 1000000) (l5 : u3 ≤ 1000000) (l6 : v3 ≤ 1000000) (h1 : zI M 170 a = nI u1) (h2 : zI M 170 b = nI v1) (h3 : zI M 171 a = nI u2) (h4 : zI M 171 b = nI v2) (h5 : zI M 172 a = nI u3) (h6 : zI M 172 b = nI v3) : zG d n_Mo_chooses 74 [some (.ref 146), some (.int (nI a)), some (.int (nI b))] [.int (nI e), .int (nI a), .ref 169] M = some (none, zsI (zsI (zsI (zsI M 169 a (nI e)) 170 a (nI (min 1000000 (u1 + v1)))) 171 a (nI (min u2 v2))) 172 a (nI (max u3 v3))) := by
  have hd1 : 1 ≤ d := by omega
  obtain ⟨k0, -, -, -, k169, k170, k171, k172, -⟩ := pc_k hs
  obtain ⟨-, -, -, -, r33, r34, r35, -⟩ := pc_r hs
  rw [zg_Mo_chooses_74]
  unfold zx_Mo_chooses_74
  refine (stC k169 ha (by omega) he).trans ?_
  refine (smI (M := zsI M 169 a (nI e)) (v := min 1000000 (u1 + v1)) k0 r33 k170 ha hb (by omega) (by rw [zI_ne (by omega), h1, h2]; exact mo_sum hd l1 l2)).trans ?_
  refine (smI (M := zsI (zsI M 169 a (nI e)) 170 a (nI (min 1000000 (u1 + v1)))) (v := min u2 v2) k0 r34 k171 ha hb (by omega) (by rw [zI_ne (by omega), zI_ne (by omega), h3, h4]; exact mo_leastN hd1 (by omega) (by omega))).trans ?_
  exact smI (M := zsI (zsI (zsI M 169 a (nI e)) 170 a (nI (min 1000000 (u1 + v1)))) 171 a (nI (min u2 v2))) (v := max u3 v3) k0 r35 k172 ha hb (by omega) (by rw [zI_ne (by omega), zI_ne (by omega), zI_ne (by omega), h5, h6]; exact mo_greatestN hd1 (by omega) (by omega))
def csM (M : zM) (a b ca cb n1 n2 n3 : Nat) : zM := zsI (zsI (zsI (zsI (zsL (zsL M 167 a (zL M 167 a ||| zL M 167 b)) 168 a (zL M 168 a ||| zL M 168 b)) 169 a (nI (if ca = 1 ∨ cb = 1 then 1 else 0))) 170 a (nI n1)) 171 a (nI n2)) 172 a (nI n3)
theorem m_chooses_x {d L w a b ca cb u1 v1 u2 v2 u3 v3 : Nat} {M : zM} (hd : 3 ≤ d) (hs : zSh L w M) (ha : a < 21) (hb : b < 21) (hab : b ≠ a) (h173 : zI M 173 a = nI 1) (hca : ca < 2) (hcb : cb < 2) (l1 : u1 ≤ 1000000) (l2 : v1 ≤ 1000000) (l3 : u2 ≤ 1000000) (l4 : v2 ≤ 1000000) (l5 : u3 ≤ 1000000) (l6 : v3 ≤ 1000000) (e1 : zI M 169 a = nI ca) (e2 : zI M 169 b = nI cb) (h1 : zI M 170 a = nI u1) (h2 : zI M 170 b = nI v1) (h3 : zI M 171 a = nI u2) (h4 : zI M 171 b = nI v2) (h5 : zI M 172 a = nI u3) (h6 : zI M 172 b = nI v3) : zV d n_Mo_chooses [.ref 146, .int (nI a), .int (nI b)] M = some (none, csM M a b ca cb (min 1000000 (u1 + v1)) (min u2 v2) (max u3 v3)) := by
  obtain ⟨d, rfl, hd1⟩ := zdep hd
  have hs0 := hs
  obtain ⟨hN, hK, hC, hMo, -⟩ := hs
  have e74 := m_cs74 (d := d) (a := a) (b := b) (e := if ca = 1 ∨ cb = 1 then 1 else 0) (M := zsL (zsL M 167 a (zL M 167 a ||| zL M 167 b)) 168 a (zL M 168 a ||| zL M 168 b)) hd1 hs0 ha hb hab (by split <;> omega) l1 l2 l3 l4 l5 l6 h1 h2 h3 h4 h5 h6
  refine Eq.trans ?_ e74
  rw [ze_Mo_chooses]
  unfold zx_Mo_chooses
  clear e74
  have ea : ca = 0 ∨ ca = 1 := by omega
  have eb : cb = 0 ∨ cb = 1 := by omega
  rcases ea with rfl | rfl <;> rcases eb with rfl | rfl <;> (simp (disch := omega) only [il, nI_add, nI_mul, nI_sub, nI_div, nI_rem, nI_N, i32_lt, i32_le, nI_toInt, nI_subI, nI_clamp, zinT, zifT, iteT, iteF, zQ, zS, zkc, zI_sI, zL_sL, zI_wI, zL_wL, Nat.reduceEqDiff, Nat.reduceAdd, Nat.reduceMul, Nat.reduceLT, Nat.reduceLeDiff, reduceIte, eq_self, and_self, true_and, and_true, false_and, and_false, true_or, or_true, or_false, false_or, not_true_eq_false, not_false_eq_true, zarr, ne_eq, hK, hMo, h173, e1, e2, ↓zbm_S])
theorem csM_f {sd a b ca cb n1 n2 n3 : Nat} {M : zM} : fPc sd M (csM M a b ca cb n1 n2 n3) := by
  unfold csM
  refine ⟨rfl, rfl, rfl, fun b h1 h2 h3 h4 h5 h6 h7 h8 => by rw [zI_ne h7, zI_ne h6, zI_ne h5, zI_ne h4]; rfl, fun _ _ => rfl, fun _ _ => rfl, fun b h1 h2 h3 => ?_, fun j hj => rfl⟩
  show zL (zsL (zsL M 167 a _) 168 a _) b = _
  rw [zL_ne h3, zL_ne h2]
theorem csM_o {a b ca cb n1 n2 n3 j c : Nat} {M : zM} (h : j ≠ a) : zI (csM M a b ca cb n1 n2 n3) c j = zI M c j ∧ zL (csM M a b ca cb n1 n2 n3) c j = zL M c j := by
  unfold csM
  constructor
  · simp (disch := omega) only [zI_sI, zS, iteF]
  · show zL (zsL (zsL M 167 a _) 168 a _) c j = _
    simp (disch := omega) only [zL_sL, zS, iteF]
theorem q_chooses {sd a b n1 n2 n3 : Nat} {m : IP} {x y : Pc} {M : zM} (h : Qst sd (m ++ [(a, x), (b, y)]) M) (hm : ∀ z, z ∈ m → z.1 ≠ a) (e1 : n1 = min 1000000 (pN x + pN y)) (e2 : n2 = min 1000000 (min (pF x) (pF y))) (e3 : n3 = min 1000000 (max (pM x) (pM y))) : Qst sd (m ++ [(a, orP x y)]) (csM M a b (if pF x = 0 then 1 else 0) (if pF y = 0 then 1 else 0) n1 n2 n3) := by
  obtain ⟨wx, nx1⟩ := h.2.1 (a, x) (by simp)
  obtain ⟨wy, ny1⟩ := h.2.1 (b, y) (by simp)
  have wx : wfp x := wx
  have wy : wfp y := wy
  have ta : tt [(a, x), (b, y)] = pN x + (pN y + 0) := rfl
  refine Qst_rep h rfl rfl rfl ?_ ?_ ?_ ?_ (fun _ _ => rfl) (fun _ _ _ => rfl) ?_
  · show pN x + pN y + 0 = pN x + (pN y + 0)
    omega
  · show pC x ++ pC y ++ [] = pC x ++ (pC y ++ [])
    rw [List.append_nil, List.append_nil]
  · intro z hz
    have : z = (a, orP x y) := by simpa using hz
    subst this
    refine ⟨wf_or wx wy, ?_, ?_, ?_, ?_⟩
    · show zI (csM _ _ _ _ _ _ _ _) 169 a = nI (if min (pF x) (pF y) = 0 then 1 else 0)
      unfold csM
      simp (disch := omega) only [zL_sL, zI_sI, zS, iteF, iteT, eq_self, and_self, true_and, and_true, false_and, and_false, if_true, if_false, reduceIte, Nat.reduceEqDiff]
      congr 1
      by_cases h1 : pF x = 0
      · rw [if_pos h1, if_pos (Or.inl rfl), if_pos (by omega)]
      · by_cases h2 : pF y = 0
        · rw [if_neg h1, if_pos h2, if_pos (Or.inr rfl), if_pos (by omega)]
        · rw [if_neg h1, if_neg h2, if_neg (by decide), if_neg (by omega)]
    · show zI (csM _ _ _ _ _ _ _ _) 170 a = nI (min 1000000 (pN x + pN y))
      unfold csM
      simp (disch := omega) only [zL_sL, zI_sI, zS, iteF, iteT, eq_self, and_self, true_and, and_true, false_and, and_false, if_true, if_false, reduceIte, Nat.reduceEqDiff, e1]
    · show zI (csM _ _ _ _ _ _ _ _) 171 a = nI (min 1000000 (min (pF x) (pF y)))
      unfold csM
      simp (disch := omega) only [zL_sL, zI_sI, zS, iteF, iteT, eq_self, and_self, true_and, and_true, false_and, and_false, if_true, if_false, reduceIte, Nat.reduceEqDiff, e2]
    · show zI (csM _ _ _ _ _ _ _ _) 172 a = nI (min 1000000 (max (pM x) (pM y)))
      unfold csM
      simp (disch := omega) only [zL_sL, zI_sI, zS, iteF, iteT, eq_self, and_self, true_and, and_true, false_and, and_false, if_true, if_false, reduceIte, Nat.reduceEqDiff, e3]
  · intro z hz
    have hn := hm z hz
    exact ⟨fun c _ _ => (csM_o hn).1, (csM_o hn).2, (csM_o hn).2⟩
  · intro hle hs hT
    rw [tt_app, ta] at hle
    obtain ⟨f1, g1, f2, g2, -⟩ := hs
    have f1 : Fr (qF M sd) (qT M sd) (tt m) (pN x) (zB (zL M 167 a)) (zB (zL M 168 a)) (pL x) := f1
    have f2 : Fr (qF M sd) (qT M sd) (tt m + pN x) (pN y) (zB (zL M 167 b)) (zB (zL M 168 b)) (pL y) := f2
    refine ⟨fun q r hq => Iff.rfl, ?_, ?_, trivial⟩
    · have hch := Fr.choose (B' := zB (zL M 167 a ||| zL M 167 b)) (E' := zB (zL M 168 a ||| zL M 168 b)) f1 f2 (fun q => by unfold zB; rw [zb_or, Bool.or_eq_true]) (fun q => by unfold zB; rw [zb_or, Bool.or_eq_true])
      have r1 : zL (csM M a b (if pF x = 0 then 1 else 0) (if pF y = 0 then 1 else 0) n1 n2 n3) 167 a = zL M 167 a ||| zL M 167 b := by
        unfold csM
        simp (disch := omega) only [zL_sL, zI_sI, zS, iteF, iteT, eq_self, and_self, true_and, and_true, false_and, and_false, if_true, if_false, reduceIte, Nat.reduceEqDiff]
      have r2 : zL (csM M a b (if pF x = 0 then 1 else 0) (if pF y = 0 then 1 else 0) n1 n2 n3) 168 a = zL M 168 a ||| zL M 168 b := by
        unfold csM
        simp (disch := omega) only [zL_sL, zI_sI, zS, iteF, iteT, eq_self, and_self, true_and, and_true, false_and, and_false, if_true, if_false, reduceIte, Nat.reduceEqDiff]
      show Fr _ _ (tt m) (pN x + pN y) (zB (zL (csM M a b (if pF x = 0 then 1 else 0) (if pF y = 0 then 1 else 0) n1 n2 n3) 167 a)) (zB (zL (csM M a b (if pF x = 0 then 1 else 0) (if pF y = 0 then 1 else 0) n1 n2 n3) 168 a)) (lor2 (pL x) (pL y))
      rw [r1, r2]
      exact hch.congr (fun _ _ _ _ => Iff.rfl) (fun q v h1 h2 => hT q v (by rw [tt_app, ta]; omega)) (fun _ => Iff.rfl) (fun _ => Iff.rfl)
    · exact g1
theorem m_chooses {d L w sd a b : Nat} {M : zM} {m : IP} {x y : Pc} (hd : 3 ≤ d) (hs : zSh L w M) (ha : a < 21) (hb : b < 21) (hab : b ≠ a) (h173 : zI M 173 a = nI 1) (h : Qst sd (m ++ [(a, x), (b, y)]) M) (hm : ∀ z, z ∈ m → z.1 ≠ a) : ∃ M', zV d n_Mo_chooses [.ref 146, .int (nI a), .int (nI b)] M = some (none, M') ∧ fPc sd M M' ∧ zI M' 173 = zI M 173 ∧ zI M' 146 = zI M 146 ∧ Qst sd (m ++ [(a, orP x y)]) M' := by
  obtain ⟨wx, x1, x2, x3, x4⟩ := h.2.1 (a, x) (by simp)
  obtain ⟨wy, y1, y2, y3, y4⟩ := h.2.1 (b, y) (by simp)
  have e := m_chooses_x (d := d) (ca := if pF x = 0 then 1 else 0) (cb := if pF y = 0 then 1 else 0) hd hs ha hb hab h173 (by split <;> omega) (by split <;> omega) (Nat.min_le_left _ _) (Nat.min_le_left _ _) (Nat.min_le_left _ _) (Nat.min_le_left _ _) (Nat.min_le_left _ _) (Nat.min_le_left _ _) x1 y1 x2 y2 x3 y3 x4 y4
  exact ⟨_, e, csM_f, rfl, rfl, q_chooses h hm (by simp only; omega) (by simp only; omega) (by simp only; omega)⟩
/-- where there is nothing yet, the piece is taken over -/
theorem m_join0 {d L w sd a b y0 : Nat} {M : zM} {m : IP} {y : Pc} (hd : 2 ≤ d) (hs : zSh L w M) (ha : a < 21) (hb : b < 21) (h173 : zI M 173 a = nI 0) (h : Qst sd (m ++ [(b, y)]) M) (hm : ∀ z, z ∈ m → z.1 ≠ a) (hy : y0 = n_Mo_chains ∨ y0 = n_Mo_chooses) : zV d y0 [.ref 146, .int (nI a), .int (nI b)] M = some (none, tkM M b a) ∧ Qst sd (m ++ [(a, y)]) (tkM M b a) := by
  obtain ⟨d, rfl, hd1⟩ := zdep hd
  have hs0 := hs
  obtain ⟨hN, hK, hC, hMo, -⟩ := hs
  obtain ⟨wy, y1, y2, y3, y4⟩ := h.2.1 (b, y) (by simp)
  have e := m_takes (d := d) (f := b) (t := a) (c := if pF y = 0 then 1 else 0) (by omega) hs0 hb ha y1 (by split <;> omega)
  refine ⟨?_, q_takes h hm⟩
  rcases hy with rfl | rfl
  · rw [ze_Mo_chains]
    unfold zx_Mo_chains
    clear h y1 y2 y3 y4 hs0
    simp (disch := omega) only [il, nI_add, nI_mul, nI_sub, nI_div, nI_rem, nI_N, i32_lt, i32_le, nI_toInt, nI_subI, nI_clamp, zinT, zifT, iteT, iteF, zQ, zS, zkc, zI_sI, zL_sL, zI_wI, zL_wL, Nat.reduceEqDiff, Nat.reduceAdd, Nat.reduceMul, Nat.reduceLT, Nat.reduceLeDiff, reduceIte, eq_self, and_self, true_and, and_true, false_and, and_false, true_or, or_true, or_false, false_or, not_true_eq_false, not_false_eq_true, zarr, ne_eq, hK, hMo, h173, e]
  · rw [ze_Mo_chooses]
    unfold zx_Mo_chooses
    clear h y1 y2 y3 y4 hs0
    simp (disch := omega) only [il, nI_add, nI_mul, nI_sub, nI_div, nI_rem, nI_N, i32_lt, i32_le, nI_toInt, nI_subI, nI_clamp, zinT, zifT, iteT, iteF, zQ, zS, zkc, zI_sI, zL_sL, zI_wI, zL_wL, Nat.reduceEqDiff, Nat.reduceAdd, Nat.reduceMul, Nat.reduceLT, Nat.reduceLeDiff, reduceIte, eq_self, and_self, true_and, and_true, false_and, and_false, true_or, or_true, or_false, false_or, not_true_eq_false, not_false_eq_true, zarr, ne_eq, hK, hMo, h173, e]
