/-! the class's builder -/
def cF (M : zM) (s : Nat) : Nat → Nat → Prop := fun q r => zb (zL M (s + 1) q) r = true
def cT (M : zM) (s c : Nat) : Nat → Nat → Prop := fun q v => v < 256 ∧ ∃ e, e < c ∧ zb (zL M (s + 2) e) q = true ∧ ful (zL M (s + 3)) e v = true
def bN (M : zM) (j : Nat) (x : Pc) : Prop := zI M 12 j = nI (min 1000 (pF x)) ∧ zI M 13 j = nI (min 1000 (pM x))
/-- nothing is too long yet -/
def Bok (s : Nat) (l : List Pc) (M : zM) (p c : Nat) : Prop := p = tot l ∧ c = (cds l).length ∧ (∀ e t, (cds l)[e]? = some t → ∀ q, q < 4 → zL M (s + 3) (4 * e + q) = t q) ∧ (∀ e q, e < c → zb (zL M (s + 2) e) q = true → 1 ≤ q ∧ q ≤ p) ∧ Stk (cF M s) (cT M s c) (zL M 9) (zL M 10) (zI M 11) 1 (en 0 l)
/-- the pieces l are on the builder's stack, the sequence at s being made -/
def Bst (s : Nat) (l : List Pc) (M : zM) : Prop := zR M 8 6 = some s ∧ zI M 8 5 = nI l.length ∧ (∀ x, x ∈ l → wfp x) ∧ (∀ y, y ∈ en 0 l → bN M y.1 y.2) ∧ ∃ p c, p ≤ 40 ∧ c ≤ 40 ∧ zI M s 7 = nI p ∧ zI M s 6 = nI c ∧ zI M s 10 = nI (if tot l ≤ 40 then 0 else 1) ∧ (tot l ≤ 40 → Bok s l M p c)
def fBu (s : Nat) (M M' : zM) : Prop := zN M' = zN M ∧ zK M' = zK M ∧ zR M' = zR M ∧ (∀ b, b ≠ 4 → b ≠ 6 → b ≠ 8 → b ≠ 11 → b ≠ 12 → b ≠ 13 → b ≠ s → zI M' b = zI M b) ∧ zI M' 4 1 = zI M 4 1 ∧ ∀ b, b ≠ 7 → b ≠ 9 → b ≠ 10 → b ≠ s → b ≠ s + 1 → b ≠ s + 2 → b ≠ s + 3 → zL M' b = zL M b
theorem fBu_rfl (s : Nat) (M : zM) : fBu s M M := ⟨rfl, rfl, rfl, fun _ _ _ _ _ _ _ _ => rfl, rfl, fun _ _ _ _ _ _ _ _ => rfl⟩
theorem fBu.trans {s : Nat} {M M1 M2 : zM} (h : fBu s M M1) (g : fBu s M1 M2) : fBu s M M2 := by
  obtain ⟨a1, a2, a3, a4, a5, a6⟩ := h
  obtain ⟨c1, c2, c3, c4, c5, c6⟩ := g
  exact ⟨c1.trans a1, c2.trans a2, c3.trans a3, fun b h1 h2 h3 h4 h5 h6 h7 => (c4 b h1 h2 h3 h4 h5 h6 h7).trans (a4 b h1 h2 h3 h4 h5 h6 h7), c5.trans a5, fun b h1 h2 h3 h4 h5 h6 h7 => (c6 b h1 h2 h3 h4 h5 h6 h7).trans (a6 b h1 h2 h3 h4 h5 h6 h7)⟩
theorem fCo.bu {s D : Nat} {M M' : zM} (h : fCo D M M') : fBu s M M' := ⟨h.1, h.2.1, h.2.2.1, fun b h1 h2 _ _ _ _ _ => h.2.2.2.1 b h1 h2, h.2.2.2.2.1, fun b h1 _ _ _ _ _ _ => h.2.2.2.2.2.1 b h1⟩
/-- only the reader's own cells have changed -/
theorem Bst_co {s D : Nat} {l : List Pc} {M M' : zM} (hs : 26 ≤ s) (h : Bst s l M) (f : fCo D M M') : Bst s l M' := by
  obtain ⟨f1, f2, f3, f4, f5, f6, f7⟩ := f
  unfold Bst Bok cF cT bN at *
  rw [f3, f4 8 (by omega) (by omega), f4 s (by omega) (by omega), f4 11 (by omega) (by omega), f4 12 (by omega) (by omega), f4 13 (by omega) (by omega), f6 9 (by omega), f6 10 (by omega), f6 (s + 1) (by omega), f6 (s + 2) (by omega), f6 (s + 3) (by omega)]
  exact h
def kB (M : zM) : Prop := zK M 8 = (1, 7) ∧ zK M 9 = (23, 19) ∧ zK M 10 = (23, 19) ∧ zK M 11 = (20, 19) ∧ zK M 12 = (20, 19) ∧ zK M 13 = (20, 19) ∧ zR M 8 0 = some 9 ∧ zR M 8 1 = some 10 ∧ zR M 8 2 = some 11 ∧ zR M 8 3 = some 12 ∧ zR M 8 4 = some 13
theorem kB_of {L w : Nat} {M : zM} (h : zSh L w M) : kB M := by
  have hC := h.2.2.1
  have hK := h.2.1
  refine ⟨by rw [hK]; rfl, by rw [hK]; rfl, by rw [hK]; rfl, by rw [hK]; rfl, by rw [hK]; rfl, by rw [hK]; rfl, by simp only [hC], by simp only [hC], by simp only [hC], by simp only [hC], by simp only [hC]⟩
theorem k67_of {L w : Nat} {M : zM} (h : zSh L w M) : zK M 6 = (8, 2) ∧ zK M 7 = (23, 76) ∧ zR M 6 0 = some 7 := by
  have hC := h.2.2.1
  exact ⟨by rw [h.2.1]; rfl, by rw [h.2.1]; rfl, by simp only [hC]⟩
theorem bN_app {l : List Pc} {x : Pc} {M M' : zM} (h : ∀ y, y ∈ en 0 l → bN M y.1 y.2) (hf : ∀ j, j < l.length → zI M' 12 j = zI M 12 j ∧ zI M' 13 j = zI M 13 j) (hx : bN M' l.length x) : ∀ y, y ∈ en 0 (l ++ [x]) → bN M' y.1 y.2 := by
  intro y hy
  rw [en_app, List.mem_append] at hy
  rcases hy with hy | hy
  · have := en_mem hy
    unfold bN
    rw [(hf y.1 (by omega)).1, (hf y.1 (by omega)).2]
    exact h y hy
  · have : y = (0 + l.length, x) := List.mem_singleton.mp hy
    subst this
    rw [Nat.zero_add]
    exact hx
theorem wf_app {l : List Pc} {x : Pc} (h : ∀ y, y ∈ l → wfp y) (hx : wfp x) : ∀ y, y ∈ l ++ [x] → wfp y := by
  intro y hy
  rcases List.mem_append.mp hy with hy | hy
  · exact h y hy
  · rw [List.mem_singleton.mp hy]; exact hx
theorem bu_push {d s k p : Nat} {M M1 : zM} {x : Int64} (hd : 1 ≤ d) (hB : kB M) (hB1 : kB M1) (hr : zR M 8 6 = some s) (hr1 : zR M1 8 6 = some s) (hk : zK M s = (4, 11)) (hk1 : zK M1 s = (4, 11)) (h5 : zI M1 8 5 = nI k) (hk27 : k < 19) (hs26 : 26 ≤ s) (h7 : zI M1 s 7 = nI p) (e : zV d n_Se_addCondition [.ref s, .ref 6] M = some (some (.long x), M1)) : zV (d + 1) n_Bu_condition [.ref 8, .ref 6] M = some (none, zsI (zsI (zsI (zsI (zsL (zsL M1 9 k x) 10 k x) 11 k (nI p)) 12 k (nI 1)) 13 k (nI 1)) 8 5 (nI (k + 1))) := by
  obtain ⟨a1, a2, a3, a4, a5, a6, a7, a8, a9, a10, a11⟩ := hB
  obtain ⟨c1, c2, c3, c4, c5, c6, c7, c8, c9, c10, c11⟩ := hB1
  rw [ze_Bu_condition]
  unfold zx_Bu_condition
  simp (disch := omega) only [il, nI_add, nI_mul, nI_sub, nI_div, nI_rem, nI_N, i32_lt, i32_le, nI_toInt, nI_subI, nI_clamp, zinT, zifT, iteT, iteF, zQ, zS, zkc, zI_sI, zL_sL, zI_wI, zL_wL, Nat.reduceEqDiff, Nat.reduceAdd, Nat.reduceMul, Nat.reduceLT, Nat.reduceLeDiff, reduceIte, eq_self, and_self, true_and, and_true, false_and, and_false, true_or, or_true, or_false, false_or, not_true_eq_false, not_false_eq_true, zarr, ne_eq, a1, hr, hk, e, c1, c2, c3, c4, c5, c6, c7, c8, c9, c10, c11, hr1, hk1, h5, h7]
theorem se_addCond2 {d s c p D : Nat} {M : zM} (hd : 2 ≤ d) (k6 : zK M 6 = (8, 2)) (k7 : zK M 7 = (23, 76)) (r6 : zR M 6 0 = some 7) (hs : zSeq M s) (hs26 : 26 ≤ s) (hp : p < 40) (hc : c < 40) (h7 : zI M s 7 = nI p) (h6 : zI M s 6 = nI c) (h10 : zI M s 10 = nI 0) (hD : D < 19) (h1 : zI M 6 1 = nI (D + 1)) : ∃ M', zV d n_Se_addCondition [.ref s, .ref 6] M = some (some (.long (b1 (p + 1))), M') ∧ zN M' = zN M ∧ zK M' = zK M ∧ zR M' = zR M ∧ (∀ b, b ≠ 6 → b ≠ s → zI M' b = zI M b) ∧ zI M' 6 1 = nI D ∧ zI M' s 6 = nI (c + 1) ∧ zI M' s 7 = nI (p + 1) ∧ zI M' s 10 = nI 0 ∧ (∀ b, b ≠ s + 1 → b ≠ s + 2 → b ≠ s + 3 → zL M' b = zL M b) ∧ (∀ q, zL M' (s + 1) q = if q = p + 1 then 0 else zL M (s + 1) q) ∧ (∀ e, zL M' (s + 2) e = if e = c then b1 (p + 1) else zL M (s + 2) e) ∧ zL M' (s + 3) = fil (4 * c) (zL M (s + 3)) (fun q => zL M 7 (4 * D + q)) 4 := by
  refine ⟨_, se_addCond hd k6 k7 r6 hs hs26 hp hc h7 h6 h10 hD h1, rfl, rfl, rfl, fun b h1 h2 => ?_, ?_, ?_, ?_, ?_, fun b h1 h2 h3 => ?_, fun q => ?_, fun e => ?_, ?_⟩
  · exact (zI_ne h2).trans ((zI_ne h2).trans (zI_ne h1))
  · simp (disch := omega) only [zL_sL, zI_sI, zS, iteF, iteT, eq_self, and_self, true_and, and_true, false_and, and_false, if_true, if_false, reduceIte, Nat.reduceEqDiff, zI_ne]
  · simp (disch := omega) only [zL_sL, zI_sI, zS, iteF, iteT, eq_self, and_self, true_and, and_true, false_and, and_false, if_true, if_false, reduceIte, Nat.reduceEqDiff]
  · simp (disch := omega) only [zL_sL, zI_sI, zS, iteF, iteT, eq_self, and_self, true_and, and_true, false_and, and_false, if_true, if_false, reduceIte, Nat.reduceEqDiff]
  · simp (disch := omega) only [zL_sL, zI_sI, zS, iteF, iteT, eq_self, and_self, true_and, and_true, false_and, and_false, if_true, if_false, reduceIte, Nat.reduceEqDiff, h10]
  · exact (zL_ne h2).trans ((zL_ne h1).trans (zLw_ne h3))
  · by_cases h : q = p + 1
    · simp (disch := omega) only [zL_sL, zI_sI, zS, iteF, iteT, eq_self, and_self, true_and, and_true, false_and, and_false, if_true, if_false, reduceIte, Nat.reduceEqDiff, h, zL_wL]
    · simp (disch := omega) only [zL_sL, zI_sI, zS, iteF, iteT, eq_self, and_self, true_and, and_true, false_and, and_false, if_true, if_false, reduceIte, Nat.reduceEqDiff, h, zL_wL]
  · by_cases h : e = c
    · simp (disch := omega) only [zL_sL, zI_sI, zS, iteF, iteT, eq_self, and_self, true_and, and_true, false_and, and_false, if_true, if_false, reduceIte, Nat.reduceEqDiff, h, zL_wL]
    · simp (disch := omega) only [zL_sL, zI_sI, zS, iteF, iteT, eq_self, and_self, true_and, and_true, false_and, and_false, if_true, if_false, reduceIte, Nat.reduceEqDiff, h, zL_wL]
  · funext j
    simp (disch := omega) only [zL_sL, zI_sI, zS, iteF, iteT, eq_self, and_self, true_and, and_true, false_and, and_false, if_true, if_false, reduceIte, Nat.reduceEqDiff, zL_wL]
theorem b1_B {p : Nat} (hp : p < 64) : zB (b1 p) = fun q => q = p := by
  funext q
  unfold zB
  rw [zb_b1 hp, decide_eq_true_eq]
theorem ful_fil {T g : Nat → Int64} {c e v : Nat} (hv : v < 256) (h : e < c) : ful (fil (4 * c) T g 4) e v = ful T e v := by
  unfold ful
  rw [fil_lt (by omega)]
theorem ful_fil2 {T g : Nat → Int64} {c v : Nat} (hv : v < 256) : ful (fil (4 * c) T g 4) c v = zb (g (v / 64)) (v % 64) := by
  unfold ful
  rw [fil_in (by omega)]
theorem bu_push2 {d s k p : Nat} {M M1 : zM} {x : Int64} (hd : 1 ≤ d) (hB : kB M) (hB1 : kB M1) (hr : zR M 8 6 = some s) (hr1 : zR M1 8 6 = some s) (hk : zK M s = (4, 11)) (hk1 : zK M1 s = (4, 11)) (h5 : zI M1 8 5 = nI k) (hk27 : k < 19) (hs26 : 26 ≤ s) (h7 : zI M1 s 7 = nI p) (e : zV d n_Se_addCondition [.ref s, .ref 6] M = some (some (.long x), M1)) : ∃ M', zV (d + 1) n_Bu_condition [.ref 8, .ref 6] M = some (none, M') ∧ zN M' = zN M1 ∧ zK M' = zK M1 ∧ zR M' = zR M1 ∧ (∀ b, b ≠ 8 → b ≠ 11 → b ≠ 12 → b ≠ 13 → zI M' b = zI M1 b) ∧ zI M' 8 5 = nI (k + 1) ∧ (∀ j, zI M' 11 j = if j = k then nI p else zI M1 11 j) ∧ (∀ j, zI M' 12 j = if j = k then nI 1 else zI M1 12 j) ∧ (∀ j, zI M' 13 j = if j = k then nI 1 else zI M1 13 j) ∧ (∀ b, b ≠ 9 → b ≠ 10 → zL M' b = zL M1 b) ∧ (∀ j, zL M' 9 j = if j = k then x else zL M1 9 j) ∧ ∀ j, zL M' 10 j = if j = k then x else zL M1 10 j := by
  refine ⟨_, bu_push hd hB hB1 hr hr1 hk hk1 h5 hk27 hs26 h7 e, rfl, rfl, rfl, fun b a1 a2 a3 a4 => ?_, ?_, fun j => ?_, fun j => ?_, fun j => ?_, fun b a1 a2 => ?_, fun j => ?_, fun j => ?_⟩
  · exact (zI_ne a1).trans ((zI_ne a4).trans ((zI_ne a3).trans (zI_ne a2)))
  · simp (disch := omega) only [zL_sL, zI_sI, zS, iteF, iteT, eq_self, and_self, true_and, and_true, false_and, and_false, if_true, if_false, reduceIte, Nat.reduceEqDiff]
  · by_cases h : j = k
    · simp (disch := omega) only [zL_sL, zI_sI, zS, iteF, iteT, eq_self, and_self, true_and, and_true, false_and, and_false, if_true, if_false, reduceIte, Nat.reduceEqDiff, h]
    · simp (disch := omega) only [zL_sL, zI_sI, zS, iteF, iteT, eq_self, and_self, true_and, and_true, false_and, and_false, if_true, if_false, reduceIte, Nat.reduceEqDiff, h]
  · by_cases h : j = k
    · simp (disch := omega) only [zL_sL, zI_sI, zS, iteF, iteT, eq_self, and_self, true_and, and_true, false_and, and_false, if_true, if_false, reduceIte, Nat.reduceEqDiff, h]
    · simp (disch := omega) only [zL_sL, zI_sI, zS, iteF, iteT, eq_self, and_self, true_and, and_true, false_and, and_false, if_true, if_false, reduceIte, Nat.reduceEqDiff, h]
  · by_cases h : j = k
    · simp (disch := omega) only [zL_sL, zI_sI, zS, iteF, iteT, eq_self, and_self, true_and, and_true, false_and, and_false, if_true, if_false, reduceIte, Nat.reduceEqDiff, h]
    · simp (disch := omega) only [zL_sL, zI_sI, zS, iteF, iteT, eq_self, and_self, true_and, and_true, false_and, and_false, if_true, if_false, reduceIte, Nat.reduceEqDiff, h]
  · exact (zL_ne a2).trans (zL_ne a1)
  · by_cases h : j = k
    · simp (disch := omega) only [zL_sL, zI_sI, zS, iteF, iteT, eq_self, and_self, true_and, and_true, false_and, and_false, if_true, if_false, reduceIte, Nat.reduceEqDiff, h]
    · simp (disch := omega) only [zL_sL, zI_sI, zS, iteF, iteT, eq_self, and_self, true_and, and_true, false_and, and_false, if_true, if_false, reduceIte, Nat.reduceEqDiff, h]
  · by_cases h : j = k
    · simp (disch := omega) only [zL_sL, zI_sI, zS, iteF, iteT, eq_self, and_self, true_and, and_true, false_and, and_false, if_true, if_false, reduceIte, Nat.reduceEqDiff, h]
    · simp (disch := omega) only [zL_sL, zI_sI, zS, iteF, iteT, eq_self, and_self, true_and, and_true, false_and, and_false, if_true, if_false, reduceIte, Nat.reduceEqDiff, h]
theorem get_snoc {α : Type} {l : List α} {t u : α} {e : Nat} (h : (l ++ [t])[e]? = some u) : (e < l.length ∧ l[e]? = some u) ∨ (e = l.length ∧ t = u) := by
  rcases Nat.lt_or_ge e l.length with h1 | h1
  · rw [List.getElem?_append_left h1] at h
    exact Or.inl ⟨h1, h⟩
  · rw [List.getElem?_append_right h1] at h
    cases hx : e - l.length with
    | zero =>
      rw [hx] at h
      exact Or.inr ⟨by omega, Option.some.inj h⟩
    | succ n =>
      rw [hx] at h
      exact absurd h (by simp)
theorem bu_condition {d L w s D : Nat} {M : zM} {l : List Pc} {t : T4} (hd : 3 ≤ d) (hs : zSh L w M) (hq : zSeq M s) (hs26 : 26 ≤ s) (hB : Bst s l M) (hl : l.length < 19) (hD : D < 19) (h1 : zI M 6 1 = nI (D + 1)) (ht : ∀ q, q < 4 → zL M 7 (4 * D + q) = t q) : ∃ M', zV d n_Bu_condition [.ref 8, .ref 6] M = some (none, M') ∧ fBu s M M' ∧ zI M' 4 = zI M 4 ∧ zI M' 6 1 = nI D ∧ Bst s (l ++ [coP t]) M' := by
  obtain ⟨d, rfl, hd1⟩ := zdep hd
  obtain ⟨k6, k7, r6⟩ := k67_of hs
  have kb := kB_of hs
  obtain ⟨B1, B2, B3, B4, p, c, hp, hc, h7, h6, h10, hok⟩ := hB
  have htt : tot (l ++ [coP t]) = tot l + 1 := by rw [tot_app, tot_1]; rfl
  have hcd : cds (l ++ [coP t]) = cds l ++ [t] := by rw [cds_app, cds_1]; rfl
  by_cases hroom : tot l < 40
  · obtain ⟨g1, g2, g3, g4, g5⟩ := hok (by omega)
    subst g1
    have hcl : (cds l).length ≤ tot l := cds_le B3
    rw [if_pos (show tot l ≤ 40 by omega)] at h10
    obtain ⟨M1, e, f1, f2, f3, f4, f5, f6, f7, f8, f9, f10, f11, f12⟩ := se_addCond2 (d := d) (by omega) k6 k7 r6 hq hs26 hroom (show c < 40 by omega) h7 h6 h10 hD h1
    have kb1 : kB M1 := by unfold kB; rw [f2, f3]; exact kb
    obtain ⟨M', e2, m1, m2, m3, m4, m5, m6, m7, m8, m9, m10, m11⟩ := bu_push2 (k := l.length) (p := tot l + 1) (by omega) kb kb1 B1 (by rw [f3]; exact B1) hq.1 (by rw [f2]; exact hq.1) (by rw [f4 8 (by omega) (by omega)]; exact B2) hl hs26 f7 e
    have L1 : ∀ q, zL M' (s + 1) q = if q = tot l + 1 then 0 else zL M (s + 1) q := fun q => by rw [m9 _ (by omega) (by omega)]; exact f10 q
    have L2 : ∀ e, zL M' (s + 2) e = if e = c then b1 (tot l + 1) else zL M (s + 2) e := fun q => by rw [m9 _ (by omega) (by omega)]; exact f11 q
    have L3 : zL M' (s + 3) = fil (4 * c) (zL M (s + 3)) (fun q => zL M 7 (4 * D + q)) 4 := (m9 _ (by omega) (by omega)).trans f12
    refine ⟨M', e2, ⟨m1.trans f1, m2.trans f2, m3.trans f3, fun b a1 a2 a3 a4 a5 a6 a7 => (m4 b a3 a4 a5 a6).trans (f4 b a2 a7), by rw [m4 4 (by omega) (by omega) (by omega) (by omega), f4 4 (by omega) (by omega)], fun b a1 a2 a3 a4 a5 a6 a7 => (m9 b a2 a3).trans (f9 b a5 a6 a7)⟩, by rw [m4 4 (by omega) (by omega) (by omega) (by omega), f4 4 (by omega) (by omega)], by rw [m4 6 (by omega) (by omega) (by omega) (by omega)]; exact f5, ?_⟩
    refine ⟨by rw [m3, f3]; exact B1, by rw [m5, List.length_append]; rfl, wf_app B3 (wf_co t), bN_app B4 (fun j hj => ⟨by rw [m7, if_neg (by omega), f4 12 (by omega) (by omega)], by rw [m8, if_neg (by omega), f4 13 (by omega) (by omega)]⟩) ⟨by rw [m7, if_pos rfl]; rfl, by rw [m8, if_pos rfl]; rfl⟩, tot l + 1, c + 1, by omega, by omega, by rw [m4 s (by omega) (by omega) (by omega) (by omega)]; exact f7, by rw [m4 s (by omega) (by omega) (by omega) (by omega)]; exact f6, by rw [m4 s (by omega) (by omega) (by omega) (by omega), htt, if_pos (by omega)]; exact f8, fun _ => ⟨htt.symm, by rw [hcd, List.length_append, g2]; rfl, ?_, ?_, ?_⟩⟩
    · intro e u he q hq
      rw [hcd] at he
      rw [L3]
      rcases get_snoc he with ⟨h2, h3⟩ | ⟨h2, h3⟩
      · rw [fil_lt (by omega)]
        exact g3 e u h3 q hq
      · rw [h2, ← g2, fil_in hq, ← h3]
        exact ht q hq
    · intro e q he hz
      rw [L2] at hz
      by_cases h : e = c
      · rw [if_pos h, zb_b1 (by omega), decide_eq_true_eq] at hz
        omega
      · rw [if_neg h] at hz
        have := g4 e q (by omega) hz
        omega
    · have htl : tt (en 0 l) = tot l := rfl
      rw [en_app]
      refine Stk_app.mpr ⟨Stk_congr g5 (fun q r a1 a2 => ?_) (fun q v a1 a2 => ?_) (fun y hy => ?_), ?_, ?_, trivial⟩
      · unfold cF
        rw [L1, if_neg (by omega)]
      · unfold cT
        rw [L3]
        constructor
        · rintro ⟨hv, e, x1, x2, x3⟩
          exact ⟨hv, e, by omega, by rw [L2, if_neg (by omega)]; exact x2, by rw [ful_fil hv x1]; exact x3⟩
        · rintro ⟨hv, e, x1, x2, x3⟩
          rw [L2] at x2
          by_cases h : e = c
          · rw [if_pos h, zb_b1 (by omega), decide_eq_true_eq] at x2
            omega
          · rw [if_neg h] at x2
            rw [ful_fil hv (by omega)] at x3
            exact ⟨hv, e, by omega, x2, x3⟩
      · have := en_mem hy
        exact ⟨by rw [m10, if_neg (by omega), f9 9 (by omega) (by omega) (by omega)], by rw [m11, if_neg (by omega), f9 10 (by omega) (by omega) (by omega)], by rw [m6, if_neg (by omega), f4 11 (by omega) (by omega)]⟩
      · show Fr (cF M' s) (cT M' s (c + 1)) (1 + tt (en 0 l)) 1 (zB (zL M' 9 (0 + l.length))) (zB (zL M' 10 (0 + l.length))) (pL (coP t))
        rw [htl, Nat.zero_add, Nat.add_comm 1 (tot l), m10, m11, if_pos rfl, if_pos rfl, b1_B (by omega)]
        refine Fr_one (fun q => Iff.rfl) (fun q => Iff.rfl) (fun r => ?_) (fun v => ?_)
        · unfold cF
          rw [L1, if_pos rfl, zb_0]
          exact Bool.false_ne_true
        · unfold cT tV
          rw [L3]
          constructor
          · rintro ⟨hv, e, x1, x2, x3⟩
            rw [L2] at x2
            by_cases h : e = c
            · subst h
              rw [ful_fil2 hv, ht _ (by omega)] at x3
              exact ⟨hv, x3⟩
            · rw [if_neg h] at x2
              have := g4 e _ (by omega) x2
              omega
          · rintro ⟨hv, x⟩
            exact ⟨hv, c, by omega, by rw [L2, if_pos rfl, zb_b1 (by omega), decide_eq_true_eq], by rw [ful_fil2 hv, ht _ (by omega)]; exact x⟩
      · show zI M' 11 (0 + l.length) = nI (1 + tt (en 0 l))
        rw [htl, Nat.zero_add, m6, if_pos rfl, Nat.add_comm]
  · have hov : ∃ o, o < 2 ∧ zI M s 10 = nI o ∧ (o = 1 ∨ p = 40) := by
      by_cases h : tot l ≤ 40
      · rw [if_pos h] at h10
        have := (hok h).1
        exact ⟨0, by omega, h10, Or.inr (by omega)⟩
      · rw [if_neg h] at h10
        exact ⟨1, by omega, h10, Or.inl rfl⟩
    obtain ⟨o, ho, ho10, hov⟩ := hov
    obtain ⟨M1, e, f1, f2, f3, f4, f5, f6, f7, f8⟩ := se_addCond_o (d := d) (by omega) k6 hq hs26 hp hc h7 h6 ho ho10 hov hD h1
    have kb1 : kB M1 := by unfold kB; rw [f2, f3]; exact kb
    obtain ⟨M', e2, m1, m2, m3, m4, m5, m6, m7, m8, m9, m10, m11⟩ := bu_push2 (k := l.length) (p := p) (by omega) kb kb1 B1 (by rw [f3]; exact B1) hq.1 (by rw [f2]; exact hq.1) (by rw [f5 8 (by omega) (by omega)]; exact B2) hl hs26 (by rw [f7 7 (by omega)]; exact h7) e
    refine ⟨M', e2, ⟨m1.trans f1, m2.trans f2, m3.trans f3, fun b a1 a2 a3 a4 a5 a6 a7 => (m4 b a3 a4 a5 a6).trans (f5 b a2 a7), by rw [m4 4 (by omega) (by omega) (by omega) (by omega), f5 4 (by omega) (by omega)], fun b a1 a2 a3 a4 a5 a6 a7 => (m9 b a2 a3).trans (by rw [f4])⟩, by rw [m4 4 (by omega) (by omega) (by omega) (by omega), f5 4 (by omega) (by omega)], by rw [m4 6 (by omega) (by omega) (by omega) (by omega)]; exact f6, ?_⟩
    refine ⟨by rw [m3, f3]; exact B1, by rw [m5, List.length_append]; rfl, wf_app B3 (wf_co t), bN_app B4 (fun j hj => ⟨by rw [m7, if_neg (by omega), f5 12 (by omega) (by omega)], by rw [m8, if_neg (by omega), f5 13 (by omega) (by omega)]⟩) ⟨by rw [m7, if_pos rfl]; rfl, by rw [m8, if_pos rfl]; rfl⟩, p, c, hp, hc, by rw [m4 s (by omega) (by omega) (by omega) (by omega), f7 7 (by omega)]; exact h7, by rw [m4 s (by omega) (by omega) (by omega) (by omega), f7 6 (by omega)]; exact h6, by rw [m4 s (by omega) (by omega) (by omega) (by omega), htt, if_neg (by omega)]; exact f8, fun h => absurd h (by rw [htt]; omega)⟩
