/-! the reference reads a condition: small steps -/
/-- what the reference may change while it reads a condition, levels below D kept -/
def fMc (D : Nat) (M M' : zM) : Prop := zN M' = zN M ∧ zK M' = zK M ∧ zR M' = zR M ∧ (∀ b, b ≠ 146 → b ≠ 161 → b ≠ 162 → b ≠ 163 → zI M' b = zI M b) ∧ (∀ j, (j < 14 ∨ 20 < j) → j ≠ 27 → zI M' 146 j = zI M 146 j) ∧ (∀ b, b ≠ 159 → b ≠ 160 → b ≠ 164 → zL M' b = zL M b) ∧ (∀ j, j < D → zI M' 161 j = zI M 161 j ∧ zI M' 162 j = zI M 162 j ∧ zI M' 163 j = zI M 163 j) ∧ ∀ j, j < 4 * D → zL M' 159 j = zL M 159 j ∧ zL M' 160 j = zL M 160 j
theorem fMc_rfl (D : Nat) (M : zM) : fMc D M M := ⟨rfl, rfl, rfl, fun _ _ _ _ _ => rfl, fun _ _ _ => rfl, fun _ _ _ _ => rfl, fun _ _ => ⟨rfl, rfl, rfl⟩, fun _ _ => ⟨rfl, rfl⟩⟩
theorem fMc.trans {D D' : Nat} {M M1 M2 : zM} (h : fMc D M M1) (g : fMc D' M1 M2) (hD : D ≤ D') : fMc D M M2 := by
  obtain ⟨a1, a2, a3, a4, a5, a6, a7, a8⟩ := h
  obtain ⟨b1, b2, b3, b4, b5, b6, b7, b8⟩ := g
  exact ⟨b1.trans a1, b2.trans a2, b3.trans a3, fun b h1 h2 h3 h4 => (b4 b h1 h2 h3 h4).trans (a4 b h1 h2 h3 h4), fun j h1 h2 => (b5 j h1 h2).trans (a5 j h1 h2), fun b h1 h2 h3 => (b6 b h1 h2 h3).trans (a6 b h1 h2 h3), fun j hj => ⟨(b7 j (by omega)).1.trans (a7 j hj).1, (b7 j (by omega)).2.1.trans (a7 j hj).2.1, (b7 j (by omega)).2.2.trans (a7 j hj).2.2⟩, fun j hj => ⟨(b8 j (by omega)).1.trans (a8 j hj).1, (b8 j (by omega)).2.trans (a8 j hj).2⟩⟩
theorem fMo.mc {D : Nat} {M M' : zM} (h : fMo M M') : fMc D M M' := ⟨h.1, h.2.1, h.2.2.1, fun b h1 _ _ _ => h.2.2.2.2.1 b h1, fun j h1 _ => h.2.2.2.2.2 j (by omega), fun b _ _ _ => by rw [h.2.2.2.1], fun j _ => ⟨by rw [h.2.2.2.2.1 161 (by omega)], by rw [h.2.2.2.2.1 162 (by omega)], by rw [h.2.2.2.2.1 163 (by omega)]⟩, fun j _ => ⟨by rw [h.2.2.2.1], by rw [h.2.2.2.1]⟩⟩
theorem mTok_ok {x : Tk} {M : zM} (h : mTok x M) (h3 : x.1 ≠ 3) : zI M 146 18 = nI 0 ∧ zI M 146 15 = nI x.2.2.1 ∧ zI M 146 16 = nI (if x.1 < 3 then x.1 else 3) := by
  obtain ⟨c1, c2, c3, c4, c5, c6⟩ := h
  rw [if_neg h3] at c3
  exact ⟨c3, c2, c5 h3⟩
theorem mTok_bad {x : Tk} {M : zM} (h : mTok x M) (h3 : x.1 = 3) : zI M 146 18 = nI 1 ∧ zI M 146 19 = nI x.2.2.1 := by
  obtain ⟨c1, c2, c3, c4, c5, c6⟩ := h
  rw [if_pos h3] at c3
  exact ⟨c3, c4 h3⟩
theorem mTok_I {x : Tk} {M M' : zM} (h : mTok x M) (e : ∀ j, 14 ≤ j → j ≤ 19 → zI M' 146 j = zI M 146 j) : mTok x M' := by
  unfold mTok
  rw [e 14 (by omega) (by omega), e 15 (by omega) (by omega), e 16 (by omega) (by omega), e 17 (by omega) (by omega), e 18 (by omega) (by omega), e 19 (by omega) (by omega)]
  exact h
def EM (L w N : Nat) (β : Nat → Nat) (pt : Nat → Int64) (M : zM) : Prop := zSh L w M ∧ tapeM N β M ∧ ∀ k, k < 6 → zL M 165 k = pt k
theorem EM_fr {L w N D : Nat} {β : Nat → Nat} {pt : Nat → Int64} {M M' : zM} (h : EM L w N β pt M) (f : fMc D M M') : EM L w N β pt M' := by
  obtain ⟨h1, h2, h3⟩ := h
  refine ⟨zSh_fr h1 f.1 f.2.1 f.2.2.1, ?_, by rw [f.2.2.2.2.2.1 165 (by omega) (by omega) (by omega)]; exact h3⟩
  unfold tapeM
  rw [f.2.2.2.2.1 13 (by omega) (by omega), f.2.2.2.1 158 (by omega) (by omega) (by omega) (by omega)]
  exact h2
/-- where a token of a sign begins, that sign stands -/
theorem tok_sign {β : Nat → Nat} {N i : Nat} (hi : i ≤ N) : ((tok β N i).1 = 1 → (tok β N i).2.2.1 < N ∧ β (tok β N i).2.2.1 = (tok β N i).2.1 + 97) ∧ (3 < (tok β N i).1 → (tok β N i).2.2.1 < N ∧ β (tok β N i).2.2.1 = (tok β N i).1) := by
  have hb := skp_b (β := β) (N - i) i
  unfold tok
  generalize skp β (N - i) i = p at *
  unfold tkAt
  by_cases h1 : N ≤ p
  · rw [if_pos h1]
    exact ⟨fun h => absurd h (show ¬ 0 = 1 by decide), fun h => absurd h (show ¬ 3 < 0 by decide)⟩
  · rw [if_neg h1]
    by_cases h2 : 97 ≤ β p ∧ β p ≤ 104
    · rw [if_pos h2]
      exact ⟨fun _ => ⟨by show p < N; omega, by show β p = β p - 97 + 97; omega⟩, fun h => absurd h (show ¬ 3 < 1 by decide)⟩
    · rw [if_neg h2]
      by_cases h3 : 48 ≤ β p ∧ β p ≤ 57
      · rw [if_pos h3]
        by_cases h4 : fgs β (N - (p + 1)) (p + 1) ≤ p + 2
        · rw [if_pos h4]
          exact ⟨fun h => absurd h (show ¬ 2 = 1 by decide), fun h => absurd h (show ¬ 3 < 2 by decide)⟩
        · rw [if_neg h4]
          exact ⟨fun h => absurd h (show ¬ 3 = 1 by decide), fun h => absurd h (show ¬ 3 < 3 by decide)⟩
      · rw [if_neg h3]
        by_cases h4 : isSg (β p) = true
        · rw [if_pos h4]
          exact ⟨fun (h : β p = 1) => by rw [h] at h4; exact absurd h4 (by decide), fun _ => ⟨by show p < N; omega, rfl⟩⟩
        · rw [if_neg h4]
          exact ⟨fun h => absurd h (show ¬ 3 = 1 by decide), fun h => absurd h (show ¬ 3 < 3 by decide)⟩
/-- a sign is asked for -/
theorem m_isSign {d L w N i c : Nat} {β : Nat → Nat} {pt : Nat → Int64} {M : zM} (hd : 2 ≤ d) (hE : EM L w N β pt M) (hk : tkOk (tok β N) N) (hm : mTok (tok β N i) M) (h3 : (tok β N i).1 ≠ 3) (hi : i ≤ N) (hc : 3 < c) (hc2 : c < 128) : zV d n_Mo_isSign [.ref 146, .int (nI c)] M = some (some (.int (nI (if (tok β N i).1 = c then 1 else 0))), M) := by
  obtain ⟨d, rfl, hd1⟩ := zdep hd
  obtain ⟨c18, c15, c16⟩ := mTok_ok hm h3
  have hK : zK M 146 = (11, 52) := by rw [hE.1.2.1]; rfl
  have hkd := (hk i hi).2.2.2.2.2.1
  rw [ze_Mo_isSign]
  unfold zx_Mo_isSign
  by_cases h4 : (tok β N i).1 < 3
  · rw [if_pos h4] at c16
    rw [if_neg (show ¬ (tok β N i).1 = c by omega)]
    clear hE hk hm
    generalize (tok β N i).1 = K at *
    simp (disch := omega) only [il, nI_add, nI_mul, nI_sub, nI_div, nI_rem, nI_N, i32_lt, i32_le, nI_toInt, nI_subI, nI_clamp, zinT, zifT, iteT, iteF, zQ, zS, zkc, zI_sI, zL_sL, zI_wI, zL_wL, Nat.reduceEqDiff, Nat.reduceAdd, Nat.reduceMul, Nat.reduceLT, Nat.reduceLeDiff, reduceIte, eq_self, and_self, true_and, and_true, false_and, and_false, true_or, or_true, or_false, false_or, not_true_eq_false, not_false_eq_true, zarr, ne_eq, hK, c18, c16]
  · rw [if_neg h4] at c16
    obtain ⟨b1, b2⟩ := (tok_sign (β := β) hi).2 (by omega)
    have eb := m_byteAt_t (d := d) hd1 hE.1 hE.2.1 b1
    rw [b2] at eb
    by_cases h5 : (tok β N i).1 = c
    · rw [if_pos h5]
      rw [h5] at eb
      clear hE hk hm b2
      simp (disch := omega) only [il, nI_add, nI_mul, nI_sub, nI_div, nI_rem, nI_N, i32_lt, i32_le, nI_toInt, nI_subI, nI_clamp, zinT, zifT, iteT, iteF, zQ, zS, zkc, zI_sI, zL_sL, zI_wI, zL_wL, Nat.reduceEqDiff, Nat.reduceAdd, Nat.reduceMul, Nat.reduceLT, Nat.reduceLeDiff, reduceIte, eq_self, and_self, true_and, and_true, false_and, and_false, true_or, or_true, or_false, false_or, not_true_eq_false, not_false_eq_true, zarr, ne_eq, hK, c18, c16, c15, eb]
    · rw [if_neg h5]
      have hne : ¬ nI (tok β N i).1 = nI c := nI_ne (by omega) (by omega) h5
      clear hE hk hm b2
      simp (disch := omega) only [il, nI_add, nI_mul, nI_sub, nI_div, nI_rem, nI_N, i32_lt, i32_le, nI_toInt, nI_subI, nI_clamp, zinT, zifT, iteT, iteF, zQ, zS, zkc, zI_sI, zL_sL, zI_wI, zL_wL, Nat.reduceEqDiff, Nat.reduceAdd, Nat.reduceMul, Nat.reduceLT, Nat.reduceLeDiff, reduceIte, eq_self, and_self, true_and, and_true, false_and, and_false, true_or, or_true, or_false, false_or, not_true_eq_false, not_false_eq_true, zarr, ne_eq, hK, c18, c16, c15, eb, hne]
theorem m_isSign_b {d f : Nat} {c : Int32} {M : zM} (hd : 1 ≤ d) (hK : zK M 146 = (11, 52)) (h18 : zI M 146 18 = nI f) (hf : 0 < f) (hf2 : f < 100) : zV d n_Mo_isSign [.ref 146, .int c] M = some (some (.int (nI 0)), M) := by
  obtain ⟨d, rfl, hd1⟩ := zdep hd
  rw [ze_Mo_isSign]
  unfold zx_Mo_isSign
  simp (disch := omega) only [il, nI_add, nI_mul, nI_sub, nI_div, nI_rem, nI_N, i32_lt, i32_le, nI_toInt, nI_subI, nI_clamp, zinT, zifT, iteT, iteF, zQ, zS, zkc, zI_sI, zL_sL, zI_wI, zL_wL, Nat.reduceEqDiff, Nat.reduceAdd, Nat.reduceMul, Nat.reduceLT, Nat.reduceLeDiff, reduceIte, eq_self, and_self, true_and, and_true, false_and, and_false, true_or, or_true, or_false, false_or, not_true_eq_false, not_false_eq_true, zarr, ne_eq, hK, h18]
theorem m_opensDepth {d L w l : Nat} {M : zM} (hd : 1 ≤ d) (hs : zSh L w M) (h27 : zI M 146 27 = nI l) (hl : l < 10) : zV d n_Mo_opensDepth [.ref 146] M = some (none, zsI (zsI (zsI M 161 l (nI 0)) 162 l (nI 0)) 163 l (nI 0)) := by
  obtain ⟨d, rfl, hd1⟩ := zdep hd
  obtain ⟨hN, hK, hC, hMo, -⟩ := hs
  rw [ze_Mo_opensDepth]
  unfold zx_Mo_opensDepth
  simp (disch := omega) only [il, nI_add, nI_mul, nI_sub, nI_div, nI_rem, nI_N, i32_lt, i32_le, nI_toInt, nI_subI, nI_clamp, zinT, zifT, iteT, iteF, zQ, zS, zkc, zI_sI, zL_sL, zI_wI, zL_wL, Nat.reduceEqDiff, Nat.reduceAdd, Nat.reduceMul, Nat.reduceLT, Nat.reduceLeDiff, reduceIte, eq_self, and_self, true_and, and_true, false_and, and_false, true_or, or_true, or_false, false_or, not_true_eq_false, not_false_eq_true, zarr, ne_eq, hK, hMo, h27, zbast, nar_z0]
theorem m_wires {d L w N v : Nat} {β : Nat → Nat} {pt : Nat → Int64} {M : zM} (hd : 1 ≤ d) (hE : EM L w N β pt M) (hv : v < 8) : ∃ M', zV d n_Mo_wires [.ref 146, .int (nI v)] M = some (none, M') ∧ zN M' = zN M ∧ zK M' = zK M ∧ zR M' = zR M ∧ zI M' = zI M ∧ (∀ b, b ≠ 164 → zL M' b = zL M b) ∧ ∀ q, q < 4 → zL M' 164 q = wT pt v q := by
  obtain ⟨d, rfl, hd1⟩ := zdep hd
  rw [ze_Mo_wires]
  unfold zx_Mo_wires
  obtain ⟨M1, e, f1, f2, f3, f4, f5, f6⟩ := zloopE (n := 4) (g := fun q M1 => zG d n_Mo_wires 2 [some (.ref 146), some (.int (nI v)), some (.int (nI q))] [] M1) (P := fun n M1 => zN M1 = zN M ∧ zK M1 = zK M ∧ zR M1 = zR M ∧ zI M1 = zI M ∧ (∀ b, b ≠ 164 → zL M1 b = zL M b) ∧ ∀ q, q < n → zL M1 164 q = wT pt v q) (by
    intro q M1 hq ⟨f1, f2, f3, f4, f5, f6⟩
    have hs1 := zSh_fr hE.1 f1 f2 f3
    obtain ⟨hN, hK, hC, hMo, -⟩ := hs1
    refine ⟨zsL M1 164 q (wT pt v q), ?_, f1, f2, f3, f4, fun b hb => (zL_ne hb).trans (f5 b hb), ?_⟩
    · show zG d n_Mo_wires 2 [some (.ref 146), some (.int (nI v)), some (.int (nI q))] [] M1 = _
      rw [zg_Mo_wires_2]
      unfold zx_Mo_wires_2 wT
      by_cases h : v < 6
      · have hp := hE.2.2 v h
        have hp1 : zL M1 165 v = pt v := by rw [f5 165 (by omega)]; exact hp
        rw [if_pos h]
        clear f1 f2 f3 f4 f5 f6 hE
        simp (disch := omega) only [il, nI_add, nI_mul, nI_sub, nI_div, nI_rem, nI_N, i32_lt, i32_le, nI_toInt, nI_subI, nI_clamp, zinT, zifT, iteT, iteF, zQ, zS, zkc, zI_sI, zL_sL, zI_wI, zL_wL, Nat.reduceEqDiff, Nat.reduceAdd, Nat.reduceMul, Nat.reduceLT, Nat.reduceLeDiff, reduceIte, eq_self, and_self, true_and, and_true, false_and, and_false, true_or, or_true, or_false, false_or, not_true_eq_false, not_false_eq_true, zarr, ne_eq, hK, hMo, hp1]
      · have key : ∀ v, v < 8 → ∀ q, q < 4 → ¬ v < 6 → (((nI q >>> ((nI v - nI 6) &&& 31)) &&& nI 1) = nI 1 ↔ (q / 2 ^ (v - 6)) % 2 = 1) := by decide +kernel
        have kk := key v hv q hq h
        have h6 : (6 : Int32) ≤ nI v := by show nI 6 ≤ nI v; rw [nI_E (by omega) (by omega)]; omega
        have h4 : ¬ (4 : Int32) ≤ nI q := by show ¬ nI 4 ≤ nI q; rw [nI_E (by omega) (by omega)]; omega
        have hK146 : zK M1 146 = (11, 52) := by rw [hK]; rfl
        have hR26 : zR M1 146 26 = some 164 := by simp only [hMo]
        rw [if_neg h, if_neg h4, zif_t (by rw [hK146]), hR26, zoR_S]
        by_cases h1 : (q / 2 ^ (v - 6)) % 2 = 1
        · have k2 : ¬ (((nI q >>> ((nI v - (6 : Int32)) &&& 31)) &&& (1 : Int32)) ≠ (1 : Int32)) := fun z => z (kk.mpr h1)
          rw [if_pos h6, if_neg k2, if_pos h1]
          clear f1 f2 f3 f4 f5 f6 hE kk k2 key
          simp (disch := omega) only [il, nI_add, nI_mul, nI_sub, nI_div, nI_rem, nI_N, i32_lt, i32_le, nI_toInt, nI_subI, nI_clamp, zinT, zifT, iteT, iteF, zQ, zS, zkc, zI_sI, zL_sL, zI_wI, zL_wL, Nat.reduceEqDiff, Nat.reduceAdd, Nat.reduceMul, Nat.reduceLT, Nat.reduceLeDiff, reduceIte, eq_self, and_self, true_and, and_true, false_and, and_false, true_or, or_true, or_false, false_or, not_true_eq_false, not_false_eq_true, zarr, ne_eq, hK, hMo]
        · have k2 : (((nI q >>> ((nI v - (6 : Int32)) &&& 31)) &&& (1 : Int32)) ≠ (1 : Int32)) := fun z => h1 (kk.mp z)
          rw [if_pos h6, if_pos k2, if_neg h1]
          clear f1 f2 f3 f4 f5 f6 hE kk k2 key
          simp (disch := omega) only [il, nI_add, nI_mul, nI_sub, nI_div, nI_rem, nI_N, i32_lt, i32_le, nI_toInt, nI_subI, nI_clamp, zinT, zifT, iteT, iteF, zQ, zS, zkc, zI_sI, zL_sL, zI_wI, zL_wL, Nat.reduceEqDiff, Nat.reduceAdd, Nat.reduceMul, Nat.reduceLT, Nat.reduceLeDiff, reduceIte, eq_self, and_self, true_and, and_true, false_and, and_false, true_or, or_true, or_false, false_or, not_true_eq_false, not_false_eq_true, zarr, ne_eq, hK, hMo]
    · intro j hj
      by_cases h : j = q
      · subst h; rw [zL_sL, if_pos ⟨rfl, rfl⟩]
      · rw [zL_sL, if_neg (fun z => h z.2)]; exact f6 j (by omega)) (s0 := M) ⟨rfl, rfl, rfl, rfl, fun _ _ => rfl, fun _ h => absurd h (by omega)⟩
  refine ⟨M1, ?_, f1, f2, f3, f4, f5, f6⟩
  refine Eq.trans e ?_
  show zG d n_Mo_wires 2 [some (.ref 146), some (.int (nI v)), some (.int (nI 4))] [] M1 = _
  rw [zg_Mo_wires_2]
  unfold zx_Mo_wires_2
  rfl
/-- the record of a depth: ors, ands, a ! -/
abbrev Lv : Type := Option T4 × Option T4 × Bool
def oN {α : Type} : Option α → Nat
  | none => 0
  | some _ => 1
def lvl (M : zM) (l : Nat) (x : Lv) : Prop := zI M 161 l = nI (oN x.1) ∧ (∀ t, x.1 = some t → ∀ q, q < 4 → zL M 159 (4 * l + q) = t q) ∧ zI M 162 l = nI (oN x.2.1) ∧ (∀ t, x.2.1 = some t → ∀ q, q < 4 → zL M 160 (4 * l + q) = t q) ∧ zI M 163 l = nI x.2.2.toNat
def anO (a : Option T4) (t : T4) : T4 := match a with
  | none => t
  | some u => anT u t
def orO (a : Option T4) (t : T4) : T4 := match a with
  | none => t
  | some u => orT u t
/-- only the level l of the rows and the table now -/
def fLv (l : Nat) (M M' : zM) : Prop := zN M' = zN M ∧ zK M' = zK M ∧ zR M' = zR M ∧ (∀ b, b ≠ 161 → b ≠ 162 → b ≠ 163 → zI M' b = zI M b) ∧ (∀ b, b ≠ 159 → b ≠ 160 → zL M' b = zL M b) ∧ (∀ j, j ≠ l → zI M' 161 j = zI M 161 j ∧ zI M' 162 j = zI M 162 j ∧ zI M' 163 j = zI M 163 j) ∧ ∀ j, (j < 4 * l ∨ 4 * l + 3 < j) → zL M' 159 j = zL M 159 j ∧ zL M' 160 j = zL M 160 j
theorem fLv.mc {l : Nat} {M M' : zM} (h : fLv l M M') : fMc l M M' := ⟨h.1, h.2.1, h.2.2.1, fun b _ h2 h3 h4 => h.2.2.2.1 b h2 h3 h4, fun j _ _ => by rw [h.2.2.2.1 146 (by omega) (by omega) (by omega)], fun b h1 h2 _ => h.2.2.2.2.1 b h1 h2, fun j hj => h.2.2.2.2.2.1 j (by omega), fun j hj => h.2.2.2.2.2.2 j (by omega)⟩
theorem m_joinsAnds {d L w l : Nat} {M : zM} {o : Option T4} {a : Option T4} {g : Bool} {t : T4} (hd : 1 ≤ d) (hs : zSh L w M) (h27 : zI M 146 27 = nI l) (hl : l < 10) (hv : lvl M l (o, a, g)) (ht : ∀ q, q < 4 → zL M 164 q = t q) : ∃ M', zV d n_Mo_joinsAnds [.ref 146] M = some (none, M') ∧ fLv l M M' ∧ lvl M' l (o, some (anO a (if g = true then ngt t else t)), false) := by
  obtain ⟨d, rfl, hd1⟩ := zdep hd
  have hs0 := hs
  obtain ⟨hN, hK, hC, hMo, -⟩ := hs
  obtain ⟨v1, v2, v3, v4, v5⟩ := hv
  simp only at v1 v2 v3 v4 v5
  rw [ze_Mo_joinsAnds]
  unfold zx_Mo_joinsAnds
  obtain ⟨M1, e, f1, f2, f3, f4, f5, f6, f7, f8⟩ := zloopE (n := 4) (g := fun q M1 => zG d n_Mo_joinsAnds 2 [some (.ref 146), some (.int (nI q)), none, none] [] M1) (P := fun n M1 => zN M1 = zN M ∧ zK M1 = zK M ∧ zR M1 = zR M ∧ zI M1 = zI M ∧ (∀ b, b ≠ 160 → zL M1 b = zL M b) ∧ (∀ j, (j < 4 * l ∨ 4 * l + 3 < j) → zL M1 160 j = zL M 160 j) ∧ (∀ q, q < n → zL M1 160 (4 * l + q) = anO a (if g = true then ngt t else t) q) ∧ ∀ q, n ≤ q → q < 4 → zL M1 160 (4 * l + q) = zL M 160 (4 * l + q)) (by
    intro q M1 hq ⟨f1, f2, f3, f4, f5, f6, f7, f8⟩
    have hK1 : zK M1 = zKc L := f2.trans hK
    have hMo1 := (zSh_fr hs0 f1 f2 f3).2.2.2.1
    have t1 : zL M1 164 q = t q := by rw [f5 164 (by omega)]; exact ht q hq
    have o1 := f8 q (Nat.le_refl q) hq
    refine ⟨zsL M1 160 (4 * l + q) (anO a (if g = true then ngt t else t) q), ?_, f1, f2, f3, f4, fun b hb => (zL_ne hb).trans (f5 b hb), fun j hj => by rw [zL_sL, if_neg (fun z => by omega)]; exact f6 j hj, ?_, ?_⟩
    · show zG d n_Mo_joinsAnds 2 [some (.ref 146), some (.int (nI q)), none, none] [] M1 = _
      rw [zg_Mo_joinsAnds_2]
      unfold zx_Mo_joinsAnds_2
      simp only [zg_Mo_joinsAnds_38]
      unfold zx_Mo_joinsAnds_38
      have i27 : zI M1 146 27 = nI l := by rw [f4]; exact h27
      have i3 : zI M1 162 l = nI (oN a) := by rw [f4]; exact v3
      have i5 : zI M1 163 l = nI g.toNat := by rw [f4]; exact v5
      clear f1 f2 f3 f4 f5 f6 f7 f8 hs0
      cases g
      · cases a with
        | none =>
          unfold anO oN at *
          simp (disch := omega) only [il, nI_add, nI_mul, nI_sub, nI_div, nI_rem, nI_N, i32_lt, i32_le, nI_toInt, nI_subI, nI_clamp, zinT, zifT, iteT, iteF, zQ, zS, zkc, zI_sI, zL_sL, zI_wI, zL_wL, Nat.reduceEqDiff, Nat.reduceAdd, Nat.reduceMul, Nat.reduceLT, Nat.reduceLeDiff, reduceIte, eq_self, and_self, true_and, and_true, false_and, and_false, true_or, or_true, or_false, false_or, not_true_eq_false, not_false_eq_true, zarr, ne_eq, hK1, hMo1, i27, i3, i5, t1, Bool.toNat_false, Bool.false_eq_true]
        | some u =>
          have u1 := v4 u rfl q hq
          unfold anO anT oN at *
          simp (disch := omega) only [il, nI_add, nI_mul, nI_sub, nI_div, nI_rem, nI_N, i32_lt, i32_le, nI_toInt, nI_subI, nI_clamp, zinT, zifT, iteT, iteF, zQ, zS, zkc, zI_sI, zL_sL, zI_wI, zL_wL, Nat.reduceEqDiff, Nat.reduceAdd, Nat.reduceMul, Nat.reduceLT, Nat.reduceLeDiff, reduceIte, eq_self, and_self, true_and, and_true, false_and, and_false, true_or, or_true, or_false, false_or, not_true_eq_false, not_false_eq_true, zarr, ne_eq, hK1, hMo1, i27, i3, i5, t1, o1, u1, Bool.toNat_false, Bool.false_eq_true]
      · cases a with
        | none =>
          unfold anO oN ngt at *
          simp (disch := omega) only [il, nI_add, nI_mul, nI_sub, nI_div, nI_rem, nI_N, i32_lt, i32_le, nI_toInt, nI_subI, nI_clamp, zinT, zifT, iteT, iteF, zQ, zS, zkc, zI_sI, zL_sL, zI_wI, zL_wL, Nat.reduceEqDiff, Nat.reduceAdd, Nat.reduceMul, Nat.reduceLT, Nat.reduceLeDiff, reduceIte, eq_self, and_self, true_and, and_true, false_and, and_false, true_or, or_true, or_false, false_or, not_true_eq_false, not_false_eq_true, zarr, ne_eq, hK1, hMo1, i27, i3, i5, t1, Bool.toNat_true]
        | some u =>
          have u1 := v4 u rfl q hq
          unfold anO anT oN ngt at *
          simp (disch := omega) only [il, nI_add, nI_mul, nI_sub, nI_div, nI_rem, nI_N, i32_lt, i32_le, nI_toInt, nI_subI, nI_clamp, zinT, zifT, iteT, iteF, zQ, zS, zkc, zI_sI, zL_sL, zI_wI, zL_wL, Nat.reduceEqDiff, Nat.reduceAdd, Nat.reduceMul, Nat.reduceLT, Nat.reduceLeDiff, reduceIte, eq_self, and_self, true_and, and_true, false_and, and_false, true_or, or_true, or_false, false_or, not_true_eq_false, not_false_eq_true, zarr, ne_eq, hK1, hMo1, i27, i3, i5, t1, o1, u1, Bool.toNat_true]
    · intro j hj
      by_cases h : j = q
      · subst h; rw [zL_sL, if_pos ⟨rfl, rfl⟩]
      · rw [zL_sL, if_neg (fun z => h (by omega))]; exact f7 j (by omega)
    · intro j h1 h2
      rw [zL_sL, if_neg (fun z => by omega)]; exact f8 j (by omega) h2) (s0 := M) ⟨rfl, rfl, rfl, rfl, fun _ _ => rfl, fun _ _ => rfl, fun _ h => absurd h (by omega), fun _ _ _ => rfl⟩
  have hK1 : zK M1 = zKc L := f2.trans hK
  have hMo1 := (zSh_fr hs0 f1 f2 f3).2.2.2.1
  have i27 : zI M1 146 27 = nI l := by rw [f4]; exact h27
  refine ⟨zsI (zsI M1 162 l (nI 1)) 163 l (nI 0), ?_, ⟨f1, f2, f3, fun b h1 h2 h3 => by rw [zI_ne h3, zI_ne h2, f4], fun b h1 h2 => f5 b h2, fun j hj => ⟨by rw [zI_ne (by omega), zI_ne (by omega), f4], by rw [zI_ne (by omega), zI_sI, if_neg (fun z => hj z.2), f4], by rw [zI_sI, if_neg (fun z => hj z.2), zI_ne (by omega), f4]⟩, fun j hj => ⟨by show zL M1 159 j = _; rw [f5 159 (by omega)], f6 j hj⟩⟩, ?_, ?_, by rw [zI_ne (by omega), zI_sI, if_pos ⟨rfl, rfl⟩]; rfl, ?_, by rw [zI_sI, if_pos ⟨rfl, rfl⟩]; rfl⟩
  · refine Eq.trans e ?_
    show zG d n_Mo_joinsAnds 2 [some (.ref 146), some (.int (nI 4)), none, none] [] M1 = _
    rw [zg_Mo_joinsAnds_2]
    unfold zx_Mo_joinsAnds_2
    clear f1 f2 f3 f4 f5 f6 f7 f8 hs0 e v2 v4
    simp (disch := omega) only [il, nI_add, nI_mul, nI_sub, nI_div, nI_rem, nI_N, i32_lt, i32_le, nI_toInt, nI_subI, nI_clamp, zinT, zifT, iteT, iteF, zQ, zS, zkc, zI_sI, zL_sL, zI_wI, zL_wL, Nat.reduceEqDiff, Nat.reduceAdd, Nat.reduceMul, Nat.reduceLT, Nat.reduceLeDiff, reduceIte, eq_self, and_self, true_and, and_true, false_and, and_false, true_or, or_true, or_false, false_or, not_true_eq_false, not_false_eq_true, zarr, ne_eq, hK1, hMo1, i27, zbast, nar_z0, nar_z1]
  · rw [zI_ne (by omega), zI_ne (by omega), f4]; exact v1
  · intro u hu q hq
    show zL M1 159 (4 * l + q) = u q
    rw [f5 159 (by omega)]; exact v2 u hu q hq
  · intro u hu q hq
    show zL M1 160 (4 * l + q) = u q
    rw [f7 q hq]
    have : anO a (if g = true then ngt t else t) = u := Option.some.inj hu
    rw [this]
theorem m_joinsOrs {d L w l : Nat} {M : zM} {o : Option T4} {g : Bool} {t : T4} (hd : 1 ≤ d) (hs : zSh L w M) (h27 : zI M 146 27 = nI l) (hl : l < 10) (hv : lvl M l (o, some t, g)) : ∃ M', zV d n_Mo_joinsOrs [.ref 146] M = some (none, M') ∧ fLv l M M' ∧ lvl M' l (some (orO o t), none, g) := by
  obtain ⟨d, rfl, hd1⟩ := zdep hd
  have hs0 := hs
  obtain ⟨hN, hK, hC, hMo, -⟩ := hs
  obtain ⟨v1, v2, v3, v4, v5⟩ := hv
  simp only at v1 v2 v3 v4 v5
  have v4 := v4 t rfl
  rw [ze_Mo_joinsOrs]
  unfold zx_Mo_joinsOrs
  obtain ⟨M1, e, f1, f2, f3, f4, f5, f6, f7, f8⟩ := zloopE (n := 4) (g := fun q M1 => zG d n_Mo_joinsOrs 2 [some (.ref 146), some (.int (nI q))] [] M1) (P := fun n M1 => zN M1 = zN M ∧ zK M1 = zK M ∧ zR M1 = zR M ∧ zI M1 = zI M ∧ (∀ b, b ≠ 159 → zL M1 b = zL M b) ∧ (∀ j, (j < 4 * l ∨ 4 * l + 3 < j) → zL M1 159 j = zL M 159 j) ∧ (∀ q, q < n → zL M1 159 (4 * l + q) = orO o t q) ∧ ∀ q, n ≤ q → q < 4 → zL M1 159 (4 * l + q) = zL M 159 (4 * l + q)) (by
    intro q M1 hq ⟨f1, f2, f3, f4, f5, f6, f7, f8⟩
    have hK1 : zK M1 = zKc L := f2.trans hK
    have hMo1 := (zSh_fr hs0 f1 f2 f3).2.2.2.1
    have t1 : zL M1 160 (4 * l + q) = t q := by rw [f5 160 (by omega)]; exact v4 q hq
    have o1 := f8 q (Nat.le_refl q) hq
    refine ⟨zsL M1 159 (4 * l + q) (orO o t q), ?_, f1, f2, f3, f4, fun b hb => (zL_ne hb).trans (f5 b hb), fun j hj => by rw [zL_sL, if_neg (fun z => by omega)]; exact f6 j hj, ?_, ?_⟩
    · show zG d n_Mo_joinsOrs 2 [some (.ref 146), some (.int (nI q))] [] M1 = _
      rw [zg_Mo_joinsOrs_2]
      unfold zx_Mo_joinsOrs_2
      have i27 : zI M1 146 27 = nI l := by rw [f4]; exact h27
      have i1 : zI M1 161 l = nI (oN o) := by rw [f4]; exact v1
      clear f1 f2 f3 f4 f5 f6 f7 f8 hs0 v4
      cases o with
      | none =>
        unfold orO oN at *
        simp (disch := omega) only [il, nI_add, nI_mul, nI_sub, nI_div, nI_rem, nI_N, i32_lt, i32_le, nI_toInt, nI_subI, nI_clamp, zinT, zifT, iteT, iteF, zQ, zS, zkc, zI_sI, zL_sL, zI_wI, zL_wL, Nat.reduceEqDiff, Nat.reduceAdd, Nat.reduceMul, Nat.reduceLT, Nat.reduceLeDiff, reduceIte, eq_self, and_self, true_and, and_true, false_and, and_false, true_or, or_true, or_false, false_or, not_true_eq_false, not_false_eq_true, zarr, ne_eq, hK1, hMo1, i27, i1, t1]
      | some u =>
        have u1 := v2 u rfl q hq
        unfold orO orT oN at *
        simp (disch := omega) only [il, nI_add, nI_mul, nI_sub, nI_div, nI_rem, nI_N, i32_lt, i32_le, nI_toInt, nI_subI, nI_clamp, zinT, zifT, iteT, iteF, zQ, zS, zkc, zI_sI, zL_sL, zI_wI, zL_wL, Nat.reduceEqDiff, Nat.reduceAdd, Nat.reduceMul, Nat.reduceLT, Nat.reduceLeDiff, reduceIte, eq_self, and_self, true_and, and_true, false_and, and_false, true_or, or_true, or_false, false_or, not_true_eq_false, not_false_eq_true, zarr, ne_eq, hK1, hMo1, i27, i1, t1, o1, u1]
    · intro j hj
      by_cases h : j = q
      · subst h; rw [zL_sL, if_pos ⟨rfl, rfl⟩]
      · rw [zL_sL, if_neg (fun z => h (by omega))]; exact f7 j (by omega)
    · intro j h1 h2
      rw [zL_sL, if_neg (fun z => by omega)]; exact f8 j (by omega) h2) (s0 := M) ⟨rfl, rfl, rfl, rfl, fun _ _ => rfl, fun _ _ => rfl, fun _ h => absurd h (by omega), fun _ _ _ => rfl⟩
  have hK1 : zK M1 = zKc L := f2.trans hK
  have hMo1 := (zSh_fr hs0 f1 f2 f3).2.2.2.1
  have i27 : zI M1 146 27 = nI l := by rw [f4]; exact h27
  refine ⟨zsI (zsI M1 161 l (nI 1)) 162 l (nI 0), ?_, ⟨f1, f2, f3, fun b h1 h2 h3 => by rw [zI_ne h2, zI_ne h1, f4], fun b h1 h2 => f5 b h1, fun j hj => ⟨by rw [zI_ne (by omega), zI_sI, if_neg (fun z => hj z.2), f4], by rw [zI_sI, if_neg (fun z => hj z.2), zI_ne (by omega), f4], by rw [zI_ne (by omega), zI_ne (by omega), f4]⟩, fun j hj => ⟨f6 j hj, by show zL M1 160 j = _; rw [f5 160 (by omega)]⟩⟩, by rw [zI_ne (by omega), zI_sI, if_pos ⟨rfl, rfl⟩]; rfl, ?_, by rw [zI_sI, if_pos ⟨rfl, rfl⟩]; rfl, fun u hu => absurd hu (by simp), ?_⟩
  · refine Eq.trans e ?_
    show zG d n_Mo_joinsOrs 2 [some (.ref 146), some (.int (nI 4))] [] M1 = _
    rw [zg_Mo_joinsOrs_2]
    unfold zx_Mo_joinsOrs_2
    clear f1 f2 f3 f4 f5 f6 f7 f8 hs0 e v2 v4
    simp (disch := omega) only [il, nI_add, nI_mul, nI_sub, nI_div, nI_rem, nI_N, i32_lt, i32_le, nI_toInt, nI_subI, nI_clamp, zinT, zifT, iteT, iteF, zQ, zS, zkc, zI_sI, zL_sL, zI_wI, zL_wL, Nat.reduceEqDiff, Nat.reduceAdd, Nat.reduceMul, Nat.reduceLT, Nat.reduceLeDiff, reduceIte, eq_self, and_self, true_and, and_true, false_and, and_false, true_or, or_true, or_false, false_or, not_true_eq_false, not_false_eq_true, zarr, ne_eq, hK1, hMo1, i27, zbast, nar_z0, nar_z1]
  · intro u hu q hq
    show zL M1 159 (4 * l + q) = u q
    rw [f7 q hq]
    have : orO o t = u := Option.some.inj hu
    rw [this]
  · rw [zI_ne (by omega), zI_ne (by omega), f4]; exact v5
