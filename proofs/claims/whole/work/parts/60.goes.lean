/-! the reference goes through a try -/
def fM (M M' : zM) : Prop := zN M' = zN M ∧ zK M' = zK M ∧ zR M' = zR M ∧ (∀ b, b ≠ 146 → (b < 176 ∨ 178 < b) → zI M' b = zI M b) ∧ (∀ b, b ≠ 175 → zL M' b = zL M b) ∧ ∀ j, j ≠ 45 → j ≠ 46 → zI M' 146 j = zI M 146 j
theorem fM_rfl (M : zM) : fM M M := ⟨rfl, rfl, rfl, fun _ _ _ => rfl, fun _ _ => rfl, fun _ _ _ => rfl⟩
theorem fM.trans {M M1 M2 : zM} (h : fM M M1) (g : fM M1 M2) : fM M M2 := by
  obtain ⟨a1, a2, a3, a4, a5, a6⟩ := h
  obtain ⟨b1, b2, b3, b4, b5, b6⟩ := g
  exact ⟨b1.trans a1, b2.trans a2, b3.trans a3, fun b h1 h2 => (b4 b h1 h2).trans (a4 b h1 h2), fun b h => (b5 b h).trans (a5 b h), fun j h1 h2 => (b6 j h1 h2).trans (a6 j h1 h2)⟩
abbrev mwk (M : zM) (i n : Nat) (C : Nat → Nat) (w : List Nat) : Int64 := mWalk (mB M i) n (mFul n C (mT M i)) w (zL M 149 (203 * i))
def LG (A : Sq) (M : zM) (i n : Nat) (C : Nat → Nat) : Prop := ∀ w, bts w → (zL M 149 (203 * i + 2) &&& mwk M i n C w ≠ 0 ↔ A.liv w) ∧ ∀ v, v < 256 → (zL M 149 (203 * i + 1) &&& (mwk M i n C w &&& mFul n C (mT M i) v) ≠ 0 ↔ A.acc (w ++ [v]))
def ME (A B : Sq) (ki ho : Nat) (off : Nat → Prop) (p t : Nat) (tr : Nat → Nat) (n0 n1 : Nat) (C0 C1 : Nat → Nat) (M : zM) : Prop :=
  (t ≤ 48 ∧ zI M 155 0 = nI t ∧ (∀ i, i < t → tr i < 256 ∧ zI M 155 (1 + i) = nI (tr i))) ∧ (p < 4 ∧ ki < 2 ∧ ho < 2 ∧ zI M 151 (2 * p) = nI ki ∧ zI M 151 (2 * p + 1) = nI ho) ∧ (∀ v, v < 256 → ((ho = 1 ∧ ful (fun q => zL M 153 (4 * p + q)) 0 v = true) ↔ off v)) ∧ SM (2 * p) n0 C0 M ∧ SM (2 * p + 1) n1 C1 M ∧ LG A M (2 * p) n0 C0 ∧ LG B M (2 * p + 1) n1 C1 ∧ ¬ B.acc [] ∧ (∀ u, u < t → zL M 174 u = mFul n0 C0 (mT M (2 * p)) (tr u)) ∧ (∀ u, u < t → zL M 174 (48 + u) = mFul n1 C1 (mT M (2 * p + 1)) (tr u))
theorem ME_fr {A B : Sq} {ki ho p t n0 n1 : Nat} {off : Nat → Prop} {tr C0 C1 : Nat → Nat} {M M' : zM} (h : ME A B ki ho off p t tr n0 n1 C0 C1 M) (f : fM M M') : ME A B ki ho off p t tr n0 n1 C0 C1 M' := by
  obtain ⟨-, -, -, f1, f2, -⟩ := f
  unfold ME SM LG mwk mT mB at *
  rw [f1 155 (by omega) (by omega), f1 151 (by omega) (by omega), f1 147 (by omega) (by omega), f2 149 (by omega), f2 153 (by omega), f2 174 (by omega)]
  exact h
abbrev Mr : Type := Int32 × Int32 × Int64
def MDu (M : zM) (u : Nat) : Mr := (zI M 176 u, zI M 177 u, zL M 175 u)
def die (G : Int64) (v : Nat) (x : Mr) : Mr := if x.2.2 &&& G = 0 then (nI 2, nI v, x.2.2) else x
theorem m_dies {d L w i u v : Nat} {M : zM} (hd : 2 ≤ d) (hs : zSh L w M) (hi : i < 8) (hu : u < 48) : ∃ M', zV d n_Mo_dies [.ref 146, .int (nI i), .int (nI u), .int (nI v)] M = some (none, M') ∧ fM M M' ∧ zI M' 178 = zI M 178 ∧ zI M' 146 = zI M 146 ∧ ∀ q, MDu M' q = if q = u then die (zL M 149 (203 * i + 2)) v (MDu M u) else MDu M q := by
  obtain ⟨d, rfl, hd1⟩ := zdep hd
  have hs1 := hs
  obtain ⟨hN, hK, hC, hMo, -⟩ := hs1
  rw [ze_Mo_dies]
  unfold zx_Mo_dies
  have e1 := m_canEnd (d := d) (by omega) hs hi (zL M 175 u)
  by_cases h : zL M 175 u &&& zL M 149 (203 * i + 2) = 0
  · refine ⟨zsI (zsI M 176 u (nI 2)) 177 u (nI v), ?_, ⟨rfl, rfl, rfl, fun b h1 h2 => by simp (disch := omega) only [zI_ne], fun _ _ => rfl, fun _ _ _ => rfl⟩, by simp (disch := omega) only [zI_ne], by simp (disch := omega) only [zI_ne], ?_⟩
    · simp (disch := omega) only [il, nI_add, nI_mul, nI_sub, nI_div, nI_rem, nI_N, i32_lt, i32_le, nI_toInt, nI_subI, nI_clamp, zinT, zifT, iteT, iteF, zQ, zS, zkc, zI_sI, zL_sL, zI_wI, zL_wL, Nat.reduceEqDiff, Nat.reduceAdd, Nat.reduceMul, Nat.reduceLT, Nat.reduceLeDiff, reduceIte, eq_self, and_self, true_and, and_true, false_and, and_false, true_or, or_true, or_false, false_or, not_true_eq_false, not_false_eq_true, zarr, ne_eq, hK, hMo, e1, h]
    · intro q
      by_cases hq : q = u
      · subst hq
        unfold MDu die
        simp (disch := omega) only [zL_sL, zI_sI, zS, iteF, iteT, eq_self, and_self, true_and, and_true, false_and, and_false, if_true, if_false, reduceIte, Nat.reduceEqDiff, h]
      · unfold MDu
        simp (disch := omega) only [zL_sL, zI_sI, zS, iteF, iteT, eq_self, and_self, true_and, and_true, false_and, and_false, if_true, if_false, reduceIte, Nat.reduceEqDiff, hq]
  · refine ⟨M, ?_, fM_rfl M, rfl, rfl, ?_⟩
    · simp (disch := omega) only [il, nI_add, nI_mul, nI_sub, nI_div, nI_rem, nI_N, i32_lt, i32_le, nI_toInt, nI_subI, nI_clamp, zinT, zifT, iteT, iteF, zQ, zS, zkc, zI_sI, zL_sL, zI_wI, zL_wL, Nat.reduceEqDiff, Nat.reduceAdd, Nat.reduceMul, Nat.reduceLT, Nat.reduceLeDiff, reduceIte, eq_self, and_self, true_and, and_true, false_and, and_false, true_or, or_true, or_false, false_or, not_true_eq_false, not_false_eq_true, zarr, ne_eq, hK, hMo, e1, h]
    · intro q
      by_cases hq : q = u
      · subst hq
        unfold MDu die
        simp only [h, if_true, if_false]
      · rw [if_neg hq]
def mgo (G La : Int64) (n : Nat) (B : Nat → Int64) (F : Int64) (v : Nat) (x : Mr) : Mr := if (x.2.2 &&& F) &&& La = 0 then die G v (x.1, x.2.1, mNext n B (x.2.2 &&& F)) else (nI 1, nI v, mNext n B (x.2.2 &&& F))
theorem m_goesOn {d L w p u v n : Nat} {C : Nat → Nat} {M : zM} {F : Int64} (hd : 3 ≤ d) (hs : zSh L w M) (hp : p < 4) (hm : SM (2 * p + 1) n C M) (hu : u < 48) (hv : v < 48) (hF : zL M 174 (48 + v) = F) : ∃ M', zV d n_Mo_goesOn [.ref 146, .int (nI p), .int (nI u), .int (nI v)] M = some (none, M') ∧ fM M M' ∧ zI M' 178 = zI M 178 ∧ zI M' 146 = zI M 146 ∧ ∀ q, MDu M' q = if q = u then mgo (zL M 149 (203 * (2 * p + 1) + 2)) (zL M 149 (203 * (2 * p + 1) + 1)) n (mB M (2 * p + 1)) F v (MDu M u) else MDu M q := by
  obtain ⟨d, rfl, hd1⟩ := zdep hd
  have hs1 := hs
  obtain ⟨hN, hK, hC, hMo, -⟩ := hs1
  rw [ze_Mo_goesOn]
  unfold zx_Mo_goesOn
  have e1 := m_nextOf (d := d) (by omega) hs hm (by omega) (zL M 175 u &&& F)
  have e2 := m_isEnd (d := d) (i := 2 * p + 1) (M := zsL M 175 u (mNext n (mB M (2 * p + 1)) (zL M 175 u &&& F))) (by omega) (hs.sL _ _ _) (by omega) (zL M 175 u &&& F)
  rw [zL_ne (by omega)] at e2
  by_cases h : (zL M 175 u &&& F) &&& zL M 149 (203 * (2 * p + 1) + 1) = 0
  · obtain ⟨M', e3, f1, f2, f3, f4⟩ := m_dies (d := d) (i := 2 * p + 1) (u := u) (v := v) (M := zsL M 175 u (mNext n (mB M (2 * p + 1)) (zL M 175 u &&& F))) (by omega) (hs.sL _ _ _) (by omega) hu
    refine ⟨M', ?_, fM.trans (M1 := zsL M 175 u (mNext n (mB M (2 * p + 1)) (zL M 175 u &&& F))) ⟨rfl, rfl, rfl, fun _ _ _ => rfl, fun b hb => zL_ne hb, fun _ _ _ => rfl⟩ f1, f2, f3, ?_⟩
    · simp (disch := omega) only [il, nI_add, nI_mul, nI_sub, nI_div, nI_rem, nI_N, i32_lt, i32_le, nI_toInt, nI_subI, nI_clamp, zinT, zifT, iteT, iteF, zQ, zS, zkc, zI_sI, zL_sL, zI_wI, zL_wL, Nat.reduceEqDiff, Nat.reduceAdd, Nat.reduceMul, Nat.reduceLT, Nat.reduceLeDiff, reduceIte, eq_self, and_self, true_and, and_true, false_and, and_false, true_or, or_true, or_false, false_or, not_true_eq_false, not_false_eq_true, zarr, ne_eq, hK, hMo, e1, e2, h, hF, e3]
    · intro q
      rw [f4]
      by_cases hq : q = u
      · subst hq
        unfold mgo
        rw [if_pos rfl, if_pos rfl, if_pos (by exact h), zL_ne (by omega)]
        congr 1
        unfold MDu
        simp (disch := omega) only [zL_sL, zI_sI, zS, iteF, iteT, eq_self, and_self, true_and, and_true, false_and, and_false, if_true, if_false, reduceIte, Nat.reduceEqDiff]
      · rw [if_neg hq, if_neg hq]
        unfold MDu
        simp (disch := omega) only [zL_sL, zI_sI, zS, iteF, iteT, eq_self, and_self, true_and, and_true, false_and, and_false, if_true, if_false, reduceIte, Nat.reduceEqDiff, hq]
  · refine ⟨zsI (zsI (zsL M 175 u (mNext n (mB M (2 * p + 1)) (zL M 175 u &&& F))) 176 u (nI 1)) 177 u (nI v), ?_, ⟨rfl, rfl, rfl, fun b h1 h2 => by simp (disch := omega) only [zI_ne, zS], fun b hb => zL_ne hb, fun _ _ _ => rfl⟩, by simp (disch := omega) only [zI_ne, zS], by simp (disch := omega) only [zI_ne, zS], ?_⟩
    · simp (disch := omega) only [il, nI_add, nI_mul, nI_sub, nI_div, nI_rem, nI_N, i32_lt, i32_le, nI_toInt, nI_subI, nI_clamp, zinT, zifT, iteT, iteF, zQ, zS, zkc, zI_sI, zL_sL, zI_wI, zL_wL, Nat.reduceEqDiff, Nat.reduceAdd, Nat.reduceMul, Nat.reduceLT, Nat.reduceLeDiff, reduceIte, eq_self, and_self, true_and, and_true, false_and, and_false, true_or, or_true, or_false, false_or, not_true_eq_false, not_false_eq_true, zarr, ne_eq, hK, hMo, e1, e2, h, hF]
    · intro q
      by_cases hq : q = u
      · subst hq
        unfold mgo
        rw [if_pos rfl, if_neg (by exact h)]
        unfold MDu
        simp (disch := omega) only [zL_sL, zI_sI, zS, iteF, iteT, eq_self, and_self, true_and, and_true, false_and, and_false, if_true, if_false, reduceIte, Nat.reduceEqDiff]
      · unfold MDu
        simp (disch := omega) only [zL_sL, zI_sI, zS, iteF, iteT, eq_self, and_self, true_and, and_true, false_and, and_false, if_true, if_false, reduceIte, Nat.reduceEqDiff, hq]
/-- what the reference holds of a duty -/
def MDS (x : Mr) (st : Nat × Nat) (wk : Int64) : Prop := x.1 = nI st.1 ∧ x.2.1 = (if st.1 = 0 then -4 else nI st.2) ∧ (st.1 = 0 → x.2.2 = wk)
theorem LG_acc {A : Sq} {M : zM} {i n : Nat} {C : Nat → Nat} (h : LG A M i n C) {w : List Nat} (hw : bts w) : (mwk M i n C w &&& zL M 149 (203 * i + 2) = 0 ↔ ¬ A.liv w) ∧ ∀ v, v < 256 → ((mwk M i n C w &&& mFul n C (mT M i) v) &&& zL M 149 (203 * i + 1) = 0 ↔ ¬ A.acc (w ++ [v])) := by
  obtain ⟨h1, h2⟩ := h w hw
  rw [z_andc] at h1
  refine ⟨⟨fun q p => h1.mpr p q, fun q => Classical.byContradiction fun p => q (h1.mp p)⟩, fun v hv => ?_⟩
  have h3 := h2 v hv
  rw [z_andc] at h3
  exact ⟨fun q p => h3.mpr p q, fun q => Classical.byContradiction fun p => q (h3.mp p)⟩
theorem mwk_snoc {M : zM} {i n a b : Nat} {C tr : Nat → Nat} (h : a ≤ b) : mwk M i n C (seg tr a (b + 1)) = mNext n (mB M i) (mwk M i n C (seg tr a b) &&& mFul n C (mT M i) (tr b)) := mWalk_seg h
theorem MDS_go {B : Sq} {ki a u i n : Nat} {C tr : Nat → Nat} {M : zM} {x : Mr} (hL : LG B M i n C) (hbt : ∀ j, j ≤ u → tr j < 256) (ha : a ≤ u) (hx : x.1 = nI 0 ∧ x.2.1 = -4 ∧ x.2.2 = mwk M i n C (seg tr a u)) : MDS (mgo (zL M 149 (203 * i + 2)) (zL M 149 (203 * i + 1)) n (mB M i) (mFul n C (mT M i) (tr u)) u x) (cif (B.acc (seg tr a (u + 1))) (1, u) (cif (B.liv (seg tr a (u + 1))) (0, 0) (2, u))) (mwk M i n C (seg tr a (u + 1))) := by
  obtain ⟨x1, x2, x3⟩ := hx
  have hb0 : bts (seg tr a u) := bts_seg (t := u + 1) (fun i hi => hbt i (by omega)) (by omega)
  have hb1 : bts (seg tr a (u + 1)) := bts_seg (t := u + 1) (fun i hi => hbt i (by omega)) (Nat.le_refl _)
  have q1 := (LG_acc hL hb0).2 (tr u) (hbt u (Nat.le_refl u))
  have q2 := (LG_acc hL hb1).1
  rw [← seg_snoc ha] at q1
  unfold mgo die
  rw [x3, ← mwk_snoc ha]
  by_cases h1 : B.acc (seg tr a (u + 1))
  · rw [cif_t h1, if_neg (fun q => q1.mp q h1)]
    exact ⟨rfl, rfl, fun q => absurd q (Nat.succ_ne_zero 0)⟩
  · rw [cif_f h1, if_pos (q1.mpr h1)]
    by_cases h2 : B.liv (seg tr a (u + 1))
    · rw [cif_t h2, if_neg (fun q => q2.mp q h2)]
      exact ⟨x1, x2, fun _ => rfl⟩
    · rw [cif_f h2, if_pos (q2.mpr h2)]
      exact ⟨rfl, rfl, fun q => absurd q (Nat.succ_ne_zero 1)⟩
theorem dst_succ {B : Sq} {ki u k : Nat} {tr : Nat → Nat} (hu : u < k) : dst B ki tr u (k - u) = cif ((dst B ki tr u (k - 1 - u)).1 = 0) (cif (B.acc (seg tr (u + ki) (k + 1))) (1, k) (cif (B.liv (seg tr (u + ki) (k + 1))) (0, 0) (2, k))) (dst B ki tr u (k - 1 - u)) := by
  rw [show k - u = (k - 1 - u) + 1 by omega]
  show cif _ (cif (B.acc (seg tr (u + ki) (u + (k - 1 - u) + 2))) (1, u + (k - 1 - u) + 1) (cif (B.liv (seg tr (u + ki) (u + (k - 1 - u) + 2))) (0, 0) (2, u + (k - 1 - u) + 1))) _ = _
  rw [show u + (k - 1 - u) + 2 = k + 1 by omega, show u + (k - 1 - u) + 1 = k by omega]
theorem nar_z1 : vp_nar FieldType.boolean (nI 1) = nI 1 := by decide
theorem nar_z0 : vp_nar FieldType.boolean (nI 0) = nI 0 := by decide
theorem m_begins {A B : Sq} {d L w ki ho p t n0 n1 u : Nat} {off : Nat → Prop} {tr C0 C1 : Nat → Nat} {M : zM} (hd : 4 ≤ d) (hs : zSh L w M) (hE : ME A B ki ho off p t tr n0 n1 C0 C1 M) (hu : u < t) : ∃ M', zV d n_Mo_begins [.ref 146, .int (nI p), .int (nI u)] M = some (none, M') ∧ fM M M' ∧ zI M' 146 = zI M 146 ∧ zI M' 178 u = nI 1 ∧ (∀ q, q ≠ u → zI M' 178 q = zI M 178 q ∧ MDu M' q = MDu M q) ∧ MDS (MDu M' u) (dst B ki tr u 0) (mwk M (2 * p + 1) n1 C1 (seg tr (u + ki) (u + 1))) := by
  obtain ⟨d, rfl, hd1⟩ := zdep hd
  have hs1 := hs
  obtain ⟨hN, hK, hC, hMo, -⟩ := hs1
  obtain ⟨⟨t1, t2, t3⟩, ⟨p1, p2, p3, p4, p5⟩, ho1, sm0, sm1, lg0, lg1, nB, ff0, ff1⟩ := hE
  generalize hM5 : zsL (zsI (zsI (zsI M 178 u (nI 1)) 176 u (nI 0)) 177 u (-nI 4)) 175 u (zL M 149 (203 * (2 * p + 1))) = M5
  have f5 : fM M M5 := by
    rw [← hM5]
    exact ⟨rfl, rfl, rfl, fun b h1 h2 => by simp (disch := omega) only [zI_ne, zS], fun b hb => zL_ne hb, fun _ _ _ => rfl⟩
  have a5 : zI M5 146 = zI M 146 := by rw [← hM5]; simp (disch := omega) only [zI_ne, zS]
  have i5 : zI M5 178 u = nI 1 := by rw [← hM5]; simp (disch := omega) only [zL_sL, zI_sI, zS, iteF, iteT, eq_self, and_self, true_and, and_true, false_and, and_false, if_true, if_false, reduceIte, Nat.reduceEqDiff]
  have i5q : ∀ q, q ≠ u → zI M5 178 q = zI M 178 q ∧ MDu M5 q = MDu M q := by
    intro q hq
    rw [← hM5]
    unfold MDu
    simp (disch := omega) only [zL_sL, zI_sI, zS, iteF, iteT, eq_self, and_self, true_and, and_true, false_and, and_false, if_true, if_false, reduceIte, Nat.reduceEqDiff, hq]
  have d5 : MDu M5 u = (nI 0, -nI 4, zL M 149 (203 * (2 * p + 1))) := by
    rw [← hM5]
    unfold MDu
    simp (disch := omega) only [zL_sL, zI_sI, zS, iteF, iteT, eq_self, and_self, true_and, and_true, false_and, and_false, if_true, if_false, reduceIte, Nat.reduceEqDiff]
  have hs5 : zSh L w M5 := zSh_fr hs f5.1 f5.2.1 f5.2.2.1
  have L149 : zL M5 149 = zL M 149 := f5.2.2.2.2.1 149 (by omega)
  have I151 : zI M5 151 = zI M 151 := f5.2.2.2.1 151 (by omega) (by omega)
  have hK5 : zK M5 = zKc L := hs5.2.1
  have hMo5 := hs5.2.2.2.1
  have e1 : zV d n_Mo_firstOf [.ref 146, .int (nI (2 * p + 1))] (zsI (zsI (zsI M 178 u (nI 1)) 176 u (nI 0)) 177 u (-nI 4)) = some (some (.long (zL M 149 (203 * (2 * p + 1)))), zsI (zsI (zsI M 178 u (nI 1)) 176 u (nI 0)) 177 u (-nI 4)) := m_firstOf (d := d) (i := 2 * p + 1) (by omega) (hs.sI _ _ _ |>.sI _ _ _ |>.sI _ _ _) (by omega)
  have k5 : zI M5 151 (2 * p) = nI ki := by rw [I151]; exact p4
  have hki : ki = 0 ∨ ki = 1 := by omega
  rcases hki with rfl | rfl
  · obtain ⟨M', e3, g1, g2, g3, g4⟩ := m_goesOn (d := d) (p := p) (u := u) (v := u) (n := n1) (C := C1) (M := M5) (F := mFul n1 C1 (mT M (2 * p + 1)) (tr u)) (by omega) hs5 p1 (by unfold SM; rw [f5.2.2.2.1 147 (by omega) (by omega)]; exact sm1) (by omega) (by omega) (by rw [f5.2.2.2.2.1 174 (by omega)]; exact ff1 u hu)
    refine ⟨M', ?_, f5.trans g1, g3.trans a5, by rw [g2]; exact i5, fun q hq => ⟨by rw [g2]; exact (i5q q hq).1, by rw [g4, if_neg hq]; exact (i5q q hq).2⟩, ?_⟩
    · rw [ze_Mo_begins]
      unfold zx_Mo_begins
      clear g1 g2 g3 g4 d5 i5q i5 a5 lg0 lg1 ff0 ff1 ho1
      simp (disch := omega) only [il, nI_add, nI_mul, nI_sub, nI_div, nI_rem, nI_N, i32_lt, i32_le, nI_toInt, nI_subI, nI_clamp, zinT, zifT, iteT, iteF, zQ, zS, zkc, zI_sI, zL_sL, zI_wI, zL_wL, Nat.reduceEqDiff, Nat.reduceAdd, Nat.reduceMul, Nat.reduceLT, Nat.reduceLeDiff, reduceIte, eq_self, and_self, true_and, and_true, false_and, and_false, true_or, or_true, or_false, false_or, not_true_eq_false, not_false_eq_true, zarr, ne_eq, hK, hMo, zbast, nar_z1, e1, hM5, hK5, hMo5, k5, p4, e3]
    · rw [g4, if_pos rfl, d5]
      unfold mB
      rw [L149]
      have := MDS_go (ki := 0) (a := u) (u := u) (x := (nI 0, -nI 4, zL M 149 (203 * (2 * p + 1)))) lg1 (fun j hj => (t3 j (by omega)).1) (Nat.le_refl u) ⟨rfl, rfl, by rw [seg_nil (Nat.le_refl u)]; rfl⟩
      have e4 : dst B 0 tr u 0 = cif (B.acc (seg tr u (u + 1))) (1, u) (cif (B.liv (seg tr u (u + 1))) (0, 0) (2, u)) := by
        unfold dst
        by_cases h : B.acc (seg tr u (u + 1))
        · rw [cif_t ⟨rfl, h⟩, cif_t h]
        · rw [cif_f (fun q => h q.2), cif_f h, Nat.add_zero]
      rw [e4]
      exact this
  · obtain ⟨M', e3, g1, g2, g3, g4⟩ := m_dies (d := d) (i := 2 * p + 1) (u := u) (v := u) (M := M5) (by omega) hs5 (by omega) (by omega)
    refine ⟨M', ?_, f5.trans g1, g3.trans a5, by rw [g2]; exact i5, fun q hq => ⟨by rw [g2]; exact (i5q q hq).1, by rw [g4, if_neg hq]; exact (i5q q hq).2⟩, ?_⟩
    · rw [ze_Mo_begins]
      unfold zx_Mo_begins
      clear g1 g2 g3 g4 d5 i5q i5 a5 lg0 lg1 ff0 ff1 ho1
      simp (disch := omega) only [il, nI_add, nI_mul, nI_sub, nI_div, nI_rem, nI_N, i32_lt, i32_le, nI_toInt, nI_subI, nI_clamp, zinT, zifT, iteT, iteF, zQ, zS, zkc, zI_sI, zL_sL, zI_wI, zL_wL, Nat.reduceEqDiff, Nat.reduceAdd, Nat.reduceMul, Nat.reduceLT, Nat.reduceLeDiff, reduceIte, eq_self, and_self, true_and, and_true, false_and, and_false, true_or, or_true, or_false, false_or, not_true_eq_false, not_false_eq_true, zarr, ne_eq, hK, hMo, zbast, nar_z1, e1, hM5, hK5, hMo5, k5, p4, e3]
    · rw [g4, if_pos rfl, d5, L149]
      have hb1 : bts (seg tr (u + 1) (u + 1)) := by rw [seg_nil (Nat.le_refl _)]; intro v hv; exact absurd hv (by simp)
      have q2 := (LG_acc lg1 hb1).1
      have e4 : mwk M (2 * p + 1) n1 C1 (seg tr (u + 1) (u + 1)) = zL M 149 (203 * (2 * p + 1)) := by rw [seg_nil (Nat.le_refl _)]; rfl
      rw [e4] at q2 ⊢
      unfold die dst
      rw [cif_f (fun q => absurd q.1 (by decide))]
      by_cases h : B.liv (seg tr (u + 1) (u + 1))
      · rw [cif_t h, if_neg (fun q => q2.mp q h)]
        exact ⟨rfl, rfl, fun _ => rfl⟩
      · rw [cif_f h, if_pos (q2.mpr h)]
        exact ⟨rfl, rfl, fun q => absurd q (Nat.succ_ne_zero 1)⟩
