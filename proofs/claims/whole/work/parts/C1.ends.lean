/-! the reference ends a side: from which places it can come to an end -/
def fG (f : Nat → Int64) : Nat → Nat
  | 0 => 0
  | k + 1 => if fG f k = 1 then 1 else if f k = 0 then 0 else 1
theorem fG_lt (f : Nat → Int64) : ∀ k, fG f k < 2
  | 0 => by show 0 < 2; omega
  | k + 1 => by
    show (if fG f k = 1 then 1 else if f k = 0 then 0 else 1) < 2
    split
    · omega
    · split <;> omega
theorem fG_iff (f : Nat → Int64) : ∀ k, fG f k = 1 ↔ ∃ q, q < k ∧ f q ≠ 0
  | 0 => ⟨fun h => absurd h (show ¬ 0 = 1 by decide), fun ⟨q, h, _⟩ => absurd h (by omega)⟩
  | k + 1 => by
    show (if fG f k = 1 then 1 else if f k = 0 then 0 else 1) = 1 ↔ _
    by_cases h1 : fG f k = 1
    · rw [if_pos h1]
      obtain ⟨q, h2, h3⟩ := (fG_iff f k).mp h1
      exact ⟨fun _ => ⟨q, by omega, h3⟩, fun _ => rfl⟩
    · rw [if_neg h1]
      by_cases h2 : f k = 0
      · rw [if_pos h2]
        refine ⟨fun h => absurd h (by decide), fun ⟨q, h3, h4⟩ => ?_⟩
        by_cases hq : q = k
        · rw [hq] at h4; exact absurd h2 h4
        · exact absurd ((fG_iff f k).mpr ⟨q, by omega, h4⟩) h1
      · rw [if_neg h2]
        exact ⟨fun _ => ⟨k, by omega, h2⟩, fun _ => rfl⟩
theorem m_isFul {d L w sd p e : Nat} {M : zM} (hd : 1 ≤ d) (hs : zSh L w M) (hsd : sd < 8) (hp : p < 40) (he : e < 40) (h148 : zI M 148 (45 * sd + 5 + p) = nI e) : zV d n_Mo_isFulfillable [.ref 146, .int (nI sd), .int (nI p)] M = some (some (.int (nI (fG (fun q => zL M 150 (203 * sd + 43 + 4 * e + q)) 4))), M) := by
  obtain ⟨d, rfl, hd1⟩ := zdep hd
  obtain ⟨hN, hK, hC, hMo, -⟩ := hs
  have key := zloop (n := 4) (g := fun k => zG d n_Mo_isFulfillable 31 [some (.ref 146), none, none, some (.int (nI (fG (fun q => zL M 150 (203 * sd + 43 + 4 * e + q)) k))), some (.int (nI (203 * sd + 43 + 4 * e))), some (.int (nI k))] [] M) (by
    intro k hk
    show zG d n_Mo_isFulfillable 31 [some (.ref 146), none, none, some (.int (nI (fG (fun q => zL M 150 (203 * sd + 43 + 4 * e + q)) k))), some (.int (nI (203 * sd + 43 + 4 * e))), some (.int (nI k))] [] M = zG d n_Mo_isFulfillable 31 [some (.ref 146), none, none, some (.int (nI (if fG (fun q => zL M 150 (203 * sd + 43 + 4 * e + q)) k = 1 then 1 else if zL M 150 (203 * sd + 43 + 4 * e + k) = 0 then 0 else 1))), some (.int (nI (203 * sd + 43 + 4 * e))), some (.int (nI (k + 1)))] [] M
    have hlt := fG_lt (fun q => zL M 150 (203 * sd + 43 + 4 * e + q)) k
    generalize fG (fun q => zL M 150 (203 * sd + 43 + 4 * e + q)) k = v at *
    rw [zg_Mo_isFulfillable_31]
    unfold zx_Mo_isFulfillable_31
    have : v = 0 ∨ v = 1 := by omega
    rcases this with rfl | rfl
    · rw [if_neg (show ¬ (0 = 1) by decide)]
      by_cases hz : zL M 150 (203 * sd + 43 + 4 * e + k) = 0
      · rw [if_pos hz]
        simp (disch := omega) only [il, nI_add, nI_mul, nI_sub, nI_div, nI_rem, nI_N, i32_lt, i32_le, nI_toInt, nI_subI, nI_clamp, zinT, zifT, iteT, iteF, zQ, zS, zkc, zI_sI, zL_sL, zI_wI, zL_wL, Nat.reduceEqDiff, Nat.reduceAdd, Nat.reduceMul, Nat.reduceLT, Nat.reduceLeDiff, reduceIte, eq_self, and_self, true_and, and_true, false_and, and_false, true_or, or_true, or_false, false_or, not_true_eq_false, not_false_eq_true, zarr, ne_eq, hK, hMo, t_n, hz]
      · rw [if_neg hz]
        simp (disch := omega) only [il, nI_add, nI_mul, nI_sub, nI_div, nI_rem, nI_N, i32_lt, i32_le, nI_toInt, nI_subI, nI_clamp, zinT, zifT, iteT, iteF, zQ, zS, zkc, zI_sI, zL_sL, zI_wI, zL_wL, Nat.reduceEqDiff, Nat.reduceAdd, Nat.reduceMul, Nat.reduceLT, Nat.reduceLeDiff, reduceIte, eq_self, and_self, true_and, and_true, false_and, and_false, true_or, or_true, or_false, false_or, not_true_eq_false, not_false_eq_true, zarr, ne_eq, hK, hMo, t_n, hz]
    · rw [if_pos rfl]
      simp (disch := omega) only [il, nI_add, nI_mul, nI_sub, nI_div, nI_rem, nI_N, i32_lt, i32_le, nI_toInt, nI_subI, nI_clamp, zinT, zifT, iteT, iteF, zQ, zS, zkc, zI_sI, zL_sL, zI_wI, zL_wL, Nat.reduceEqDiff, Nat.reduceAdd, Nat.reduceMul, Nat.reduceLT, Nat.reduceLeDiff, reduceIte, eq_self, and_self, true_and, and_true, false_and, and_false, true_or, or_true, or_false, false_or, not_true_eq_false, not_false_eq_true, zarr, ne_eq, hK, hMo])
  have k0 : zG d n_Mo_isFulfillable 31 [some (.ref 146), none, none, some (.int (nI 0)), some (.int (nI (203 * sd + 43 + 4 * e))), some (.int (nI 0))] [] M = zG d n_Mo_isFulfillable 31 [some (.ref 146), none, none, some (.int (nI (fG (fun q => zL M 150 (203 * sd + 43 + 4 * e + q)) 4))), some (.int (nI (203 * sd + 43 + 4 * e))), some (.int (nI 4))] [] M := key
  have ee : zG d n_Mo_isFulfillable 31 [some (.ref 146), none, none, some (.int (nI (fG (fun q => zL M 150 (203 * sd + 43 + 4 * e + q)) 4))), some (.int (nI (203 * sd + 43 + 4 * e))), some (.int (nI 4))] [] M = some (some (.int (nI (fG (fun q => zL M 150 (203 * sd + 43 + 4 * e + q)) 4))), M) := by
    have hlt := fG_lt (fun q => zL M 150 (203 * sd + 43 + 4 * e + q)) 4
    generalize fG (fun q => zL M 150 (203 * sd + 43 + 4 * e + q)) 4 = v at *
    rw [zg_Mo_isFulfillable_31]
    unfold zx_Mo_isFulfillable_31
    have : v = 0 ∨ v = 1 := by omega
    rcases this with rfl | rfl
    · simp (disch := omega) only [il, nI_add, nI_mul, nI_sub, nI_div, nI_rem, nI_N, i32_lt, i32_le, nI_toInt, nI_subI, nI_clamp, zinT, zifT, iteT, iteF, zQ, zS, zkc, zI_sI, zL_sL, zI_wI, zL_wL, Nat.reduceEqDiff, Nat.reduceAdd, Nat.reduceMul, Nat.reduceLT, Nat.reduceLeDiff, reduceIte, eq_self, and_self, true_and, and_true, false_and, and_false, true_or, or_true, or_false, false_or, not_true_eq_false, not_false_eq_true, zarr, ne_eq]
    · simp (disch := omega) only [il, nI_add, nI_mul, nI_sub, nI_div, nI_rem, nI_N, i32_lt, i32_le, nI_toInt, nI_subI, nI_clamp, zinT, zifT, iteT, iteF, zQ, zS, zkc, zI_sI, zL_sL, zI_wI, zL_wL, Nat.reduceEqDiff, Nat.reduceAdd, Nat.reduceMul, Nat.reduceLT, Nat.reduceLeDiff, reduceIte, eq_self, and_self, true_and, and_true, false_and, and_false, true_or, or_true, or_false, false_or, not_true_eq_false, not_false_eq_true, zarr, ne_eq]
  rw [← ee, ← k0, ze_Mo_isFulfillable]
  unfold zx_Mo_isFulfillable
  clear key k0 ee
  simp (disch := omega) only [il, nI_add, nI_mul, nI_sub, nI_div, nI_rem, nI_N, i32_lt, i32_le, nI_toInt, nI_subI, nI_clamp, zinT, zifT, iteT, iteF, zQ, zS, zkc, zI_sI, zL_sL, zI_wI, zL_wL, Nat.reduceEqDiff, Nat.reduceAdd, Nat.reduceMul, Nat.reduceLT, Nat.reduceLeDiff, reduceIte, eq_self, and_self, true_and, and_true, false_and, and_false, true_or, or_true, or_false, false_or, not_true_eq_false, not_false_eq_true, zarr, ne_eq, hK, hMo, h148]
noncomputable def xe107 (d sd rd p : Nat) (g : Int64) (M : zM) : zO := zG d n_Mo_ends 107 [some (.ref 146), some (.int (nI sd)), some (.int (nI (203 * sd))), some (.long g), none, some (.int (nI rd)), some (.int (nI p)), none] [] M
noncomputable def xe90 (d sd rd : Nat) (g : Int64) (M : zM) : zO := zG d n_Mo_ends 90 [some (.ref 146), some (.int (nI sd)), some (.int (nI (203 * sd))), some (.long g), none, some (.int (nI rd)), none, none] [] M
def gdS (M : zM) (sd e p : Nat) (g : Int64) : Int64 := if fG (fun q => zL M 150 (203 * sd + 43 + 4 * e + q)) 4 = 1 ∧ (zb (zL M 168 1) p = true ∨ zL M 150 (203 * sd + 3 + p) &&& g ≠ 0) then g ||| b1 p else g
theorem m_e107 {d L w sd rd n p e : Nat} {g : Int64} {M : zM} (hd : 2 ≤ d) (hs : zSh L w M) (h38 : zI M 146 38 = nI sd) (hsd : sd < 8) (hn : n ≤ 40) (h0 : zI M 148 (45 * sd) = nI n) (hp : p < n) (he : e < 40) (h148 : zI M 148 (45 * sd + 5 + p) = nI e) : xe107 d sd rd p g M = xe107 d sd rd (p + 1) (gdS M sd e p g) M := by
  have ep := m_placesNow (d := d) (by omega) hs h38 hsd
  rw [h0] at ep
  have ef := m_isFul (d := d) (by omega) hs hsd (by omega) he h148
  have hlt := fG_lt (fun q => zL M 150 (203 * sd + 43 + 4 * e + q)) 4
  obtain ⟨hN, hK, hC, hMo, -⟩ := hs
  unfold xe107 gdS b1
  rw [zg_Mo_ends_107]
  unfold zx_Mo_ends_107
  generalize fG (fun q => zL M 150 (203 * sd + 43 + 4 * e + q)) 4 = v at *
  have : v = 0 ∨ v = 1 := by omega
  rcases this with rfl | rfl
  · rw [if_neg (fun z => absurd z.1 (by decide))]
    simp (disch := omega) only [il, nI_add, nI_mul, nI_sub, nI_div, nI_rem, nI_N, i32_lt, i32_le, nI_toInt, nI_subI, nI_clamp, zinT, zifT, iteT, iteF, zQ, zS, zkc, zI_sI, zL_sL, zI_wI, zL_wL, Nat.reduceEqDiff, Nat.reduceAdd, Nat.reduceMul, Nat.reduceLT, Nat.reduceLeDiff, reduceIte, eq_self, and_self, true_and, and_true, false_and, and_false, true_or, or_true, or_false, false_or, not_true_eq_false, not_false_eq_true, zarr, ne_eq, hK, hMo, ep, ef, z_or0]
  · cases hz : zb (zL M 168 1) p
    · by_cases hb : zL M 150 (203 * sd + 3 + p) &&& g = 0
      · rw [if_neg (fun z => z.2.elim (fun y => absurd y (by decide)) (fun y => y hb))]
        simp (disch := omega) only [il, nI_add, nI_mul, nI_sub, nI_div, nI_rem, nI_N, i32_lt, i32_le, nI_toInt, nI_subI, nI_clamp, zinT, zifT, iteT, iteF, zQ, zS, zkc, zI_sI, zL_sL, zI_wI, zL_wL, Nat.reduceEqDiff, Nat.reduceAdd, Nat.reduceMul, Nat.reduceLT, Nat.reduceLeDiff, reduceIte, eq_self, and_self, true_and, and_true, false_and, and_false, true_or, or_true, or_false, false_or, not_true_eq_false, not_false_eq_true, zarr, ne_eq, hK, hMo, ep, ef, z_or0, t_s, hz, Bool.false_eq_true, t_n, hb]
      · rw [if_pos ⟨rfl, Or.inr hb⟩]
        simp (disch := omega) only [il, nI_add, nI_mul, nI_sub, nI_div, nI_rem, nI_N, i32_lt, i32_le, nI_toInt, nI_subI, nI_clamp, zinT, zifT, iteT, iteF, zQ, zS, zkc, zI_sI, zL_sL, zI_wI, zL_wL, Nat.reduceEqDiff, Nat.reduceAdd, Nat.reduceMul, Nat.reduceLT, Nat.reduceLeDiff, reduceIte, eq_self, and_self, true_and, and_true, false_and, and_false, true_or, or_true, or_false, false_or, not_true_eq_false, not_false_eq_true, zarr, ne_eq, hK, hMo, ep, ef, z_or0, t_s, hz, Bool.false_eq_true, t_n, hb]
    · rw [if_pos ⟨rfl, Or.inl rfl⟩]
      simp (disch := omega) only [il, nI_add, nI_mul, nI_sub, nI_div, nI_rem, nI_N, i32_lt, i32_le, nI_toInt, nI_subI, nI_clamp, zinT, zifT, iteT, iteF, zQ, zS, zkc, zI_sI, zL_sL, zI_wI, zL_wL, Nat.reduceEqDiff, Nat.reduceAdd, Nat.reduceMul, Nat.reduceLT, Nat.reduceLeDiff, reduceIte, eq_self, and_self, true_and, and_true, false_and, and_false, true_or, or_true, or_false, false_or, not_true_eq_false, not_false_eq_true, zarr, ne_eq, hK, hMo, ep, ef, z_or0, t_s, hz]
theorem m_e107_end {d L w sd rd n : Nat} {g : Int64} {M : zM} (hd : 2 ≤ d) (hs : zSh L w M) (h38 : zI M 146 38 = nI sd) (hsd : sd < 8) (hn : n ≤ 40) (hrd : rd < 40) (h0 : zI M 148 (45 * sd) = nI n) : xe107 d sd rd n g M = xe90 d sd (rd + 1) g M := by
  have ep := m_placesNow (d := d) (by omega) hs h38 hsd
  rw [h0] at ep
  obtain ⟨hN, hK, hC, hMo, -⟩ := hs
  unfold xe107 xe90
  rw [zg_Mo_ends_107]
  unfold zx_Mo_ends_107
  simp (disch := omega) only [il, nI_add, nI_mul, nI_sub, nI_div, nI_rem, nI_N, i32_lt, i32_le, nI_toInt, nI_subI, nI_clamp, zinT, zifT, iteT, iteF, zQ, zS, zkc, zI_sI, zL_sL, zI_wI, zL_wL, Nat.reduceEqDiff, Nat.reduceAdd, Nat.reduceMul, Nat.reduceLT, Nat.reduceLeDiff, reduceIte, eq_self, and_self, true_and, and_true, false_and, and_false, true_or, or_true, or_false, false_or, not_true_eq_false, not_false_eq_true, zarr, ne_eq, hK, hMo, ep]
theorem m_e90 {d L w sd rd : Nat} {g : Int64} {M : zM} (hs : zSh L w M) (h39 : zI M 146 39 = nI 0) (hrd : rd < 40) : xe90 d sd rd g M = xe107 d sd rd 0 g M := by
  obtain ⟨hN, hK, hC, hMo, -⟩ := hs
  unfold xe90 xe107
  rw [zg_Mo_ends_90]
  unfold zx_Mo_ends_90
  simp (disch := omega) only [il, nI_add, nI_mul, nI_sub, nI_div, nI_rem, nI_N, i32_lt, i32_le, nI_toInt, nI_subI, nI_clamp, zinT, zifT, iteT, iteF, zQ, zS, zkc, zI_sI, zL_sL, zI_wI, zL_wL, Nat.reduceEqDiff, Nat.reduceAdd, Nat.reduceMul, Nat.reduceLT, Nat.reduceLeDiff, reduceIte, eq_self, and_self, true_and, and_true, false_and, and_false, true_or, or_true, or_false, false_or, not_true_eq_false, not_false_eq_true, zarr, ne_eq, hK, h39]
theorem m_e90_end {d L w sd : Nat} {g : Int64} {M : zM} (hs : zSh L w M) (hsd : sd < 8) : xe90 d sd 40 g M = some (none, zsL M 150 (203 * sd + 2) g) := by
  obtain ⟨hN, hK, hC, hMo, -⟩ := hs
  unfold xe90
  rw [zg_Mo_ends_90]
  unfold zx_Mo_ends_90
  simp (disch := omega) only [il, nI_add, nI_mul, nI_sub, nI_div, nI_rem, nI_N, i32_lt, i32_le, nI_toInt, nI_subI, nI_clamp, zinT, zifT, iteT, iteF, zQ, zS, zkc, zI_sI, zL_sL, zI_wI, zL_wL, Nat.reduceEqDiff, Nat.reduceAdd, Nat.reduceMul, Nat.reduceLT, Nat.reduceLeDiff, reduceIte, eq_self, and_self, true_and, and_true, false_and, and_false, true_or, or_true, or_false, false_or, not_true_eq_false, not_false_eq_true, zarr, ne_eq, hK, hMo]
theorem m_e90_over {d L w sd : Nat} {g : Int64} {M : zM} (hs : zSh L w M) (hsd : sd < 8) (h39 : zI M 146 39 = nI 1) : xe90 d sd 0 g M = some (none, zsL M 150 (203 * sd + 2) g) := by
  obtain ⟨hN, hK, hC, hMo, -⟩ := hs
  unfold xe90
  rw [zg_Mo_ends_90]
  unfold zx_Mo_ends_90
  simp (disch := omega) only [il, nI_add, nI_mul, nI_sub, nI_div, nI_rem, nI_N, i32_lt, i32_le, nI_toInt, nI_subI, nI_clamp, zinT, zifT, iteT, iteF, zQ, zS, zkc, zI_sI, zL_sL, zI_wI, zL_wL, Nat.reduceEqDiff, Nat.reduceAdd, Nat.reduceMul, Nat.reduceLT, Nat.reduceLeDiff, reduceIte, eq_self, and_self, true_and, and_true, false_and, and_false, true_or, or_true, or_false, false_or, not_true_eq_false, not_false_eq_true, zarr, ne_eq, hK, hMo, h39]
/-- from q an end can be reached -/
def Lv8 (F T : Nat → Nat → Prop) (E : Nat → Prop) (q : Nat) : Prop := ∃ w, pa F T E w q
theorem Lv8_iff {F T : Nat → Nat → Prop} {E : Nat → Prop} {q : Nat} : Lv8 F T E q ↔ (∃ v, T q v) ∧ (E q ∨ ∃ r, F q r ∧ Lv8 F T E r) := by
  constructor
  · rintro ⟨w, h⟩
    cases w with
    | nil => exact h.elim
    | cons v w =>
      obtain ⟨h1, h2⟩ := h
      refine ⟨⟨v, h1⟩, ?_⟩
      rcases h2 with ⟨-, h2⟩ | ⟨r, h2, h3⟩
      · exact Or.inl h2
      · exact Or.inr ⟨r, h2, w, h3⟩
  · rintro ⟨⟨v, h1⟩, h2 | ⟨r, h2, w, h3⟩⟩
    · exact ⟨[v], h1, Or.inl ⟨rfl, h2⟩⟩
    · exact ⟨v :: w, h1, Or.inr ⟨r, h2, h3⟩⟩
theorem zb_ne0 {x : Int64} : x ≠ 0 ↔ ∃ i, zb x i = true := by
  constructor
  · intro h
    apply Classical.byContradiction
    intro h2
    apply h
    apply zb_ext
    intro i _
    rw [zb_0]
    cases hz : zb x i
    · rfl
    · exact absurd ⟨i, hz⟩ h2
  · rintro ⟨i, hi⟩ rfl
    rw [zb_0] at hi
    exact absurd hi (by decide)
theorem ful_ex {f : Nat → Int64} : (∃ q, q < 4 ∧ f q ≠ 0) ↔ ∃ v, v < 256 ∧ zb (f (v / 64)) (v % 64) = true := by
  constructor
  · rintro ⟨q, h1, h2⟩
    obtain ⟨i, hi⟩ := zb_ne0.mp h2
    have hi64 : i < 64 := by
      apply Classical.byContradiction
      intro h
      rw [zb_big (by omega)] at hi
      exact absurd hi (by decide)
    refine ⟨64 * q + i, by omega, ?_⟩
    rw [show (64 * q + i) / 64 = q by omega, show (64 * q + i) % 64 = i by omega]
    exact hi
  · rintro ⟨v, h1, h2⟩
    exact ⟨v / 64, by omega, zb_ne0.mpr ⟨_, h2⟩⟩
theorem zb_gdS {M : zM} {sd e p q : Nat} {g : Int64} (hp : p < 40) : zb (gdS M sd e p g) q = true ↔ zb g q = true ∨ (q = p ∧ fG (fun q => zL M 150 (203 * sd + 43 + 4 * e + q)) 4 = 1 ∧ (zb (zL M 168 1) p = true ∨ zL M 150 (203 * sd + 3 + p) &&& g ≠ 0)) := by
  unfold gdS
  by_cases h : fG (fun q => zL M 150 (203 * sd + 43 + 4 * e + q)) 4 = 1 ∧ (zb (zL M 168 1) p = true ∨ zL M 150 (203 * sd + 3 + p) &&& g ≠ 0)
  · rw [if_pos h, zb_or, zb_b1 (by omega), Bool.or_eq_true, decide_eq_true_iff]
    exact ⟨fun z => z.elim Or.inl (fun y => Or.inr ⟨y, h⟩), fun z => z.elim Or.inl (fun y => Or.inr y.1)⟩
  · rw [if_neg h]
    exact ⟨Or.inl, fun z => z.elim id (fun y => absurd y.2 h)⟩
/-- the loops: what can come to an end, and nothing else -/
theorem m_good {d L w sd n : Nat} {C : Nat → Nat} {M : zM} {F T : Nat → Nat → Prop} {E : Nat → Prop} (hd : 2 ≤ d) (hs : zSh L w M) (h38 : zI M 146 38 = nI sd) (h39 : zI M 146 39 = nI 0) (hsd : sd < 8) (hn : n ≤ 40) (h0 : zI M 148 (45 * sd) = nI n) (hC : ∀ p, p < n → C p < 40 ∧ zI M 148 (45 * sd + 5 + p) = nI (C p)) (hF : ∀ q r, q < n → (F q r ↔ zb (zL M 150 (203 * sd + 3 + q)) r = true)) (hFi : ∀ q r, q < n → F q r → q < r ∧ r < n) (hT : ∀ q, q < n → ((∃ v, T q v) ↔ fG (fun k => zL M 150 (203 * sd + 43 + 4 * C q + k)) 4 = 1)) (hE : ∀ q, q < n → (E q ↔ zb (zL M 168 1) q = true)) : ∃ g, xe90 d sd 0 0 M = some (none, zsL M 150 (203 * sd + 2) g) ∧ ∀ q, zb g q = true ↔ q < n ∧ Lv8 F T E q := by
  have inner : ∀ rd g0, rd < 40 → (∀ q, zb g0 q = true → q < n ∧ Lv8 F T E q) → ∃ g, xe107 d sd rd 0 g0 M = xe107 d sd rd n g M ∧ (∀ q, zb g q = true → q < n ∧ Lv8 F T E q) ∧ (∀ q, zb g0 q = true → zb g q = true) ∧ ∀ q, q < n → Lv8 F T E q → (∀ r, F q r → Lv8 F T E r → zb g0 r = true) → zb g q = true := by
    intro rd g0 hrd hg0
    obtain ⟨g, e1, p1, p2, p3⟩ := zloopE (n := n) (g := fun p g => xe107 d sd rd p g M) (P := fun k g => (∀ q, zb g q = true → q < n ∧ Lv8 F T E q) ∧ (∀ q, zb g0 q = true → zb g q = true) ∧ ∀ q, q < k → Lv8 F T E q → (∀ r, F q r → Lv8 F T E r → zb g0 r = true) → zb g q = true) (by
      intro k g hk ⟨p1, p2, p3⟩
      obtain ⟨c1, c2⟩ := hC k hk
      refine ⟨gdS M sd (C k) k g, m_e107 hd hs h38 hsd hn h0 hk c1 c2, ?_, ?_, ?_⟩
      · intro q hq
        rcases (zb_gdS (by omega)).mp hq with h | ⟨rfl, h1, h2⟩
        · exact p1 q h
        · refine ⟨hk, Lv8_iff.mpr ⟨(hT q hk).mpr h1, ?_⟩⟩
          rcases h2 with h2 | h2
          · exact Or.inl ((hE q hk).mpr h2)
          · obtain ⟨r, hr⟩ := zb_ne0.mp h2
            rw [zb_and, Bool.and_eq_true] at hr
            exact Or.inr ⟨r, (hF q r hk).mpr hr.1, (p1 r hr.2).2⟩
      · intro q hq
        exact (zb_gdS (by omega)).mpr (Or.inl (p2 q hq))
      · intro q hq hL hs2
        by_cases hqk : q = k
        · subst hqk
          refine (zb_gdS (by omega)).mpr (Or.inr ⟨rfl, ?_⟩)
          obtain ⟨h1, h2⟩ := Lv8_iff.mp hL
          refine ⟨(hT q hk).mp h1, ?_⟩
          rcases h2 with h2 | ⟨r, h2, h3⟩
          · exact Or.inl ((hE q hk).mp h2)
          · refine Or.inr (zb_ne0.mpr ⟨r, ?_⟩)
            rw [zb_and, (hF q r hk).mp h2, p2 r (hs2 r h2 h3)]
            rfl
        · exact (zb_gdS (by omega)).mpr (Or.inl (p3 q (by omega) hL hs2))) (s0 := g0) ⟨hg0, fun _ h => h, fun q h => absurd h (by omega)⟩
    exact ⟨g, e1, p1, p2, p3⟩
  obtain ⟨g, e1, p1, p2⟩ := zloopE (n := 40) (g := fun rd g => xe90 d sd rd g M) (P := fun k g => (∀ q, zb g q = true → q < n ∧ Lv8 F T E q) ∧ ∀ q, q < n → n ≤ q + k → Lv8 F T E q → zb g q = true) (by
    intro k g hk ⟨p1, p2⟩
    obtain ⟨g', e1, q1, q2, q3⟩ := inner k g hk p1
    refine ⟨g', ?_, q1, ?_⟩
    · show xe90 d sd k g M = xe90 d sd (k + 1) g' M
      rw [m_e90 hs h39 hk, e1, m_e107_end hd hs h38 hsd hn hk h0]
    · intro q hq hk2 hL
      refine q3 q hq hL (fun r hr hLr => ?_)
      have := hFi q r hq hr
      exact p2 r this.2 (by omega) hLr) (s0 := 0) ⟨fun q h => by rw [zb_0] at h; exact absurd h (by decide), fun q h1 h2 => by omega⟩
  refine ⟨g, ?_, fun q => ⟨p1 q, fun h => p2 q h.1 (by omega) h.2⟩⟩
  have e2 : xe90 d sd 0 0 M = xe90 d sd 40 g M := e1
  rw [e2, m_e90_end hs hsd]
