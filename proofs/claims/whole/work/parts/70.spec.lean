/-! what a text says, as a grammar reads it: conditions -/
abbrev T4 : Type := Nat → Int64
abbrev Rs (α : Type) : Type := (Nat × Nat) ⊕ (α × Nat)
def nxt {α : Type} (X : Nat → Tk) (i : Nat) (f : Nat → Rs α) : Rs α := if (X (X i).2.2.2).1 = 3 then .inl (1, (X (X i).2.2.2).2.2.1) else f (X i).2.2.2
def rb {α γ : Type} : Rs α → (α → Nat → Rs γ) → Rs γ
  | .inl e, _ => .inl e
  | .inr x, f => f x.1 x.2
def plc (X : Nat → Tk) (i : Nat) : Nat := (X i).2.2.1
/-- the table of a wire -/
def wT (pt : Nat → Int64) (v : Nat) : T4 := fun q => if v < 6 then pt v else if (q / 2 ^ (v - 6)) % 2 = 1 then -1 else 0
def ngt (t : T4) : T4 := fun q => t q ^^^ (-1)
def anT (t u : T4) : T4 := fun q => t q &&& u q
def orT (t u : T4) : T4 := fun q => t q ||| u q
def sPl (X : Nat → Tk) (pt : Nat → Int64) (R : Option (Nat → Rs T4)) (i : Nat) : Rs T4 :=
  if (X i).1 = 1 then nxt X i (fun j => .inr (wT pt (X i).2.1, j))
  else if (X i).1 = 40 then (match R with
    | none => .inl (4, plc X i)
    | some r => nxt X i (fun j => rb (r j) (fun t j' => if (X j').1 = 41 then nxt X j' (fun k => .inr (t, k)) else .inl (2, plc X j'))))
  else .inl (2, plc X i)
def sNeg (X : Nat → Tk) (pt : Nat → Int64) (R : Option (Nat → Rs T4)) : Nat → Bool → Nat → Rs T4
  | 0, g, i => rb (sPl X pt R i) (fun t j => .inr (if g = true then ngt t else t, j))
  | f + 1, g, i => if (X i).1 = 33 then nxt X i (fun j => sNeg X pt R f (!g) j) else rb (sPl X pt R i) (fun t j => .inr (if g = true then ngt t else t, j))
def sAlL (X : Nat → Tk) (pt : Nat → Int64) (R : Option (Nat → Rs T4)) : Nat → T4 → Nat → Rs T4
  | 0, t, i => .inr (t, i)
  | f + 1, t, i => if (X i).1 = 38 then nxt X i (fun j => rb (sNeg X pt R 200 false j) (fun u k => sAlL X pt R f (anT t u) k)) else .inr (t, i)
def sAl (X : Nat → Tk) (pt : Nat → Int64) (R : Option (Nat → Rs T4)) (i : Nat) : Rs T4 := rb (sNeg X pt R 200 false i) (fun t j => sAlL X pt R 200 t j)
def sAnL (X : Nat → Tk) (pt : Nat → Int64) (R : Option (Nat → Rs T4)) : Nat → T4 → Nat → Rs T4
  | 0, t, i => .inr (t, i)
  | f + 1, t, i => if (X i).1 = 124 then nxt X i (fun j => rb (sAl X pt R j) (fun u k => sAnL X pt R f (orT t u) k)) else .inr (t, i)
def sAnB (X : Nat → Tk) (pt : Nat → Int64) (R : Option (Nat → Rs T4)) (i : Nat) : Rs T4 := rb (sAl X pt R i) (fun t j => sAnL X pt R 200 t j)
def sAn (X : Nat → Tk) (pt : Nat → Int64) : Nat → Nat → Rs T4
  | 0 => sAnB X pt none
  | k + 1 => sAnB X pt (some (sAn X pt k))
def rK (X : Nat → Tk) (pt : Nat → Int64) : Nat → Option (Nat → Rs T4)
  | 0 => none
  | k + 1 => some (sAn X pt k)
theorem sAn_eq (X : Nat → Tk) (pt : Nat → Int64) : ∀ k, sAn X pt k = sAnB X pt (rK X pt k)
  | 0 => rfl
  | _ + 1 => rfl
/-- tokens end where the tape ends -/
def tkOk (X : Nat → Tk) (N : Nat) : Prop := ∀ i, i ≤ N → (X i).2.2.2 ≤ N ∧ i ≤ (X i).2.2.2 ∧ ((X i).1 ≠ 0 → i < (X i).2.2.2) ∧ ((X i).1 = 1 → (X i).2.1 < 8) ∧ ((X i).1 = 2 → (X i).2.1 < 100) ∧ (X i).1 < 128 ∧ (X i).2.2.1 ≤ N
theorem tok_ok {β : Nat → Nat} {N : Nat} (hβ : ∀ i, i < N → β i < 128) : tkOk (tok β N) N := by
  intro i hi
  have hb := skp_b (β := β) (N - i) i
  unfold tok
  generalize skp β (N - i) i = p at *
  unfold tkAt
  by_cases h1 : N ≤ p
  · rw [if_pos h1]
    exact ⟨by show p ≤ N; omega, by show i ≤ p; omega, fun h => absurd rfl h, fun h => absurd h (show ¬ 0 = 1 by decide), fun h => absurd h (show ¬ 0 = 2 by decide), by show 0 < 128; omega, by show p ≤ N; omega⟩
  · rw [if_neg h1]
    have h128 := hβ p (by omega)
    by_cases h2 : 97 ≤ β p ∧ β p ≤ 104
    · rw [if_pos h2]
      exact ⟨by show p + 1 ≤ N; omega, by show i ≤ p + 1; omega, fun _ => by show i < p + 1; omega, fun _ => by show β p - 97 < 8; omega, fun h => absurd h (show ¬ 1 = 2 by decide), by show 1 < 128; omega, by show p ≤ N; omega⟩
    · rw [if_neg h2]
      by_cases h3 : 48 ≤ β p ∧ β p ≤ 57
      · rw [if_pos h3]
        have hf := fgs_b (β := β) (N - (p + 1)) (p + 1)
        by_cases h4 : fgs β (N - (p + 1)) (p + 1) ≤ p + 2
        · rw [if_pos h4]
          refine ⟨by show fgs β (N - (p + 1)) (p + 1) ≤ N; omega, by show i ≤ fgs β (N - (p + 1)) (p + 1); omega, fun _ => by show i < fgs β (N - (p + 1)) (p + 1); omega, fun h => absurd h (show ¬ 2 = 1 by decide), fun _ => ?_, by show 2 < 128; omega, by show p ≤ N; omega⟩
          show (if fgs β (N - (p + 1)) (p + 1) = p + 1 then β p - 48 else (β p - 48) * 10 + (β (p + 1) - 48)) < 100
          by_cases h5 : fgs β (N - (p + 1)) (p + 1) = p + 1
          · rw [if_pos h5]; omega
          · rw [if_neg h5]
            have h6 : 48 ≤ β (p + 1) ∧ β (p + 1) ≤ 57 := by
              apply Classical.byContradiction
              intro q
              apply h5
              have hk : N - (p + 1) = (N - (p + 1) - 1) + 1 := by omega
              rw [hk]
              exact if_neg q
            omega
        · rw [if_neg h4]
          exact ⟨by show fgs β (N - (p + 1)) (p + 1) ≤ N; omega, by show i ≤ fgs β (N - (p + 1)) (p + 1); omega, fun _ => by show i < fgs β (N - (p + 1)) (p + 1); omega, fun h => absurd h (show ¬ 3 = 1 by decide), fun h => absurd h (show ¬ 3 = 2 by decide), by show 3 < 128; omega, by show p ≤ N; omega⟩
      · rw [if_neg h3]
        cases h4 : isSg (β p)
        · rw [if_neg (by decide)]
          exact ⟨by show p + 1 ≤ N; omega, by show i ≤ p + 1; omega, fun _ => by show i < p + 1; omega, fun h => absurd h (show ¬ 3 = 1 by decide), fun h => absurd h (show ¬ 3 = 2 by decide), by show 3 < 128; omega, by show p ≤ N; omega⟩
        · rw [if_pos rfl]
          have hbig : β p ≠ 1 ∧ β p ≠ 2 := (by decide +kernel : ∀ c, c < 128 → isSg c = true → c ≠ 1 ∧ c ≠ 2) (β p) h128 h4
          exact ⟨by show p + 1 ≤ N; omega, by show i ≤ p + 1; omega, fun _ => by show i < p + 1; omega, fun h => absurd h hbig.1, fun h => absurd h hbig.2, h128, by show p ≤ N; omega⟩
/-! the class's stack of tables -/
def fCo (D : Nat) (M M' : zM) : Prop := zN M' = zN M ∧ zK M' = zK M ∧ zR M' = zR M ∧ (∀ b, b ≠ 4 → b ≠ 6 → zI M' b = zI M b) ∧ zI M' 4 1 = zI M 4 1 ∧ (∀ b, b ≠ 7 → zL M' b = zL M b) ∧ ∀ j, j < 4 * D → zL M' 7 j = zL M 7 j
theorem fCo_rfl (D : Nat) (M : zM) : fCo D M M := ⟨rfl, rfl, rfl, fun _ _ _ => rfl, rfl, fun _ _ => rfl, fun _ _ => rfl⟩
theorem fCo.trans {D D' : Nat} {M M1 M2 : zM} (h : fCo D M M1) (g : fCo D' M1 M2) (hD : D ≤ D') : fCo D M M2 := by
  obtain ⟨a1, a2, a3, a4, a5, a6, a7⟩ := h
  obtain ⟨b1, b2, b3, b4, b5, b6, b7⟩ := g
  exact ⟨b1.trans a1, b2.trans a2, b3.trans a3, fun b h1 h2 => (b4 b h1 h2).trans (a4 b h1 h2), b5.trans a5, fun b hb => (b6 b hb).trans (a6 b hb), fun j hj => (b7 j (by omega)).trans (a7 j hj)⟩
theorem fTa.co {D : Nat} {M M' : zM} (h : fTa M M') : fCo D M M' := ⟨h.1, h.2.1, h.2.2.1, fun b h1 _ => h.2.2.2.2.1 b h1, h.2.2.2.2.2, fun b _ => by rw [h.2.2.2.1], fun j _ => by rw [h.2.2.2.1]⟩
theorem ts_wordOfWire {d L w v q : Nat} {M : zM} (hd : 1 ≤ d) (hs : zSh L w M) (hv : v < 8) (hq : q < 4) : zV d n_TS_wordOfWire [.int (nI v), .int (nI q)] M = some (some (.long (wT (zL M 0) v q)), M) := by
  obtain ⟨d, rfl, hd1⟩ := zdep hd
  have hK0 : zK M 0 = (25, 6) := by rw [hs.2.1]; rfl
  rw [ze_TS_wordOfWire]
  unfold zx_TS_wordOfWire wT
  have e6 : Int32.ofNat 6 = nI 6 := rfl
  by_cases h : v < 6
  · rw [if_pos h]
    simp (disch := omega) only [il, nI_add, nI_mul, nI_sub, nI_div, nI_rem, nI_N, i32_lt, i32_le, nI_toInt, nI_subI, nI_clamp, zinT, zifT, iteT, iteF, zQ, zS, zkc, zI_sI, zL_sL, zI_wI, zL_wL, Nat.reduceEqDiff, Nat.reduceAdd, Nat.reduceMul, Nat.reduceLT, Nat.reduceLeDiff, reduceIte, eq_self, and_self, true_and, and_true, false_and, and_false, true_or, or_true, or_false, false_or, not_true_eq_false, not_false_eq_true, zarr, ne_eq, hK0, e6]
  · rw [if_neg h]
    have key : ∀ v, v < 8 → ∀ q, q < 4 → ¬ v < 6 → ((((Int32.toUInt32 (nI q) >>> (Int32.toUInt32 (nI v - nI 6) &&& Int32.toUInt32 31)).toInt32) &&& nI 1) = nI 0 ↔ ¬ (q / 2 ^ (v - 6)) % 2 = 1) := by decide +kernel
    have kk := key v hv q hq h
    simp only [hK0, e6]
    by_cases h1 : (q / 2 ^ (v - 6)) % 2 = 1
    · have k2 : ¬ (((Int32.toUInt32 (nI q) >>> (Int32.toUInt32 (nI v - nI 6) &&& Int32.toUInt32 31)).toInt32) &&& (1 : Int32)) = 0 := fun z => kk.mp z h1
      rw [if_pos h1, zif_t (by decide), if_pos (by rw [nI_E (by omega) (by omega)]; omega), zif_t (by decide), if_neg k2]
    · have k2 : (((Int32.toUInt32 (nI q) >>> (Int32.toUInt32 (nI v - nI 6) &&& Int32.toUInt32 31)).toInt32) &&& (1 : Int32)) = 0 := kk.mpr h1
      rw [if_neg h1, zif_t (by decide), if_pos (by rw [nI_E (by omega) (by omega)]; omega), zif_t (by decide), if_pos k2]
theorem ts_pushWire {d L w v D : Nat} {M : zM} (hd : 2 ≤ d) (hs : zSh L w M) (hv : v < 8) (hD : D < 19) (h1 : zI M 6 1 = nI D) : ∃ M', zV d n_TS_pushWire [.ref 6, .int (nI v)] M = some (none, M') ∧ fCo D M M' ∧ zI M' 4 = zI M 4 ∧ zI M' 6 1 = nI (D + 1) ∧ ∀ q, q < 4 → zL M' 7 (4 * D + q) = wT (zL M 0) v q := by
  obtain ⟨d, rfl, hd1⟩ := zdep hd
  have hK6 : zK M 6 = (8, 2) := by rw [hs.2.1]; rfl
  have hK7 : zK M 7 = (23, 76) := by rw [hs.2.1]; rfl
  have hR6 : zR M 6 0 = some 7 := by have hC := hs.2.2.1; simp only [hC]
  obtain ⟨M1, e, f1, f2, f3⟩ := zloopE (n := 4) (g := fun q M1 => zG d n_TS_pushWire 16 [some (.ref 6), some (.int (nI v)), some (.int (nI q))] [] M1) (P := fun n M1 => fCo D M M1 ∧ zI M1 = zI M ∧ ∀ q, q < n → zL M1 7 (4 * D + q) = wT (zL M 0) v q) (by
    intro q M1 hq ⟨f1, f2, f3⟩
    have hs1 := zSh_fr hs f1.1 f1.2.1 f1.2.2.1
    have e1 := ts_wordOfWire (d := d) hd1 hs1 hv hq
    rw [f1.2.2.2.2.2.1 0 (by omega)] at e1
    have k6 : zK M1 6 = (8, 2) := by rw [f1.2.1]; exact hK6
    have k7 : zK M1 7 = (23, 76) := by rw [f1.2.1]; exact hK7
    have r6 : zR M1 6 0 = some 7 := by rw [f1.2.2.1]; exact hR6
    have h11 : zI M1 6 1 = nI D := by rw [f2]; exact h1
    have hD4 : D * 4 = 4 * D := Nat.mul_comm D 4
    refine ⟨zsL M1 7 (4 * D + q) (wT (zL M 0) v q), ?_, ⟨f1.1, f1.2.1, f1.2.2.1, f1.2.2.2.1, f1.2.2.2.2.1, fun b hb => (zL_ne hb).trans (f1.2.2.2.2.2.1 b hb), fun j hj => by rw [zL_sL, if_neg (fun z => by omega)]; exact f1.2.2.2.2.2.2 j hj⟩, f2, ?_⟩
    · show zG d n_TS_pushWire 16 [some (.ref 6), some (.int (nI v)), some (.int (nI q))] [] M1 = _
      rw [zg_TS_pushWire_16]
      unfold zx_TS_pushWire_16
      clear f1 f2 f3 hs1
      simp (disch := omega) only [il, nI_add, nI_mul, nI_sub, nI_div, nI_rem, nI_N, i32_lt, i32_le, nI_toInt, nI_subI, nI_clamp, zinT, zifT, iteT, iteF, zQ, zS, zkc, zI_sI, zL_sL, zI_wI, zL_wL, Nat.reduceEqDiff, Nat.reduceAdd, Nat.reduceMul, Nat.reduceLT, Nat.reduceLeDiff, reduceIte, eq_self, and_self, true_and, and_true, false_and, and_false, true_or, or_true, or_false, false_or, not_true_eq_false, not_false_eq_true, zarr, ne_eq, k6, k7, r6, h11, e1, hD4]
    · intro j hj
      by_cases h : j = q
      · subst h; rw [zL_sL, if_pos ⟨rfl, rfl⟩]
      · rw [zL_sL, if_neg (fun z => h (by omega))]; exact f3 j (by omega)) (s0 := M) ⟨fCo_rfl D M, rfl, fun _ h => absurd h (by omega)⟩
  refine ⟨zsI M1 6 1 (nI (D + 1)), ?_, ⟨f1.1, f1.2.1, f1.2.2.1, fun b h1 h2 => (zI_ne h2).trans (f1.2.2.2.1 b h1 h2), f1.2.2.2.2.1, f1.2.2.2.2.2.1, f1.2.2.2.2.2.2⟩, (zI_ne (by omega)).trans (by rw [f2]), by rw [zI_sI, if_pos ⟨rfl, rfl⟩], f3⟩
  have e9 : zG d n_TS_pushWire 16 [some (.ref 6), some (.int (nI v)), some (.int (nI 4))] [] M1 = some (none, zsI M1 6 1 (nI (D + 1))) := by
    have k6 : zK M1 6 = (8, 2) := by rw [f1.2.1]; exact hK6
    have h11 : zI M1 6 1 = nI D := by rw [f2]; exact h1
    rw [zg_TS_pushWire_16]
    unfold zx_TS_pushWire_16
    clear f1 f2 f3 e
    simp (disch := omega) only [il, nI_add, nI_mul, nI_sub, nI_div, nI_rem, nI_N, i32_lt, i32_le, nI_toInt, nI_subI, nI_clamp, zinT, zifT, iteT, iteF, zQ, zS, zkc, zI_sI, zL_sL, zI_wI, zL_wL, Nat.reduceEqDiff, Nat.reduceAdd, Nat.reduceMul, Nat.reduceLT, Nat.reduceLeDiff, reduceIte, eq_self, and_self, true_and, and_true, false_and, and_false, true_or, or_true, or_false, false_or, not_true_eq_false, not_false_eq_true, zarr, ne_eq, k6, h11]
  have e10 := Eq.trans e e9
  rw [ze_TS_pushWire]
  unfold zx_TS_pushWire
  clear f1 f2 f3 e e9
  simp (disch := omega) only [il, nI_add, nI_mul, nI_sub, nI_div, nI_rem, nI_N, i32_lt, i32_le, nI_toInt, nI_subI, nI_clamp, zinT, zifT, iteT, iteF, zQ, zS, zkc, zI_sI, zL_sL, zI_wI, zL_wL, Nat.reduceEqDiff, Nat.reduceAdd, Nat.reduceMul, Nat.reduceLT, Nat.reduceLeDiff, reduceIte, eq_self, and_self, true_and, and_true, false_and, and_false, true_or, or_true, or_false, false_or, not_true_eq_false, not_false_eq_true, zarr, ne_eq, hK6, h1]
  exact e10
