/-! a watch takes in a tick: the whole of it -/
theorem wa_takeIn_m {d a g k ki ho v cA pA cB pB : Nat} {M : zM} (hd : 4 ≤ d) (hw : zWat M a) (hg : zPle M g) (hga : g + 9 < a ∨ a + 6 < g) (hcA : cA ≤ 40) (hpA : pA ≤ 40) (hcB : cB ≤ 40) (hpB : pB ≤ 40) (h6A : zI M (g + 1) 6 = nI cA) (h7A : zI M (g + 1) 7 = nI pA) (h6B : zI M (g + 5) 6 = nI cB) (h7B : zI M (g + 5) 7 = nI pB) (h4 : zI M g 4 = nI ki) (hki : ki < 2) (h3 : zI M g 3 = nI ho) (hho : ho < 2) (h8 : zI M a 8 = nI k) (hk : k < 48) (hv : v < 256) :
    ∃ M' c off, zV d n_Wa_takeIn [.ref a, .ref g, .int (nI v)] M = some (none, M') ∧ fO a M M' ∧ zI M' a = zI M a ∧ c < 2 ∧ off < 2 ∧ (off = 1 ↔ pOff ho (zL M (g + 9)) v) ∧
      (c = 1 ↔ ∃ t, t ≤ k ∧ (cTo pA (zL M (g + 2)) (if t = k then 1 else zL M (a + 1) t) &&& cOpen cA (zL M (g + 4)) (zL M (g + 3)) (zL M (g + 1) 4) v) &&& zL M (g + 1) 3 ≠ 0) ∧
      (∀ t, t ≤ k → zL M' (a + 1) t = cTo pA (zL M (g + 2)) (if t = k then 1 else zL M (a + 1) t) &&& cOpen cA (zL M (g + 4)) (zL M (g + 3)) (zL M (g + 1) 4) v) ∧
      (∀ t, t ≤ k → zL M' (a + 4) t = if zL M' (a + 1) t &&& zL M (g + 1) 3 = 0 then (if t = k then 0 else zL M (a + 4) t) else (if t = k then 0 else zL M (a + 4) t) ||| b1 k) ∧
      (∀ i, i < k → Du a M' i = mvd (zL M (g + 5) 3) (zL M (g + 5) 5) (cOpen cB (zL M (g + 8)) (zL M (g + 7)) (zL M (g + 5) 4) v) pB (zL M (g + 6)) k (Du a M i)) ∧
      (∀ i, k < i → Du a M' i = Du a M i) ∧
      (c = 0 → Du a M' k = (0, (Du a M k).2)) ∧
      (c = 1 → Du a M' k = sett (zL M (g + 5) 3) (zL M (g + 5) 5) k (if ki = 1 then 1 else cTo pB (zL M (g + 6)) 1 &&& cOpen cB (zL M (g + 8)) (zL M (g + 7)) (zL M (g + 5) 4) v, (Du a M k).2)) ∧
      (∀ t, t ≤ k → (zI M' (a + 5) t, zI M' (a + 6) t) = if (if t = k then nI 0 else zI M (a + 5) t) = nI 0 then (nI (if off = 1 then 4 else jdg (zL M' (a + 4) t) (zL M' a 6) (zL M' a 7) (zL M' (a + 1) t) (zL M (g + 1) 5)), nI k) else (zI M (a + 5) t, zI M (a + 6) t)) := by
  obtain ⟨d, rfl, hd1⟩ := zdep hd
  have hgb : ∀ b, g ≤ b → b ≤ g + 9 → b < a ∨ a + 6 < b := fun b _ _ => by omega
  -- the four new cells
  generalize hM4 : zsI (zsL (zsL (zsL M (a + 1) k 1) (a + 2) k 0) (a + 4) k 0) (a + 5) k (nI 0) = M4
  have hK4 : zK M4 = zK M := by rw [← hM4]; rfl
  have hR4 : zR M4 = zR M := by rw [← hM4]; rfl
  have hN4 : zN M4 = zN M := by rw [← hM4]; rfl
  have fO4 : fO a M M4 := ⟨hN4, hK4, hR4, fun b hb => by
    rw [← hM4]
    exact ⟨by simp (disch := omega) only [zI_ne, zS], by simp (disch := omega) only [zL_ne, zS]⟩⟩
  have a4 : zI M4 a = zI M a := by rw [← hM4]; simp (disch := omega) only [zI_ne, zS]
  have hw4 := zWat_fr hw hK4 hR4
  have hg4 := zPle_fr hg hK4 hR4
  have d4 : ∀ i, i ≠ k → Du a M4 i = Du a M i := by
    intro i hi
    rw [← hM4]
    unfold Du
    simp (disch := omega) only [zL_sL, zI_sI, zS, iteF, iteT, eq_self, and_self, true_and, and_true, false_and, and_false, if_true, if_false, reduceIte, Nat.reduceEqDiff, hi]
  have d4k : Du a M4 k = (0, (Du a M k).2) := by
    rw [← hM4]
    unfold Du
    simp (disch := omega) only [zL_sL, zI_sI, zS, iteF, iteT, eq_self, and_self, true_and, and_true, false_and, and_false, if_true, if_false, reduceIte, Nat.reduceEqDiff]
  have x1 : ∀ t, zL M4 (a + 1) t = if t = k then 1 else zL M (a + 1) t := by
    intro t
    rw [← hM4]
    by_cases h : t = k
    · simp (disch := omega) only [zL_sL, zI_sI, zS, iteF, iteT, eq_self, and_self, true_and, and_true, false_and, and_false, if_true, if_false, reduceIte, Nat.reduceEqDiff, h]
    · simp (disch := omega) only [zL_sL, zI_sI, zS, iteF, iteT, eq_self, and_self, true_and, and_true, false_and, and_false, if_true, if_false, reduceIte, Nat.reduceEqDiff, h]
  have x4 : ∀ t, zL M4 (a + 4) t = if t = k then 0 else zL M (a + 4) t := by
    intro t
    rw [← hM4]
    by_cases h : t = k
    · simp (disch := omega) only [zL_sL, zI_sI, zS, iteF, iteT, eq_self, and_self, true_and, and_true, false_and, and_false, if_true, if_false, reduceIte, Nat.reduceEqDiff, h]
    · simp (disch := omega) only [zL_sL, zI_sI, zS, iteF, iteT, eq_self, and_self, true_and, and_true, false_and, and_false, if_true, if_false, reduceIte, Nat.reduceEqDiff, h]
  have x5 : ∀ t, zI M4 (a + 5) t = if t = k then nI 0 else zI M (a + 5) t := by
    intro t
    rw [← hM4]
    by_cases h : t = k
    · simp (disch := omega) only [zL_sL, zI_sI, zS, iteF, iteT, eq_self, and_self, true_and, and_true, false_and, and_false, if_true, if_false, reduceIte, Nat.reduceEqDiff, h]
    · simp (disch := omega) only [zL_sL, zI_sI, zS, iteF, iteT, eq_self, and_self, true_and, and_true, false_and, and_false, if_true, if_false, reduceIte, Nat.reduceEqDiff, h]
  have x6 : zI M4 (a + 6) = zI M (a + 6) := by
    rw [← hM4]
    simp (disch := omega) only [zI_ne, zS]
  have q4 : ∀ b, g ≤ b → b ≤ g + 9 → zI M4 b = zI M b ∧ zL M4 b = zL M b := fun b h1 h2 => fO4.2.2.2 b (hgb b h1 h2)
  -- duties move
  have e1 := se_openTo (d := d) (M := M4) (s := g + 5) (c := cB) (v := v) (by omega) hg4.2.2.2.2.2.2 hcB (by rw [(q4 _ (by omega) (by omega)).1]; exact h6B) hv
  rw [(q4 (g + 5 + 3) (by omega) (by omega)).2, (q4 (g + 5 + 2) (by omega) (by omega)).2, (q4 (g + 5) (by omega) (by omega)).2] at e1
  generalize hoB : cOpen cB (zL M (g + 8)) (zL M (g + 7)) (zL M (g + 5) 4) v = oB at *
  have e1 : zV d n_Se_openTo [.ref (g + 5), .int (nI v)] M4 = some (some (.long oB), M4) := e1.trans (by rw [← hoB])
  obtain ⟨M6, e2, f6, d6⟩ := wa_moveDuties (d := d) (op := oB) (M := M4) (a := a) (s := g + 5) (p := pB) (k := k) (by omega) hw4 hg4.2.2.2.2.2.2 (by omega) hpB (by rw [(q4 _ (by omega) (by omega)).1]; exact h7B) (by rw [a4]; exact h8) hk
  rw [(q4 (g + 5 + 1) (by omega) (by omega)).2, (q4 (g + 5) (by omega) (by omega)).2] at d6
  have fO6 := fO4.trans f6.1
  have q6 : ∀ b, g ≤ b → b ≤ g + 9 → zI M6 b = zI M b ∧ zL M6 b = zL M b := fun b h1 h2 => fO6.2.2.2 b (hgb b h1 h2)
  have hw6 := zWat_fr hw fO6.2.1 fO6.2.2.1
  have hg6 := zPle_fr hg fO6.2.1 fO6.2.2.1
  have a6 : zI M6 a = zI M a := f6.2.2.2.2.2.trans a4
  -- tries move
  have e3 := se_openTo (d := d) (M := M6) (s := g + 1) (c := cA) (v := v) (by omega) hg6.2.2.2.2.2.1 hcA (by rw [(q6 _ (by omega) (by omega)).1]; exact h6A) hv
  rw [(q6 (g + 1 + 3) (by omega) (by omega)).2, (q6 (g + 1 + 2) (by omega) (by omega)).2, (q6 (g + 1) (by omega) (by omega)).2] at e3
  generalize hoA : cOpen cA (zL M (g + 4)) (zL M (g + 3)) (zL M (g + 1) 4) v = oA at *
  have e3 : zV d n_Se_openTo [.ref (g + 1), .int (nI v)] M6 = some (some (.long oA), M6) := e3.trans (by rw [← hoA])
  obtain ⟨M8, c, e4, f8, c2, c3, y1, y4⟩ := wa_moveTries (d := d) (op := oA) (M := M6) (a := a) (s := g + 1) (p := pA) (k := k) (by omega) hw6 hg6.2.2.2.2.2.1 (by omega) hpA (by rw [(q6 _ (by omega) (by omega)).1]; exact h7A) (by rw [a6]; exact h8) hk
  rw [(q6 (g + 1 + 1) (by omega) (by omega)).2, (q6 (g + 1) (by omega) (by omega)).2, f6.2.1] at c3
  rw [(q6 (g + 1 + 1) (by omega) (by omega)).2, f6.2.1] at y1
  rw [(q6 (g + 1 + 1) (by omega) (by omega)).2, (q6 (g + 1) (by omega) (by omega)).2, f6.2.1, f6.2.2.1] at y4
  have fO8 := fO6.trans f8.1
  have q8 : ∀ b, g ≤ b → b ≤ g + 9 → zI M8 b = zI M b ∧ zL M8 b = zL M b := fun b h1 h2 => fO8.2.2.2 b (hgb b h1 h2)
  have hw8 := zWat_fr hw fO8.2.1 fO8.2.2.1
  have hg8 := zPle_fr hg fO8.2.1 fO8.2.2.1
  have a8 : zI M8 a = zI M a := f8.2.2.2.2.2.1.trans a6
  have d8 : ∀ i, Du a M8 i = Du a M6 i := by
    intro i
    unfold Du
    rw [f8.2.1, f8.2.2.1, f8.2.2.2.2.2.2]
  -- a duty begins
  have hb : ∃ M11, (c = 0 → M11 = M8) ∧ (c = 1 → zV d n_Wa_beginDuty [.ref a, .ref g, .long oB] M8 = some (none, M11)) ∧ fD a M8 M11 ∧ (∀ i, i ≠ k → Du a M11 i = Du a M8 i) ∧ (c = 0 → Du a M11 k = Du a M8 k) ∧ (c = 1 → Du a M11 k = sett (zL M (g + 5) 3) (zL M (g + 5) 5) k (if ki = 1 then 1 else cTo pB (zL M (g + 6)) 1 &&& oB, (Du a M8 k).2)) := by
    by_cases hc : c = 1
    · obtain ⟨M11, e5, f11, d11⟩ := wa_beginDuty (d := d) (op := oB) (M := M8) (a := a) (g := g) (p := pB) (k := k) (ki := ki) (by omega) hw8 hg8 hga hpB (by rw [(q8 _ (by omega) (by omega)).1]; exact h7B) (by rw [(q8 _ (by omega) (by omega)).1]; exact h4) hki (by rw [a8]; exact h8) hk
      rw [(q8 (g + 5) (by omega) (by omega)).2, (q8 (g + 6) (by omega) (by omega)).2] at d11
      exact ⟨M11, fun h => by omega, fun _ => e5, f11, fun i hi => by rw [d11, if_neg hi], fun h => by omega, fun _ => by rw [d11, if_pos rfl]⟩
    · exact ⟨M8, fun _ => rfl, fun h => absurd h hc, fD_rfl a M8, fun _ _ => rfl, fun _ => rfl, fun h => absurd h hc⟩
  obtain ⟨M11, e50, e51, f11, d11, d110, d111⟩ := hb
  have fO11 := fO8.trans f11.1
  have q11 : ∀ b, g ≤ b → b ≤ g + 9 → zI M11 b = zI M b ∧ zL M11 b = zL M b := fun b h1 h2 => fO11.2.2.2 b (hgb b h1 h2)
  have hw11 := zWat_fr hw fO11.2.1 fO11.2.2.1
  have hg11 := zPle_fr hg fO11.2.1 fO11.2.2.1
  have a11 : zI M11 a = zI M a := f11.2.2.2.2.2.trans a8
  -- tries are judged
  obtain ⟨off, o1, e6, o2⟩ := pl_isPutOffBy (d := d) (M := M11) (g := g) (v := v) (ho := ho) (by omega) hg11 hv hho (by rw [(q11 _ (by omega) (by omega)).1]; exact h3)
  rw [(q11 (g + 9) (by omega) (by omega)).2] at o2
  obtain ⟨M13, e7, f13, j13⟩ := wa_judgeTries (d := d) (M := M11) (a := a) (g := g) (k := k) (off := off) (by omega) hw11 hg11 hga o1 (by rw [a11]; exact h8) hk
  have fO13 := fO11.trans f13.1
  have L13 := f13.2.1
  have l1 : zL M13 (a + 1) = zL M8 (a + 1) := by rw [L13]; exact f11.2.1
  have l4 : zL M13 (a + 4) = zL M8 (a + 4) := by rw [L13]; exact f11.2.2.1
  have d13 : ∀ i, Du a M13 i = Du a M11 i := by
    intro i
    unfold Du
    rw [L13, f13.2.2.1]
  have hdk : ∀ i, i ≠ k → Du a M13 i = if i < k then mvd (zL M (g + 5) 3) (zL M (g + 5) 5) oB pB (zL M (g + 6)) k (Du a M i) else Du a M i := by
    intro i hi
    rw [d13, d11 i hi, d8, d6, d4 i hi]
  have hdkk : Du a M8 k = (0, (Du a M k).2) := by rw [d8, d6, if_neg (by omega), d4k]
  refine ⟨M13, c, off, ?_, fO13, f13.2.2.2.trans a11, c2, o1, o2, ?_, ?_, ?_, ?_, ?_, ?_, ?_, ?_⟩
  · have hg' := hg4
    rw [ze_Wa_takeIn]
    unfold zx_Wa_takeIn
    obtain ⟨w0, w1, w2, w3, w4, w5, w6, r0, r1, r2, r3, r4, r5⟩ := hw
    have hM4' : zsI (zsL (zsL (zsL M (a + 1) k 1) (a + 2) k 0) (a + 4) k 0) (a + 5) k (nI 0) = M4 := hM4
    have k4g := hg4.1
    have r4g := hg4.2.2.2.1
    have k45 := hg4.2.2.2.2.2.2.1
    have kg := hg.1
    have rg := hg.2.2.2.1
    have kg5 := hg.2.2.2.2.2.2.1
    have k6g := hg6.1
    have r60 := hg6.2.2.1
    have k61 := hg6.2.2.2.2.2.1.1
    have k6a := hw6.1
    have k4a := hw4.1
    have k8g := hg8.1
    have k8a := hw8.1
    have k11g := hg11.1
    have k11a := hw11.1
    have hc : c = 0 ∨ c = 1 := by omega
    clear c3 y1 y4 d6 d4 d4k x1 x4 x5 x6 d8 d11 d110 d111 j13 d13 hdk hdkk o2 l1 l4 hoA hoB
    rcases hc with rfl | rfl
    · have e50 := e50 rfl
      subst e50
      simp (disch := omega) only [il, nI_add, nI_mul, nI_sub, nI_div, nI_rem, nI_N, i32_lt, i32_le, nI_toInt, nI_subI, nI_clamp, zinT, zifT, iteT, iteF, zQ, zS, zkc, zI_sI, zL_sL, zI_wI, zL_wL, Nat.reduceEqDiff, Nat.reduceAdd, Nat.reduceMul, Nat.reduceLT, Nat.reduceLeDiff, reduceIte, eq_self, and_self, true_and, and_true, false_and, and_false, true_or, or_true, or_false, false_or, not_true_eq_false, not_false_eq_true, zarr, ne_eq, w0, w1, w2, w4, w5, r0, r1, r3, r4, h8, hM4', kg, rg, kg5, k4g, r4g, k45, e1, k4a, e2, k6g, r60, k61, e3, k6a, e4, k8g, e6, k8a, e7]
    · have e51 := e51 rfl
      simp (disch := omega) only [il, nI_add, nI_mul, nI_sub, nI_div, nI_rem, nI_N, i32_lt, i32_le, nI_toInt, nI_subI, nI_clamp, zinT, zifT, iteT, iteF, zQ, zS, zkc, zI_sI, zL_sL, zI_wI, zL_wL, Nat.reduceEqDiff, Nat.reduceAdd, Nat.reduceMul, Nat.reduceLT, Nat.reduceLeDiff, reduceIte, eq_self, and_self, true_and, and_true, false_and, and_false, true_or, or_true, or_false, false_or, not_true_eq_false, not_false_eq_true, zarr, ne_eq, w0, w1, w2, w4, w5, r0, r1, r3, r4, h8, hM4', kg, rg, kg5, k4g, r4g, k45, e1, k4a, e2, k6g, r60, k61, e3, k6a, e4, k8g, k8a, e51, k11g, e6, k11a, e7]
  · rw [c3]
    simp only [x1]
  · intro t ht
    rw [l1, y1 t ht, x1]
  · intro t ht
    rw [l4, y4 t ht, l1, y1 t ht, x4]
  · intro i hi
    rw [hdk i (by omega), if_pos hi]
  · intro i hi
    rw [hdk i (by omega), if_neg (by omega)]
  · intro hc
    rw [d13, d110 hc, hdkk]
  · intro hc
    rw [d13, d111 hc, hdkk]
  · intro t ht
    rw [j13 t ht, f11.2.2.2.1, f11.2.2.2.2.1, f8.2.2.2.1, f8.2.2.2.2.1, f6.2.2.2.1, f6.2.2.2.2.1, x5, x6, L13, (q11 (g + 1) (by omega) (by omega)).2]
    by_cases h : t = k
    · rw [if_pos h, if_pos rfl, if_pos rfl]
    · rw [if_neg h]
