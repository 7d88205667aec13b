/-! the promises held fast; a watch is asked for -/
abbrev Pd : Type := Sq × Sq × Nat × Nat × (Nat → Prop)
def iPr (D : Nat → Pd) (w t P : Nat) (tr : Nat → Nat) (M : zM) : Prop :=
  P ≤ 4 ∧ zI M 2 9 = nI P ∧ zI M 146 8 = nI P ∧
  ∀ p, p < P → ∃ k, k ≤ t ∧ iPled (D p).1 (D p).2.1 (D p).2.2.1 (D p).2.2.2.1 M (26 + 10 * w + 27 * p) p ∧ iWat (D p).1 (D p).2.1 (D p).2.2.1 (D p).2.2.2.1 tr M (46 + 27 * p) (26 + 10 * w + 27 * p) k ∧ pOff (D p).2.2.2.1 (zL M (26 + 10 * w + 27 * p + 9)) = (D p).2.2.2.2
theorem iPr_of {w t P : Nat} {tr : Nat → Nat} {M : zM} (h : iProm w t P tr M) : ∃ D, iPr D w t P tr M := by
  obtain ⟨h1, h2, h3, h4⟩ := h
  have key : ∀ p, ∃ x : Pd, p < P → ∃ k, k ≤ t ∧ iPled x.1 x.2.1 x.2.2.1 x.2.2.2.1 M (26 + 10 * w + 27 * p) p ∧ iWat x.1 x.2.1 x.2.2.1 x.2.2.2.1 tr M (46 + 27 * p) (26 + 10 * w + 27 * p) k ∧ pOff x.2.2.2.1 (zL M (26 + 10 * w + 27 * p + 9)) = x.2.2.2.2 := by
    intro p
    by_cases hp : p < P
    · obtain ⟨A, B, ki, ho, k, a1, a2, a3⟩ := h4 p hp
      exact ⟨(A, B, ki, ho, pOff ho (zL M (26 + 10 * w + 27 * p + 9))), fun _ => ⟨k, a1, a2, a3, rfl⟩⟩
    · exact ⟨((0, 0, 0, 0, fun _ => True, fun _ => True), (0, 0, 0, 0, fun _ => True, fun _ => True), 0, 0, fun _ => True), fun q => absurd q hp⟩
  exact ⟨fun p => Classical.choose (key p), h1, h2, h3, fun p hp => Classical.choose_spec (key p) hp⟩
theorem iPr_iProm {D : Nat → Pd} {w t P : Nat} {tr : Nat → Nat} {M : zM} (h : iPr D w t P tr M) : iProm w t P tr M := by
  obtain ⟨h1, h2, h3, h4⟩ := h
  refine ⟨h1, h2, h3, fun p hp => ?_⟩
  obtain ⟨k, a1, a2, a3, -⟩ := h4 p hp
  exact ⟨_, _, _, _, k, a1, a2, a3⟩
def IV (D : Nat → Pd) (L w n t P : Nat) (tr : Nat → Nat) (M : zM) : Prop := zSh L w M ∧ iTape n M ∧ zI M 2 10 = zI M 146 18 ∧ (zI M 2 11 = zI M 146 51 ∧ pat M) ∧ iTrace t tr M ∧ (∀ k, k < 2 → iImage M k) ∧ (∀ k, k < 4 → iSheet M k) ∧ iPr D w t P tr M
theorem IV_of {L : Nat} {M : zM} (h : Inv L M) : ∃ D w n t P tr, IV D L w n t P tr M := by
  obtain ⟨w, n, t, P, tr, h1, h2, h3, h4, h5, h6, h7, h8⟩ := h
  obtain ⟨D, hD⟩ := iPr_of h8
  exact ⟨D, w, n, t, P, tr, h1, h2, h3, h4, h5, h6, h7, hD⟩
theorem IV.inv {D : Nat → Pd} {L w n t P : Nat} {tr : Nat → Nat} {M : zM} (h : IV D L w n t P tr M) : Inv L M := by
  obtain ⟨h1, h2, h3, h4, h5, h6, h7, h8⟩ := h
  exact ⟨w, n, t, P, tr, h1, h2, h3, h4, h5, h6, h7, iPr_iProm h8⟩
theorem iPled_fr2 {A B : Sq} {ki ho g p : Nat} {M M' : zM} (h : iPled A B ki ho M g p) (hf : ∀ b, g ≤ b → b ≤ g + 9 → zI M' b = zI M b ∧ zL M' b = zL M b) (f4 : zI M' 147 = zI M 147) (f5 : zI M' 151 = zI M 151) (f6 : zL M' 149 = zL M 149) (f7 : zL M' 153 = zL M 153) : iPled A B ki ho M' g p := by
  obtain ⟨a1, a2, a3, a4, a5⟩ := h
  refine ⟨SeqC_fr a1 (hf _ (by omega) (by omega)).1 (fun b _ _ => (hf b (by omega) (by omega)).2), SeqM_fr a2 f4 f6, SeqC_fr a3 (hf _ (by omega) (by omega)).1 (fun b _ _ => (hf b (by omega) (by omega)).2), SeqM_fr a4 f4 f6, ?_⟩
  rw [(hf g (by omega) (by omega)).1, f5, (hf (g + 4) (by omega) (by omega)).2, (hf (g + 8) (by omega) (by omega)).2, (hf (g + 9) (by omega) (by omega)).2, f6, f7]
  exact a5
theorem iWat_fr2 {A B : Sq} {ki ho a g k : Nat} {tr : Nat → Nat} {M M' : zM} (h : iWat A B ki ho tr M a g k) (hg : ∀ b, g ≤ b → b ≤ g + 9 → zI M' b = zI M b ∧ zL M' b = zL M b) (ha : ∀ b, a ≤ b → b ≤ a + 6 → zI M' b = zI M b ∧ zL M' b = zL M b) : iWat A B ki ho tr M' a g k := by
  unfold iWat
  rw [(ha a (by omega) (by omega)).1, (ha a (by omega) (by omega)).2, (ha (a + 1) (by omega) (by omega)).2, (ha (a + 2) (by omega) (by omega)).2, (ha (a + 3) (by omega) (by omega)).1, (ha (a + 4) (by omega) (by omega)).2, (ha (a + 5) (by omega) (by omega)).1, (ha (a + 6) (by omega) (by omega)).1, (hg (g + 1) (by omega) (by omega)).2, (hg (g + 2) (by omega) (by omega)).2, (hg (g + 3) (by omega) (by omega)).2, (hg (g + 4) (by omega) (by omega)).2, (hg (g + 5) (by omega) (by omega)).2, (hg (g + 6) (by omega) (by omega)).2, (hg (g + 7) (by omega) (by omega)).2, (hg (g + 8) (by omega) (by omega)).2, (hg (g + 9) (by omega) (by omega)).2]
  exact h
/-- scratch of the reference may change, the promises held fast -/
theorem IV_scr {D : Nat → Pd} {L w n t P : Nat} {tr : Nat → Nat} {M M' : zM} (h : IV D L w n t P tr M) (hN : zN M' = zN M) (hK : zK M' = zK M) (hR : zR M' = zR M) (f : ∀ b, b ≠ 146 → (b < 176 ∨ 178 < b) → zI M' b = zI M b) (g : ∀ b, (b < 174 ∨ 175 < b) → zL M' b = zL M b) (h1 : ∀ j, j ≠ 45 → j ≠ 46 → zI M' 146 j = zI M 146 j) : IV D L w n t P tr M' := by
  obtain ⟨hs, hT, hfa, hto, htr, him, hsh, p1, p2, p3, p4⟩ := h
  have hw := hs.2.2.2.2.2.1
  refine ⟨zSh_fr hs hN hK hR, ?_, ?_, ?_, iTrace_fr htr (f _ (by omega) (by omega)) (f _ (by omega) (by omega)) (f _ (by omega) (by omega)), fun k hk => iImage_fr (him k hk) hk ⟨f _ (by omega) (by omega), f _ (by omega) (by omega), f _ (by omega) (by omega), fun b _ _ => f _ (by omega) (by omega)⟩, fun k hk => iSheet_fr (hsh k hk) hk ⟨f _ (by omega) (by omega), f _ (by omega) (by omega), f _ (by omega) (by omega), fun b _ _ => f _ (by omega) (by omega)⟩, p1, ?_, ?_, ?_⟩
  · unfold iTape
    rw [f 4 (by omega) (by omega), f 5 (by omega) (by omega), f 158 (by omega) (by omega), h1 13 (by omega) (by omega)]
    exact hT
  · rw [f 2 (by omega) (by omega), h1 18 (by omega) (by omega)]; exact hfa
  · rw [f 2 (by omega) (by omega), h1 51 (by omega) (by omega)]; exact ⟨hto.1, by unfold pat; rw [g 0 (by omega), g 165 (by omega)]; exact hto.2⟩
  · rw [f 2 (by omega) (by omega)]; exact p2
  · rw [h1 8 (by omega) (by omega)]; exact p3
  · intro p hp
    obtain ⟨k, a1, a2, a3, a4⟩ := p4 p hp
    refine ⟨k, a1, iPled_fr2 a2 (fun b _ _ => ⟨f _ (by omega) (by omega), g _ (by omega)⟩) (f _ (by omega) (by omega)) (f _ (by omega) (by omega)) (g _ (by omega)) (g _ (by omega)), iWat_fr2 a3 (fun b _ _ => ⟨f _ (by omega) (by omega), g _ (by omega)⟩) (fun b _ _ => ⟨f _ (by omega) (by omega), g _ (by omega)⟩), ?_⟩
    rw [g _ (by omega)]; exact a4
/-- a watch catches up -/
theorem pt_watchOf {D : Nat → Pd} {d L w n t P p : Nat} {tr : Nat → Nat} {M : zM} (hd : 6 ≤ d) (h : IV D L w n t P tr M) (hp : p < P) : ∃ M', zV d n_PT_watchOf [.ref 2, .int (nI p)] M = some (some (.ref (46 + 27 * p)), M') ∧ IV D L w n t P tr M' ∧ iWat (D p).1 (D p).2.1 (D p).2.2.1 (D p).2.2.2.1 tr M' (46 + 27 * p) (26 + 10 * w + 27 * p) t := by
  obtain ⟨d, rfl, hd1⟩ := zdep hd
  obtain ⟨hs, hT, hfa, hto, htr, him, hsh, p1, p2, p3, p4⟩ := h
  have hs1 := hs
  obtain ⟨hN, hK, hC, hMo, hF, hw, h7, h8⟩ := hs1
  have hkk := zkc L; rw [← hK] at hkk
  have htr1 := htr
  obtain ⟨t1, t2, t3, t4⟩ := htr1
  obtain ⟨k, a1, a2, a3, a4⟩ := p4 p hp
  obtain ⟨q1, q2, q3⟩ := told hs (p := p) (by omega)
  have hF1 := hF.1 p (by omega)
  have hW : zWat M (46 + 27 * p) := hF1.2.2.2.2.2.2.1
  have r18 := hF1.2.2.1
  obtain ⟨M', e, f1, f2⟩ := wa_catchUp (d := d) (A := (D p).1) (B := (D p).2.1) (a := 46 + 27 * p) (g := 26 + 10 * w + 27 * p) (k := k) (t := t) (by omega) hW q3 (by omega) (by omega) a2.1 a2.2.2.1 a2.2.2.2.2.2.1 a2.2.2.2.2.2.2.2.2.1 a2.2.2.2.2.2.2.1 a2.2.2.2.2.2.2.2.2.2.1 a2.2.2.2.2.2.2.2.1 (by rw [hK]; rfl) (by rw [hK]; rfl) (by simp only [hC]) t1 t2 (fun i hi => ⟨(t4 i hi).1, (t4 i hi).2.1⟩) a1 a3
  have q : ∀ b, b < 46 + 27 * p ∨ 46 + 27 * p + 6 < b → zI M' b = zI M b ∧ zL M' b = zL M b := f1.2.2.2
  have hW0 := hW.1
  refine ⟨M', ?_, ⟨zSh_fr hs f1.1 f1.2.1 f1.2.2.1, ?_, ?_, ?_, iTrace_fr htr (q _ (by omega)).1 (q _ (by omega)).1 (q _ (by omega)).1, fun k hk => iImage_fr (him k hk) hk ⟨(q _ (by omega)).1, (q _ (by omega)).1, (q _ (by omega)).1, fun b _ _ => (q _ (by omega)).1⟩, fun k hk => iSheet_fr (hsh k hk) hk ⟨(q _ (by omega)).1, (q _ (by omega)).1, (q _ (by omega)).1, fun b _ _ => (q _ (by omega)).1⟩, p1, ?_, ?_, ?_⟩, f2⟩
  · rw [ze_PT_watchOf]
    unfold zx_PT_watchOf
    clear p4 a2 a3 a4 him hsh f1 f2 q
    simp (disch := omega) only [il, nI_add, nI_mul, nI_sub, nI_div, nI_rem, nI_N, i32_lt, i32_le, nI_toInt, nI_subI, nI_clamp, zinT, zifT, iteT, iteF, zQ, zS, zkc, zI_sI, zL_sL, zI_wI, zL_wL, Nat.reduceEqDiff, Nat.reduceAdd, Nat.reduceMul, Nat.reduceLT, Nat.reduceLeDiff, reduceIte, eq_self, and_self, true_and, and_true, false_and, and_false, true_or, or_true, or_false, false_or, not_true_eq_false, not_false_eq_true, zarr, ne_eq, hkk, hC, h7, r18, q1, q2, hW0, e]
  · unfold iTape
    rw [(q 4 (by omega)).1, (q 5 (by omega)).1, (q 158 (by omega)).1, (q 146 (by omega)).1]
    exact hT
  · rw [(q 2 (by omega)).1, (q 146 (by omega)).1]; exact hfa
  · rw [(q 2 (by omega)).1, (q 146 (by omega)).1]; exact ⟨hto.1, by unfold pat; rw [(q 0 (by omega)).2, (q 165 (by omega)).2]; exact hto.2⟩
  · rw [(q 2 (by omega)).1]; exact p2
  · rw [(q 146 (by omega)).1]; exact p3
  · intro p' hp'
    by_cases hpp : p' = p
    · subst hpp
      refine ⟨t, Nat.le_refl t, iPled_fr2 a2 (fun b _ _ => q b (by omega)) (q _ (by omega)).1 (q _ (by omega)).1 (q _ (by omega)).2 (q _ (by omega)).2, f2, ?_⟩
      rw [(q _ (by omega)).2]; exact a4
    · obtain ⟨k', b1, b2, b3, b4⟩ := p4 p' hp'
      refine ⟨k', b1, iPled_fr2 b2 (fun b _ _ => q b (by omega)) (q _ (by omega)).1 (q _ (by omega)).1 (q _ (by omega)).2 (q _ (by omega)).2, iWat_fr2 b3 (fun b _ _ => q b (by omega)) (fun b _ _ => q b (by omega)), ?_⟩
      rw [(q _ (by omega)).2]; exact b4
