/-! a watch catches up -/
theorem wa_takeIn {A B : Sq} {d a g k ki ho : Nat} {tr : Nat → Nat} {M : zM} (hd : 4 ≤ d) (hw : zWat M a) (hg : zPle M g) (hga : g + 9 < a ∨ a + 6 < g) (hA : SeqC A M (g + 1)) (hB : SeqC B M (g + 5)) (nB : ¬ B.acc []) (h4 : zI M g 4 = nI ki) (hki : ki < 2) (h3 : zI M g 3 = nI ho) (hho : ho < 2) (hbt : ∀ i, i ≤ k → tr i < 256) (hk : k < 48) (hW : iWat A B ki ho tr M a g k) :
    ∃ M', zV d n_Wa_takeIn [.ref a, .ref g, .int (nI (tr k))] M = some (none, M') ∧ fO a M M' ∧ zI M' a 8 = nI k ∧ iWat A B ki ho tr (zsI M' a 8 (nI (k + 1))) a g (k + 1) := by
  have hgb : ∀ b, g ≤ b → b ≤ g + 9 → b < a ∨ a + 6 < b := fun b _ _ => by omega
  obtain ⟨M', c, off, ev, fo, ia, c2, o1, o2, c3, y1, y4, d1, d2, d30, d31, yv⟩ := wa_takeIn_m hd hw hg hga hA.1 hA.2.1 hB.1 hB.2.1 hA.2.2.2.2.1 hA.2.2.2.2.2.1 hB.2.2.2.2.1 hB.2.2.2.2.2.1 h4 hki h3 hho hW.1 hk (hbt k (Nat.le_refl k))
  have hW0 := hW
  obtain ⟨W1, W2, W3, W4, W5, W6, W7⟩ := hW
  refine ⟨M', ev, fo, by rw [ia]; exact W1, ?_⟩
  have q : ∀ b, g ≤ b → b ≤ g + 9 → zL M' b = zL M b := fun b h1 h2 => (fo.2.2.2 b (hgb b h1 h2)).2
  have hbs : ∀ t, bts (seg tr t (k + 1)) := fun t => bts_seg (t := k + 1) (fun i hi => hbt i (by omega)) (Nat.le_refl _)
  -- the tries' states
  have hwk : ∀ t, t ≤ k → (cTo A.long (zL M (g + 2)) (if t = k then 1 else zL M (a + 1) t) &&& cOpen A.cond (zL M (g + 4)) (zL M (g + 3)) (zL M (g + 1) 4) (tr k)) = wB A M (g + 1) (seg tr t (k + 1)) := by
    intro t ht
    rw [wB_snoc ht]
    by_cases h : t = k
    · subst h; rw [if_pos rfl, wB_nil]
    · rw [if_neg h, W2 t (by omega)]
  have hst : ∀ t, t ≤ k → zL M' (a + 1) t = wB A M (g + 1) (seg tr t (k + 1)) := fun t ht => by rw [y1 t ht, hwk t ht]
  have hacc : ∀ t, t ≤ k → (wB A M (g + 1) (seg tr t (k + 1)) &&& zL M (g + 1) 3 = 0 ↔ ¬ A.acc (seg tr t (k + 1))) := fun t _ => (SeqC_acc hA (hbs t)).1
  have hc : c = 1 ↔ isd A tr k := by
    rw [c3]
    constructor
    · rintro ⟨t, ht, h⟩
      rw [hwk t ht] at h
      exact ⟨t, ht, Classical.byContradiction fun p => h ((hacc t ht).mpr p)⟩
    · rintro ⟨t, ht, h⟩
      refine ⟨t, ht, ?_⟩
      rw [hwk t ht]
      exact fun p => (hacc t ht).mp p h
  -- the sets of duties
  have hds : ∀ t u, t ≤ k → u < 64 → (zb (zL M' (a + 4) t) u = true ↔ t ≤ u ∧ u < k + 1 ∧ A.acc (seg tr t (u + 1))) := by
    intro t u ht hu
    have old : zb (if t = k then 0 else zL M (a + 4) t) u = true ↔ t ≤ u ∧ u < k ∧ A.acc (seg tr t (u + 1)) := by
      by_cases h : t = k
      · rw [if_pos h, zb_0]
        exact ⟨fun q => absurd q (by decide), fun q => by omega⟩
      · rw [if_neg h]; exact W3 t u (by omega) hu
    rw [y4 t ht, hst t ht]
    by_cases hE : wB A M (g + 1) (seg tr t (k + 1)) &&& zL M (g + 1) 3 = 0
    · rw [if_pos hE, old]
      have hn := (hacc t ht).mp hE
      constructor
      · rintro ⟨h1, h2, h3⟩; exact ⟨h1, by omega, h3⟩
      · rintro ⟨h1, h2, h3⟩
        refine ⟨h1, ?_, h3⟩
        by_cases h : u = k
        · subst h; exact absurd h3 hn
        · omega
    · rw [if_neg hE, zb_or, zb_b1 (by omega), Bool.or_eq_true, old, decide_eq_true_eq]
      have hn : A.acc (seg tr t (k + 1)) := Classical.byContradiction fun p => hE ((hacc t ht).mpr p)
      constructor
      · rintro (⟨h1, h2, h3⟩ | h)
        · exact ⟨h1, by omega, h3⟩
        · subst h; exact ⟨ht, by omega, hn⟩
      · rintro ⟨h1, h2, h3⟩
        by_cases h : u = k
        · exact Or.inr h
        · exact Or.inl ⟨h1, by omega, h3⟩
  -- the duties
  have oldk : ∀ u, k ≤ u → u < 64 → zb (zL M a 6) u = false ∧ zb (zL M a 7) u = false := by
    intro u h1 h2
    constructor
    · rw [← Bool.not_eq_true, W4 u h2]; intro q; omega
    · rw [← Bool.not_eq_true, W5 u h2]; intro q; omega
  have hD : ∀ u, u ≤ k → (isd A tr u → DS (Du a M' u) (dst B ki tr u (k - u)) (wB B M (g + 5) (seg tr (u + ki) (k + 1)))) ∧ (¬ isd A tr u → (Du a M' u).1 = 0 ∧ (Du a M' u).2.2.1 = false ∧ (Du a M' u).2.2.2 = false) := by
    intro u hu
    by_cases h : u = k
    · subst h
      obtain ⟨b6, b7⟩ := oldk u (Nat.le_refl u) (by omega)
      constructor
      · intro hi
        rw [d31 (hc.mpr hi), Nat.sub_self]
        have e : (Du a M u).2 = (zI M (a + 3) u, false, false) := by
          unfold Du; rw [b6, b7]
        rw [e]
        exact DS_begin hB nB hbt hki
      · intro hi
        rw [d30 (by have hc0 : c ≠ 1 := fun h => hi (hc.mp h); clear c3 hc o2; omega)]
        exact ⟨rfl, b6, b7⟩
    · obtain ⟨m1, m2⟩ := DS_of (u := u) hW0 hk (by omega)
      rw [d1 u (by omega)]
      constructor
      · intro hi
        exact DS_step hB hbt hki (by omega) (m1 hi)
      · intro hi
        obtain ⟨x1, x2, x3⟩ := m2 hi
        unfold mvd
        rw [if_pos x1]
        exact ⟨x1, x2, x3⟩
  have hbig : ∀ u, k < u → u < 64 → zb (zL M' a 6) u = false ∧ zb (zL M' a 7) u = false := by
    intro u h1 h2
    have e := d2 u h1
    have e6 : zb (zL M' a 6) u = zb (zL M a 6) u := congrArg (fun x => x.2.2.1) e
    have e7 : zb (zL M' a 7) u = zb (zL M a 7) u := congrArg (fun x => x.2.2.2) e
    rw [e6, e7]
    exact oldk u (by omega) h2
  have hmet : ∀ u, u < 64 → (zb (zL M' a 6) u = true ↔ u < k + 1 ∧ isd A tr u ∧ (dst B ki tr u (k - u)).1 = 1) := by
    intro u hu
    by_cases h : u ≤ k
    · obtain ⟨m1, m2⟩ := hD u h
      show (Du a M' u).2.2.1 = true ↔ _
      constructor
      · intro hb
        have hi : isd A tr u := Classical.byContradiction fun p => by
          rw [(m2 p).2.1] at hb; exact absurd hb (by decide)
        refine ⟨by omega, hi, ?_⟩
        obtain ⟨s0, s1, s2⟩ := m1 hi
        rcases dst_lt3 (B := B) (ki := ki) (u := u) (tr := tr) (k - u) with e | e | e
        · rw [(s0 e).2.1] at hb; exact absurd hb (by decide)
        · exact e
        · rw [(s2 e).2.2.1] at hb; exact absurd hb (by decide)
      · rintro ⟨-, hi, e⟩
        exact ((m1 hi).2.1 e).2.2.1
    · rw [(hbig u (by omega) hu).1]
      exact ⟨fun q => absurd q (by decide), fun q => by omega⟩
  have hbro : ∀ u, u < 64 → (zb (zL M' a 7) u = true ↔ u < k + 1 ∧ isd A tr u ∧ (dst B ki tr u (k - u)).1 = 2) := by
    intro u hu
    by_cases h : u ≤ k
    · obtain ⟨m1, m2⟩ := hD u h
      show (Du a M' u).2.2.2 = true ↔ _
      constructor
      · intro hb
        have hi : isd A tr u := Classical.byContradiction fun p => by
          rw [(m2 p).2.2] at hb; exact absurd hb (by decide)
        refine ⟨by omega, hi, ?_⟩
        obtain ⟨s0, s1, s2⟩ := m1 hi
        rcases dst_lt3 (B := B) (ki := ki) (u := u) (tr := tr) (k - u) with e | e | e
        · rw [(s0 e).2.2] at hb; exact absurd hb (by decide)
        · rw [(s1 e).2.2.2] at hb; exact absurd hb (by decide)
        · exact e
      · rintro ⟨-, hi, e⟩
        exact ((m1 hi).2.2 e).2.2.2
    · rw [(hbig u (by omega) hu).2]
      exact ⟨fun q => absurd q (by decide), fun q => by omega⟩
  -- the verdicts
  have hjd : ∀ t, t ≤ k → (if off = 1 then 4 else jdg (zL M' (a + 4) t) (zL M' a 6) (zL M' a 7) (zL M' (a + 1) t) (zL M (g + 1) 5)) = vstep A B ki (pOff ho (zL M (g + 9))) tr t k := by
    intro t ht
    by_cases ho1 : off = 1
    · rw [if_pos ho1]
      unfold vstep
      rw [cif_t (o2.mp ho1)]
    · rw [if_neg ho1]
      refine jdg_vstep hk (fun q => ho1 (o2.mpr q)) (fun u hu => hds t u ht hu) hmet hbro ?_
      rw [hst t ht]
      exact (SeqC_acc hA (hbs t)).2
  have hvd : ∀ t, t ≤ k → zI M' (a + 5) t = nI (vd A B ki (pOff ho (zL M (g + 9))) tr t (k - t)).1 ∧ ((vd A B ki (pOff ho (zL M (g + 9))) tr t (k - t)).1 ≠ 0 → zI M' (a + 6) t = nI (vd A B ki (pOff ho (zL M (g + 9))) tr t (k - t)).2) := by
    intro t ht
    have yv := yv t ht
    rw [hjd t ht] at yv
    by_cases h : t = k
    · subst h
      rw [if_pos rfl, if_pos rfl] at yv
      rw [Nat.sub_self]
      unfold vd
      exact ⟨congrArg Prod.fst yv, fun _ => congrArg Prod.snd yv⟩
    · rw [if_neg h] at yv
      obtain ⟨w1, w2⟩ := W7 t (by omega)
      have hle := vd_le (A := A) (B := B) (ki := ki) (t := t) (off := pOff ho (zL M (g + 9))) (tr := tr) (k - 1 - t)
      have e1 : vd A B ki (pOff ho (zL M (g + 9))) tr t (k - t) = cif ((vd A B ki (pOff ho (zL M (g + 9))) tr t (k - 1 - t)).1 = 0) (vstep A B ki (pOff ho (zL M (g + 9))) tr t k, k) (vd A B ki (pOff ho (zL M (g + 9))) tr t (k - 1 - t)) := by
        rw [show k - t = (k - 1 - t) + 1 by omega]
        show cif _ (vstep A B ki (pOff ho (zL M (g + 9))) tr t (t + (k - 1 - t) + 1), t + (k - 1 - t) + 1) _ = _
        rw [show t + (k - 1 - t) + 1 = k by omega]
      rw [w1] at yv
      have hz : nI (vd A B ki (pOff ho (zL M (g + 9))) tr t (k - 1 - t)).1 = nI 0 ↔ (vd A B ki (pOff ho (zL M (g + 9))) tr t (k - 1 - t)).1 = 0 := nI_eq (by omega) (by omega)
      rw [e1]
      by_cases h0 : (vd A B ki (pOff ho (zL M (g + 9))) tr t (k - 1 - t)).1 = 0
      · rw [cif_t h0]
        rw [if_pos (hz.mpr h0)] at yv
        exact ⟨congrArg Prod.fst yv, fun _ => congrArg Prod.snd yv⟩
      · rw [cif_f h0]
        rw [if_neg (fun q => h0 (hz.mp q))] at yv
        exact ⟨congrArg Prod.fst yv, fun _ => (congrArg Prod.snd yv).trans (w2 h0)⟩
  -- together
  refine ⟨by rw [zI_sI, if_pos ⟨rfl, rfl⟩], ?_, ?_, ?_, ?_, ?_, ?_⟩
  · intro t ht
    show zL M' (a + 1) t = cWalk (zL M' (g + 2)) A.long (cOpen A.cond (zL M' (g + 4)) (zL M' (g + 3)) (zL M' (g + 1) 4)) (seg tr t (k + 1)) 1
    rw [q (g + 2) (by omega) (by omega), q (g + 4) (by omega) (by omega), q (g + 3) (by omega) (by omega), q (g + 1) (by omega) (by omega)]
    exact hst t (by omega)
  · intro t u ht hu
    exact hds t u (by omega) hu
  · intro u hu
    show zb (zL M' a 6) u = true ↔ _
    rw [hmet u hu, Nat.add_sub_cancel]
  · intro u hu
    show zb (zL M' a 7) u = true ↔ _
    rw [hbro u hu, Nat.add_sub_cancel]
  · intro u hu
    show ((isd A tr u ∧ _ → zL M' (a + 2) u = cWalk (zL M' (g + 6)) B.long (cOpen B.cond (zL M' (g + 8)) (zL M' (g + 7)) (zL M' (g + 5) 4)) (seg tr (u + ki) (k + 1)) 1) ∧ (_ → zL M' (a + 2) u = 0) ∧ _)
    rw [q (g + 6) (by omega) (by omega), q (g + 8) (by omega) (by omega), q (g + 7) (by omega) (by omega), q (g + 5) (by omega) (by omega), Nat.add_sub_cancel]
    obtain ⟨m1, m2⟩ := hD u (by omega)
    refine ⟨fun ⟨hi, e⟩ => ((m1 hi).1 e).1, ?_, ?_⟩
    · intro hn
      by_cases hi : isd A tr u
      · obtain ⟨s0, s1, s2⟩ := m1 hi
        rcases dst_lt3 (B := B) (ki := ki) (u := u) (tr := tr) (k - u) with e | e | e
        · exact absurd ⟨hi, e⟩ hn
        · exact (s1 e).1
        · exact (s2 e).1
      · exact (m2 hi).1
    · intro hi hne
      rw [zI_ne (by omega)]
      obtain ⟨s0, s1, s2⟩ := m1 hi
      rcases dst_lt3 (B := B) (ki := ki) (u := u) (tr := tr) (k - u) with e | e | e
      · exact absurd e hne
      · exact (s1 e).2.1
      · exact (s2 e).2.1
  · intro t ht
    rw [zI_ne (by omega), zI_ne (by omega), Nat.add_sub_cancel]
    show zI M' (a + 5) t = nI (vd A B ki (pOff ho (zL M' (g + 9))) tr t (k - t)).1 ∧ ((vd A B ki (pOff ho (zL M' (g + 9))) tr t (k - t)).1 ≠ 0 → zI M' (a + 6) t = nI (vd A B ki (pOff ho (zL M' (g + 9))) tr t (k - t)).2)
    rw [q (g + 9) (by omega) (by omega)]
    exact hvd t (by omega)
theorem fO_up {a : Nat} {M M' : zM} (h : fO a M M') (x : Int32) : fO a M (zsI M' a 8 x) := ⟨h.1, h.2.1, h.2.2.1, fun b hb => ⟨(zI_ne (by omega)).trans (h.2.2.2 b hb).1, (h.2.2.2 b hb).2⟩⟩
theorem wa_catchUp {A B : Sq} {d a g k t ki ho : Nat} {tr : Nat → Nat} {M : zM} (hd : 5 ≤ d) (hw : zWat M a) (hg : zPle M g) (hga : g + 9 < a ∨ a + 6 < g) (ha : 20 < a) (hA : SeqC A M (g + 1)) (hB : SeqC B M (g + 5)) (nB : ¬ B.acc []) (h4 : zI M g 4 = nI ki) (hki : ki < 2) (h3 : zI M g 3 = nI ho) (hho : ho < 2) (hK19 : zK M 19 = (7, 2)) (hK20 : zK M 20 = (20, 48)) (hR : zR M 19 0 = some 20) (ht : t ≤ 48) (ht1 : zI M 19 1 = nI t) (htr : ∀ i, i < t → tr i < 256 ∧ zI M 20 i = nI (tr i)) (hk : k ≤ t) (hW : iWat A B ki ho tr M a g k) :
    ∃ M', zV d n_Wa_catchUp [.ref a, .ref g, .ref 19] M = some (none, M') ∧ fO a M M' ∧ iWat A B ki ho tr M' a g t := by
  obtain ⟨d, rfl, hd1⟩ := zdep hd
  obtain ⟨M', e, f1, f2⟩ := zloopE (n := t - k) (g := fun j M' => zG d n_Wa_catchUp 0 [some (.ref a), some (.ref g), some (.ref 19)] [] M') (P := fun j M' => fO a M M' ∧ iWat A B ki ho tr M' a g (k + j)) (by
    intro j M1 hj ⟨f1, f2⟩
    have q : ∀ b, b < a ∨ a + 6 < b → zI M1 b = zI M b ∧ zL M1 b = zL M b := f1.2.2.2
    have hw1 := zWat_fr hw f1.2.1 f1.2.2.1
    have hg1 := zPle_fr hg f1.2.1 f1.2.2.1
    obtain ⟨M2, e2, g1, g2, g3⟩ := wa_takeIn (d := d) (k := k + j) (by omega) hw1 hg1 hga (SeqC_fr hA (q _ (by omega)).1 (fun b _ _ => (q b (by omega)).2)) (SeqC_fr hB (q _ (by omega)).1 (fun b _ _ => (q b (by omega)).2)) nB (by rw [(q g (by omega)).1]; exact h4) hki (by rw [(q g (by omega)).1]; exact h3) hho (fun i hi => (htr i (by omega)).1) (by omega) f2
    refine ⟨zsI M2 a 8 (nI (k + j + 1)), ?_, fO_up (f1.trans g1) _, g3⟩
    show zG d n_Wa_catchUp 0 [some (.ref a), some (.ref g), some (.ref 19)] [] M1 = _
    rw [zg_Wa_catchUp_0]
    unfold zx_Wa_catchUp_0
    have w0 := hw1.1
    have w02 := (zWat_fr hw1 g1.2.1 g1.2.2.1).1
    have k19 : zK M1 19 = (7, 2) := by rw [f1.2.1]; exact hK19
    have k20 : zK M1 20 = (20, 48) := by rw [f1.2.1]; exact hK20
    have r19 : zR M1 19 0 = some 20 := by rw [f1.2.2.1]; exact hR
    have t1 : zI M1 19 1 = nI t := by rw [(q 19 (by omega)).1]; exact ht1
    have h8 := f2.1
    have hv : zI M1 20 (k + j) = nI (tr (k + j)) := by rw [(q 20 (by omega)).1]; exact (htr (k + j) (by omega)).2
    simp (disch := omega) only [il, nI_add, nI_mul, nI_sub, nI_div, nI_rem, nI_N, i32_lt, i32_le, nI_toInt, nI_subI, nI_clamp, zinT, zifT, iteT, iteF, zQ, zS, zkc, zI_sI, zL_sL, zI_wI, zL_wL, Nat.reduceEqDiff, Nat.reduceAdd, Nat.reduceMul, Nat.reduceLT, Nat.reduceLeDiff, reduceIte, eq_self, and_self, true_and, and_true, false_and, and_false, true_or, or_true, or_false, false_or, not_true_eq_false, not_false_eq_true, zarr, ne_eq, w0, w02, k19, k20, r19, t1, h8, hv, e2, g2]) (s0 := M) ⟨fO_rfl a M, hW⟩
  rw [show k + (t - k) = t by omega] at f2
  refine ⟨M', ?_, f1, f2⟩
  rw [ze_Wa_catchUp]
  show zx_Wa_catchUp_0 (zV d) (zG d n_Wa_catchUp) a g 19 M = _
  rw [← zg_Wa_catchUp_0]
  refine Eq.trans e ?_
  show zG d n_Wa_catchUp 0 [some (.ref a), some (.ref g), some (.ref 19)] [] M' = _
  rw [zg_Wa_catchUp_0]
  unfold zx_Wa_catchUp_0
  have w0 := (zWat_fr hw f1.2.1 f1.2.2.1).1
  have k19 : zK M' 19 = (7, 2) := by rw [f1.2.1]; exact hK19
  have t1 : zI M' 19 1 = nI t := by rw [(f1.2.2.2 19 (by omega)).1]; exact ht1
  have h8 := f2.1
  simp (disch := omega) only [il, nI_add, nI_mul, nI_sub, nI_div, nI_rem, nI_N, i32_lt, i32_le, nI_toInt, nI_subI, nI_clamp, zinT, zifT, iteT, iteF, zQ, zS, zkc, zI_sI, zL_sL, zI_wI, zL_wL, Nat.reduceEqDiff, Nat.reduceAdd, Nat.reduceMul, Nat.reduceLT, Nat.reduceLeDiff, reduceIte, eq_self, and_self, true_and, and_true, false_and, and_false, true_or, or_true, or_false, false_or, not_true_eq_false, not_false_eq_true, zarr, ne_eq, w0, k19, t1, h8]
