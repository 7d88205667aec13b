/-! the reference goes through a try: the loops -/
theorem m_gt57 {A B : Sq} {d L w ki ho p t n0 n1 i u : Nat} {off : Nat → Prop} {tr C0 C1 : Nat → Nat} {M : zM} {l3 l6 : Int64} (hd : 3 ≤ d) (hs : zSh L w M) (hE : ME A B ki ho off p t tr n0 n1 C0 C1 M) (hu : u < t) (hi : i ≤ u) (hT : TD A B ki tr i u (mwk M (2 * p + 1) n1 C1) M) :
    ∃ M', zG d n_Mo_goesThrough 57 [some (.ref 146), some (.int (nI p)), some (.int (nI i)), some (.long l3), none, some (.int (nI u)), some (.long l6), none, some (.int (nI i))] [] M = zG d n_Mo_goesThrough 57 [some (.ref 146), some (.int (nI p)), some (.int (nI i)), some (.long l3), none, some (.int (nI u)), some (.long l6), none, some (.int (nI u))] [] M' ∧ fM M M' ∧ zI M' 146 = zI M 146 ∧ zI M' 178 = zI M 178 ∧ ∀ q, i ≤ q → q < u → A.acc (seg tr i (q + 1)) → MDS (MDu M' q) (dst B ki tr q (u - q)) (mwk M (2 * p + 1) n1 C1 (seg tr (q + ki) (u + 1))) := by
  obtain ⟨M', e, f1, f2, f3, f4, f5⟩ := zloopE (n := u - i) (g := fun k M1 => zG d n_Mo_goesThrough 57 [some (.ref 146), some (.int (nI p)), some (.int (nI i)), some (.long l3), none, some (.int (nI u)), some (.long l6), none, some (.int (nI (i + k)))] [] M1) (P := fun k M1 => fM M M1 ∧ zI M1 146 = zI M 146 ∧ zI M1 178 = zI M 178 ∧ (∀ q, i ≤ q → q < i + k → A.acc (seg tr i (q + 1)) → MDS (MDu M1 q) (dst B ki tr q (u - q)) (mwk M (2 * p + 1) n1 C1 (seg tr (q + ki) (u + 1)))) ∧ ∀ q, i + k ≤ q → MDu M1 q = MDu M q) (by
    intro k M1 hk ⟨f1, f2, f3, f4, f5⟩
    have hs1 := zSh_fr hs f1.1 f1.2.1 f1.2.2.1
    have hE1 := ME_fr hE f1
    obtain ⟨⟨t1, t2, t3⟩, ⟨p1, p2, p3, p4, p5⟩, ho1, sm0, sm1, lg0, lg1, nB, ff0, ff1⟩ := hE1
    have L149 : zL M1 149 = zL M 149 := f1.2.2.2.2.1 149 (by omega)
    have hK := hs1.2.1
    have hMo := hs1.2.2.2.1
    obtain ⟨m1, m2⟩ := hT (i + k) (by omega) (by omega)
    have d0 := f5 (i + k) (Nat.le_refl _)
    have i178 : zI M1 178 (i + k) = zI M 178 (i + k) := by rw [f3]
    by_cases ha : A.acc (seg tr i (i + k + 1))
    · obtain ⟨m3, m4, m5, m6⟩ := m1 ha
      have x1 : zI M1 176 (i + k) = nI (dst B ki tr (i + k) (u - 1 - (i + k))).1 := (congrArg (fun x => x.1) d0).trans m4
      have hds := dst_succ (B := B) (ki := ki) (tr := tr) (show i + k < u by omega)
      have h3 := dst_lt3 (B := B) (ki := ki) (u := i + k) (tr := tr) (u - 1 - (i + k))
      by_cases h0 : (dst B ki tr (i + k) (u - 1 - (i + k))).1 = 0
      · obtain ⟨M2, e2, g1, g2, g3, g4⟩ := m_goesOn (d := d) (p := p) (u := i + k) (v := u) (n := n1) (C := C1) (M := M1) (F := mFul n1 C1 (mT M (2 * p + 1)) (tr u)) hd hs1 p1 sm1 (by omega) (by omega) (by have := ff1 u hu; unfold mT at this ⊢; rw [L149] at this; exact this)
        refine ⟨M2, ?_, f1.trans g1, g3.trans f2, g2.trans f3, ?_, ?_⟩
        · show zG d n_Mo_goesThrough 57 [some (.ref 146), some (.int (nI p)), some (.int (nI i)), some (.long l3), none, some (.int (nI u)), some (.long l6), none, some (.int (nI (i + k)))] [] M1 = zG d n_Mo_goesThrough 57 [some (.ref 146), some (.int (nI p)), some (.int (nI i)), some (.long l3), none, some (.int (nI u)), some (.long l6), none, some (.int (nI (i + k + 1)))] [] M2
          rw [zg_Mo_goesThrough_57]
          unfold zx_Mo_goesThrough_57
          rw [h0] at x1
          rw [m3] at i178
          clear f4 f5 hT ff0 ff1 lg0 lg1 ho1 hds h3 g4 m1 m2
          simp (disch := omega) only [il, nI_add, nI_mul, nI_sub, nI_div, nI_rem, nI_N, i32_lt, i32_le, nI_toInt, nI_subI, nI_clamp, zinT, zifT, iteT, iteF, zQ, zS, zkc, zI_sI, zL_sL, zI_wI, zL_wL, Nat.reduceEqDiff, Nat.reduceAdd, Nat.reduceMul, Nat.reduceLT, Nat.reduceLeDiff, reduceIte, eq_self, and_self, true_and, and_true, false_and, and_false, true_or, or_true, or_false, false_or, not_true_eq_false, not_false_eq_true, zarr, ne_eq, hK, hMo, i178, x1, e2]
        · intro q h1 h2 h4
          rw [g4]
          by_cases hq : q = i + k
          · subst hq
            rw [if_pos rfl, hds, cif_t h0, d0, L149]
            have lg1' := lg1
            unfold LG mwk mT mB at lg1'
            rw [L149] at lg1'
            unfold mB
            rw [L149]
            refine MDS_go (ki := ki) (B := B) (M := M) (i := 2 * p + 1) (n := n1) (C := C1) lg1' (fun j hj => (t3 j (by omega)).1) (show i + k + ki ≤ u by omega) ⟨?_, ?_, m6 h0⟩
            · rw [m4, h0]
            · rw [m5, if_pos h0]
          · rw [if_neg hq]
            exact f4 q h1 (by omega) h4
        · intro q hq
          rw [g4, if_neg (by omega)]
          exact f5 q (by omega)
      · refine ⟨M1, ?_, f1, f2, f3, ?_, fun q hq => f5 q (by omega)⟩
        · show zG d n_Mo_goesThrough 57 [some (.ref 146), some (.int (nI p)), some (.int (nI i)), some (.long l3), none, some (.int (nI u)), some (.long l6), none, some (.int (nI (i + k)))] [] M1 = zG d n_Mo_goesThrough 57 [some (.ref 146), some (.int (nI p)), some (.int (nI i)), some (.long l3), none, some (.int (nI u)), some (.long l6), none, some (.int (nI (i + k + 1)))] [] M1
          rw [zg_Mo_goesThrough_57]
          unfold zx_Mo_goesThrough_57
          have x2 : ¬ zI M1 176 (i + k) = nI 0 := by rw [x1, nI_eq (by omega) (by omega)]; exact h0
          rw [m3] at i178
          clear f4 f5 hT ff0 ff1 lg0 lg1 ho1 hds h3 m1 m2
          simp (disch := omega) only [il, nI_add, nI_mul, nI_sub, nI_div, nI_rem, nI_N, i32_lt, i32_le, nI_toInt, nI_subI, nI_clamp, zinT, zifT, iteT, iteF, zQ, zS, zkc, zI_sI, zL_sL, zI_wI, zL_wL, Nat.reduceEqDiff, Nat.reduceAdd, Nat.reduceMul, Nat.reduceLT, Nat.reduceLeDiff, reduceIte, eq_self, and_self, true_and, and_true, false_and, and_false, true_or, or_true, or_false, false_or, not_true_eq_false, not_false_eq_true, zarr, ne_eq, hK, hMo, i178, x2]
        · intro q h1 h2 h4
          by_cases hq : q = i + k
          · subst hq
            rw [hds, cif_f h0, d0]
            exact ⟨m4, m5, fun q => absurd q h0⟩
          · exact f4 q h1 (by omega) h4
    · have m3 := m2 ha
      refine ⟨M1, ?_, f1, f2, f3, ?_, fun q hq => f5 q (by omega)⟩
      · show zG d n_Mo_goesThrough 57 [some (.ref 146), some (.int (nI p)), some (.int (nI i)), some (.long l3), none, some (.int (nI u)), some (.long l6), none, some (.int (nI (i + k)))] [] M1 = zG d n_Mo_goesThrough 57 [some (.ref 146), some (.int (nI p)), some (.int (nI i)), some (.long l3), none, some (.int (nI u)), some (.long l6), none, some (.int (nI (i + k + 1)))] [] M1
        rw [zg_Mo_goesThrough_57]
        unfold zx_Mo_goesThrough_57
        rw [m3] at i178
        clear f4 f5 hT ff0 ff1 lg0 lg1 ho1 m1 m2
        simp (disch := omega) only [il, nI_add, nI_mul, nI_sub, nI_div, nI_rem, nI_N, i32_lt, i32_le, nI_toInt, nI_subI, nI_clamp, zinT, zifT, iteT, iteF, zQ, zS, zkc, zI_sI, zL_sL, zI_wI, zL_wL, Nat.reduceEqDiff, Nat.reduceAdd, Nat.reduceMul, Nat.reduceLT, Nat.reduceLeDiff, reduceIte, eq_self, and_self, true_and, and_true, false_and, and_false, true_or, or_true, or_false, false_or, not_true_eq_false, not_false_eq_true, zarr, ne_eq, hK, hMo, i178]
      · intro q h1 h2 h4
        by_cases hq : q = i + k
        · subst hq; exact absurd h4 ha
        · exact f4 q h1 (by omega) h4) (s0 := M) ⟨fM_rfl M, rfl, rfl, fun q h1 h2 => by omega, fun _ _ => rfl⟩
  simp only [Nat.add_zero] at e
  rw [show i + (u - i) = u by omega] at e f4
  exact ⟨M', e, f1, f2, f3, f4⟩
/-- the verdict by so many ticks -/
noncomputable def vv (A B : Sq) (ki : Nat) (off : Nat → Prop) (tr : Nat → Nat) (i : Nat) : Nat → Nat × Nat
  | 0 => (0, 0)
  | k + 1 => vd A B ki off tr i k
theorem vv_succ {A B : Sq} {ki i : Nat} {off : Nat → Prop} {tr : Nat → Nat} : ∀ k, vv A B ki off tr i (k + 1) = cif ((vv A B ki off tr i k).1 = 0) (vstep A B ki off tr i (i + k), i + k) (vv A B ki off tr i k)
  | 0 => by
    rw [cif_t (show (vv A B ki off tr i 0).1 = 0 from rfl)]
    rfl
  | k + 1 => rfl
theorem vv_le {A B : Sq} {ki i : Nat} {off : Nat → Prop} {tr : Nat → Nat} : ∀ k, (vv A B ki off tr i k).1 ≤ 4
  | 0 => by unfold vv; exact Nat.zero_le _
  | k + 1 => vd_le k
theorem m_gt_step {A B : Sq} {d L w ki ho p t n0 n1 i k : Nat} {off : Nat → Prop} {tr C0 C1 : Nat → Nat} {M : zM} (hd : 4 ≤ d) (hs : zSh L w M) (hE : ME A B ki ho off p t tr n0 n1 C0 C1 M) (hu : i + k < t) (hT : TD A B ki tr i (i + k) (mwk M (2 * p + 1) n1 C1) M) (h45 : zI M 146 45 = nI (vv A B ki off tr i k).1) (h46 : zI M 146 46 = if (vv A B ki off tr i k).1 = 0 then -4 else nI (vv A B ki off tr i k).2) :
    ∃ M', zG d n_Mo_goesThrough 22 [some (.ref 146), some (.int (nI p)), some (.int (nI i)), some (.long (mwk M (2 * p) n0 C0 (seg tr i (i + k)))), none, some (.int (nI (i + k))), none, none, none] [] M = zG d n_Mo_goesThrough 22 [some (.ref 146), some (.int (nI p)), some (.int (nI i)), some (.long (mwk M (2 * p) n0 C0 (seg tr i (i + k + 1)))), none, some (.int (nI (i + k + 1))), none, none, none] [] M' ∧ fM M M' ∧ TD A B ki tr i (i + k + 1) (mwk M (2 * p + 1) n1 C1) M' ∧ zI M' 146 45 = nI (vv A B ki off tr i (k + 1)).1 ∧ zI M' 146 46 = if (vv A B ki off tr i (k + 1)).1 = 0 then -4 else nI (vv A B ki off tr i (k + 1)).2 := by
  generalize hu' : i + k = u at *
  have hE0 := hE
  obtain ⟨⟨t1, t2, t3⟩, ⟨p1, p2, p3, p4, p5⟩, ho1, sm0, sm1, lg0, lg1, nB, ff0, ff1⟩ := hE
  have hK := hs.2.1
  have hMo := hs.2.2.2.1
  have e1 := m_nextOf (d := d) (by omega) hs sm0 (by omega) (mwk M (2 * p) n0 C0 (seg tr i u) &&& mFul n0 C0 (mT M (2 * p)) (tr u))
  rw [← mwk_snoc (by omega)] at e1
  have hb0 : bts (seg tr i u) := bts_seg (t := t) (fun i hi => (t3 i hi).1) (by omega)
  have qa := (LG_acc lg0 hb0).2 (tr u) (t3 u hu).1
  rw [← seg_snoc (by omega)] at qa
  obtain ⟨M1, e2, f1, f2, f3, f4⟩ := m_gt57 (d := d) (l3 := mwk M (2 * p) n0 C0 (seg tr i (u + 1))) (l6 := mwk M (2 * p) n0 C0 (seg tr i u) &&& mFul n0 C0 (mT M (2 * p)) (tr u)) (by omega) hs hE0 hu (show i ≤ u by omega) hT
  have s1 : zG d n_Mo_goesThrough 22 [some (.ref 146), some (.int (nI p)), some (.int (nI i)), some (.long (mwk M (2 * p) n0 C0 (seg tr i u))), none, some (.int (nI u)), none, none, none] [] M = zG d n_Mo_goesThrough 57 [some (.ref 146), some (.int (nI p)), some (.int (nI i)), some (.long (mwk M (2 * p) n0 C0 (seg tr i (u + 1)))), none, some (.int (nI u)), some (.long (mwk M (2 * p) n0 C0 (seg tr i u) &&& mFul n0 C0 (mT M (2 * p)) (tr u))), none, some (.int (nI u))] [] M1 := by
    rw [← e2]
    rw [zg_Mo_goesThrough_22]
    unfold zx_Mo_goesThrough_22
    have x1 := ff0 u hu
    clear hT ff0 ff1 lg0 lg1 ho1 qa f4 h45 h46
    simp (disch := omega) only [il, nI_add, nI_mul, nI_sub, nI_div, nI_rem, nI_N, i32_lt, i32_le, nI_toInt, nI_subI, nI_clamp, zinT, zifT, iteT, iteF, zQ, zS, zkc, zI_sI, zL_sL, zI_wI, zL_wL, Nat.reduceEqDiff, Nat.reduceAdd, Nat.reduceMul, Nat.reduceLT, Nat.reduceLeDiff, reduceIte, eq_self, and_self, true_and, and_true, false_and, and_false, true_or, or_true, or_false, false_or, not_true_eq_false, not_false_eq_true, zarr, ne_eq, hK, hMo, t2, x1, e1]
  have hs1 := zSh_fr hs f1.1 f1.2.1 f1.2.2.1
  have L149 : zL M1 149 = zL M 149 := f1.2.2.2.2.1 149 (by omega)
  -- the new duty
  have hs2 := hs1.sI 178 u (nI 0)
  have fM2 : fM M (zsI M1 178 u (nI 0)) := f1.trans ⟨rfl, rfl, rfl, fun b h1 h2 => zI_ne (by omega), fun _ _ => rfl, fun _ _ _ => rfl⟩
  have hE2 := ME_fr hE0 fM2
  have e3 := m_isEnd (d := d) (i := 2 * p) (M := zsI M1 178 u (nI 0)) (by omega) hs2 (by omega) (mwk M (2 * p) n0 C0 (seg tr i u) &&& mFul n0 C0 (mT M (2 * p)) (tr u))
  have L2 : zL (zsI M1 178 u (nI 0)) 149 = zL M 149 := L149
  rw [L2] at e3
  have hdut : ∃ M3, zG d n_Mo_goesThrough 57 [some (.ref 146), some (.int (nI p)), some (.int (nI i)), some (.long (mwk M (2 * p) n0 C0 (seg tr i (u + 1)))), none, some (.int (nI u)), some (.long (mwk M (2 * p) n0 C0 (seg tr i u) &&& mFul n0 C0 (mT M (2 * p)) (tr u))), none, some (.int (nI u))] [] M1 = zG d n_Mo_goesThrough 126 [some (.ref 146), some (.int (nI p)), some (.int (nI i)), some (.long (mwk M (2 * p) n0 C0 (seg tr i (u + 1)))), none, some (.int (nI u)), none, none, none] [] M3 ∧ fM M M3 ∧ zI M3 146 = zI M 146 ∧ TD A B ki tr i (u + 1) (mwk M (2 * p + 1) n1 C1) M3 := by
    have hK1 := hs1.2.1
    have hMo1 := hs1.2.2.2.1
    by_cases ha : A.acc (seg tr i (u + 1))
    · obtain ⟨M3, e4, g1, g2, g3, g4, g5⟩ := m_begins (d := d) (u := u) (by omega) hs2 hE2 hu
      rw [if_neg (fun q => qa.mp q ha)] at e3
      refine ⟨M3, ?_, fM2.trans g1, g2.trans f2, ?_⟩
      · rw [zg_Mo_goesThrough_57]
        unfold zx_Mo_goesThrough_57
        clear hT ff0 ff1 lg0 lg1 ho1 qa f4 h45 h46 g4 g5 hE2 hE0
        simp (disch := omega) only [il, nI_add, nI_mul, nI_sub, nI_div, nI_rem, nI_N, i32_lt, i32_le, nI_toInt, nI_subI, nI_clamp, zinT, zifT, iteT, iteF, zQ, zS, zkc, zI_sI, zL_sL, zI_wI, zL_wL, Nat.reduceEqDiff, Nat.reduceAdd, Nat.reduceMul, Nat.reduceLT, Nat.reduceLeDiff, reduceIte, eq_self, and_self, true_and, and_true, false_and, and_false, true_or, or_true, or_false, false_or, not_true_eq_false, not_false_eq_true, zarr, ne_eq, hK1, hMo1, zbast, nar_z0, e3, e4]
      · intro q h1 h2
        by_cases hq : q = u
        · subst hq
          refine ⟨fun _ => ⟨g3, ?_⟩, fun h => absurd ha h⟩
          rw [Nat.add_sub_cancel, Nat.sub_self]
          unfold mwk mT mB at g5
          rw [L2] at g5
          exact g5
        · obtain ⟨q1, q2⟩ := g4 q hq
          rw [q1, q2, zI_sI, if_neg (fun h => hq h.2), f3]
          have dd : MDu (zsI M1 178 u (nI 0)) q = MDu M1 q := by unfold MDu; simp (disch := omega) only [zI_ne, zS]
          rw [dd, Nat.add_sub_cancel]
          obtain ⟨m1, m2⟩ := hT q h1 (by omega)
          exact ⟨fun h => ⟨(m1 h).1, f4 q h1 (by omega) h⟩, m2⟩
    · rw [if_pos (qa.mpr ha)] at e3
      refine ⟨zsI M1 178 u (nI 0), ?_, fM2, (zI_ne (by omega)).trans f2, ?_⟩
      · rw [zg_Mo_goesThrough_57]
        unfold zx_Mo_goesThrough_57
        clear hT ff0 ff1 lg0 lg1 ho1 qa f4 h45 h46 hE2 hE0
        simp (disch := omega) only [il, nI_add, nI_mul, nI_sub, nI_div, nI_rem, nI_N, i32_lt, i32_le, nI_toInt, nI_subI, nI_clamp, zinT, zifT, iteT, iteF, zQ, zS, zkc, zI_sI, zL_sL, zI_wI, zL_wL, Nat.reduceEqDiff, Nat.reduceAdd, Nat.reduceMul, Nat.reduceLT, Nat.reduceLeDiff, reduceIte, eq_self, and_self, true_and, and_true, false_and, and_false, true_or, or_true, or_false, false_or, not_true_eq_false, not_false_eq_true, zarr, ne_eq, hK1, hMo1, zbast, nar_z0, e3]
      · intro q h1 h2
        by_cases hq : q = u
        · subst hq
          exact ⟨fun h => absurd h ha, fun _ => by rw [zI_sI, if_pos ⟨rfl, rfl⟩]⟩
        · rw [zI_sI, if_neg (fun h => hq h.2), f3]
          have dd : MDu (zsI M1 178 u (nI 0)) q = MDu M1 q := by unfold MDu; simp (disch := omega) only [zI_ne, zS]
          rw [dd, Nat.add_sub_cancel]
          obtain ⟨m1, m2⟩ := hT q h1 (by omega)
          exact ⟨fun h => ⟨(m1 h).1, f4 q h1 (by omega) h⟩, m2⟩
  obtain ⟨M3, s2, fM3, a3, hT3⟩ := hdut
  have hs3 := zSh_fr hs fM3.1 fM3.2.1 fM3.2.2.1
  have hE3 := ME_fr hE0 fM3
  have L3 : zL M3 149 = zL M 149 := fM3.2.2.2.2.1 149 (by omega)
  have e5 := m_verdictBy (d := d) (by omega) hs3 hE3 hu (show i ≤ u by omega) _ hT3
  have mw3 : mwk M3 (2 * p) n0 C0 (seg tr i (u + 1)) = mwk M (2 * p) n0 C0 (seg tr i (u + 1)) := by unfold mwk mT mB; rw [L3]
  rw [mw3] at e5
  have hK3 := hs3.2.1
  have hMo3 := hs3.2.2.2.1
  have v45 : zI M3 146 45 = nI (vv A B ki off tr i k).1 := by rw [a3]; exact h45
  have v46 : zI M3 146 46 = if (vv A B ki off tr i k).1 = 0 then -4 else nI (vv A B ki off tr i k).2 := by rw [a3]; exact h46
  have hvs := vv_succ (A := A) (B := B) (ki := ki) (i := i) (off := off) (tr := tr) k
  rw [hu'] at hvs
  have hle := vv_le (A := A) (B := B) (ki := ki) (i := i) (off := off) (tr := tr) k
  have hle2 := vstep_le (A := A) (B := B) (ki := ki) (t := i) (n := u) (off := off) (tr := tr)
  have frE : ∀ (x y : Int32), fM M3 (zsI (zsI M3 146 45 x) 146 46 y) := fun x y => ⟨rfl, rfl, rfl, fun b h1 h2 => by simp (disch := omega) only [zI_ne], fun _ _ => rfl, fun j h1 h2 => by simp (disch := omega) only [zI_sI, iteF]⟩
  have tdE : ∀ (x y : Int32), TD A B ki tr i (u + 1) (mwk M (2 * p + 1) n1 C1) (zsI (zsI M3 146 45 x) 146 46 y) := by
    intro x y q h1 h2
    have dd : MDu (zsI (zsI M3 146 45 x) 146 46 y) q = MDu M3 q := by unfold MDu; simp (disch := omega) only [zI_ne, zS]
    rw [dd, zI_ne (by omega), zI_ne (by omega)]
    exact hT3 q h1 h2
  by_cases h0 : (vv A B ki off tr i k).1 = 0
  · rw [h0] at v45
    rw [cif_t h0] at hvs
    by_cases hz : vstep A B ki off tr i u = 0
    · refine ⟨zsI (zsI M3 146 45 (nI 0)) 146 46 (-nI 4), ?_, fM3.trans (frE _ _), tdE _ _, ?_, ?_⟩
      · rw [s1, s2, zg_Mo_goesThrough_126]
        unfold zx_Mo_goesThrough_126
        rw [hz] at e5
        clear hT ff0 ff1 lg0 lg1 ho1 qa f4 h45 h46 hE3 hE0 hT3 tdE frE hE2 v46
        simp (disch := omega) only [il, nI_add, nI_mul, nI_sub, nI_div, nI_rem, nI_N, i32_lt, i32_le, nI_toInt, nI_subI, nI_clamp, zinT, zifT, iteT, iteF, zQ, zS, zkc, zI_sI, zL_sL, zI_wI, zL_wL, Nat.reduceEqDiff, Nat.reduceAdd, Nat.reduceMul, Nat.reduceLT, Nat.reduceLeDiff, reduceIte, eq_self, and_self, true_and, and_true, false_and, and_false, true_or, or_true, or_false, false_or, not_true_eq_false, not_false_eq_true, zarr, ne_eq, hK3, hMo3, v45, e5]
      · rw [hvs, zI_sI, if_neg (by omega), zI_sI, if_pos ⟨rfl, rfl⟩, hz]
      · rw [hvs, zI_sI, if_pos ⟨rfl, rfl⟩, hz, if_pos rfl]; rfl
    · refine ⟨zsI (zsI M3 146 45 (nI (vstep A B ki off tr i u))) 146 46 (nI u), ?_, fM3.trans (frE _ _), tdE _ _, ?_, ?_⟩
      · rw [s1, s2, zg_Mo_goesThrough_126]
        unfold zx_Mo_goesThrough_126
        clear hT ff0 ff1 lg0 lg1 ho1 qa f4 h45 h46 hE3 hE0 hT3 tdE frE hE2 v46 hvs
        simp (disch := omega) only [il, nI_add, nI_mul, nI_sub, nI_div, nI_rem, nI_N, i32_lt, i32_le, nI_toInt, nI_subI, nI_clamp, zinT, zifT, iteT, iteF, zQ, zS, zkc, zI_sI, zL_sL, zI_wI, zL_wL, Nat.reduceEqDiff, Nat.reduceAdd, Nat.reduceMul, Nat.reduceLT, Nat.reduceLeDiff, reduceIte, eq_self, and_self, true_and, and_true, false_and, and_false, true_or, or_true, or_false, false_or, not_true_eq_false, not_false_eq_true, zarr, ne_eq, hK3, hMo3, v45, e5, hz]
      · rw [hvs, zI_sI, if_neg (by omega), zI_sI, if_pos ⟨rfl, rfl⟩]
      · rw [hvs, zI_sI, if_pos ⟨rfl, rfl⟩, if_neg hz]
  · rw [cif_f h0] at hvs
    have v45' : ¬ zI M3 146 45 = nI 0 := by rw [v45, nI_eq (by omega) (by omega)]; exact h0
    refine ⟨M3, ?_, fM3, hT3, ?_, ?_⟩
    · rw [s1, s2, zg_Mo_goesThrough_126]
      unfold zx_Mo_goesThrough_126
      clear hT ff0 ff1 lg0 lg1 ho1 qa f4 h45 h46 hE3 hE0 hT3 tdE frE hE2 v46 hvs
      simp (disch := omega) only [il, nI_add, nI_mul, nI_sub, nI_div, nI_rem, nI_N, i32_lt, i32_le, nI_toInt, nI_subI, nI_clamp, zinT, zifT, iteT, iteF, zQ, zS, zkc, zI_sI, zL_sL, zI_wI, zL_wL, Nat.reduceEqDiff, Nat.reduceAdd, Nat.reduceMul, Nat.reduceLT, Nat.reduceLeDiff, reduceIte, eq_self, and_self, true_and, and_true, false_and, and_false, true_or, or_true, or_false, false_or, not_true_eq_false, not_false_eq_true, zarr, ne_eq, hK3, hMo3, v45']
    · rw [hvs]; exact v45
    · rw [hvs]; exact v46
theorem m_goesThrough {A B : Sq} {d L w ki ho p t n0 n1 i : Nat} {off : Nat → Prop} {tr C0 C1 : Nat → Nat} {M : zM} (hd : 5 ≤ d) (hs : zSh L w M) (hE : ME A B ki ho off p t tr n0 n1 C0 C1 M) (hi : i < t) :
    ∃ M', zV d n_Mo_goesThrough [.ref 146, .int (nI p), .int (nI i)] M = some (none, M') ∧ fM M M' ∧ TD A B ki tr i t (mwk M (2 * p + 1) n1 C1) M' ∧ zI M' 146 45 = nI (vd A B ki off tr i (t - 1 - i)).1 ∧ zI M' 146 46 = if (vd A B ki off tr i (t - 1 - i)).1 = 0 then -4 else nI (vd A B ki off tr i (t - 1 - i)).2 := by
  obtain ⟨d, rfl, hd1⟩ := zdep hd
  have hK := hs.2.1
  have hMo := hs.2.2.2.1
  have hp := hE.2.1.1
  have ht := hE.1.1
  have ht2 := hE.1.2.1
  have f0 : fM M (zsI (zsI M 146 45 (nI 0)) 146 46 (-nI 4)) := ⟨rfl, rfl, rfl, fun b h1 h2 => by simp (disch := omega) only [zI_ne], fun _ _ => rfl, fun j h1 h2 => by simp (disch := omega) only [zI_sI, iteF]⟩
  obtain ⟨M', e, f1, f2, f3, f4⟩ := zloopE (n := t - i) (g := fun k M1 => zG d n_Mo_goesThrough 22 [some (.ref 146), some (.int (nI p)), some (.int (nI i)), some (.long (mwk M (2 * p) n0 C0 (seg tr i (i + k)))), none, some (.int (nI (i + k))), none, none, none] [] M1) (P := fun k M1 => fM M M1 ∧ TD A B ki tr i (i + k) (mwk M (2 * p + 1) n1 C1) M1 ∧ zI M1 146 45 = nI (vv A B ki off tr i k).1 ∧ zI M1 146 46 = if (vv A B ki off tr i k).1 = 0 then -4 else nI (vv A B ki off tr i k).2) (by
    intro k M1 hk ⟨f1, f2, f3, f4⟩
    have hs1 := zSh_fr hs f1.1 f1.2.1 f1.2.2.1
    have hE1 := ME_fr hE f1
    have L149 : zL M1 149 = zL M 149 := f1.2.2.2.2.1 149 (by omega)
    have mw : ∀ j n C, mwk M1 j n C = mwk M j n C := by intro j n C; unfold mwk mT mB; rw [L149]
    obtain ⟨M2, e2, g1, g2, g3, g4⟩ := m_gt_step (d := d) (i := i) (k := k) hd1 hs1 hE1 (by omega) (by rw [mw]; exact f2) f3 f4
    rw [mw] at e2
    rw [mw] at g2
    exact ⟨M2, e2, f1.trans g1, g2, g3, g4⟩) (s0 := zsI (zsI M 146 45 (nI 0)) 146 46 (-nI 4)) ⟨f0, fun q h1 h2 => by omega, by simp (disch := omega) only [zI_sI, iteF, iteT]; rfl, rfl⟩
  simp only [Nat.add_zero, seg_nil (Nat.le_refl i)] at e
  rw [show i + (t - i) = t by omega] at e f2
  have hvv : vv A B ki off tr i (t - i) = vd A B ki off tr i (t - 1 - i) := by
    rw [show t - i = (t - 1 - i) + 1 by omega]; rfl
  rw [hvv] at f3 f4
  refine ⟨M', ?_, f1, f2, f3, f4⟩
  rw [ze_Mo_goesThrough]
  unfold zx_Mo_goesThrough
  have e1 : zV d n_Mo_firstOf [.ref 146, .int (nI (2 * p))] M = some (some (.long (mwk M (2 * p) n0 C0 [])), M) := m_firstOf (d := d) (i := 2 * p) (by omega) hs (by omega)
  have hs' := zSh_fr hs f1.1 f1.2.1 f1.2.2.1
  have hK' := hs'.2.1
  have hMo' := hs'.2.2.2.1
  have t2' : zI M' 155 0 = nI t := by rw [f1.2.2.2.1 155 (by omega) (by omega)]; exact ht2
  have e9 : zG d n_Mo_goesThrough 22 [some (.ref 146), some (.int (nI p)), some (.int (nI i)), some (.long (mwk M (2 * p) n0 C0 (seg tr i t))), none, some (.int (nI t)), none, none, none] [] M' = some (none, M') := by
    rw [zg_Mo_goesThrough_22]
    unfold zx_Mo_goesThrough_22
    clear hE f2 f3 f4 e
    simp (disch := omega) only [il, nI_add, nI_mul, nI_sub, nI_div, nI_rem, nI_N, i32_lt, i32_le, nI_toInt, nI_subI, nI_clamp, zinT, zifT, iteT, iteF, zQ, zS, zkc, zI_sI, zL_sL, zI_wI, zL_wL, Nat.reduceEqDiff, Nat.reduceAdd, Nat.reduceMul, Nat.reduceLT, Nat.reduceLeDiff, reduceIte, eq_self, and_self, true_and, and_true, false_and, and_false, true_or, or_true, or_false, false_or, not_true_eq_false, not_false_eq_true, zarr, ne_eq, hK', hMo', t2']
  rw [e9] at e
  clear hE f2 f3 f4
  simp (disch := omega) only [il, nI_add, nI_mul, nI_sub, nI_div, nI_rem, nI_N, i32_lt, i32_le, nI_toInt, nI_subI, nI_clamp, zinT, zifT, iteT, iteF, zQ, zS, zkc, zI_sI, zL_sL, zI_wI, zL_wL, Nat.reduceEqDiff, Nat.reduceAdd, Nat.reduceMul, Nat.reduceLT, Nat.reduceLeDiff, reduceIte, eq_self, and_self, true_and, and_true, false_and, and_false, true_or, or_true, or_false, false_or, not_true_eq_false, not_false_eq_true, zarr, ne_eq, hK, hMo, e1]
  exact e
