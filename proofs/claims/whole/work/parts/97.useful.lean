/-! the class: which positions lead to an end -/
theorem z_b1 {x : Int64} {q : Nat} (hq : q < 64) : (x &&& b1 q = 0) = (zb x q = false) := by
  apply propext
  constructor
  · intro h
    have : zb (x &&& b1 q) q = false := by rw [h, zb_0]
    rw [zb_and, zb_b1 hq, decide_eq_true rfl, Bool.and_true] at this
    exact this
  · intro h
    apply zb_ext
    intro i hi
    rw [zb_and, zb_b1 hq, zb_0]
    by_cases hiq : i = q
    · subst hiq; rw [h, Bool.false_and]
    · rw [decide_eq_false hiq, Bool.and_false]
theorem z_and_ne {x y : Int64} : x &&& y ≠ 0 ↔ ∃ r, zb x r = true ∧ zb y r = true := by
  rw [z_ne0]
  constructor
  · rintro ⟨i, hi, h⟩
    rw [zb_and, Bool.and_eq_true] at h
    exact ⟨i, h⟩
  · rintro ⟨r, h1, h2⟩
    refine ⟨r, ?_, by rw [zb_and, h1, h2]; rfl⟩
    apply Classical.byContradiction
    intro h
    rw [zb_big (by omega)] at h1
    exact absurd h1 Bool.false_ne_true
theorem nI_dec (q : Nat) : nI (q + 1) + (-1 : Int32) = nI q := by
  rw [← nI_add q 1, Int32.add_assoc]
  show nI q + ((1 : Int32) + -1) = nI q
  rw [show (1 : Int32) + -1 = 0 by decide, Int32.add_zero]
def fUs (s : Nat) (M M' : zM) : Prop := zN M' = zN M ∧ zK M' = zK M ∧ zR M' = zR M ∧ zI M' = zI M ∧ (∀ b, b ≠ s → zL M' b = zL M b) ∧ ∀ j, j ≠ 4 → j ≠ 5 → zL M' s j = zL M s j
theorem fUs_rfl (s : Nat) (M : zM) : fUs s M M := ⟨rfl, rfl, rfl, rfl, fun _ _ => rfl, fun _ _ _ => rfl⟩
theorem fUs.trans {s : Nat} {M M1 M2 : zM} (h : fUs s M M1) (g : fUs s M1 M2) : fUs s M M2 := by
  obtain ⟨a1, a2, a3, a4, a5, a6⟩ := h
  obtain ⟨c1, c2, c3, c4, c5, c6⟩ := g
  exact ⟨c1.trans a1, c2.trans a2, c3.trans a3, c4.trans a4, fun b hb => (c5 b hb).trans (a5 b hb), fun j h1 h2 => (c6 j h1 h2).trans (a6 j h1 h2)⟩
theorem se_fu101 {d s q x6 : Nat} {l1 : Int64} {M : zM} (hs : zSeq M s) (hq : q < 64) (hx : x6 < 2) : ∃ M2, zG d n_Se_findUseful 101 [some (.ref s), some (.long l1), none, some (.int (nI q)), some (.long (b1 q)), none, some (.int (nI x6))] [] M = zG d n_Se_findUseful 53 [some (.ref s), some (.long l1), none, some (.int (nI q + -1)), none, none, none] [] M2 ∧ fUs s M M2 ∧ zL M2 s 5 = zL M s 5 ∧ ∀ r, zb (zL M2 s 4) r = true ↔ zb (zL M s 4) r = true ∨ (r = q ∧ zb l1 q = true ∧ (x6 = 1 ∨ zb (zL M s 3) q = true)) := by
  obtain ⟨k1, -⟩ := hs
  have hset : ∀ r, zb (zL M s 4 ||| b1 q) r = true ↔ zb (zL M s 4) r = true ∨ r = q := fun r => by rw [zb_or, Bool.or_eq_true, zb_b1 hq, decide_eq_true_eq]
  have fr : fUs s M (zsL M s 4 (zL M s 4 ||| b1 q)) := ⟨rfl, rfl, rfl, rfl, fun b hb => zL_ne hb, fun j h1 _ => by rw [zL_sL, if_neg (fun z => h1 z.2)]⟩
  have f5 : zL (zsL M s 4 (zL M s 4 ||| b1 q)) s 5 = zL M s 5 := by rw [zL_sL, if_neg (fun z => absurd z.2 (by decide))]
  cases h1 : zb l1 q
  · refine ⟨M, ?_, fUs_rfl s M, rfl, fun r => ⟨Or.inl, fun z => z.elim id (fun y => absurd y.2.1 Bool.false_ne_true)⟩⟩
    rw [zg_Se_findUseful_101]
    unfold zx_Se_findUseful_101
    clear fr f5 hset
    simp (disch := omega) only [il, nI_add, nI_mul, nI_sub, nI_div, nI_rem, nI_N, i32_lt, i32_le, nI_toInt, nI_subI, nI_clamp, zinT, zifT, iteT, iteF, zQ, zS, zkc, zI_sI, zL_sL, zI_wI, zL_wL, Nat.reduceEqDiff, Nat.reduceAdd, Nat.reduceMul, Nat.reduceLT, Nat.reduceLeDiff, reduceIte, eq_self, and_self, true_and, and_true, false_and, and_false, true_or, or_true, or_false, false_or, not_true_eq_false, not_false_eq_true, zarr, ne_eq, t_n, z_b1, h1]
  · by_cases h6 : x6 = 1
    · subst h6
      refine ⟨_, ?_, fr, f5, fun r => ?_⟩
      · rw [zg_Se_findUseful_101]
        unfold zx_Se_findUseful_101
        clear fr f5 hset
        simp (disch := omega) only [il, nI_add, nI_mul, nI_sub, nI_div, nI_rem, nI_N, i32_lt, i32_le, nI_toInt, nI_subI, nI_clamp, zinT, zifT, iteT, iteF, zQ, zS, zkc, zI_sI, zL_sL, zI_wI, zL_wL, Nat.reduceEqDiff, Nat.reduceAdd, Nat.reduceMul, Nat.reduceLT, Nat.reduceLeDiff, reduceIte, eq_self, and_self, true_and, and_true, false_and, and_false, true_or, or_true, or_false, false_or, not_true_eq_false, not_false_eq_true, zarr, ne_eq, t_n, z_b1, h1, k1, reduceCtorEq]
      · rw [zL_sL, if_pos ⟨rfl, rfl⟩, hset]
        exact ⟨fun z => z.elim Or.inl (fun y => Or.inr ⟨y, rfl, Or.inl rfl⟩), fun z => z.elim Or.inl (fun y => Or.inr y.1)⟩
    · have h60 : x6 = 0 := by omega
      subst h60
      cases h3 : zb (zL M s 3) q
      · refine ⟨M, ?_, fUs_rfl s M, rfl, fun r => ⟨Or.inl, fun z => z.elim id (fun y => y.2.2.elim (fun z => by omega) (fun z => absurd z Bool.false_ne_true))⟩⟩
        rw [zg_Se_findUseful_101]
        unfold zx_Se_findUseful_101
        clear fr f5 hset
        simp (disch := omega) only [il, nI_add, nI_mul, nI_sub, nI_div, nI_rem, nI_N, i32_lt, i32_le, nI_toInt, nI_subI, nI_clamp, zinT, zifT, iteT, iteF, zQ, zS, zkc, zI_sI, zL_sL, zI_wI, zL_wL, Nat.reduceEqDiff, Nat.reduceAdd, Nat.reduceMul, Nat.reduceLT, Nat.reduceLeDiff, reduceIte, eq_self, and_self, true_and, and_true, false_and, and_false, true_or, or_true, or_false, false_or, not_true_eq_false, not_false_eq_true, zarr, ne_eq, t_n, z_b1, h1, k1, h3, reduceCtorEq]
      · refine ⟨_, ?_, fr, f5, fun r => ?_⟩
        · rw [zg_Se_findUseful_101]
          unfold zx_Se_findUseful_101
          clear fr f5 hset
          simp (disch := omega) only [il, nI_add, nI_mul, nI_sub, nI_div, nI_rem, nI_N, i32_lt, i32_le, nI_toInt, nI_subI, nI_clamp, zinT, zifT, iteT, iteF, zQ, zS, zkc, zI_sI, zL_sL, zI_wI, zL_wL, Nat.reduceEqDiff, Nat.reduceAdd, Nat.reduceMul, Nat.reduceLT, Nat.reduceLeDiff, reduceIte, eq_self, and_self, true_and, and_true, false_and, and_false, true_or, or_true, or_false, false_or, not_true_eq_false, not_false_eq_true, zarr, ne_eq, t_n, z_b1, h1, k1, h3, reduceCtorEq]
        · rw [zL_sL, if_pos ⟨rfl, rfl⟩, hset]
          exact ⟨fun z => z.elim Or.inl (fun y => Or.inr ⟨y, rfl, Or.inr rfl⟩), fun z => z.elim Or.inl (fun y => Or.inr y.1)⟩
theorem se_fu53 {d s q : Nat} {l1 : Int64} {M : zM} (hs : zSeq M s) (hq : q < 41) : ∃ M2, zG d n_Se_findUseful 53 [some (.ref s), some (.long l1), none, some (.int (nI q)), none, none, none] [] M = zG d n_Se_findUseful 53 [some (.ref s), some (.long l1), none, some (.int (nI q + -1)), none, none, none] [] M2 ∧ fUs s M M2 ∧ (∀ r, zb (zL M2 s 5) r = true ↔ zb (zL M s 5) r = true ∨ (r = q ∧ ∃ r', zb (zL M (s + 1) q) r' = true ∧ zb (zL M s 4) r' = true)) ∧ ∀ r, zb (zL M2 s 4) r = true ↔ zb (zL M s 4) r = true ∨ (r = q ∧ zb l1 q = true ∧ ((∃ r', zb (zL M (s + 1) q) r' = true ∧ zb (zL M s 4) r' = true) ∨ zb (zL M s 3) q = true)) := by
  have hs0 := hs
  obtain ⟨k1, k2, k3, k4, r1, r2, r3⟩ := hs
  by_cases hl : zL M (s + 1) q &&& zL M s 4 = 0
  · have hno : ¬ ∃ r', zb (zL M (s + 1) q) r' = true ∧ zb (zL M s 4) r' = true := fun z => z_and_ne.mpr z hl
    obtain ⟨M2, e, f1, f2, f3⟩ := se_fu101 (d := d) (l1 := l1) (x6 := 0) (M := M) (q := q) hs0 (by omega) (by omega)
    refine ⟨M2, ?_, f1, fun r => ?_, fun r => ?_⟩
    · rw [← e, zg_Se_findUseful_53]
      unfold zx_Se_findUseful_53 b1
      clear e f1 f2 f3 hno
      simp (disch := omega) only [il, nI_add, nI_mul, nI_sub, nI_div, nI_rem, nI_N, i32_lt, i32_le, nI_toInt, nI_subI, nI_clamp, zinT, zifT, iteT, iteF, zQ, zS, zkc, zI_sI, zL_sL, zI_wI, zL_wL, Nat.reduceEqDiff, Nat.reduceAdd, Nat.reduceMul, Nat.reduceLT, Nat.reduceLeDiff, reduceIte, eq_self, and_self, true_and, and_true, false_and, and_false, true_or, or_true, or_false, false_or, not_true_eq_false, not_false_eq_true, zarr, ne_eq, t_n, k1, k2, r1, hl]
    · rw [f2]
      exact ⟨Or.inl, fun z => z.elim id (fun y => absurd y.2 hno)⟩
    · rw [f3 r]
      exact ⟨fun z => z.elim Or.inl (fun y => Or.inr ⟨y.1, y.2.1, Or.inr (y.2.2.elim (fun z => by omega) id)⟩), fun z => z.elim Or.inl (fun y => Or.inr ⟨y.1, y.2.1, Or.inr (y.2.2.elim (fun z => absurd z hno) id)⟩)⟩
  · have hyes : ∃ r', zb (zL M (s + 1) q) r' = true ∧ zb (zL M s 4) r' = true := z_and_ne.mp hl
    obtain ⟨M2, e, f1, f2, f3⟩ := se_fu101 (d := d) (l1 := l1) (x6 := 1) (M := zsL M s 5 (zL M s 5 ||| b1 q)) (q := q) (zSeq_fr hs0 rfl rfl) (by omega) (by omega)
    have g4 : zL (zsL M s 5 (zL M s 5 ||| b1 q)) s 4 = zL M s 4 := by rw [zL_sL, if_neg (fun z => absurd z.2 (by decide))]
    have fr : fUs s M (zsL M s 5 (zL M s 5 ||| b1 q)) := ⟨rfl, rfl, rfl, rfl, fun b hb => zL_ne hb, fun j _ h2 => by rw [zL_sL, if_neg (fun z => h2 z.2)]⟩
    refine ⟨M2, ?_, fr.trans f1, fun r => ?_, fun r => ?_⟩
    · rw [← e, zg_Se_findUseful_53]
      unfold zx_Se_findUseful_53 b1
      clear e f1 f2 f3 hyes g4 fr
      simp (disch := omega) only [il, nI_add, nI_mul, nI_sub, nI_div, nI_rem, nI_N, i32_lt, i32_le, nI_toInt, nI_subI, nI_clamp, zinT, zifT, iteT, iteF, zQ, zS, zkc, zI_sI, zL_sL, zI_wI, zL_wL, Nat.reduceEqDiff, Nat.reduceAdd, Nat.reduceMul, Nat.reduceLT, Nat.reduceLeDiff, reduceIte, eq_self, and_self, true_and, and_true, false_and, and_false, true_or, or_true, or_false, false_or, not_true_eq_false, not_false_eq_true, zarr, ne_eq, t_n, k1, k2, r1, hl]
    · rw [f2, zL_sL, if_pos ⟨rfl, rfl⟩, zb_or, Bool.or_eq_true, zb_b1 (by omega), decide_eq_true_eq]
      exact ⟨fun z => z.elim Or.inl (fun y => Or.inr ⟨y, hyes⟩), fun z => z.elim Or.inl (fun y => Or.inr y.1)⟩
    · rw [f3 r, g4]
      exact ⟨fun z => z.elim Or.inl (fun y => Or.inr ⟨y.1, y.2.1, Or.inl hyes⟩), fun z => z.elim Or.inl (fun y => Or.inr ⟨y.1, y.2.1, Or.inl rfl⟩)⟩
/-- from the last position down to q -/
def Use (s p q : Nat) (l1 : Int64) (M : zM) : Prop := (∀ r, zb (zL M s 4) r = true → q ≤ r ∧ r ≤ p) ∧ (∀ r, zb (zL M s 5) r = true → q ≤ r ∧ r ≤ p) ∧ (∀ r, q ≤ r → r ≤ p → (zb (zL M s 4) r = true ↔ zb l1 r = true ∧ ((∃ r', zb (zL M (s + 1) r) r' = true ∧ zb (zL M s 4) r' = true) ∨ zb (zL M s 3) r = true))) ∧ ∀ r, q ≤ r → r ≤ p → (zb (zL M s 5) r = true ↔ ∃ r', zb (zL M (s + 1) r) r' = true ∧ zb (zL M s 4) r' = true)
theorem Use_step {s p q : Nat} {l1 : Int64} {M M2 : zM} (hup : ∀ r r', r ≤ p → zb (zL M (s + 1) r) r' = true → r < r') (hq : q ≤ p) (h : Use s p (q + 1) l1 M) (f : fUs s M M2) (h5 : ∀ r, zb (zL M2 s 5) r = true ↔ zb (zL M s 5) r = true ∨ (r = q ∧ ∃ r', zb (zL M (s + 1) q) r' = true ∧ zb (zL M s 4) r' = true)) (h4 : ∀ r, zb (zL M2 s 4) r = true ↔ zb (zL M s 4) r = true ∨ (r = q ∧ zb l1 q = true ∧ ((∃ r', zb (zL M (s + 1) q) r' = true ∧ zb (zL M s 4) r' = true) ∨ zb (zL M s 3) q = true))) : Use s p q l1 M2 := by
  obtain ⟨u1, u2, u3, u4⟩ := h
  have hF : zL M2 (s + 1) = zL M (s + 1) := f.2.2.2.2.1 _ (by omega)
  have h3 : zL M2 s 3 = zL M s 3 := f.2.2.2.2.2 3 (by decide) (by decide)
  have lead : ∀ r, q ≤ r → r ≤ p → ((∃ r', zb (zL M (s + 1) r) r' = true ∧ zb (zL M2 s 4) r' = true) ↔ ∃ r', zb (zL M (s + 1) r) r' = true ∧ zb (zL M s 4) r' = true) := by
    intro r a1 a2
    constructor
    · rintro ⟨r', b1, b2⟩
      have := hup r r' a2 b1
      rcases (h4 r').mp b2 with b | ⟨b, -⟩
      · exact ⟨r', b1, b⟩
      · omega
    · rintro ⟨r', b1, b2⟩
      exact ⟨r', b1, (h4 r').mpr (Or.inl b2)⟩
  refine ⟨fun r hr => ?_, fun r hr => ?_, fun r a1 a2 => ?_, fun r a1 a2 => ?_⟩
  · rcases (h4 r).mp hr with b | ⟨b, -⟩
    · have := u1 r b; omega
    · omega
  · rcases (h5 r).mp hr with b | ⟨b, -⟩
    · have := u2 r b; omega
    · omega
  · rw [hF, h3, lead r a1 a2, h4 r]
    by_cases hr : r = q
    · subst hr
      exact ⟨fun z => z.elim (fun y => by have := u1 r y; omega) (fun y => y.2), fun z => Or.inr ⟨rfl, z⟩⟩
    · rw [← u3 r (by omega) a2]
      exact ⟨fun z => z.elim id (fun y => absurd y.1 hr), Or.inl⟩
  · rw [hF, lead r a1 a2, h5 r]
    by_cases hr : r = q
    · subst hr
      exact ⟨fun z => z.elim (fun y => by have := u2 r y; omega) (fun y => y.2), fun z => Or.inr ⟨rfl, z⟩⟩
    · rw [← u4 r (by omega) a2]
      exact ⟨fun z => z.elim id (fun y => absurd y.1 hr), Or.inl⟩
theorem se_fu_go {d s p : Nat} {l1 : Int64} (hp : p ≤ 40) : ∀ q (M : zM), q ≤ p → zSeq M s → (∀ r r', r ≤ p → zb (zL M (s + 1) r) r' = true → r < r') → Use s p (q + 1) l1 M → ∃ M', zG d n_Se_findUseful 53 [some (.ref s), some (.long l1), none, some (.int (nI q)), none, none, none] [] M = some (none, M') ∧ fUs s M M' ∧ Use s p 0 l1 M' := by
  intro q
  induction q with
  | zero =>
    intro M hq hs hup hu
    obtain ⟨M2, e, f1, f2, f3⟩ := se_fu53 (d := d) (l1 := l1) (M := M) (q := 0) hs (by omega)
    refine ⟨M2, ?_, f1, Use_step hup hq hu f1 f2 f3⟩
    rw [e, zg_Se_findUseful_53]
    unfold zx_Se_findUseful_53
    exact if_pos (by decide)
  | succ q ih =>
    intro M hq hs hup hu
    obtain ⟨M2, e, f1, f2, f3⟩ := se_fu53 (d := d) (l1 := l1) (M := M) (q := q + 1) hs (by omega)
    have hF : zL M2 (s + 1) = zL M (s + 1) := f1.2.2.2.2.1 _ (by omega)
    obtain ⟨M', e2, g1, g2⟩ := ih M2 (by omega) (zSeq_fr hs f1.2.1 f1.2.2.1) (by rw [hF]; exact hup) (Use_step hup hq hu f1 f2 f3)
    refine ⟨M', ?_, f1.trans g1, g2⟩
    rw [e, nI_dec]
    exact e2
/-- the positions that some tick can be, and the start -/
def flb (T P : Nat → Int64) : Nat → Int64
  | 0 => 1
  | e + 1 => if cnt (ful T e) 256 = 0 then flb T P e else flb T P e ||| P e
theorem zb_flb {T P : Nat → Int64} {r : Nat} : ∀ {c : Nat}, zb (flb T P c) r = true ↔ r = 0 ∨ ∃ e, e < c ∧ zb (P e) r = true ∧ ∃ v, v < 256 ∧ ful T e v = true
  | 0 => by
    show zb 1 r = true ↔ _
    rw [zb_1, decide_eq_true_eq]
    exact ⟨Or.inl, fun z => z.elim id (fun ⟨e, h, _⟩ => by omega)⟩
  | c + 1 => by
    show zb (if cnt (ful T c) 256 = 0 then flb T P c else flb T P c ||| P c) r = true ↔ _
    by_cases h : cnt (ful T c) 256 = 0
    · rw [if_pos h, zb_flb (c := c)]
      constructor
      · rintro (h1 | ⟨e, h1, h2⟩)
        · exact Or.inl h1
        · exact Or.inr ⟨e, by omega, h2⟩
      · rintro (h1 | ⟨e, h1, h2, v, h3⟩)
        · exact Or.inl h1
        · by_cases he : e = c
          · subst he
            have := cnt_pos.mpr ⟨v, h3⟩
            omega
          · exact Or.inr ⟨e, by omega, h2, v, h3⟩
    · rw [if_neg h, zb_or, Bool.or_eq_true, zb_flb (c := c)]
      obtain ⟨v, hv⟩ := cnt_pos.mp (Nat.pos_of_ne_zero h)
      constructor
      · rintro ((h1 | ⟨e, h1, h2⟩) | h1)
        · exact Or.inl h1
        · exact Or.inr ⟨e, by omega, h2⟩
        · exact Or.inr ⟨c, by omega, h1, v, hv⟩
      · rintro (h1 | ⟨e, h1, h2, h3⟩)
        · exact Or.inl (Or.inl h1)
        · by_cases he : e = c
          · subst he; exact Or.inr h2
          · exact Or.inl (Or.inr ⟨e, by omega, h2, h3⟩)
theorem se_findUseful {d s p c : Nat} {M : zM} (hd : 3 ≤ d) (hs : zSeq M s) (hp : p ≤ 40) (hc : c ≤ 40) (h7 : zI M s 7 = nI p) (h6 : zI M s 6 = nI c) (hup : ∀ r r', r ≤ p → zb (zL M (s + 1) r) r' = true → r < r') : ∃ M', zV d n_Se_findUseful [.ref s] M = some (none, M') ∧ fUs s M M' ∧ Use s p 0 (flb (zL M (s + 3)) (zL M (s + 2)) c) M' := by
  obtain ⟨d, rfl, hd1⟩ := zdep hd
  have fr : fUs s M (zsL (zsL M s 4 0) s 5 0) := ⟨rfl, rfl, rfl, rfl, fun b hb => (zL_ne hb).trans (zL_ne hb), fun j h1 h2 => by rw [zL_sL, if_neg (fun z => h2 z.2), zL_sL, if_neg (fun z => h1 z.2)]⟩
  have l4 : zL (zsL (zsL M s 4 0) s 5 0) s 4 = 0 := by simp (disch := omega) only [zL_sL, zI_sI, zS, iteF, iteT, eq_self, and_self, true_and, and_true, false_and, and_false, if_true, if_false, reduceIte, Nat.reduceEqDiff]
  have l5 : zL (zsL (zsL M s 4 0) s 5 0) s 5 = 0 := by simp (disch := omega) only [zL_sL, zI_sI, zS, iteF, iteT, eq_self, and_self, true_and, and_true, false_and, and_false, if_true, if_false, reduceIte, Nat.reduceEqDiff]
  have hs1 : zSeq (zsL (zsL M s 4 0) s 5 0) s := zSeq_fr hs rfl rfl
  have i6 : zI (zsL (zsL M s 4 0) s 5 0) s 6 = nI c := h6
  have i7 : zI (zsL (zsL M s 4 0) s 5 0) s 7 = nI p := h7
  have f1' : zL (zsL (zsL M s 4 0) s 5 0) (s + 1) = zL M (s + 1) := fr.2.2.2.2.1 _ (by omega)
  have f2' : zL (zsL (zsL M s 4 0) s 5 0) (s + 2) = zL M (s + 2) := fr.2.2.2.2.1 _ (by omega)
  have f3' : zL (zsL (zsL M s 4 0) s 5 0) (s + 3) = zL M (s + 3) := fr.2.2.2.2.1 _ (by omega)
  have e0 : zV (d + 1) n_Se_findUseful [.ref s] M = zG d n_Se_findUseful 14 [some (.ref s), some (.long (flb (zL M (s + 3)) (zL M (s + 2)) 0)), none, some (.int (nI 0)), none, none, none] [] (zsL (zsL M s 4 0) s 5 0) := by
    rw [ze_Se_findUseful]
    unfold zx_Se_findUseful flb
    obtain ⟨k1, -⟩ := hs
    clear fr l4 l5 hs1 i6 i7 f1' f2' f3'
    simp (disch := omega) only [il, nI_add, nI_mul, nI_sub, nI_div, nI_rem, nI_N, i32_lt, i32_le, nI_toInt, nI_subI, nI_clamp, zinT, zifT, iteT, iteF, zQ, zS, zkc, zI_sI, zL_sL, zI_wI, zL_wL, Nat.reduceEqDiff, Nat.reduceAdd, Nat.reduceMul, Nat.reduceLT, Nat.reduceLeDiff, reduceIte, eq_self, and_self, true_and, and_true, false_and, and_false, true_or, or_true, or_false, false_or, not_true_eq_false, not_false_eq_true, zarr, ne_eq, k1]
  rw [e0]
  generalize zsL (zsL M s 4 0) s 5 0 = M1 at *
  obtain ⟨k1, k2, k3, k4, r1, r2, r3⟩ := hs1
  have key := zloop (n := c) (g := fun e => zG d n_Se_findUseful 14 [some (.ref s), some (.long (flb (zL M (s + 3)) (zL M (s + 2)) e)), none, some (.int (nI e)), none, none, none] [] M1) (by
    intro e he
    have e1 := q_howMany (d := d) (e := e) (M := M1) (by omega) k4 (by omega) (by omega)
    rw [f3'] at e1
    show zG d n_Se_findUseful 14 [some (.ref s), some (.long (flb (zL M (s + 3)) (zL M (s + 2)) e)), none, some (.int (nI e)), none, none, none] [] M1 = zG d n_Se_findUseful 14 [some (.ref s), some (.long (if cnt (ful (zL M (s + 3)) e) 256 = 0 then flb (zL M (s + 3)) (zL M (s + 2)) e else flb (zL M (s + 3)) (zL M (s + 2)) e ||| zL M (s + 2) e)), none, some (.int (nI (e + 1))), none, none, none] [] M1
    have hc256 := cnt_le (f := ful (zL M (s + 3)) e) 256
    rw [zg_Se_findUseful_14]
    unfold zx_Se_findUseful_14
    clear hup fr
    generalize cnt (ful (zL M (s + 3)) e) 256 = cc at *
    by_cases h0 : cc = 0
    · subst h0
      simp (disch := omega) only [il, nI_add, nI_mul, nI_sub, nI_div, nI_rem, nI_N, i32_lt, i32_le, nI_toInt, nI_subI, nI_clamp, zinT, zifT, iteT, iteF, zQ, zS, zkc, zI_sI, zL_sL, zI_wI, zL_wL, Nat.reduceEqDiff, Nat.reduceAdd, Nat.reduceMul, Nat.reduceLT, Nat.reduceLeDiff, reduceIte, eq_self, and_self, true_and, and_true, false_and, and_false, true_or, or_true, or_false, false_or, not_true_eq_false, not_false_eq_true, zarr, ne_eq, k1, k3, i6, r2, r3, e1, f2']
    · simp (disch := omega) only [il, nI_add, nI_mul, nI_sub, nI_div, nI_rem, nI_N, i32_lt, i32_le, nI_toInt, nI_subI, nI_clamp, zinT, zifT, iteT, iteF, zQ, zS, zkc, zI_sI, zL_sL, zI_wI, zL_wL, Nat.reduceEqDiff, Nat.reduceAdd, Nat.reduceMul, Nat.reduceLT, Nat.reduceLeDiff, reduceIte, eq_self, and_self, true_and, and_true, false_and, and_false, true_or, or_true, or_false, false_or, not_true_eq_false, not_false_eq_true, zarr, ne_eq, k1, k3, i6, r2, r3, e1, f2'])
  obtain ⟨M', e2, g1, g2⟩ := se_fu_go (d := d) (l1 := flb (zL M (s + 3)) (zL M (s + 2)) c) hp p M1 (Nat.le_refl p) ⟨k1, k2, k3, k4, r1, r2, r3⟩ (by rw [f1']; exact hup) ⟨fun r h => by rw [l4, zb_0] at h; exact absurd h Bool.false_ne_true, fun r h => by rw [l5, zb_0] at h; exact absurd h Bool.false_ne_true, fun r h1 h2 => by omega, fun r h1 h2 => by omega⟩
  refine ⟨M', ?_, fr.trans g1, g2⟩
  refine Eq.trans key (Eq.trans ?_ e2)
  show zG d n_Se_findUseful 14 [some (.ref s), some (.long (flb (zL M (s + 3)) (zL M (s + 2)) c)), none, some (.int (nI c)), none, none, none] [] M1 = _
  rw [zg_Se_findUseful_14]
  unfold zx_Se_findUseful_14
  clear hup fr key e2 g1 g2
  simp (disch := omega) only [il, nI_add, nI_mul, nI_sub, nI_div, nI_rem, nI_N, i32_lt, i32_le, nI_toInt, nI_subI, nI_clamp, zinT, zifT, iteT, iteF, zQ, zS, zkc, zI_sI, zL_sL, zI_wI, zL_wL, Nat.reduceEqDiff, Nat.reduceAdd, Nat.reduceMul, Nat.reduceLT, Nat.reduceLeDiff, reduceIte, eq_self, and_self, true_and, and_true, false_and, and_false, true_or, or_true, or_false, false_or, not_true_eq_false, not_false_eq_true, zarr, ne_eq, k1, i6, i7]
