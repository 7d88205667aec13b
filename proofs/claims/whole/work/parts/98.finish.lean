/-! the class: a sequence is there -/
theorem snoc_c : ∀ w : List Nat, w = [] ∨ ∃ u v, w = u ++ [v]
  | [] => Or.inl rfl
  | a :: w => by
    rcases snoc_c w with h | ⟨u, v, h⟩
    · exact Or.inr ⟨[], a, by rw [h]; rfl⟩
    · exact Or.inr ⟨a :: u, v, by rw [h]; rfl⟩
/-- a piece as a sequence seen from outside -/
def sqP (x : Pc) : Sq := ((pC x).length, pN x, pF x, pM x, pL x, fun w => ∃ u, u ≠ [] ∧ pL x (w ++ u))
theorem cw_wk {F P TT : Nat → Int64} {us : Int64} {p c : Nat} (hpl : ∀ e q, e < c → zb (P e) q = true → 1 ≤ q ∧ q ≤ p) : ∀ (w : List Nat), bts w → ∀ (X : Nat → Prop) (s : Int64), (∀ q, zb s q = true ↔ X q) → ∀ q, zb (cWalk F p (cOpen c TT P us) w s) q = true ↔ wk (fun q r => q ≤ p ∧ zb (F q) r = true) (fun q v => v < 256 ∧ ∃ e, e < c ∧ zb (P e) q = true ∧ ful TT e v = true) (fun r => 1 ≤ r ∧ zb us r = true) w X q
  | [], _, X, s, h, q => h q
  | v :: u, hb, X, s, h, q => by
    have hv : v < 256 := hb v (List.mem_cons_self ..)
    refine cw_wk hpl u (fun y hy => hb y (List.mem_cons_of_mem v hy)) (fun r => ∃ q, X q ∧ (q ≤ p ∧ zb (F q) r = true) ∧ (v < 256 ∧ ∃ e, e < c ∧ zb (P e) r = true ∧ ful TT e v = true) ∧ (1 ≤ r ∧ zb us r = true)) _ (fun r => ?_) q
    unfold cTo cOpen
    rw [zb_and, zb_and, Bool.and_eq_true, Bool.and_eq_true, zb_orU, zb_orU]
    constructor
    · rintro ⟨⟨k, k1, k2⟩, ⟨e, e1, e2⟩, hu⟩
      rw [zb_ite] at k2 e2
      exact ⟨k, (h k).mp k2.1, ⟨by omega, k2.2⟩, ⟨hv, e, e1, e2.2, e2.1⟩, (hpl e r e1 e2.2).1, hu⟩
    · rintro ⟨k, x1, ⟨x2, x3⟩, ⟨-, e, x4, x5, x6⟩, -, x8⟩
      exact ⟨⟨k, by omega, by rw [zb_ite]; exact ⟨(h k).mpr x1, x3⟩⟩, ⟨e, x4, by rw [zb_ite]; exact ⟨x6, x5⟩⟩, x8⟩
theorem SeqC_of {F P TT : Nat → Int64} {ed us on : Int64} {p c : Nat} {Lg : List Nat → Prop}
    (hf : Fr (fun q r => zb (F q) r = true) (fun q v => v < 256 ∧ ∃ e, e < c ∧ zb (P e) q = true ∧ ful TT e v = true) 1 p (zB (F 0)) (zB ed) Lg)
    (hpl : ∀ e q, e < c → zb (P e) q = true → 1 ≤ q ∧ q ≤ p) (hne : ¬ Lg [])
    (u1 : ∀ r, zb us r = true → r ≤ p) (u2 : ∀ r, zb on r = true → r ≤ p)
    (u3 : ∀ r, r ≤ p → (zb us r = true ↔ zb (flb TT P c) r = true ∧ ((∃ r', zb (F r) r' = true ∧ zb us r' = true) ∨ zb ed r = true)))
    (u4 : ∀ r, r ≤ p → (zb on r = true ↔ ∃ r', zb (F r) r' = true ∧ zb us r' = true)) :
    ∀ w, bts w → ((cWalk F p (cOpen c TT P us) w 1 &&& ed ≠ 0 ↔ Lg w) ∧ (cWalk F p (cOpen c TT P us) w 1 &&& on ≠ 0 ↔ ∃ u, u ≠ [] ∧ Lg (w ++ u))) := by
  obtain ⟨hb, he, hin, hlg⟩ := hf
  have hG : ∀ q r, q ≤ p → (q ≤ p ∧ zb (F q) r = true) → q < r ∧ r ≤ p := by
    rintro q r h1 ⟨-, h2⟩
    by_cases hq : q = 0
    · subst hq
      have := hb r h2
      omega
    · have := hin q r (by omega) (by omega) h2
      omega
  have hT : ∀ q, (∃ v, v < 256 ∧ ∃ e, e < c ∧ zb (P e) q = true ∧ ful TT e v = true) → 1 ≤ q ∧ q ≤ p := by
    rintro q ⟨v, -, e, h1, h2, -⟩
    exact hpl e q h1 h2
  have live := live_iff (F := fun q r => q ≤ p ∧ zb (F q) r = true) (T := fun q v => v < 256 ∧ ∃ e, e < c ∧ zb (P e) q = true ∧ ful TT e v = true) (U := fun r => 1 ≤ r ∧ zb us r = true) (E := zB ed) (P := p) hG (by
    intro q hq
    show (1 ≤ q ∧ zb us q = true) ↔ (∃ v, v < 256 ∧ ∃ e, e < c ∧ zb (P e) q = true ∧ ful TT e v = true) ∧ (zb ed q = true ∨ ∃ r, (q ≤ p ∧ zb (F q) r = true) ∧ (1 ≤ r ∧ zb us r = true))
    rw [u3 q hq, zb_flb]
    constructor
    · rintro ⟨h1, (h2 | ⟨e, e1, e2, v, e3, e4⟩), h3⟩
      · omega
      · refine ⟨⟨v, e3, e, e1, e2, e4⟩, ?_⟩
        rcases h3 with ⟨r, h4, h5⟩ | h3
        · have := hG q r hq ⟨hq, h4⟩
          exact Or.inr ⟨r, ⟨hq, h4⟩, by omega, h5⟩
        · exact Or.inl h3
    · rintro ⟨⟨v, e3, e, e1, e2, e4⟩, h3⟩
      refine ⟨(hpl e q e1 e2).1, Or.inr ⟨e, e1, e2, v, e3, e4⟩, ?_⟩
      rcases h3 with h3 | ⟨r, ⟨-, h4⟩, -, h5⟩
      · exact Or.inr h3
      · exact Or.inl ⟨r, h4, h5⟩)
  have hU : ∀ r w, pa (fun q r => q ≤ p ∧ zb (F q) r = true) (fun q v => v < 256 ∧ ∃ e, e < c ∧ zb (P e) q = true ∧ ful TT e v = true) (zB ed) w r → (1 ≤ r ∧ zb us r = true) := by
    intro r w h
    have hr : 1 ≤ r ∧ r ≤ p := by
      cases w with
      | nil => exact h.elim
      | cons v w => exact hT r ⟨v, h.1⟩
    exact (live r hr.2).mpr ⟨w, h⟩
  have hlang : ∀ w, w ≠ [] → ((∃ q, q = 0 ∧ ∃ r, (q ≤ p ∧ zb (F q) r = true) ∧ pa (fun q r => q ≤ p ∧ zb (F q) r = true) (fun q v => v < 256 ∧ ∃ e, e < c ∧ zb (P e) q = true ∧ ful TT e v = true) (zB ed) w r) ↔ Lg w) := by
    intro w hw
    rw [hlg w hw]
    have cg : ∀ r, 1 ≤ r → r < 1 + p → (pa (fun q r => q ≤ p ∧ zb (F q) r = true) (fun q v => v < 256 ∧ ∃ e, e < c ∧ zb (P e) q = true ∧ ful TT e v = true) (zB ed) w r ↔ pa (fun q r => zb (F q) r = true) (fun q v => v < 256 ∧ ∃ e, e < c ∧ zb (P e) q = true ∧ ful TT e v = true) (zB ed) w r) := fun r h1 h2 => pa_congr (lo := 1) (hi := 1 + p) (fun q r a1 a2 => ⟨fun z => z.2, fun z => ⟨by omega, z⟩⟩) (fun _ _ _ _ => Iff.rfl) (fun _ _ _ => Iff.rfl) (fun q r a1 a2 a3 => by have := hG q r (by omega) a3; omega) w r h1 h2
    constructor
    · rintro ⟨q, rfl, r, ⟨h1, h2⟩, h3⟩
      have := hb r h2
      exact ⟨r, h2, (cg r this.1 this.2).mp h3⟩
    · rintro ⟨r, h2, h3⟩
      have := hb r h2
      exact ⟨0, rfl, r, ⟨Nat.zero_le p, h2⟩, (cg r this.1 this.2).mpr h3⟩
  intro w hw
  have cw := cw_wk (F := F) (TT := TT) (us := us) hpl w hw (fun q => q = 0) 1 (fun q => by rw [zb_1, decide_eq_true_eq])
  constructor
  · rw [z_and_ne]
    rcases snoc_c w with h | ⟨u, v, h⟩
    · subst h
      constructor
      · rintro ⟨r, h1, h2⟩
        have h3 := (cw r).mp h1
        have h4 : r = 0 := h3
        have := he r h2
        omega
      · intro h; exact absurd h hne
    · subst h
      rw [← hlang (u ++ [v]) (by simp), ← wk_end hU u v]
      constructor
      · rintro ⟨r, h1, h2⟩
        exact ⟨r, (cw r).mp h1, h2⟩
      · rintro ⟨r, h1, h2⟩
        exact ⟨r, (cw r).mpr h1, h2⟩
  · rw [z_and_ne]
    constructor
    · rintro ⟨q, h1, h2⟩
      have hq := u2 q h2
      obtain ⟨r, h3, h4⟩ := (u4 q hq).mp h2
      have hr := hG q r hq ⟨hq, h3⟩
      obtain ⟨u, h5⟩ := (live r hr.2).mp ⟨by omega, h4⟩
      have hu : u ≠ [] := pa_ne h5
      refine ⟨u, hu, (hlang (w ++ u) (fun z => hu (List.append_eq_nil_iff.mp z).2)).mp ?_⟩
      exact (wk_go hU hu w _).mp ⟨q, (cw q).mp h1, r, ⟨hq, h3⟩, h5⟩
    · rintro ⟨u, hu, hl⟩
      have h1 := (hlang (w ++ u) (fun z => hu (List.append_eq_nil_iff.mp z).2)).mpr hl
      obtain ⟨q, h2, r, ⟨hq, h3⟩, h4⟩ := (wk_go hU hu w _).mpr h1
      exact ⟨q, (cw q).mpr h2, (u4 q hq).mpr ⟨r, h3, (hU r u h4).2⟩⟩
theorem bu_finish {d L w s : Nat} {M : zM} {x : Pc} (hd : 4 ≤ d) (hs : zSh L w M) (hq : zSeq M s) (hs26 : 26 ≤ s) (hB : Bst s [x] M) : ∃ M', zV d n_Bu_finish [.ref 8] M = some (none, M') ∧ fBu s M M' ∧ zI M' 4 = zI M 4 ∧ zI M' 6 = zI M 6 ∧ wfp x ∧ zI M' s 8 = nI (min 1000 (pF x)) ∧ zI M' s 10 = nI (if pN x ≤ 40 then 0 else 1) ∧ (pN x ≤ 40 → pF x ≠ 0 → SeqC (sqP x) M' s ∧ ∀ e t, (pC x)[e]? = some t → ∀ q, q < 4 → zL M' (s + 3) (4 * e + q) = t q) := by
  obtain ⟨d, rfl, hd1⟩ := zdep hd
  have kb := kB_of hs
  obtain ⟨a1, a2, a3, a4, a5, a6, a7, a8, a9, a10, a11⟩ := kb
  have hq0 := hq
  obtain ⟨k1, k2, k3, k4, r1, r2, r3⟩ := hq
  obtain ⟨B1, B2, B3, B4, p, c, hp, hc, h7, h6, h10, hok⟩ := hB
  have wx := B3 x (List.mem_singleton.mpr rfl)
  have hx : bN M 0 x := B4 (0, x) (List.mem_singleton.mpr rfl)
  have t1 : tot [x] = pN x := rfl
  have c1 : cds [x] = pC x := cds_1 x
  rw [t1] at h10 hok
  have h5 : zI M 8 5 = nI 1 := B2
  have I0 : ∀ b, b ≠ s → zI (zsI (zsI (zsL (zsL M (s + 1) 0 (zL M 9 0)) s 3 (zL M 10 0)) s 8 (zI M 12 0)) s 9 (zI M 13 0)) b = zI M b := fun b hb => (zI_ne hb).trans (zI_ne hb)
  have L0 : ∀ b, b ≠ s → b ≠ s + 1 → zL (zsI (zsI (zsL (zsL M (s + 1) 0 (zL M 9 0)) s 3 (zL M 10 0)) s 8 (zI M 12 0)) s 9 (zI M 13 0)) b = zL M b := fun b h1 h2 => (zL_ne h1).trans (zL_ne h2)
  have L1 : ∀ q, zL (zsI (zsI (zsL (zsL M (s + 1) 0 (zL M 9 0)) s 3 (zL M 10 0)) s 8 (zI M 12 0)) s 9 (zI M 13 0)) (s + 1) q = if q = 0 then zL M 9 0 else zL M (s + 1) q := fun q => by
    by_cases h : q = 0
    · simp (disch := omega) only [zL_sL, zI_sI, zS, iteF, iteT, eq_self, and_self, true_and, and_true, false_and, and_false, if_true, if_false, reduceIte, Nat.reduceEqDiff, h]
    · simp (disch := omega) only [zL_sL, zI_sI, zS, iteF, iteT, eq_self, and_self, true_and, and_true, false_and, and_false, if_true, if_false, reduceIte, Nat.reduceEqDiff, h]
  have L3 : zL (zsI (zsI (zsL (zsL M (s + 1) 0 (zL M 9 0)) s 3 (zL M 10 0)) s 8 (zI M 12 0)) s 9 (zI M 13 0)) s 3 = zL M 10 0 := by simp (disch := omega) only [zL_sL, zI_sI, zS, iteF, iteT, eq_self, and_self, true_and, and_true, false_and, and_false, if_true, if_false, reduceIte, Nat.reduceEqDiff]
  have J7 : zI (zsI (zsI (zsL (zsL M (s + 1) 0 (zL M 9 0)) s 3 (zL M 10 0)) s 8 (zI M 12 0)) s 9 (zI M 13 0)) s 7 = nI p := by simp (disch := omega) only [zL_sL, zI_sI, zS, iteF, iteT, eq_self, and_self, true_and, and_true, false_and, and_false, if_true, if_false, reduceIte, Nat.reduceEqDiff, h7]
  have J6 : zI (zsI (zsI (zsL (zsL M (s + 1) 0 (zL M 9 0)) s 3 (zL M 10 0)) s 8 (zI M 12 0)) s 9 (zI M 13 0)) s 6 = nI c := by simp (disch := omega) only [zL_sL, zI_sI, zS, iteF, iteT, eq_self, and_self, true_and, and_true, false_and, and_false, if_true, if_false, reduceIte, Nat.reduceEqDiff, h6]
  have J8 : zI (zsI (zsI (zsL (zsL M (s + 1) 0 (zL M 9 0)) s 3 (zL M 10 0)) s 8 (zI M 12 0)) s 9 (zI M 13 0)) s 8 = nI (min 1000 (pF x)) := by simp (disch := omega) only [zL_sL, zI_sI, zS, iteF, iteT, eq_self, and_self, true_and, and_true, false_and, and_false, if_true, if_false, reduceIte, Nat.reduceEqDiff, hx.1]
  have J9 : zI (zsI (zsI (zsL (zsL M (s + 1) 0 (zL M 9 0)) s 3 (zL M 10 0)) s 8 (zI M 12 0)) s 9 (zI M 13 0)) s 9 = nI (min 1000 (pM x)) := by simp (disch := omega) only [zL_sL, zI_sI, zS, iteF, iteT, eq_self, and_self, true_and, and_true, false_and, and_false, if_true, if_false, reduceIte, Nat.reduceEqDiff, hx.2]
  have J10 : zI (zsI (zsI (zsL (zsL M (s + 1) 0 (zL M 9 0)) s 3 (zL M 10 0)) s 8 (zI M 12 0)) s 9 (zI M 13 0)) s 10 = nI (if pN x ≤ 40 then 0 else 1) := by simp (disch := omega) only [zL_sL, zI_sI, zS, iteF, iteT, eq_self, and_self, true_and, and_true, false_and, and_false, if_true, if_false, reduceIte, Nat.reduceEqDiff, h10]
  have fr4 : fBu s M (zsI (zsI (zsL (zsL M (s + 1) 0 (zL M 9 0)) s 3 (zL M 10 0)) s 8 (zI M 12 0)) s 9 (zI M 13 0)) := ⟨rfl, rfl, rfl, fun b _ _ _ _ _ _ h => I0 b h, by rw [I0 4 (by omega)], fun b _ _ _ h4 h5 _ _ => L0 b h4 h5⟩
  by_cases h40 : pN x ≤ 40
  · obtain ⟨g1, g2, g3, g4, g5⟩ := hok h40
    rw [t1] at g1
    rw [c1] at g2 g3
    subst g1
    obtain ⟨g6, g7, -⟩ := g5
    have g6' : Fr (cF M s) (cT M s c) 1 (pN x) (zB (zL M 9 0)) (zB (zL M 10 0)) (pL x) := g6
    have hup : ∀ r r', r ≤ pN x → zb (zL (zsI (zsI (zsL (zsL M (s + 1) 0 (zL M 9 0)) s 3 (zL M 10 0)) s 8 (zI M 12 0)) s 9 (zI M 13 0)) (s + 1) r) r' = true → r < r' := by
      intro r r' h1 h2
      rw [L1] at h2
      by_cases h : r = 0
      · rw [if_pos h] at h2
        have := g6'.1 r' h2
        omega
      · rw [if_neg h] at h2
        exact (g6'.2.2.1 r r' (by omega) (by omega) h2).1
    obtain ⟨M5, e5, f5, hu⟩ := se_findUseful (d := d) (s := s) (M := zsI (zsI (zsL (zsL M (s + 1) 0 (zL M 9 0)) s 3 (zL M 10 0)) s 8 (zI M 12 0)) s 9 (zI M 13 0)) (by omega) (zSeq_fr hq0 rfl rfl) hp hc J7 J6 hup
    rw [if_pos h40] at J10 h10
    have ev : zV (d + 1) n_Bu_finish [.ref 8] M = some (none, M5) := by
      rw [ze_Bu_finish]
      unfold zx_Bu_finish
      clear fr4 L0 L1 L3 I0 J6 J7 J8 J9 J10 hup f5 hu g3 g4 g6 g6' B3 B4 hok hx
      simp (disch := omega) only [il, nI_add, nI_mul, nI_sub, nI_div, nI_rem, nI_N, i32_lt, i32_le, nI_toInt, nI_subI, nI_clamp, zinT, zifT, iteT, iteF, zQ, zS, zkc, zI_sI, zL_sL, zI_wI, zL_wL, Nat.reduceEqDiff, Nat.reduceAdd, Nat.reduceMul, Nat.reduceLT, Nat.reduceLeDiff, reduceIte, eq_self, and_self, true_and, and_true, false_and, and_false, true_or, or_true, or_false, false_or, not_true_eq_false, not_false_eq_true, zarr, ne_eq, a1, a2, a3, a5, a6, a7, a8, a10, a11, B1, k1, k2, r1, h5, h10, e5]
    generalize zsI (zsI (zsL (zsL M (s + 1) 0 (zL M 9 0)) s 3 (zL M 10 0)) s 8 (zI M 12 0)) s 9 (zI M 13 0) = M4 at *
    have hI5 : zI M5 = zI M4 := f5.2.2.2.1
    refine ⟨M5, ev, fr4.trans ⟨f5.1, f5.2.1, f5.2.2.1, fun b _ _ _ _ _ _ _ => by rw [hI5], by rw [hI5], fun b _ _ _ h4 _ _ _ => f5.2.2.2.2.1 b h4⟩, by rw [hI5]; exact I0 4 (by omega), by rw [hI5]; exact I0 6 (by omega), wx, by rw [hI5]; exact J8, by rw [hI5, if_pos h40]; exact J10, fun _ hF0 => ⟨?_, fun e t he q hq4 => ?_⟩⟩
    · obtain ⟨w1, w2, w3, w4, w5⟩ := wx
      obtain ⟨u1, u2, u3, u4⟩ := hu
      have eF : zL M5 (s + 1) = zL M4 (s + 1) := f5.2.2.2.2.1 (s + 1) (by omega)
      have eP : zL M5 (s + 2) = zL M (s + 2) := (f5.2.2.2.2.1 (s + 2) (by omega)).trans (L0 (s + 2) (by omega) (by omega))
      have eT : zL M5 (s + 3) = zL M (s + 3) := (f5.2.2.2.2.1 (s + 3) (by omega)).trans (L0 (s + 3) (by omega) (by omega))
      have eE : zL M5 s 3 = zL M 10 0 := (f5.2.2.2.2.2 3 (by decide) (by decide)).trans L3
      rw [L0 (s + 2) (by omega) (by omega), L0 (s + 3) (by omega) (by omega)] at u3
      have hcond : (sqP x).cond = c := g2.symm
      have key := SeqC_of (F := zL M5 (s + 1)) (P := zL M (s + 2)) (TT := zL M (s + 3)) (ed := zL M5 s 3) (us := zL M5 s 4) (on := zL M5 s 5) (p := pN x) (c := c) (Lg := pL x) (by
        rw [eE]
        refine g6'.congr (fun q r a1 a2 => ?_) (fun _ _ _ _ => Iff.rfl) (fun q => ?_) (fun _ => Iff.rfl)
        · unfold cF
          rw [eF, L1, if_neg (by omega)]
        · rw [eF, L1, if_pos rfl]) g4 (fun z => hF0 (w1.mp z)) (fun r hr => (u1 r hr).2) (fun r hr => (u2 r hr).2) (fun r hr => u3 r (Nat.zero_le r) hr) (fun r hr => u4 r (Nat.zero_le r) hr)
      refine ⟨by rw [hcond]; exact hc, h40, (show pF x ≤ 1000 by omega), (show pM x ≤ 1000 by omega), by rw [hI5, hcond]; exact J6, by rw [hI5]; exact J7, ?_, ?_, ?_⟩
      · rw [hI5, J8, Nat.min_eq_right (by omega)]; rfl
      · rw [hI5, J9, Nat.min_eq_right (by omega)]; rfl
      · rw [hcond, eP, eT]
        exact key
    · rw [f5.2.2.2.2.1 (s + 3) (by omega), L0 (s + 3) (by omega) (by omega)]
      exact g3 e t he q hq4
  · rw [if_neg h40] at h10
    refine ⟨_, ?_, fr4, I0 4 (by omega), I0 6 (by omega), wx, J8, J10, fun h => absurd h h40⟩
    rw [ze_Bu_finish]
    unfold zx_Bu_finish
    clear fr4 L0 L1 L3 I0 J6 J7 J8 J9 J10 B3 B4 hok hx
    simp (disch := omega) only [il, nI_add, nI_mul, nI_sub, nI_div, nI_rem, nI_N, i32_lt, i32_le, nI_toInt, nI_subI, nI_clamp, zinT, zifT, iteT, iteF, zQ, zS, zkc, zI_sI, zL_sL, zI_wI, zL_wL, Nat.reduceEqDiff, Nat.reduceAdd, Nat.reduceMul, Nat.reduceLT, Nat.reduceLeDiff, reduceIte, eq_self, and_self, true_and, and_true, false_and, and_false, true_or, or_true, or_false, false_or, not_true_eq_false, not_false_eq_true, zarr, ne_eq, a1, a2, a3, a5, a6, a7, a8, a10, a11, B1, k1, k2, r1, h5, h10]
