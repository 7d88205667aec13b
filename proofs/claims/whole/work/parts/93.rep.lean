/-! the class repeats a piece: the rows -/
theorem cp_at {P0 : Int64} {lo W n i q : Nat} (hpl : ∀ q, zb P0 q = true → 1 ≤ q ∧ q < lo + W) (hW : 1 ≤ W) (hX : lo + n * W ≤ 41) (hi : i < n) (h1 : lo ≤ q) (h2 : q < lo + W) : zb (cpP P0 (P0 &&& blk lo W) W (n - 1)) (q + i * W) = true ↔ zb P0 q = true := by
  have hin : i * W + W ≤ n * W := by
    have := Nat.mul_le_mul_right W (show i + 1 ≤ n from hi)
    rw [Nat.add_mul, Nat.one_mul] at this
    exact this
  have hn1 : (n - 1) * W ≤ n * W := Nat.mul_le_mul_right W (by omega)
  rw [zb_cpP (by omega) (by omega)]
  constructor
  · rintro (h | ⟨j, j1, j2, j3, j4⟩)
    · have := hpl _ h
      have hi0 : i = 0 := by
        cases i with
        | zero => rfl
        | succ i =>
          have := Nat.le_mul_of_pos_left W (show 0 < i + 1 by omega)
          omega
      subst hi0
      rwa [Nat.zero_mul, Nat.add_zero] at h
    · rw [zb_and, Bool.and_eq_true] at j4
      have hb := (zb_blk (lo := lo) (W := W) (by omega) (by omega)).mp j4.2
      have hij : i = j := mul_uniq (W := W) (q := q - lo + i * W) (by omega) (by omega) (by omega) (by omega)
      subst hij
      rw [Nat.add_sub_cancel] at j4
      exact j4.1
  · intro h
    cases i with
    | zero => rw [Nat.zero_mul, Nat.add_zero]; exact Or.inl h
    | succ i =>
      refine Or.inr ⟨i + 1, by omega, by omega, by omega, ?_⟩
      rw [Nat.add_sub_cancel, zb_and, h, Bool.true_and]
      exact (zb_blk (by omega) (by omega)).mpr ⟨h1, h2⟩
theorem cp_lo {P0 : Int64} {lo W n q : Nat} (hX : lo + n * W ≤ 41) (hW : 1 ≤ W) (hn : 1 ≤ n) (h1 : q < lo) : zb (cpP P0 (P0 &&& blk lo W) W (n - 1)) q = true ↔ zb P0 q = true := by
  have hn1 : (n - 1) * W ≤ n * W := Nat.mul_le_mul_right W (by omega)
  have hW2 : W ≤ n * W := Nat.le_mul_of_pos_left W hn
  rw [zb_cpP (by omega) (by omega)]
  constructor
  · rintro (h | ⟨j, j1, j2, j3, j4⟩)
    · exact h
    · rw [zb_and, Bool.and_eq_true] at j4
      have hb := (zb_blk (lo := lo) (W := W) (by omega) (by omega)).mp j4.2
      omega
  · exact Or.inl
theorem cp_b {P0 : Int64} {lo W n q : Nat} (hpl : ∀ q, zb P0 q = true → 1 ≤ q ∧ q < lo + W) (hX : lo + n * W ≤ 41) (hlo : 1 ≤ lo) (hn : 1 ≤ n) (h : zb (cpP P0 (P0 &&& blk lo W) W (n - 1)) q = true) : 1 ≤ q ∧ q < lo + n * W := by
  have hn1 : (n - 1) * W + W = n * W := by
    rw [show n * W = (n - 1 + 1) * W by rw [show n - 1 + 1 = n by omega], Nat.add_mul, Nat.one_mul]
  have hq : q < 64 := by
    apply Classical.byContradiction
    intro hq
    rw [zb_big (by omega)] at h
    exact absurd h Bool.false_ne_true
  rw [zb_cpP hq (by omega)] at h
  rcases h with h | ⟨j, j1, j2, j3, j4⟩
  · have := hpl q h
    omega
  · rw [zb_and, Bool.and_eq_true] at j4
    have hb := (zb_blk (lo := lo) (W := W) (by omega) (by omega)).mp j4.2
    have := Nat.mul_le_mul_right W j2
    omega
theorem Fr_times {f0 f2 f3 P0 P2 TT : Nat → Int64} {b0 e0 e3 : Int64} {c lo W n m ls : Nat} {Lg : List Nat → Prop}
    (hf : Fr (fun q r => zb (f0 q) r = true) (fun q v => v < 256 ∧ ∃ e, e < c ∧ zb (P0 e) q = true ∧ ful TT e v = true) lo W (zB b0) (zB e0) Lg)
    (hpl : ∀ e q, e < c → zb (P0 e) q = true → 1 ≤ q ∧ q < lo + W) (h2a : ∀ q, q < lo + W → f2 q = f0 q) (h2b : ∀ q j, 1 ≤ j → j < n → lo ≤ q → q < lo + W → f2 (q + j * W) = sh (f0 q) (j * W))
    (h2p : ∀ e, e < c → P2 e = cpP (P0 e) (P0 e &&& blk lo W) W (n - 1))
    (h3 : ∀ q r, q < lo + n * W → (zb (f3 q) r = true ↔ zb (f2 q) r = true ∨ ∃ i, i + 1 < n ∧ zb (sh e0 (i * W)) q = true ∧ zb (sh b0 ((i + 1) * W)) r = true))
    (he : ∀ r, zb e3 r = true ↔ ∃ i, i < n ∧ ls ≤ i + 1 ∧ zb (sh e0 (i * W)) r = true)
    (hlo : 1 ≤ lo) (hW : 1 ≤ W) (hn : 1 ≤ n) (hmn : m ≤ n) (hX : lo + n * W ≤ 41) (hl : 1 ≤ ls) (hl1 : Lg [] → ls = 1) (hl2 : ¬ Lg [] → ls = max 1 m) :
    Fr (fun q r => zb (f3 q) r = true) (fun q v => v < 256 ∧ ∃ e, e < c ∧ zb (P2 e) q = true ∧ ful TT e v = true) lo (n * W) (zB b0) (zB e3) (lrep Lg m n) ∧ (∀ q r, q < lo → (zb (f0 q) r = true ↔ zb (f3 q) r = true)) ∧ (∀ q v, q < lo → ((v < 256 ∧ ∃ e, e < c ∧ zb (P0 e) q = true ∧ ful TT e v = true) ↔ (v < 256 ∧ ∃ e, e < c ∧ zb (P2 e) q = true ∧ ful TT e v = true))) ∧ ∀ e q, e < c → zb (P2 e) q = true → 1 ≤ q ∧ q < lo + n * W := by
  have hW2 : W ≤ n * W := Nat.le_mul_of_pos_left W hn
  have hiW : ∀ i, i < n → i * W + W ≤ n * W := by
    intro i hi
    have := Nat.mul_le_mul_right W (show i + 1 ≤ n from hi)
    rw [Nat.add_mul, Nat.one_mul] at this
    exact this
  have hEs : ∀ i, i < n → ∀ q, zb (sh e0 (i * W)) q = true ↔ ∃ q0, q = q0 + i * W ∧ zb e0 q0 = true := fun i hi q => zb_sh (by have := hiW i hi; omega) (fun q0 h0 => by have := hf.2.1 q0 h0; have := hiW i hi; omega)
  have hBs : ∀ i, i < n → ∀ q, zb (sh b0 (i * W)) q = true ↔ ∃ q0, q = q0 + i * W ∧ zb b0 q0 = true := fun i hi q => zb_sh (by have := hiW i hi; omega) (fun q0 h0 => by have := hf.1 q0 h0; have := hiW i hi; omega)
  refine ⟨?_, fun q r hq => ?_, fun q v hq => ?_, fun e q hec hz => ?_⟩
  · have key := Fr_repC (F := fun q r => zb (f3 q) r = true) (F0 := fun q r => zb (f2 q) r = true) (T := fun q v => v < 256 ∧ ∃ e, e < c ∧ zb (P2 e) q = true ∧ ful TT e v = true) (lo := lo) (len := W) (m := m) (n := n) (least := ls) (Lg := Lg) (B := fun i => zB (sh b0 (i * W))) (E := fun i => zB (sh e0 (i * W))) hn hmn hl hl1 hl2 (by
      intro i hi
      have hi2 := hiW i hi
      refine hf.shift (s := i * W) (fun q r a1 a2 => ?_) (fun q v a1 a2 => ?_) (fun q => hBs i hi q) (fun q => hEs i hi q)
      · have hrow : f2 (q + i * W) = sh (f0 q) (i * W) := by
          cases i with
          | zero => rw [Nat.zero_mul, Nat.add_zero, sh_0]; exact h2a q a2
          | succ i => exact h2b q (i + 1) (by omega) hi a1 a2
        rw [hrow]
        exact zb_sh (by omega) (fun r0 h0 => by have := hf.2.2.1 q r0 a1 a2 h0; omega)
      · constructor
        · rintro ⟨hv, e, x1, x2, x3⟩
          rw [h2p e x1, cp_at (fun q => hpl e q x1) hW hX hi a1 a2] at x2
          exact ⟨hv, e, x1, x2, x3⟩
        · rintro ⟨hv, e, x1, x2, x3⟩
          refine ⟨hv, e, x1, ?_, x3⟩
          rw [h2p e x1, cp_at (fun q => hpl e q x1) hW hX hi a1 a2]
          exact x2) (by
      intro i hi q r a1 a2
      have hi2 := hiW i hi
      rw [Nat.add_mul, Nat.one_mul] at a2
      show zb (f3 q) r = true ↔ zb (f2 q) r = true ∨ (i + 1 < n ∧ zb (sh e0 (i * W)) q = true ∧ zb (sh b0 ((i + 1) * W)) r = true)
      rw [h3 q r (by omega)]
      constructor
      · rintro (h | ⟨j, j1, j2, j3⟩)
        · exact Or.inl h
        · obtain ⟨q0, y1, y2⟩ := (hEs j (by omega) q).mp j2
          have := hf.2.1 q0 y2
          have hij : i = j := mul_uniq (W := W) (q := q - lo) (by omega) (by omega) (by omega) (by omega)
          subst hij
          exact Or.inr ⟨j1, j2, j3⟩
      · rintro (h | h)
        · exact Or.inl h
        · exact Or.inr ⟨i, h⟩)
    refine key.congr (fun _ _ _ _ => Iff.rfl) (fun _ _ _ _ => Iff.rfl) (fun q => ?_) (fun q => ?_)
    · show zb (sh b0 (0 * W)) q = true ↔ zb b0 q = true
      rw [Nat.zero_mul, sh_0]
    · exact (he q).symm
  · rw [h3 q r (by omega), h2a q (by omega)]
    constructor
    · exact Or.inl
    · rintro (h | ⟨j, j1, j2, j3⟩)
      · exact h
      · obtain ⟨q0, y1, y2⟩ := (hEs j (by omega) q).mp j2
        have := hf.2.1 q0 y2
        omega
  · constructor
    · rintro ⟨hv, e, x1, x2, x3⟩
      exact ⟨hv, e, x1, by rw [h2p e x1, cp_lo hX hW hn hq]; exact x2, x3⟩
    · rintro ⟨hv, e, x1, x2, x3⟩
      rw [h2p e x1, cp_lo hX hW hn hq] at x2
      exact ⟨hv, e, x1, x2, x3⟩
  · rw [h2p e hec] at hz
    exact cp_b (fun q => hpl e q hec) hX hlo hn hz
theorem bu_repeat {d L w s mm n : Nat} {M : zM} {m : List Pc} {a : Pc} (hd : 3 ≤ d) (hs : zSh L w M) (hq : zSeq M s) (hs26 : 26 ≤ s) (hB : Bst s (m ++ [a]) M) (hl : m.length < 19) (hn1 : 1 ≤ n) (hn : n ≤ 9) (hmn : mm ≤ n) : ∃ M', zV d n_Bu_repeat [.ref 8, .int (nI mm), .int (nI n)] M = some (none, M') ∧ fBu s M M' ∧ zI M' 4 = zI M 4 ∧ zI M' 6 = zI M 6 ∧ Bst s (m ++ [rpP mm n a]) M' := by
  obtain ⟨d, rfl, hd1⟩ := zdep hd
  have kb := kB_of hs
  have kb0 := kb
  obtain ⟨a1, a2, a3, a4, a5, a6, a7, a8, a9, a10, a11⟩ := kb
  have k1 := hq.1
  obtain ⟨B1, B2, B3, B4, p, c, hp, hc, h7, h6, h10, hok⟩ := hB
  have ha := B4 (m.length, a) (by rw [en_1]; simp)
  have wa := B3 a (by simp)
  have hm0 : ∀ y, y ∈ m → wfp y := fun y hy => B3 y (List.mem_append_left _ hy)
  have hm4 : ∀ y, y ∈ en 0 m → bN M y.1 y.2 := fun y hy => B4 y (by rw [en_1]; exact List.mem_append_left _ hy)
  have hlen : (m ++ [a]).length = m.length + 1 := by rw [List.length_append]; rfl
  rw [hlen] at B2
  have t1 : tot (m ++ [a]) = tot m + pN a := by rw [tot_app, tot_1]
  have t2 : tot (m ++ [rpP mm n a]) = tot m + n * pN a := by rw [tot_app, tot_1]; rfl
  have c1 : cds (m ++ [rpP mm n a]) = cds (m ++ [a]) := by rw [cds_app, cds_1, cds_app, cds_1]; rfl
  rw [t1] at h10 hok
  have hnN : pN a ≤ n * pN a := Nat.le_mul_of_pos_left (pN a) hn1
  have hWn : pN a + pN a * (n - 1) = n * pN a := by
    rw [show n * pN a = (n - 1 + 1) * pN a by rw [show n - 1 + 1 = n by omega], Nat.add_mul, Nat.one_mul, Nat.mul_comm (pN a), Nat.add_comm]
  have hk1 : m.length + 1 - 1 = m.length := by omega
  have eF : min 1000 (min 1000 (pF a) * mm) = min 1000 (pF (rpP mm n a)) := by
    show _ = min 1000 (mm * pF a)
    rw [Nat.mul_comm mm]
    rcases min_c (pF a) with ⟨x1, x2⟩ | ⟨x1, x2⟩
    · rw [x2]
    · rw [x2]
      cases mm with
      | zero => rw [Nat.mul_zero, Nat.mul_zero]
      | succ y =>
        have := Nat.mul_le_mul x1 (show 1 ≤ y + 1 by omega)
        have := Nat.mul_le_mul (Nat.le_refl 1000) (show 1 ≤ y + 1 by omega)
        omega
  have eM : min 1000 (min 1000 (pM a) * n) = min 1000 (pM (rpP mm n a)) := by
    show _ = min 1000 (n * pM a)
    rw [Nat.mul_comm n]
    rcases min_c (pM a) with ⟨x1, x2⟩ | ⟨x1, x2⟩
    · rw [x2]
    · rw [x2]
      have := Nat.mul_le_mul x1 hn1
      have := Nat.mul_le_mul (Nat.le_refl 1000) hn1
      omega
  -- behind the copies: the two numbers
  have fin : ∀ M2 : zM, zN M2 = zN M → zK M2 = zK M → zR M2 = zR M → (∀ b, b ≠ s → zI M2 b = zI M b) → (∀ b, b ≠ 10 → b ≠ s + 1 → b ≠ s + 2 → zL M2 b = zL M b) → zV (d + 1) n_Bu_repeat [.ref 8, .int (nI mm), .int (nI n)] M = zG d n_Bu_repeat 77 [some (.ref 8), some (.int (nI mm)), some (.int (nI n)), some (.int (nI m.length)), none] [] M2 → (∃ p c, p ≤ 40 ∧ c ≤ 40 ∧ zI M2 s 7 = nI p ∧ zI M2 s 6 = nI c ∧ zI M2 s 10 = nI (if tot m + n * pN a ≤ 40 then 0 else 1) ∧ (tot m + n * pN a ≤ 40 → Bok s (m ++ [rpP mm n a]) M2 p c)) → ∃ M', zV (d + 1) n_Bu_repeat [.ref 8, .int (nI mm), .int (nI n)] M = some (none, M') ∧ fBu s M M' ∧ zI M' 4 = zI M 4 ∧ zI M' 6 = zI M 6 ∧ Bst s (m ++ [rpP mm n a]) M' := by
    intro M2 g1 g2 g3 g4 g5 g6 g7
    have kb2 : kB M2 := by unfold kB; rw [g2, g3]; exact kb0
    have e := bu_r77 (d := d) (M := M2) (k := m.length) (m := mm) (n := n) kb2 hl (by omega) hn (Nat.min_le_left 1000 (pF a)) (Nat.min_le_left 1000 (pM a)) (by rw [g4 12 (by omega)]; exact ha.1) (by rw [g4 13 (by omega)]; exact ha.2)
    rw [eF, eM] at e
    have I0 : ∀ z, z ≠ 12 → z ≠ 13 → zI (zsI (zsI M2 12 m.length (nI (min 1000 (pF (rpP mm n a))))) 13 m.length (nI (min 1000 (pM (rpP mm n a))))) z = zI M2 z := fun z x1 x2 => (zI_ne x2).trans (zI_ne x1)
    refine ⟨_, g6.trans e, ⟨g1, g2, g3, fun b x1 x2 x3 x4 x5 x6 x7 => (I0 b x5 x6).trans (g4 b x7), ?_, fun b x1 x2 x3 x4 x5 x6 x7 => g5 b x3 x5 x6⟩, (I0 4 (by omega) (by omega)).trans (g4 4 (by omega)), (I0 6 (by omega) (by omega)).trans (g4 6 (by omega)), ?_⟩
    · rw [I0 4 (by omega) (by omega), g4 4 (by omega)]
    · obtain ⟨p', c', y1, y2, y3, y4, y5, y6⟩ := g7
      refine ⟨by show zR M2 8 6 = some s; rw [g3]; exact B1, ?_, wf_app hm0 (wf_rp wa hn1 hmn), bN_app (M := M) hm4 (fun j hj => ⟨?_, ?_⟩) ⟨?_, ?_⟩, p', c', y1, y2, ?_, ?_, ?_, fun ht => ?_⟩
      · rw [I0 8 (by omega) (by omega), g4 8 (by omega), B2, List.length_append]; rfl
      · simp (disch := omega) only [zL_sL, zI_sI, zS, iteF, iteT, eq_self, and_self, true_and, and_true, false_and, and_false, if_true, if_false, reduceIte, Nat.reduceEqDiff, g4 12 (show 12 ≠ s by omega)]
      · simp (disch := omega) only [zL_sL, zI_sI, zS, iteF, iteT, eq_self, and_self, true_and, and_true, false_and, and_false, if_true, if_false, reduceIte, Nat.reduceEqDiff, g4 13 (show 13 ≠ s by omega)]
      · simp (disch := omega) only [zL_sL, zI_sI, zS, iteF, iteT, eq_self, and_self, true_and, and_true, false_and, and_false, if_true, if_false, reduceIte, Nat.reduceEqDiff]
      · simp (disch := omega) only [zL_sL, zI_sI, zS, iteF, iteT, eq_self, and_self, true_and, and_true, false_and, and_false, if_true, if_false, reduceIte, Nat.reduceEqDiff]
      · rw [I0 s (by omega) (by omega)]; exact y3
      · rw [I0 s (by omega) (by omega)]; exact y4
      · rw [I0 s (by omega) (by omega), t2]; exact y5
      · rw [t2] at ht
        have h11 : zI (zsI (zsI M2 12 m.length (nI (min 1000 (pF (rpP mm n a))))) 13 m.length (nI (min 1000 (pM (rpP mm n a))))) 11 = zI M2 11 := I0 11 (by omega) (by omega)
        have := y6 ht
        unfold Bok cF cT at this ⊢
        rw [h11]
        exact this
  by_cases hov : tot m + pN a ≤ 40
  · obtain ⟨g1, g2, g3, g4, g5⟩ := hok hov
    rw [t1] at g1
    subst g1
    rw [if_pos hov] at h10
    rw [en_1] at g5
    obtain ⟨g6, g7, g8, -⟩ := Stk_app.mp g5
    have hW' : tot m + pN a - (1 + tot m) + 1 = pN a := by have := wa.2.2.2.1; omega
    have g7' : Fr (cF M s) (cT M s c) (1 + tot m) (pN a) (zB (zL M 9 m.length)) (zB (zL M 10 m.length)) (pL a) := g7
    have g8' : zI M 11 m.length = nI (1 + tot m) := g8
    by_cases hbig : tot m + n * pN a ≤ 40
    · obtain ⟨M2, e2, f1, f2, f3, f4, f5, f6, f7, f8, f9, f10⟩ := se_copyBlock (d := d) (lo := 1 + tot m) (W := pN a) (n := n) (by omega) hq hs26 hc h6 h7 (by omega) wa.2.2.2.1 hn1 hn (by omega)
      obtain ⟨M3, e3, j1, j2, j3, j4, j5, j6, j7, j8⟩ := bu_chainCopies (d := d) (k := m.length) (p := tot m + pN a + pN a * (n - 1)) (n := n) (m := mm) (W := pN a) (M := M2) (by omega) (by unfold kB; rw [f2, f3]; exact kb0) (by rw [f3]; exact B1) (zSeq_fr hq f2 f3) hs26 (by omega) f6 hl hn (by omega) (by omega) (by omega) (Nat.min_le_left 1000 (pF a)) (by rw [f4 12 (by omega)]; exact ha.1)
      refine fin M3 (j1.trans f1) (j2.trans f2) (j3.trans f3) (fun b hb => by rw [j4]; exact f4 b hb) (fun b x1 x2 x3 => (j5 b x1 x2).trans (f7 b x2 x3)) ?_ ⟨tot m + n * pN a, c, hbig, hc, by rw [j4, f6]; congr 1; omega, by rw [j4, f5 6 (by omega)]; exact h6, by rw [j4, f5 10 (by omega), if_pos hbig]; exact h10, fun _ => ⟨t2.symm, by rw [c1]; exact g2, ?_, ?_, ?_⟩⟩
      · rw [ze_Bu_repeat]
        unfold zx_Bu_repeat
        have k81 : zK M2 8 = (1, 7) := by rw [f2]; exact a1
        have ks : zK M2 s = (4, 11) := by rw [f2]; exact k1
        have r8 : zR M2 8 6 = some s := by rw [f3]; exact B1
        have i10 : zI M2 s 10 = nI 0 := by rw [f5 10 (by omega)]; exact h10
        clear fin f1 f2 f3 f4 f5 f6 f7 f8 f9 f10 j1 j2 j3 j4 j5 j6 j7 j8 g3 g4 g5 g6 g7 g7' hok B3 B4 hm0 hm4
        simp (disch := omega) only [il, nI_add, nI_mul, nI_sub, nI_div, nI_rem, nI_N, i32_lt, i32_le, nI_toInt, nI_subI, nI_clamp, zinT, zifT, iteT, iteF, zQ, zS, zkc, zI_sI, zL_sL, zI_wI, zL_wL, Nat.reduceEqDiff, Nat.reduceAdd, Nat.reduceMul, Nat.reduceLT, Nat.reduceLeDiff, reduceIte, eq_self, and_self, true_and, and_true, false_and, and_false, true_or, or_true, or_false, false_or, not_true_eq_false, not_false_eq_true, zarr, ne_eq, a1, a4, a9, B1, k1, B2, hk1, h7, g8', hW', h10, e2, k81, ks, r8, i10, e3]
      · intro e t he q hq4
        rw [c1] at he
        rw [j5 (s + 3) (by omega) (by omega), f7 (s + 3) (by omega) (by omega)]
        exact g3 e t he q hq4
      all_goals
        have hT3 : zL M3 (s + 3) = zL M (s + 3) := (j5 (s + 3) (by omega) (by omega)).trans (f7 (s + 3) (by omega) (by omega))
        have hP3 : zL M3 (s + 2) = zL M2 (s + 2) := j5 (s + 2) (by omega) (by omega)
        have h9a : zL M2 9 = zL M 9 := f7 9 (by omega) (by omega)
        have h10a : zL M2 10 = zL M 10 := f7 10 (by omega) (by omega)
        have hls : 1 ≤ (if min 1000 (pF a) = 0 then 1 else max 1 mm) := by split <;> omega
        obtain ⟨r1, r2, r3, r4⟩ := Fr_times (f0 := zL M (s + 1)) (f2 := zL M2 (s + 1)) (f3 := zL M3 (s + 1)) (P0 := zL M (s + 2)) (P2 := zL M3 (s + 2)) (TT := zL M (s + 3)) (b0 := zL M 9 m.length) (e0 := zL M 10 m.length) (e3 := zL M3 10 m.length) (c := c) (lo := 1 + tot m) (W := pN a) (n := n) (m := mm) (ls := if min 1000 (pF a) = 0 then 1 else max 1 mm) (Lg := pL a) g7' (fun e q x1 x2 => by have := g4 e q x1 x2; omega) (fun q x => f8 q (by omega)) (fun q j x1 x2 x3 x4 => f9 q j x1 x2 x3 (by omega)) (fun e he => by rw [hP3]; exact f10 e he) (fun q r x => by rw [j8 q r (by omega), h9a, h10a]) (fun r => by rw [j7 r, h10a]) (by omega) wa.2.2.2.1 hn1 hmn (by omega) hls (fun h => by rw [wa.1.mp h]; rfl) (fun h => if_neg (fun z => h (wa.1.mpr (by omega))))
      · intro e q he hz
        have := r4 e q he hz
        omega
      · have hFF : cF M3 s = fun q r => zb (zL M3 (s + 1) q) r = true := rfl
        have hTT : cT M3 s c = fun q v => v < 256 ∧ ∃ e, e < c ∧ zb (zL M3 (s + 2) e) q = true ∧ ful (zL M (s + 3)) e v = true := by unfold cT; rw [hT3]
        have h113 : zI M3 11 = zI M 11 := by rw [j4]; exact f4 11 (by omega)
        have h93 : zL M3 9 = zL M 9 := (j5 9 (by omega) (by omega)).trans h9a
        rw [en_1, hTT, h113, h93]
        refine Stk_app.mpr ⟨Stk_congr g6 (fun q r x1 x2 => r2 q r x2) (fun q v x1 x2 => r3 q v x2) (fun y hy => ?_), r1, g8', trivial⟩
        have := en_mem hy
        exact ⟨rfl, by rw [j6 y.1 (by omega), h10a], rfl⟩
    · have e2 := se_copyBlock_o (d := d) (lo := 1 + tot m) (W := pN a) (n := n) (by omega) hq h7 (by omega) wa.2.2.2.1 (by omega) hn1 hn (by omega)
      have i10 : zI (zsI M s 10 (nI 1)) s 10 = nI 1 := by rw [zI_sI, if_pos ⟨rfl, rfl⟩]
      refine fin (zsI M s 10 (nI 1)) rfl rfl rfl (fun b hb => zI_ne hb) (fun b _ _ _ => rfl) ?_ ⟨tot m + pN a, c, hp, hc, by simp (disch := omega) only [zL_sL, zI_sI, zS, iteF, iteT, eq_self, and_self, true_and, and_true, false_and, and_false, if_true, if_false, reduceIte, Nat.reduceEqDiff, h7], by simp (disch := omega) only [zL_sL, zI_sI, zS, iteF, iteT, eq_self, and_self, true_and, and_true, false_and, and_false, if_true, if_false, reduceIte, Nat.reduceEqDiff, h6], by rw [i10, if_neg hbig], fun h => absurd h hbig⟩
      rw [ze_Bu_repeat]
      unfold zx_Bu_repeat
      clear fin g3 g4 g5 g6 g7 g7' hok B3 B4 hm0 hm4
      simp (disch := omega) only [il, nI_add, nI_mul, nI_sub, nI_div, nI_rem, nI_N, i32_lt, i32_le, nI_toInt, nI_subI, nI_clamp, zinT, zifT, iteT, iteF, zQ, zS, zkc, zI_sI, zL_sL, zI_wI, zL_wL, Nat.reduceEqDiff, Nat.reduceAdd, Nat.reduceMul, Nat.reduceLT, Nat.reduceLeDiff, reduceIte, eq_self, and_self, true_and, and_true, false_and, and_false, true_or, or_true, or_false, false_or, not_true_eq_false, not_false_eq_true, zarr, ne_eq, a1, a4, a9, B1, k1, B2, hk1, h7, g8', hW', h10, e2, i10]
  · rw [if_neg hov] at h10
    refine fin M rfl rfl rfl (fun _ _ => rfl) (fun _ _ _ _ => rfl) ?_ ⟨p, c, hp, hc, h7, h6, by rw [h10, if_neg (by omega)], fun h => absurd h (by omega)⟩
    rw [ze_Bu_repeat]
    unfold zx_Bu_repeat
    clear fin hok B3 B4 hm0 hm4
    simp (disch := omega) only [il, nI_add, nI_mul, nI_sub, nI_div, nI_rem, nI_N, i32_lt, i32_le, nI_toInt, nI_subI, nI_clamp, zinT, zifT, iteT, iteF, zQ, zS, zkc, zI_sI, zL_sL, zI_wI, zL_wL, Nat.reduceEqDiff, Nat.reduceAdd, Nat.reduceMul, Nat.reduceLT, Nat.reduceLeDiff, reduceIte, eq_self, and_self, true_and, and_true, false_and, and_false, true_or, or_true, or_false, false_or, not_true_eq_false, not_false_eq_true, zarr, ne_eq, a1, a4, a9, B1, k1, B2, hk1, h7, h10]
