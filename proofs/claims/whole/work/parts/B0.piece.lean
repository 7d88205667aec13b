/-! the reference's pieces of sequences -/
def qC (M : zM) (sd r : Nat) : Nat := Int32.toNatClampNeg (zI M 148 (45 * sd + 5 + r))
def qF (M : zM) (sd : Nat) : Nat → Nat → Prop := fun q r => zb (zL M 150 (203 * sd + 3 + q)) r = true
def qTb (M : zM) (sd : Nat) : Nat → Int64 := fun k => zL M 150 (203 * sd + 43 + k)
def qT (M : zM) (sd : Nat) : Nat → Nat → Prop := fun q v => v < 256 ∧ ful (qTb M sd) (qC M sd q) v = true
def qN (M : zM) (j : Nat) (x : Pc) : Prop := zI M 169 j = nI (if pF x = 0 then 1 else 0) ∧ zI M 170 j = nI (min 1000000 (pN x)) ∧ zI M 171 j = nI (min 1000000 (pF x)) ∧ zI M 172 j = nI (min 1000000 (pM x))
def qS (M : zM) (sd lo : Nat) (m : IP) : Prop := Stk (qF M sd) (qT M sd) (zL M 167) (zL M 168) (zI M 166) lo m
def Qok (sd : Nat) (m : IP) (M : zM) (p c : Nat) : Prop := p = tt m ∧ c = (cc m).length ∧ (∀ e t, (cc m)[e]? = some t → ∀ q, q < 4 → qTb M sd (4 * e + q) = t q) ∧ (∀ r, r < p → ∃ e, e < c ∧ zI M 148 (45 * sd + 5 + r) = nI e) ∧ (∀ r, p ≤ r → r < 40 → zL M 150 (203 * sd + 3 + r) = 0) ∧ qS M sd 0 m
/-- the reference has the pieces m, one behind another -/
def Qst (sd : Nat) (m : IP) (M : zM) : Prop := zI M 146 38 = nI sd ∧ (∀ y, y ∈ m → wfp y.2 ∧ qN M y.1 y.2) ∧ ∃ p c, p ≤ 40 ∧ c ≤ 40 ∧ zI M 148 (45 * sd) = nI p ∧ zI M 148 (45 * sd + 1) = nI c ∧ zI M 146 39 = nI (if tt m ≤ 40 then 0 else 1) ∧ (tt m ≤ 40 → Qok sd m M p c)
def fPc (sd : Nat) (M M' : zM) : Prop := zN M' = zN M ∧ zK M' = zK M ∧ zR M' = zR M ∧ (∀ b, b ≠ 146 → b ≠ 148 → b ≠ 166 → b ≠ 169 → b ≠ 170 → b ≠ 171 → b ≠ 172 → b ≠ 173 → zI M' b = zI M b) ∧ (∀ j, j ≠ 39 → zI M' 146 j = zI M 146 j) ∧ (∀ j, (j < 45 * sd ∨ 45 * sd + 45 ≤ j) → zI M' 148 j = zI M 148 j) ∧ (∀ b, b ≠ 150 → b ≠ 167 → b ≠ 168 → zL M' b = zL M b) ∧ ∀ j, (j < 203 * sd ∨ 203 * sd + 203 ≤ j) → zL M' 150 j = zL M 150 j
theorem fPc_rfl (sd : Nat) (M : zM) : fPc sd M M := ⟨rfl, rfl, rfl, fun _ _ _ _ _ _ _ _ _ => rfl, fun _ _ => rfl, fun _ _ => rfl, fun _ _ _ _ => rfl, fun _ _ => rfl⟩
theorem fPc.trans {sd : Nat} {M M1 M2 : zM} (h : fPc sd M M1) (g : fPc sd M1 M2) : fPc sd M M2 := by
  obtain ⟨a1, a2, a3, a4, a5, a6, a7, a8⟩ := h
  obtain ⟨b1, b2, b3, b4, b5, b6, b7, b8⟩ := g
  exact ⟨b1.trans a1, b2.trans a2, b3.trans a3, fun b h1 h2 h3 h4 h5 h6 h7 h8 => (b4 b h1 h2 h3 h4 h5 h6 h7 h8).trans (a4 b h1 h2 h3 h4 h5 h6 h7 h8), fun j h => (b5 j h).trans (a5 j h), fun j h => (b6 j h).trans (a6 j h), fun b h1 h2 h3 => (b7 b h1 h2 h3).trans (a7 b h1 h2 h3), fun j h => (b8 j h).trans (a8 j h)⟩
theorem cc_le : ∀ {m : IP}, (∀ y, y ∈ m → wfp y.2) → (cc m).length ≤ tt m
  | [], _ => Nat.le_refl 0
  | y :: l, h => by
    show (pC y.2 ++ cc l).length ≤ pN y.2 + tt l
    rw [List.length_append]
    have h1 := (h y (List.mem_cons_self ..)).2.2.2.2
    have h2 := cc_le (m := l) (fun z hz => h z (List.mem_cons_of_mem y hz))
    omega
theorem get_lt {α : Type} {l : List α} {e : Nat} {t : α} (h : l[e]? = some t) : e < l.length := by
  obtain ⟨h1, _⟩ := List.getElem?_eq_some_iff.mp h
  exact h1
theorem Qst_rep {sd : Nat} {m a a' : IP} {M M' : zM} (h : Qst sd (m ++ a) M) (e38 : zI M' 146 38 = zI M 146 38) (e39 : zI M' 146 39 = zI M 146 39) (e148 : zI M' 148 = zI M 148) (ht : tt a' = tt a) (hc : cc a' = cc a) (hn : ∀ y, y ∈ a' → wfp y.2 ∧ qN M' y.1 y.2)
    (hm : ∀ y, y ∈ m → (∀ b, 166 ≤ b → b ≤ 172 → zI M' b y.1 = zI M b y.1) ∧ zL M' 167 y.1 = zL M 167 y.1 ∧ zL M' 168 y.1 = zL M 168 y.1) (hT : ∀ k, k < 160 → qTb M' sd k = qTb M sd k) (hB : ∀ r, tt (m ++ a) ≤ r → r < 40 → zL M' 150 (203 * sd + 3 + r) = zL M 150 (203 * sd + 3 + r))
    (hS : tt (m ++ a) ≤ 40 → qS M sd (tt m) a → (∀ q v, q < tt (m ++ a) → (qT M sd q v ↔ qT M' sd q v)) → (∀ q r, q < tt m → (qF M sd q r ↔ qF M' sd q r)) ∧ qS M' sd (tt m) a') : Qst sd (m ++ a') M' := by
  obtain ⟨h1, h2, p, c, hp, hc40, i0, i1, i39, hok⟩ := h
  have t1 : tt (m ++ a') = tt (m ++ a) := by rw [tt_app, tt_app, ht]
  have c1 : cc (m ++ a') = cc (m ++ a) := by rw [cc_app, cc_app, hc]
  refine ⟨e38.trans h1, ?_, p, c, hp, hc40, by rw [e148]; exact i0, by rw [e148]; exact i1, by rw [e39, t1]; exact i39, fun hle => ?_⟩
  · intro y hy
    rcases List.mem_append.mp hy with hy | hy
    · obtain ⟨w1, n1⟩ := h2 y (List.mem_append_left _ hy)
      obtain ⟨g1, g2, g3⟩ := hm y hy
      refine ⟨w1, ?_⟩
      unfold qN
      rw [g1 169 (by omega) (by omega), g1 170 (by omega) (by omega), g1 171 (by omega) (by omega), g1 172 (by omega) (by omega)]
      exact n1
    · exact hn y hy
  · rw [t1] at hle
    obtain ⟨k1, k2, k3, k4, k5, k6⟩ := hok hle
    have hTT : ∀ q v, q < tt (m ++ a) → (qT M sd q v ↔ qT M' sd q v) := by
      intro q v hq
      obtain ⟨e, he, hz⟩ := k4 q (by omega)
      unfold qT qC
      rw [e148, hz, nI_clamp (by omega)]
      constructor
      · rintro ⟨hv, hf⟩
        refine ⟨hv, ?_⟩
        unfold ful at *
        rw [hT _ (by omega)]
        exact hf
      · rintro ⟨hv, hf⟩
        refine ⟨hv, ?_⟩
        unfold ful at *
        rw [hT _ (by omega)] at hf
        exact hf
    unfold qS at k6
    obtain ⟨s1, s2⟩ := Stk_app.mp k6
    rw [Nat.zero_add] at s2
    obtain ⟨r1, r2⟩ := hS hle s2 hTT
    have ta : tt (m ++ a) = tt m + tt a := tt_app m a
    refine ⟨by rw [t1]; exact k1, by rw [c1]; exact k2, fun e t he q hq => ?_, fun r hr => by rw [e148]; exact k4 r hr, fun r x y => by rw [hB r (by omega) y]; exact k5 r x y, Stk_app.mpr ⟨Stk_congr s1 (fun q r x y => r1 q r (by omega)) (fun q v x y => hTT q v (by omega)) (fun y hy => ?_), by rw [Nat.zero_add]; exact r2⟩⟩
    · rw [c1] at he
      have := get_lt he
      rw [hT _ (by omega)]
      exact k3 e t he q hq
    · obtain ⟨g1, g2, g3⟩ := hm y hy
      exact ⟨g2, g3, g1 166 (by omega) (by omega)⟩
/-! one piece goes elsewhere -/
def tkM (M : zM) (f t : Nat) : zM := zsI (zsI (zsI (zsI (zsI (zsL (zsL (zsI M 166 t (zI M 166 f)) 167 t (zL M 167 f)) 168 t (zL M 168 f)) 169 t (zI M 169 f)) 170 t (zI M 170 f)) 171 t (zI M 171 f)) 172 t (zI M 172 f)) 173 t (nI 1)
/-- one row: an entry goes elsewhere -/
theorem tkI {M : zM} {r c f t n : Nat} {F : zM → zO} (hK : zK M 146 = (11, 52)) (hr : zR M 146 r = some c) (hc : zK M c = (20, n)) (hf : f < n) (ht : t < n) (hn : n < 1000) : (zif ((zK M 146).1 = 11) (zoR (zR M 146 r) fun q1 => zif ((zK M 146).1 = 11) (zoR (zR M 146 r) fun q2 => zif (((zK M q2).1 = 20 ∨ (zK M q2).1 = 24) ∧ zin (nI f) (zK M q2).2 = true) (zif ((zK M q1).1 = 20 ∧ zin (nI t) (zK M q1).2 = true) (zbm (zsI M q1 (Int32.toNatClampNeg (nI t)) (zI M q2 (Int32.toNatClampNeg (nI f)))) F))))) = F (zsI M c t (zI M c f)) := by
  simp (disch := omega) only [il, nI_add, nI_mul, nI_sub, nI_div, nI_rem, nI_N, i32_lt, i32_le, nI_toInt, nI_subI, nI_clamp, zinT, zifT, iteT, iteF, zQ, zS, zkc, zI_sI, zL_sL, zI_wI, zL_wL, Nat.reduceEqDiff, Nat.reduceAdd, Nat.reduceMul, Nat.reduceLT, Nat.reduceLeDiff, reduceIte, eq_self, and_self, true_and, and_true, false_and, and_false, true_or, or_true, or_false, false_or, not_true_eq_false, not_false_eq_true, zarr, ne_eq, hK, hr, hc]
theorem tkL {M : zM} {r c f t n : Nat} {F : zM → zO} (hK : zK M 146 = (11, 52)) (hr : zR M 146 r = some c) (hc : zK M c = (23, n)) (hf : f < n) (ht : t < n) (hn : n < 1000) : (zif ((zK M 146).1 = 11) (zoR (zR M 146 r) fun q1 => zif ((zK M 146).1 = 11) (zoR (zR M 146 r) fun q2 => zif (((zK M q2).1 = 23 ∨ (zK M q2).1 = 25) ∧ zin (nI f) (zK M q2).2 = true) (zif ((zK M q1).1 = 23 ∧ zin (nI t) (zK M q1).2 = true) (zbm (zsL M q1 (Int32.toNatClampNeg (nI t)) (zL M q2 (Int32.toNatClampNeg (nI f)))) F))))) = F (zsL M c t (zL M c f)) := by
  simp (disch := omega) only [il, nI_add, nI_mul, nI_sub, nI_div, nI_rem, nI_N, i32_lt, i32_le, nI_toInt, nI_subI, nI_clamp, zinT, zifT, iteT, iteF, zQ, zS, zkc, zI_sI, zL_sL, zI_wI, zL_wL, Nat.reduceEqDiff, Nat.reduceAdd, Nat.reduceMul, Nat.reduceLT, Nat.reduceLeDiff, reduceIte, eq_self, and_self, true_and, and_true, false_and, and_false, true_or, or_true, or_false, false_or, not_true_eq_false, not_false_eq_true, zarr, ne_eq, hK, hr, hc]
theorem tkB {M : zM} {r c f t n e : Nat} {F : zM → zO} (hK : zK M 146 = (11, 52)) (hr : zR M 146 r = some c) (hc : zK M c = (21, n)) (hf : f < n) (ht : t < n) (hn : n < 1000) (he : zI M c f = nI e) (he2 : e < 2) : (zif ((zK M 146).1 = 11) (zoR (zR M 146 r) fun q7 => zif ((zK M 146).1 = 11) (zoR (zR M 146 r) fun q8 => zif (((zK M q8).1 = 21 ∨ (zK M q8).1 = 22) ∧ zin (nI f) (zK M q8).2 = true) (zbast M q7 (nI t) (zI M q8 (Int32.toNatClampNeg (nI f))) F)))) = F (zsI M c t (zI M c f)) := by
  have : e = 0 ∨ e = 1 := by omega
  rcases this with rfl | rfl
  · simp (disch := omega) only [il, nI_add, nI_mul, nI_sub, nI_div, nI_rem, nI_N, i32_lt, i32_le, nI_toInt, nI_subI, nI_clamp, zinT, zifT, iteT, iteF, zQ, zS, zkc, zI_sI, zL_sL, zI_wI, zL_wL, Nat.reduceEqDiff, Nat.reduceAdd, Nat.reduceMul, Nat.reduceLT, Nat.reduceLeDiff, reduceIte, eq_self, and_self, true_and, and_true, false_and, and_false, true_or, or_true, or_false, false_or, not_true_eq_false, not_false_eq_true, zarr, ne_eq, hK, hr, hc, he, zbast, nar_z0]
  · simp (disch := omega) only [il, nI_add, nI_mul, nI_sub, nI_div, nI_rem, nI_N, i32_lt, i32_le, nI_toInt, nI_subI, nI_clamp, zinT, zifT, iteT, iteF, zQ, zS, zkc, zI_sI, zL_sL, zI_wI, zL_wL, Nat.reduceEqDiff, Nat.reduceAdd, Nat.reduceMul, Nat.reduceLT, Nat.reduceLeDiff, reduceIte, eq_self, and_self, true_and, and_true, false_and, and_false, true_or, or_true, or_false, false_or, not_true_eq_false, not_false_eq_true, zarr, ne_eq, hK, hr, hc, he, zbast, nar_z1]
theorem stB {M : zM} {r c t n e : Nat} {F : zM → zO} (hK : zK M 146 = (11, 52)) (hr : zR M 146 r = some c) (hc : zK M c = (21, n)) (ht : t < n) (hn : n < 1000) (he2 : e < 2) : (zif ((zK M 146).1 = 11) (zoR (zR M 146 r) fun q => zbast M q (nI t) (nI e) F)) = F (zsI M c t (nI e)) := by
  have : e = 0 ∨ e = 1 := by omega
  rcases this with rfl | rfl
  · simp (disch := omega) only [il, nI_add, nI_mul, nI_sub, nI_div, nI_rem, nI_N, i32_lt, i32_le, nI_toInt, nI_subI, nI_clamp, zinT, zifT, iteT, iteF, zQ, zS, zkc, zI_sI, zL_sL, zI_wI, zL_wL, Nat.reduceEqDiff, Nat.reduceAdd, Nat.reduceMul, Nat.reduceLT, Nat.reduceLeDiff, reduceIte, eq_self, and_self, true_and, and_true, false_and, and_false, true_or, or_true, or_false, false_or, not_true_eq_false, not_false_eq_true, zarr, ne_eq, hK, hr, hc, zbast, nar_z0]
  · simp (disch := omega) only [il, nI_add, nI_mul, nI_sub, nI_div, nI_rem, nI_N, i32_lt, i32_le, nI_toInt, nI_subI, nI_clamp, zinT, zifT, iteT, iteF, zQ, zS, zkc, zI_sI, zL_sL, zI_wI, zL_wL, Nat.reduceEqDiff, Nat.reduceAdd, Nat.reduceMul, Nat.reduceLT, Nat.reduceLeDiff, reduceIte, eq_self, and_self, true_and, and_true, false_and, and_false, true_or, or_true, or_false, false_or, not_true_eq_false, not_false_eq_true, zarr, ne_eq, hK, hr, hc, zbast, nar_z1]
theorem m_takes {d L w f t c : Nat} {M : zM} (hd : 1 ≤ d) (hs : zSh L w M) (hf : f < 21) (ht : t < 21) (hc : zI M 169 f = nI c) (hc2 : c < 2) : zV d n_Mo_takes [.ref 146, .int (nI f), .int (nI t)] M = some (none, tkM M f t) := by
  obtain ⟨d, rfl, hd1⟩ := zdep hd
  obtain ⟨hN, hK, hC, hMo, -⟩ := hs
  have hk : zK M 146 = (11, 52) := by rw [hK]; rfl
  have r29 : zR M 146 29 = some 166 := by simp only [hMo]
  have r30 : zR M 146 30 = some 167 := by simp only [hMo]
  have r31 : zR M 146 31 = some 168 := by simp only [hMo]
  have r32 : zR M 146 32 = some 169 := by simp only [hMo]
  have r33 : zR M 146 33 = some 170 := by simp only [hMo]
  have r34 : zR M 146 34 = some 171 := by simp only [hMo]
  have r35 : zR M 146 35 = some 172 := by simp only [hMo]
  have r36 : zR M 146 36 = some 173 := by simp only [hMo]
  have k166 : zK M 166 = (20, 21) := by rw [hK]; rfl
  have k167 : zK M 167 = (23, 21) := by rw [hK]; rfl
  have k168 : zK M 168 = (23, 21) := by rw [hK]; rfl
  have k169 : zK M 169 = (21, 21) := by rw [hK]; rfl
  have k170 : zK M 170 = (20, 21) := by rw [hK]; rfl
  have k171 : zK M 171 = (20, 21) := by rw [hK]; rfl
  have k172 : zK M 172 = (20, 21) := by rw [hK]; rfl
  have k173 : zK M 173 = (21, 21) := by rw [hK]; rfl
  rw [ze_Mo_takes]
  unfold zx_Mo_takes tkM
  refine (tkI hk r29 k166 hf ht (by omega)).trans ?_
  refine (tkL (M := zsI M 166 t (zI M 166 f)) hk r30 k167 hf ht (by omega)).trans ?_
  refine (tkL (M := zsL (zsI M 166 t (zI M 166 f)) 167 t (zL M 167 f)) hk r31 k168 hf ht (by omega)).trans ?_
  refine (tkB (M := zsL (zsL (zsI M 166 t (zI M 166 f)) 167 t (zL M 167 f)) 168 t (zL M 168 f)) hk r32 k169 hf ht (by omega) hc hc2).trans ?_
  refine (tkI (M := zsI (zsL (zsL (zsI M 166 t (zI M 166 f)) 167 t (zL M 167 f)) 168 t (zL M 168 f)) 169 t (zI M 169 f)) hk r33 k170 hf ht (by omega)).trans ?_
  refine (tkI (M := zsI (zsI (zsL (zsL (zsI M 166 t (zI M 166 f)) 167 t (zL M 167 f)) 168 t (zL M 168 f)) 169 t (zI M 169 f)) 170 t (zI M 170 f)) hk r34 k171 hf ht (by omega)).trans ?_
  refine (tkI (M := zsI (zsI (zsI (zsL (zsL (zsI M 166 t (zI M 166 f)) 167 t (zL M 167 f)) 168 t (zL M 168 f)) 169 t (zI M 169 f)) 170 t (zI M 170 f)) 171 t (zI M 171 f)) hk r35 k172 hf ht (by omega)).trans ?_
  exact stB (e := 1) (M := zsI (zsI (zsI (zsI (zsL (zsL (zsI M 166 t (zI M 166 f)) 167 t (zL M 167 f)) 168 t (zL M 168 f)) 169 t (zI M 169 f)) 170 t (zI M 170 f)) 171 t (zI M 171 f)) 172 t (zI M 172 f)) hk r36 k173 ht (by omega) (by omega)
theorem tkM_f {sd f t : Nat} {M : zM} : fPc sd M (tkM M f t) := by
  unfold tkM
  exact ⟨rfl, rfl, rfl, fun b h1 h2 h3 h4 h5 h6 h7 h8 => by rw [zI_ne h8, zI_ne h7, zI_ne h6, zI_ne h5, zI_ne h4]; show zI (zsI M 166 t (zI M 166 f)) b = _; rw [zI_ne h3], fun _ _ => rfl, fun _ _ => rfl, fun b h1 h2 h3 => by show zL (zsL (zsL (zsI M 166 t (zI M 166 f)) 167 t (zL M 167 f)) 168 t (zL M 168 f)) b = _; rw [zL_ne h3, zL_ne h2]; rfl, fun _ _ => rfl⟩
theorem tkM_o {f t j b : Nat} {M : zM} (h : j ≠ t) : zI (tkM M f t) b j = zI M b j ∧ zL (tkM M f t) b j = zL M b j := by
  unfold tkM
  constructor
  · simp (disch := omega) only [zI_sI, zS, iteF]
  · show zL (zsL (zsL (zsI M 166 t (zI M 166 f)) 167 t (zL M 167 f)) 168 t (zL M 168 f)) b j = _
    simp (disch := omega) only [zL_sL, zS, iteF]
theorem tkM_t {f t : Nat} {M : zM} : zI (tkM M f t) 166 t = zI M 166 f ∧ zL (tkM M f t) 167 t = zL M 167 f ∧ zL (tkM M f t) 168 t = zL M 168 f ∧ zI (tkM M f t) 169 t = zI M 169 f ∧ zI (tkM M f t) 170 t = zI M 170 f ∧ zI (tkM M f t) 171 t = zI M 171 f ∧ zI (tkM M f t) 172 t = zI M 172 f ∧ zI (tkM M f t) 173 t = nI 1 := by
  unfold tkM
  refine ⟨?_, ?_, ?_, ?_, ?_, ?_, ?_, ?_⟩
  all_goals simp (disch := omega) only [zL_sL, zI_sI, zS, iteF, iteT, eq_self, and_self, true_and, and_true, false_and, and_false, if_true, if_false, reduceIte, Nat.reduceEqDiff, iteT]
theorem q_takes {sd f t : Nat} {m : IP} {y : Pc} {M : zM} (h : Qst sd (m ++ [(f, y)]) M) (hm : ∀ z, z ∈ m → z.1 ≠ t) : Qst sd (m ++ [(t, y)]) (tkM M f t) := by
  have hy := h.2.1 (f, y) (by simp)
  obtain ⟨t1, t2, t3, t4, t5, t6, t7, t8⟩ := tkM_t (f := f) (t := t) (M := M)
  refine Qst_rep h rfl rfl rfl rfl rfl ?_ ?_ (fun _ _ => rfl) (fun _ _ _ => rfl) ?_
  · intro z hz
    have : z = (t, y) := by simpa using hz
    subst this
    refine ⟨hy.1, ?_⟩
    unfold qN
    rw [t4, t5, t6, t7]
    exact hy.2
  · intro z hz
    have hn := hm z hz
    exact ⟨fun b _ _ => (tkM_o hn).1, (tkM_o hn).2, (tkM_o hn).2⟩
  · intro hle hs hT
    refine ⟨fun _ _ _ => Iff.rfl, ?_⟩
    obtain ⟨s1, s2, -⟩ := hs
    refine ⟨?_, t1.trans s2, trivial⟩
    show Fr _ _ _ _ (zB (zL (tkM M f t) 167 t)) (zB (zL (tkM M f t) 168 t)) _
    rw [t2, t3]
    exact s1
