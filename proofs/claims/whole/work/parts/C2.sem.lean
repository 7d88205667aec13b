/-! the reference's side, as it is seen from outside -/
theorem zb_mFul {n v q : Nat} {C : Nat → Nat} {TT : Nat → Int64} (hn : n ≤ 40) : zb (mFul n C TT v) q = true ↔ q < n ∧ ful TT (C q) v = true := by
  unfold mFul
  rw [zb_orU]
  constructor
  · rintro ⟨k, h1, h2⟩
    rw [zb_ite, zb_b1 (by omega), decide_eq_true_iff] at h2
    obtain ⟨h3, rfl⟩ := h2
    exact ⟨h1, h3⟩
  · rintro ⟨h1, h2⟩
    refine ⟨q, h1, ?_⟩
    rw [zb_ite, zb_b1 (by omega), decide_eq_true_iff]
    exact ⟨h2, rfl⟩
theorem zb_mNext {n r : Nat} {B : Nat → Int64} {s : Int64} : zb (mNext n B s) r = true ↔ ∃ q, q < n ∧ zb s q = true ∧ zb (B q) r = true := by
  unfold mNext
  rw [zb_orU]
  constructor
  · rintro ⟨k, h1, h2⟩
    rw [zb_ite] at h2
    exact ⟨k, h1, h2⟩
  · rintro ⟨q, h1, h2⟩
    refine ⟨q, h1, ?_⟩
    rw [zb_ite]
    exact h2
theorem nx_lt {F T : Nat → Nat → Prop} {n : Nat} (hF : ∀ q r, q < n → F q r → r < n) : ∀ (w : List Nat) (X : Nat → Prop), (∀ q, X q → q < n) → ∀ q, nx F T w X q → q < n
  | [], _, hX, q, h => hX q h
  | _ :: w, X, hX, q, h => nx_lt hF w _ (fun r ⟨q0, h1, _, h3⟩ => hF q0 r (hX q0 h1) h3) q h
theorem mWalk_nx {n : Nat} {C : Nat → Nat} {B TT : Nat → Int64} (hn : n ≤ 40) (hF : ∀ q r, q < n → zb (B q) r = true → r < n) : ∀ (w : List Nat) (s : Int64) (X : Nat → Prop), bts w → (∀ q, X q → q < n) → (∀ q, zb s q = true ↔ X q) → ∀ q, zb (mWalk B n (mFul n C TT) w s) q = true ↔ nx (fun q r => zb (B q) r = true) (fun q v => v < 256 ∧ ful TT (C q) v = true) w X q
  | [], _, _, _, _, hs, q => hs q
  | v :: w, s, X, hb, hX, hs, q => by
    refine mWalk_nx hn hF w _ _ (fun u hu => hb u (List.mem_cons_of_mem v hu)) (fun r ⟨q0, h1, _, h3⟩ => hF q0 r (hX q0 h1) h3) (fun r => ?_) q
    rw [zb_mNext]
    constructor
    · rintro ⟨q0, h1, h2, h3⟩
      rw [zb_and, Bool.and_eq_true, zb_mFul hn] at h2
      exact ⟨q0, (hs q0).mp h2.1, ⟨hb v (List.mem_cons_self ..), h2.2.2⟩, h3⟩
    · rintro ⟨q0, h1, h2, h3⟩
      refine ⟨q0, hX q0 h1, ?_, h3⟩
      rw [zb_and, Bool.and_eq_true, zb_mFul hn]
      exact ⟨(hs q0).mpr h1, hX q0 h1, h2.2⟩
theorem q_sem {B TT : Nat → Int64} {C : Nat → Nat} {n : Nat} {f l g : Int64} {Lg : List Nat → Prop} (hn : n ≤ 40) (hfr : Fr (fun q r => zb (B q) r = true) (fun q v => v < 256 ∧ ful TT (C q) v = true) 0 n (zB f) (zB l) Lg) (hg : ∀ q, zb g q = true ↔ q < n ∧ Lv8 (fun q r => zb (B q) r = true) (fun q v => v < 256 ∧ ful TT (C q) v = true) (zB l) q) : ∀ w, bts w → (g &&& mWalk B n (mFul n C TT) w f ≠ 0 ↔ ∃ u, u ≠ [] ∧ Lg (w ++ u)) ∧ ∀ v, v < 256 → (l &&& (mWalk B n (mFul n C TT) w f &&& mFul n C TT v) ≠ 0 ↔ Lg (w ++ [v])) := by
  intro w hw
  obtain ⟨b1, b2, b3, b4⟩ := hfr
  have hF : ∀ q r, q < n → zb (B q) r = true → r < n := fun q r h1 h2 => by have := b3 q r (Nat.zero_le q) (by omega) h2; omega
  have hX : ∀ q, zB f q → q < n := fun q h => by have := b1 q h; omega
  have hwk := mWalk_nx (C := C) (TT := TT) hn hF w f (zB f) hw hX (fun q => Iff.rfl)
  have hlt := nx_lt (T := fun q v => v < 256 ∧ ful TT (C q) v = true) hF w (zB f) hX
  refine ⟨?_, fun v hv => ?_⟩
  · rw [zb_ne0]
    constructor
    · rintro ⟨q, hq⟩
      rw [zb_and, Bool.and_eq_true, hg, hwk] at hq
      obtain ⟨⟨h1, u, h2⟩, h3⟩ := hq
      have hu := pa_ne h2
      refine ⟨u, hu, (b4 _ (fun z => hu (List.append_eq_nil_iff.mp z).2)).mpr ?_⟩
      exact (nx_go hu w (zB f)).mp ⟨q, h3, h2⟩
    · rintro ⟨u, hu, h1⟩
      obtain ⟨q, h2, h3⟩ := (nx_go hu w (zB f)).mpr ((b4 _ (fun z => hu (List.append_eq_nil_iff.mp z).2)).mp h1)
      refine ⟨q, ?_⟩
      rw [zb_and, Bool.and_eq_true, hg, hwk]
      exact ⟨⟨hlt q h2, u, h3⟩, h2⟩
  · rw [zb_ne0, b4 (w ++ [v]) (by simp), ← nx_end]
    constructor
    · rintro ⟨q, hq⟩
      rw [zb_and, Bool.and_eq_true, zb_and, Bool.and_eq_true, hwk, zb_mFul hn] at hq
      exact ⟨q, hq.2.1, ⟨hv, hq.2.2.2⟩, hq.1⟩
    · rintro ⟨q, h1, h2, h3⟩
      refine ⟨q, ?_⟩
      rw [zb_and, Bool.and_eq_true, zb_and, Bool.and_eq_true, hwk, zb_mFul hn]
      exact ⟨h3, h1, hlt q h1, h2.2⟩
/-- the draft of the reference's side i -/
def SeqD (A : Sq) (M : zM) (i : Nat) : Prop :=
  ∃ n C, n ≤ 40 ∧ zI M 148 (45 * i) = nI n ∧ (∀ p, p < n → C p < 40 ∧ zI M 148 (45 * i + 5 + p) = nI (C p)) ∧
  zI M 148 (45 * i + 1) = nI A.cond ∧ zI M 148 (45 * i + 2) = nI A.long ∧ zI M 148 (45 * i + 3) = nI A.few ∧ zI M 148 (45 * i + 4) = nI A.most ∧
  ∀ w, bts w → (zL M 150 (203 * i + 2) &&& mWalk (fun p => zL M 150 (203 * i + 3 + p)) n (mFul n C (fun k => zL M 150 (203 * i + 43 + k))) w (zL M 150 (203 * i)) ≠ 0 ↔ A.liv w) ∧
    ∀ v, v < 256 → (zL M 150 (203 * i + 1) &&& (mWalk (fun p => zL M 150 (203 * i + 3 + p)) n (mFul n C (fun k => zL M 150 (203 * i + 43 + k))) w (zL M 150 (203 * i)) &&& mFul n C (fun k => zL M 150 (203 * i + 43 + k)) v) ≠ 0 ↔ A.acc (w ++ [v]))
theorem mFul_congr {n v : Nat} {C : Nat → Nat} {TT TT' : Nat → Int64} (hC : ∀ p, p < n → C p < 40) (hT : ∀ k, k < 160 → TT' k = TT k) (hv : v < 256) : mFul n C TT' v = mFul n C TT v := by
  unfold mFul
  refine orU_congr (fun k hk => ?_)
  have := hC k hk
  unfold ful
  rw [hT _ (by omega)]
theorem mWalk_congr {n : Nat} {B B' : Nat → Int64} {G G' : Nat → Int64} (hB : ∀ p, p < n → B' p = B p) (hG : ∀ v, v < 256 → G' v = G v) : ∀ (w : List Nat) (s : Int64), bts w → mWalk B' n G' w s = mWalk B n G w s
  | [], _, _ => rfl
  | v :: w, s, hb => by
    show mWalk B' n G' w (mNext n B' (s &&& G' v)) = mWalk B n G w (mNext n B (s &&& G v))
    have e : mNext n B' (s &&& G' v) = mNext n B (s &&& G v) := by
      rw [hG v (hb v (List.mem_cons_self ..))]
      unfold mNext
      exact orU_congr (fun k hk => by rw [hB k hk])
    rw [e]
    exact mWalk_congr hB hG w _ (fun u hu => hb u (List.mem_cons_of_mem v hu))
theorem SeqD_to {A : Sq} {M M' : zM} {i : Nat} (h : SeqD A M i) (hi : i < 8) (hI : ∀ j, j < 360 → zI M' 147 j = zI M 148 j) (hL : ∀ j, j < 1624 → zL M' 149 j = zL M 150 j) : SeqM A M' i := by
  obtain ⟨n, C, h1, h2, h3, h4, h5, h6, h7, h8⟩ := h
  refine ⟨n, C, h1, by rw [hI _ (by omega)]; exact h2, fun p hp => ⟨(h3 p hp).1, by rw [hI _ (by omega)]; exact (h3 p hp).2⟩, by rw [hI _ (by omega)]; exact h4, by rw [hI _ (by omega)]; exact h5, by rw [hI _ (by omega)]; exact h6, by rw [hI _ (by omega)]; exact h7, fun w hw => ?_⟩
  have hG : ∀ v, v < 256 → mFul n C (fun k => zL M' 149 (203 * i + 43 + k)) v = mFul n C (fun k => zL M 150 (203 * i + 43 + k)) v := fun v hv => mFul_congr (fun p hp => (h3 p hp).1) (fun k hk => hL _ (by omega)) hv
  have hW := mWalk_congr (n := n) (B := fun p => zL M 150 (203 * i + 3 + p)) (B' := fun p => zL M' 149 (203 * i + 3 + p)) (fun p hp => hL _ (by omega)) hG w (zL M 150 (203 * i)) hw
  rw [hL (203 * i) (by omega), hL (203 * i + 1) (by omega), hL (203 * i + 2) (by omega), hW]
  refine ⟨(h8 w hw).1, fun v hv => ?_⟩
  rw [hG v hv]
  exact (h8 w hw).2 v hv
theorem SeqD_fr {A : Sq} {M M' : zM} {i : Nat} (h : SeqD A M i) (hI : ∀ j, 45 * i ≤ j → j < 45 * i + 45 → zI M' 148 j = zI M 148 j) (hL : ∀ j, 203 * i ≤ j → j < 203 * i + 203 → zL M' 150 j = zL M 150 j) : SeqD A M' i := by
  obtain ⟨n, C, h1, h2, h3, h4, h5, h6, h7, h8⟩ := h
  refine ⟨n, C, h1, by rw [hI _ (by omega) (by omega)]; exact h2, fun p hp => ⟨(h3 p hp).1, by rw [hI _ (by omega) (by omega)]; exact (h3 p hp).2⟩, by rw [hI _ (by omega) (by omega)]; exact h4, by rw [hI _ (by omega) (by omega)]; exact h5, by rw [hI _ (by omega) (by omega)]; exact h6, by rw [hI _ (by omega) (by omega)]; exact h7, fun w hw => ?_⟩
  have hG : ∀ v, v < 256 → mFul n C (fun k => zL M' 150 (203 * i + 43 + k)) v = mFul n C (fun k => zL M 150 (203 * i + 43 + k)) v := fun v hv => mFul_congr (fun p hp => (h3 p hp).1) (fun k hk => hL _ (by omega) (by omega)) hv
  have hW := mWalk_congr (n := n) (B := fun p => zL M 150 (203 * i + 3 + p)) (B' := fun p => zL M' 150 (203 * i + 3 + p)) (fun p hp => hL _ (by omega) (by omega)) hG w (zL M 150 (203 * i)) hw
  rw [hL (203 * i) (by omega) (by omega), hL (203 * i + 1) (by omega) (by omega), hL (203 * i + 2) (by omega) (by omega), hW]
  refine ⟨(h8 w hw).1, fun v hv => ?_⟩
  rw [hG v hv]
  exact (h8 w hw).2 v hv
/-- the draft of a side says x -/
def SdM (sd : Nat) (x : Pc) (M : zM) : Prop := wfp x ∧ zI M 148 (45 * sd + 2) = nI (min 1000000 (pN x)) ∧ (pN x ≤ 40 → SeqD (sqP x) M sd ∧ ∀ e t, (pC x)[e]? = some t → ∀ q, q < 4 → zL M 150 (203 * sd + 43 + (4 * e + q)) = t q)
theorem SdM_fr {sd : Nat} {x : Pc} {M M' : zM} (h : SdM sd x M) (hI : ∀ j, 45 * sd ≤ j → j < 45 * sd + 45 → zI M' 148 j = zI M 148 j) (hL : ∀ j, 203 * sd ≤ j → j < 203 * sd + 203 → zL M' 150 j = zL M 150 j) : SdM sd x M' := by
  obtain ⟨h1, h2, h3⟩ := h
  refine ⟨h1, by rw [hI _ (by omega) (by omega)]; exact h2, fun hle => ⟨SeqD_fr (h3 hle).1 hI hL, fun e t he q hq => ?_⟩⟩
  have hlt := get_lt he
  have := h1.2.2.2.2
  rw [hL _ (by omega) (by omega)]
  exact (h3 hle).2 e t he q hq
theorem cpL1 {M : zM} {r c n j m : Nat} {F : zM → zO} (hK : zK M 146 = (11, 52)) (hr3 : zR M 146 3 = some 150) (hr : zR M 146 r = some c) (h150 : zK M 150 = (23, m)) (hc : zK M c = (23, n)) (hn : n < 1000) (hn1 : 1 < n) (hj : j < m) (hm : m < 10000) : (zif ((zK M 146).1 = 11) (zoR (zR M 146 3) fun q1 => zif ((zK M 146).1 = 11) (zoR (zR M 146 r) fun q2 => zif (((zK M q2).1 = 23 ∨ (zK M q2).1 = 25) ∧ zin (nI 1) (zK M q2).2 = true) (zif ((zK M q1).1 = 23 ∧ zin (nI j) (zK M q1).2 = true) (zbm (zsL M q1 (Int32.toNatClampNeg (nI j)) (zL M q2 (Int32.toNatClampNeg (nI 1)))) F))))) = F (zsL M 150 j (zL M c 1)) := by
  simp (disch := omega) only [il, nI_add, nI_mul, nI_sub, nI_div, nI_rem, nI_N, i32_lt, i32_le, nI_toInt, nI_subI, nI_clamp, zinT, zifT, iteT, iteF, zQ, zS, zkc, zI_sI, zL_sL, zI_wI, zL_wL, Nat.reduceEqDiff, Nat.reduceAdd, Nat.reduceMul, Nat.reduceLT, Nat.reduceLeDiff, reduceIte, eq_self, and_self, true_and, and_true, false_and, and_false, true_or, or_true, or_false, false_or, not_true_eq_false, not_false_eq_true, zarr, ne_eq, hK, hr3, hr, h150, hc]
theorem cpI1 {M : zM} {r c n j m : Nat} {F : zM → zO} (hK : zK M 146 = (11, 52)) (hr3 : zR M 146 1 = some 148) (hr : zR M 146 r = some c) (h150 : zK M 148 = (20, m)) (hc : zK M c = (20, n)) (hn : n < 1000) (hn1 : 1 < n) (hj : j < m) (hm : m < 10000) : (zif ((zK M 146).1 = 11) (zoR (zR M 146 1) fun q1 => zif ((zK M 146).1 = 11) (zoR (zR M 146 r) fun q2 => zif (((zK M q2).1 = 20 ∨ (zK M q2).1 = 24) ∧ zin (nI 1) (zK M q2).2 = true) (zif ((zK M q1).1 = 20 ∧ zin (nI j) (zK M q1).2 = true) (zbm (zsI M q1 (Int32.toNatClampNeg (nI j)) (zI M q2 (Int32.toNatClampNeg (nI 1)))) F))))) = F (zsI M 148 j (zI M c 1)) := by
  simp (disch := omega) only [il, nI_add, nI_mul, nI_sub, nI_div, nI_rem, nI_N, i32_lt, i32_le, nI_toInt, nI_subI, nI_clamp, zinT, zifT, iteT, iteF, zQ, zS, zkc, zI_sI, zL_sL, zI_wI, zL_wL, Nat.reduceEqDiff, Nat.reduceAdd, Nat.reduceMul, Nat.reduceLT, Nat.reduceLeDiff, reduceIte, eq_self, and_self, true_and, and_true, false_and, and_false, true_or, or_true, or_false, false_or, not_true_eq_false, not_false_eq_true, zarr, ne_eq, hK, hr3, hr, h150, hc]
def enM (M : zM) (sd : Nat) : zM := zsI (zsI (zsI (zsL (zsL M 150 (203 * sd) (zL M 167 1)) 150 (203 * sd + 1) (zL M 168 1)) 148 (45 * sd + 2) (zI M 170 1)) 148 (45 * sd + 3) (zI M 171 1)) 148 (45 * sd + 4) (zI M 172 1)
theorem m_ends_0 {d L w sd : Nat} {M : zM} (hs : zSh L w M) (hsd : sd < 8) : zV (d + 1) n_Mo_ends [.ref 146, .int (nI sd)] M = xe90 d sd 0 0 (enM M sd) := by
  obtain ⟨k0, k166, k167, k168, k169, k170, k171, k172, k173⟩ := pc_k hs
  obtain ⟨r29, r30, r31, r32, r33, r34, r35, r36⟩ := pc_r hs
  obtain ⟨hN, hK, hC, hMo, -⟩ := hs
  have k148 : zK M 148 = (20, 360) := by rw [hK]; rfl
  have k150 : zK M 150 = (23, 1624) := by rw [hK]; rfl
  have r1 : zR M 146 1 = some 148 := by simp only [hMo]
  have r3 : zR M 146 3 = some 150 := by simp only [hMo]
  rw [ze_Mo_ends]
  unfold zx_Mo_ends
  simp only [il, nI_mul, nI_add, zbi_S]
  refine (cpL1 (j := 203 * sd + 0) k0 r3 r30 k150 k167 (by omega) (by omega) (by omega) (by omega)).trans ?_
  refine (cpL1 (j := 203 * sd + 1) (M := zsL M 150 (203 * sd) (zL M 167 1)) k0 r3 r31 k150 k168 (by omega) (by omega) (by omega) (by omega)).trans ?_
  refine (cpI1 (j := 45 * sd + 2) (M := zsL (zsL M 150 (203 * sd) (zL M 167 1)) 150 (203 * sd + 1) (zL M 168 1)) k0 r1 r33 k148 k170 (by omega) (by omega) (by omega) (by omega)).trans ?_
  refine (cpI1 (j := 45 * sd + 3) (M := zsI (zsL (zsL M 150 (203 * sd) (zL M 167 1)) 150 (203 * sd + 1) (zL M 168 1)) 148 (45 * sd + 2) (zI M 170 1)) k0 r1 r34 k148 k171 (by omega) (by omega) (by omega) (by omega)).trans ?_
  refine (cpI1 (j := 45 * sd + 4) (M := zsI (zsI (zsL (zsL M 150 (203 * sd) (zL M 167 1)) 150 (203 * sd + 1) (zL M 168 1)) 148 (45 * sd + 2) (zI M 170 1)) 148 (45 * sd + 3) (zI M 171 1)) k0 r1 r35 k148 k172 (by omega) (by omega) (by omega) (by omega)).trans ?_
  rfl
