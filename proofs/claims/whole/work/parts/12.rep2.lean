/-! cells -/
def zfv (ad : Nat → Nat) (ty : FieldType) (x : Int32) (y : Int64) (r : Option Nat) : Value := match ty with
  | .long => .long y
  | .object _ => va_rf (r.map ad)
  | .array _ => va_rf (r.map ad)
  | _ => .int x
def zAr (s : State) (H : Heap) (q : Nat) (ty : FieldType) (n : Nat) (f : Nat → Value) : Prop := ∃ cell : Cell, H[q]? = some cell ∧ s.isArrayOf cell ty ∧ cell.vm ≠ .unknown ∧ n ≤ cell.slots.size ∧ cell.slots.size.toInt32 = Int32.ofNat n ∧ ∀ j, j < n → cell.slots[j]? = some (f j)
def zAv (s : State) (H : Heap) (q : Nat) (ty : FieldType) (n : Nat) (f : Nat → Value) : Prop := ∃ cA : ClassId, H[q]? = some (arrV cA n f) ∧ ArrOfT s cA ty ∧ va_RA s cA ty
theorem zAv.ar {s : State} {H : Heap} {q : Nat} {ty : FieldType} {n : Nat} {f : Nat → Value} (h : zAv s H q ty n f) : zAr s H q ty n f := by
  obtain ⟨cA, h1, h2, -⟩ := h
  exact ⟨_, h1, h2 n f, fun z => (by cases z), by rw [arrV_size]; exact Nat.le_refl n, by rw [arrV_size] <;> rfl, fun j hj => arrV_read _ _ hj⟩
def zcel (D : va_G) (ad : Nat → Nat) (s : State) (H : Heap) (q t n : Nat) (fI : Nat → Int32) (fL : Nat → Int64) (fR : Nat → Option Nat) : Prop :=
  (∀ (ci : Nat) (r : vw_C), t = ci + 1 → vwCl[ci]? = some r → t_OB q (D.1 ci) r.2.2 (D.2 ci) H (fun k => zfv ad (ztys ci k) (fI k) (fL k) (fR k))) ∧
  (t = 20 → zAv s H q .int n (fun j => .int (fI j))) ∧ (t = 21 → zAv s H q .boolean n (fun j => .int (fI j))) ∧ (t = 22 → zAv s H q .byte n (fun j => .int (fI j))) ∧
  (t = 23 → zAv s H q .long n (fun j => .long (fL j))) ∧ (t = 24 → zAr s H q .int n (fun j => .int (fI j))) ∧ (t = 25 → zAr s H q .long n (fun j => .long (fL j))) ∧
  ∀ (ci : Nat) (r : vw_C), t = 30 + ci → vwCl[ci]? = some r → zAv s H q (.object r.1) n (fun j => va_rf ((fR j).map ad))
def ztag (t : Nat) : Prop := t = 0 ∨ (t < 26) ∨ ∃ (ci : Nat) (r : vw_C), t = 30 + ci ∧ vwCl[ci]? = some r
def zRep (D : va_G) (t0 b0 base : Nat) (s : State) (H : Heap) (M : zM) : Prop :=
  H.size + 2 = base + zN M ∧ 2 ≤ zN M ∧ (∀ a, zN M ≤ a → zK M a = (0, 0)) ∧ (∀ a, a < 2 → (zK M a).1 = 24 ∨ (zK M a).1 = 25) ∧ (∀ a, 2 ≤ a → ¬ (zK M a).1 = 24 ∧ ¬ (zK M a).1 = 25) ∧ t0 < base ∧ b0 < base ∧
  (∀ a, zcel D (zad t0 b0 base) s H (zad t0 b0 base a) (zK M a).1 (zK M a).2 (zI M a) (zL M a) (zR M a)) ∧ ∀ a, ztag (zK M a).1
theorem zAr.kept {s : State} {H H1 : Heap} {q : Nat} {ty : FieldType} {n : Nat} {f : Nat → Value} (h : zAr s H q ty n f) (e : H1[q]? = H[q]?) : zAr s H1 q ty n f := by
  obtain ⟨c, h1, h2⟩ := h
  exact ⟨c, by rw [e]; exact h1, h2⟩
theorem zAv.kept {s : State} {H H1 : Heap} {q : Nat} {ty : FieldType} {n : Nat} {f : Nat → Value} (h : zAv s H q ty n f) (e : H1[q]? = H[q]?) : zAv s H1 q ty n f := by
  obtain ⟨c, h1, h2⟩ := h
  exact ⟨c, by rw [e]; exact h1, h2⟩
theorem zcel.kept {D : va_G} {ad : Nat → Nat} {s : State} {H H1 : Heap} {q t n : Nat} {fI : Nat → Int32} {fL : Nat → Int64} {fR : Nat → Option Nat} (h : zcel D ad s H q t n fI fL fR) (e : H1[q]? = H[q]?) : zcel D ad s H1 q t n fI fL fR := by
  obtain ⟨h1, h2, h3, h4, h5, h6, h7, h8⟩ := h
  exact ⟨fun ci r a b => (h1 ci r a b).kept e, fun a => (h2 a).kept e, fun a => (h3 a).kept e, fun a => (h4 a).kept e, fun a => (h5 a).kept e, fun a => (h6 a).kept e, fun a => (h7 a).kept e, fun ci r a b => (h8 ci r a b).kept e⟩
theorem zcel.moved {D : va_G} {ad : Nat → Nat} {u U : State} (hvm : u.vm.Alike U.vm) {H : Heap} {q t n : Nat} {fI : Nat → Int32} {fL : Nat → Int64} {fR : Nat → Option Nat} (h : zcel D ad u H q t n fI fL fR) : zcel D ad U H q t n fI fL fR := by
  have m1 : ∀ {ty : FieldType} {f : Nat → Value}, zAr u H q ty n f → zAr U H q ty n f := fun ⟨c, a, b, d⟩ => ⟨c, a, State.isArrayOf_alike hvm b, d⟩
  have m2 : ∀ {ty : FieldType} {f : Nat → Value}, zAv u H q ty n f → zAv U H q ty n f := fun ⟨c, a, b, d⟩ => ⟨c, a, arrOfT_moved hvm b, va_RA.moved hvm d⟩
  obtain ⟨h1, h2, h3, h4, h5, h6, h7, h8⟩ := h
  exact ⟨h1, fun a => m2 (h2 a), fun a => m2 (h3 a), fun a => m2 (h4 a), fun a => m2 (h5 a), fun a => m1 (h6 a), fun a => m1 (h7 a), fun ci r a b => m2 (h8 ci r a b)⟩
theorem zRep.moved {D : va_G} {t0 b0 base : Nat} {u U : State} (hvm : u.vm.Alike U.vm) {H : Heap} {M : zM} (h : zRep D t0 b0 base u H M) : zRep D t0 b0 base U H M :=
  ⟨h.1, h.2.1, h.2.2.1, h.2.2.2.1, h.2.2.2.2.1, h.2.2.2.2.2.1, h.2.2.2.2.2.2.1, fun a => (h.2.2.2.2.2.2.2.1 a).moved hvm, h.2.2.2.2.2.2.2.2⟩
theorem zRep.inn {D : va_G} {t0 b0 base : Nat} {s : State} {H : Heap} {M : zM} (h : zRep D t0 b0 base s H M) {a : Nat} (ha : ¬ (zK M a).1 = 0) : a < zN M := by
  rcases Nat.lt_or_ge a (zN M) with q | q
  · exact q
  · exact absurd (by rw [h.2.2.1 a q]) ha
theorem zRep.two {D : va_G} {t0 b0 base : Nat} {s : State} {H : Heap} {M : zM} (h : zRep D t0 b0 base s H M) {a : Nat} (h1 : ¬ (zK M a).1 = 24) (h2 : ¬ (zK M a).1 = 25) : 2 ≤ a := by
  rcases Nat.lt_or_ge a 2 with q | q
  · exact absurd (h.2.2.2.1 a q) (fun z => z.elim h1 h2)
  · exact q
theorem zRep.base {D : va_G} {t0 b0 base : Nat} {s : State} {H : Heap} {M : zM} (h : zRep D t0 b0 base s H M) : base ≤ H.size := by
  have := h.1; have := h.2.1; omega
/-- one cell changes -/
theorem zRep.put {D : va_G} {t0 b0 base : Nat} {s : State} {H H1 : Heap} {M M1 : zM} {a : Nat} (h : zRep D t0 b0 base s H M) (ha : 2 ≤ a) (hN : zN M1 = zN M) (hK : zK M1 = zK M) (hI : ∀ b, b ≠ a → zI M1 b = zI M b) (hL : ∀ b, b ≠ a → zL M1 b = zL M b) (hR : ∀ b, b ≠ a → zR M1 b = zR M b)
    (z : H1.size = H.size) (o : ∀ q, q ≠ zad t0 b0 base a → H1[q]? = H[q]?) (hc : zcel D (zad t0 b0 base) s H1 (zad t0 b0 base a) (zK M a).1 (zK M a).2 (zI M1 a) (zL M1 a) (zR M1 a)) : zRep D t0 b0 base s H1 M1 := by
  obtain ⟨h1, h2, h3, h4, h5, h6, h7, h8, h9⟩ := h
  refine ⟨by rw [z, hN]; exact h1, by rw [hN]; exact h2, by rw [hN, hK]; exact h3, by rw [hK]; exact h4, by rw [hK]; exact h5, h6, h7, fun b => ?_, by rw [hK]; exact h9⟩
  rw [hK]
  by_cases hb : b = a
  · subst hb; exact hc
  · rw [hI b hb, hL b hb, hR b hb]
    exact (h8 b).kept (o _ (zad_ne h6 h7 ha hb))
theorem zu_row {α : Type} (f : Nat → Nat → α) (a i : Nat) (v : α) {b : Nat} (h : b ≠ a) : zu f a i v b = f b := by
  funext j
  simp [zu, h]
theorem zu_at {α : Type} (f : Nat → Nat → α) (a i : Nat) (v : α) (j : Nat) : zu f a i v a j = if j = i then v else f a j := by
  simp [zu]
/-- a new cell -/
theorem zRep.new {D : va_G} {t0 b0 base : Nat} {s : State} {H H1 : Heap} {M : zM} {t n : Nat} (h : zRep D t0 b0 base s H M) (ht : ¬ t = 24 ∧ ¬ t = 25) (htg : ztag t) (z : H1.size = H.size + 1) (o : ∀ q, q < H.size → H1[q]? = H[q]?)
    (hc : zcel D (zad t0 b0 base) s H1 H.size t n (fun _ => 0) (fun _ => 0) (fun _ => none)) : zRep D t0 b0 base s H1 (znew M t n) := by
  have hin : ∀ {a : Nat}, ¬ (zK M a).1 = 0 → a < zN M := fun q => zRep.inn h q
  obtain ⟨h1, h2, h3, h4, h5, h6, h7, h8, h9⟩ := h
  have hN : zN (znew M t n) = zN M + 1 := rfl
  have hz : zad t0 b0 base (zN M) = H.size := by rw [zad_2 h2]; omega
  have e1 : zK (znew M t n) (zN M) = (t, n) := by simp [zK, znew, zN]
  have e2 : ∀ b, b ≠ zN M → zK (znew M t n) b = zK M b := fun b hb => by
    have : ¬ b = M.1 := hb
    simp [zK, znew, this]
  have eI : zI (znew M t n) (zN M) = fun _ => 0 := by funext j; simp [zI, znew, zrow, zN]
  have eL : zL (znew M t n) (zN M) = fun _ => 0 := by funext j; simp [zL, znew, zrow, zN]
  have eR : zR (znew M t n) (zN M) = fun _ => none := by funext j; simp [zR, znew, zrow, zN]
  refine ⟨by rw [z, hN]; omega, by rw [hN]; omega, fun a ha => ?_, fun a ha => ?_, fun a ha => ?_, h6, h7, fun b => ?_, fun a => ?_⟩
  · rw [hN] at ha
    rw [e2 a (by omega)]
    exact h3 a (by omega)
  · rw [e2 a (by omega)]; exact h4 a ha
  · by_cases q : a = zN M
    · subst q; rw [e1]; exact ht
    · rw [e2 a q]; exact h5 a ha
  · by_cases q : b = zN M
    · subst q
      rw [e1, hz, eI, eL, eR]
      exact hc
    · have q' : ¬ b = M.1 := q
      rw [e2 b q]
      have fI : zI (znew M t n) b = zI M b := by funext j; simp [zI, znew, zrow, q']
      have fL : zL (znew M t n) b = zL M b := by funext j; simp [zL, znew, zrow, q']
      have fR : zR (znew M t n) b = zR M b := by funext j; simp [zR, znew, zrow, q']
      rw [fI, fL, fR]
      by_cases hb0 : (zK M b).1 = 0
      · rw [hb0]
        have := h8 b
        rw [hb0] at this
        exact ⟨fun ci r a => by omega, fun a => by omega, fun a => by omega, fun a => by omega, fun a => by omega, fun a => by omega, fun a => by omega, fun ci r a => by omega⟩
      · refine (h8 b).kept (o _ ?_)
        have hb := hin hb0
        by_cases hb2 : 2 ≤ b
        · rw [zad_2 hb2]; omega
        · have := zad_lt (base := base) h6 h7 (k := b) (by omega)
          omega
  · by_cases q : a = zN M
    · subst q; rw [e1]; exact htg
    · rw [e2 a q]; exact h9 a
/-! words of the tables -/
def znest (w : Cond) : Bool := match w with
  | .fieldLinkNest _ _ _ _ _ _ => true
  | .methodLinkNest _ _ _ _ => true
  | .arrayOver (.object _) => true
  | _ => false
def zTb (U : State) : Prop := ∀ w ∈ lw_tbl, (goodWord w || znest w) = true → ∀ a : Array Value, w.before a U = true
theorem zTb.warm {s U : State} (h : zTb s) (hW : s.WarmedH U.vm) : zTb U := by
  intro w hw hg a
  rcases Bool.or_eq_true_iff.mp hg with g | g
  · exact word_at hW (good_of_word g) (h w hw hg #[])
  · unfold znest at g
    split at g
    · exact va_Nw.use rfl (va_Nw.warmF hW (va_Nw.of rfl (h _ hw hg #[])))
    · exact va_Nw.use rfl (va_Nw.warmM hW (va_Nw.of rfl (h _ hw hg #[])))
    · exact va_AO.use (va_AO.moved hW.alike (va_AO.of (h _ hw hg #[])))
    · cases g
theorem zlay {ci : Nat} {r : vw_C} (h : vwCl[ci]? = some r) : ∀ w ∈ u_ws r.1 r.2.1 r.2.2, w ∈ lw_tbl := by
  match ci, h with
  | 0, h => cases h; exact zlay_0
  | 1, h => cases h; exact zlay_1
  | 2, h => cases h; exact zlay_2
  | 3, h => cases h; exact zlay_3
  | 4, h => cases h; exact zlay_4
  | 5, h => cases h; exact zlay_5
  | 6, h => cases h; exact zlay_6
  | 7, h => cases h; exact zlay_7
  | 8, h => cases h; exact zlay_8
  | 9, h => cases h; exact zlay_9
  | 10, h => cases h; exact zlay_10
  | n + 11, h => simp [vwCl] at h
theorem ztyp {ci : Nat} {r : vw_C} (h : vwCl[ci]? = some r) : ∀ k, k < r.2.2 → parseFieldDescriptor (r.2.1 k).2.2.1 = some (ztys ci k) := by
  match ci, h with
  | 0, h => cases h; exact tyX0_ok
  | 1, h => cases h; exact tyX1_ok
  | 2, h => cases h; exact tyX2_ok
  | 3, h => cases h; exact tyX3_ok
  | 4, h => cases h; exact tyX4_ok
  | 5, h => cases h; exact tyX5_ok
  | 6, h => cases h; exact tyX6_ok
  | 7, h => cases h; exact tyX7_ok
  | 8, h => cases h; exact tyX8_ok
  | 9, h => cases h; exact tyX9_ok
  | 10, h => cases h; exact tyX10_ok
  | n + 11, h => simp [vwCl] at h
theorem znam {ci : Nat} {r : vw_C} (h : vwCl[ci]? = some r) : ∀ a, a < r.2.2 → ∀ b, b < r.2.2 → a ≠ b → (r.2.1 a).2.1 ≠ (r.2.1 b).2.1 := by
  match ci, h with
  | 0, h => cases h; exact nmX0
  | 1, h => cases h; exact nmX1
  | 2, h => cases h; exact nmX2
  | 3, h => cases h; exact nmX3
  | 4, h => cases h; exact nmX4
  | 5, h => cases h; exact nmX5
  | 6, h => cases h; exact nmX6
  | 7, h => cases h; exact nmX7
  | 8, h => cases h; exact nmX8
  | 9, h => cases h; exact nmX9
  | 10, h => cases h; exact nmX10
  | n + 11, h => simp [vwCl] at h
theorem zlaygood {ci : Nat} {r : vw_C} {k : Nat} : goodWord (u_lay r.1 r.2.1 k) = true := by
  unfold u_lay
  split <;> rfl
