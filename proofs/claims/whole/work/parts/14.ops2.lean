section ZOPS2
variable {p : Program} {l : Launch} {e : Env} {R : Room} {s : State} {m : MethodId} {args : Array Value} {below : List Frame} {meth : Method} {c : Code} {H : Heap} {locs : List Loc} {cells slots : Nat} {Q : State → Prop}
variable {cc : ByteArray} {pc nL : Nat} {ls : Array Slot} {rest : List Value} {D : va_G} {t0 b0 base : Nat} {own : String} {M : zM}
theorem zS_new {A : Nat → Prop} {H0 H1 : Heap} (h : va_S A H0 H locs) (z : H1.size = H.size + 1) (o : ∀ x, x < H.size → H1[x]? = H[x]?) : va_S A H0 H1 locs :=
  ⟨by rw [z]; exact Nat.le_succ_of_le h.1, fun q h1 h2 => by rw [o q (Nat.lt_of_lt_of_le h1 h.1)]; exact h.2.1 q h1 h2, h.2.2⟩
theorem zdef {ad : Nat → Nat} {ty : FieldType} (h : ¬ ztyc ty = 9) : defaultValue ty = zfv ad ty 0 0 none := by
  cases ty <;> first | rfl | exact absurd rfl h
theorem ztyc9 {ci : Nat} {r : vw_C} (h : vwCl[ci]? = some r) : ∀ k, k < r.2.2 → ¬ ztyc (ztys ci k) = 9 := by
  match ci, h with
  | 0, h => cases h; decide +kernel
  | 1, h => cases h; decide +kernel
  | 2, h => cases h; decide +kernel
  | 3, h => cases h; decide +kernel
  | 4, h => cases h; decide +kernel
  | 5, h => cases h; decide +kernel
  | 6, h => cases h; decide +kernel
  | 7, h => cases h; decide +kernel
  | 8, h => cases h; decide +kernel
  | 9, h => cases h; decide +kernel
  | 10, h => cases h; decide +kernel
  | n + 11, h => simp [vwCl] at h
theorem zH_N (hrep : zRep D t0 b0 base s H M) : zad t0 b0 base (zN M) = H.size := by
  rw [zad_2 hrep.2.1]
  have := hrep.1
  have := hrep.2.1
  omega
theorem znew_o (cx : zCx D t0 base p s m c own cc nL) (hrep : zRep D t0 b0 base s H M) (hS : va_S (fun q => base ≤ q) s.heap H locs) {ci idx p1 p2 p3 : Nat} {r : vw_C} (hc : vwCl[ci]? = some r) (w1 : zword p1 (.classLink own idx r.1) = true) (w2 : zword p2 (.instantiable r.1 r.2.2) = true) (w3 : zword p3 (.initialized r.1) = true)
    (hcells : cells + 1 ≤ R.cells) (hslots : slots + r.2.2 ≤ R.slots) (hdg : decode cc pc = .ok (.new idx, 3))
    (kk : ∀ (H1 : Heap), zRep D t0 b0 base s H1 (znew M (ci + 1) r.2.2) → va_S (fun q => base ≤ q) s.heap H1 locs → W p l e R s m args below meth c H1 locs (cells + 1) (slots + r.2.2) Q (F0 m (pc + 3) ls (.ref (zad t0 b0 base (zN M)) :: rest))) : W p l e R s m args below meth c H locs cells slots Q (F0 m pc ls rest) := by
  obtain ⟨hx, hb, -, hown, hT, hK, -, -⟩ := cx
  have hKn := hK.1 ci _ hc
  have hlt : ci < 11 := (List.getElem?_eq_some_iff.mp hc).1
  refine W.newcK hx hb hown (zword_ok hT w1 rfl args) (zword_ok hT w2 rfl args) (zword_ok hT w3 rfl args) rfl hdg hcells hslots hKn.2.1 rfl fun H1 kC hkC e1 z1 o1 => ?_
  have k1 := kk H1 (hrep.new (by omega) (Or.inr (Or.inl (by omega))) z1 o1 ?_) (zS_new hS z1 o1)
  · rw [zH_N hrep] at k1
    exact k1
  · refine ⟨fun ci2 r2 q hc2 => ?_, fun q => by omega, fun q => by omega, fun q => by omega, fun q => by omega, fun q => by omega, fun q => by omega, fun ci2 r2 q hc2 => by omega⟩
    have : ci2 = ci := by omega
    subst this
    cases hc.symm.trans hc2
    exact (u_born (ztys ci2) (zlays hT hc args) (fun _ h => h) hKn hkC e1 (ztyp hc)).to fun j hj => zdef (ztyc9 hc j hj)
theorem zcel_ar {ad : Nat → Nat} {H1 : Heap} {q t n : Nat} {cA : ClassId} {ty : FieldType} (h1 : H1[q]? = some (arrV cA n (fun _ => defaultValue ty))) (h2 : ArrOfT s cA ty) (h3 : va_RA s cA ty) (ht : (t = 20 ∧ ty = .int) ∨ (t = 21 ∧ ty = .boolean) ∨ (t = 22 ∧ ty = .byte) ∨ (t = 23 ∧ ty = .long)) : zcel D ad s H1 q t n (fun _ => 0) (fun _ => 0) (fun _ => none) := by
  have hno : ∀ (ci2 : Nat) (r2 : vw_C), t = ci2 + 1 → vwCl[ci2]? = some r2 → False := by
    intro ci2 r2 q hc2
    have hlt : ci2 < 11 := (List.getElem?_eq_some_iff.mp hc2).1
    omega
  rcases ht with ⟨h, rfl⟩ | ⟨h, rfl⟩ | ⟨h, rfl⟩ | ⟨h, rfl⟩
  · exact ⟨fun a b c d => (hno a b c d).elim, fun _ => ⟨cA, h1, h2, h3⟩, fun q => by omega, fun q => by omega, fun q => by omega, fun q => by omega, fun q => by omega, fun ci2 r2 q hc2 => by omega⟩
  · exact ⟨fun a b c d => (hno a b c d).elim, fun q => by omega, fun _ => ⟨cA, h1, h2, h3⟩, fun q => by omega, fun q => by omega, fun q => by omega, fun q => by omega, fun ci2 r2 q hc2 => by omega⟩
  · exact ⟨fun a b c d => (hno a b c d).elim, fun q => by omega, fun q => by omega, fun _ => ⟨cA, h1, h2, h3⟩, fun q => by omega, fun q => by omega, fun q => by omega, fun ci2 r2 q hc2 => by omega⟩
  · exact ⟨fun a b c d => (hno a b c d).elim, fun q => by omega, fun q => by omega, fun q => by omega, fun _ => ⟨cA, h1, h2, h3⟩, fun q => by omega, fun q => by omega, fun ci2 r2 q hc2 => by omega⟩
theorem znew_a (cx : zCx D t0 base p s m c own cc nL) (hrep : zRep D t0 b0 base s H M) (hS : va_S (fun q => base ≤ q) s.heap H locs) {t p1 : Nat} {atype : ArrayType} (w1 : zword p1 (.arrayClass (newarray.typeOf atype)) = true) (ht : (t = 20 ∧ newarray.typeOf atype = .int) ∨ (t = 21 ∧ newarray.typeOf atype = .boolean) ∨ (t = 22 ∧ newarray.typeOf atype = .byte) ∨ (t = 23 ∧ newarray.typeOf atype = .long)) {n : Int32} (hn : ¬ n < 0) (hmax : n.toNatClampNeg ≤ 100000)
    (hcells : cells + 1 ≤ R.cells) (hslots : slots + n.toNatClampNeg ≤ R.slots) (hdg : decode cc pc = .ok (.newarray atype, 2))
    (kk : ∀ (H1 : Heap), zRep D t0 b0 base s H1 (znew M t n.toNatClampNeg) → va_S (fun q => base ≤ q) s.heap H1 locs → W p l e R s m args below meth c H1 locs (cells + 1) (slots + n.toNatClampNeg) Q (F0 m (pc + 2) ls (.ref (zad t0 b0 base (zN M)) :: rest))) : W p l e R s m args below meth c H locs cells slots Q (F0 m pc ls (.int n :: rest)) := by
  obtain ⟨hx, hb, -, hown, hT, hK, -, -⟩ := cx
  have hby : n.toNatClampNeg * componentBytes (newarray.typeOf atype) ≤ 536870912 := by
    have h8 : componentBytes (newarray.typeOf atype) ≤ 8 := by cases atype <;> decide
    exact Nat.le_trans (Nat.mul_le_mul hmax h8) (by decide)
  refine va_newaK hx hb (zword_ok hT w1 rfl args) rfl hdg rfl hn rfl hby hcells hslots rfl fun H1 cA e1 z1 o1 hAr hNm => ?_
  have hRA : va_RA s cA (newarray.typeOf atype) := by cases atype <;> exact hNm
  have k1 := kk H1 (hrep.new (by omega) (Or.inr (Or.inl (by omega))) z1 o1 (zcel_ar e1 hAr hRA ht)) (zS_new hS z1 o1)
  rw [zH_N hrep] at k1
  exact k1
theorem znew_q (cx : zCx D t0 base p s m c own cc nL) (hrep : zRep D t0 b0 base s H M) (hS : va_S (fun q => base ≤ q) s.heap H locs) {ci idx p1 p2 : Nat} {r : vw_C} (hc : vwCl[ci]? = some r) (w1 : zword p1 (.classLink own idx r.1) = true) (w2 : zword p2 (.arrayOver (.object r.1)) = true) {n : Int32} (hn : ¬ n < 0) (hmax : n.toNatClampNeg ≤ 100000)
    (hcells : cells + 1 ≤ R.cells) (hslots : slots + n.toNatClampNeg ≤ R.slots) (hdg : decode cc pc = .ok (.anewarray idx, 3))
    (kk : ∀ (H1 : Heap), zRep D t0 b0 base s H1 (znew M (30 + ci) n.toNatClampNeg) → va_S (fun q => base ≤ q) s.heap H1 locs → W p l e R s m args below meth c H1 locs (cells + 1) (slots + n.toNatClampNeg) Q (F0 m (pc + 3) ls (.ref (zad t0 b0 base (zN M)) :: rest))) : W p l e R s m args below meth c H locs cells slots Q (F0 m pc ls (.int n :: rest)) := by
  obtain ⟨hx, hb, -, hown, hT, hK, -, -⟩ := cx
  have hlt : ci < 11 := (List.getElem?_eq_some_iff.mp hc).1
  refine W.anew hx hb hown (zword_ok hT w1 rfl args) (zword_ok hT w2 rfl args) rfl hdg rfl hn (by omega) hcells hslots fun cA kA comp h1 h2 h3 h4 => ?_
  rw [arrV_new]
  have z1 : (H.push (arrV cA n.toNatClampNeg (fun _ => .null))).size = H.size + 1 := by simp
  have o1 : ∀ x, x < H.size → (H.push (arrV cA n.toNatClampNeg (fun _ => .null)))[x]? = H[x]? := fun x hx => by rw [Array.getElem?_push, if_neg (Nat.ne_of_lt hx)]
  have k1 := kk _ (hrep.new (t := 30 + ci) (n := n.toNatClampNeg) (by omega) (Or.inr (Or.inr ⟨ci, r, rfl, hc⟩)) z1 o1 ?_) (zS_new hS z1 o1)
  · rw [zH_N hrep] at k1
    exact k1
  · refine ⟨fun ci2 r2 q hc2 => ?_, fun q => by omega, fun q => by omega, fun q => by omega, fun q => by omega, fun q => by omega, fun q => by omega, fun ci2 r2 q hc2 => ?_⟩
    · exfalso
      have hlt : ci2 < 11 := (List.getElem?_eq_some_iff.mp hc2).1
      omega
    · have : ci2 = ci := by omega
      subst this
      cases hc.symm.trans hc2
      exact ⟨cA, by simp [va_rf], fun n z => ⟨fun k h => (by cases h), kA, h2, comp, h3⟩, kA, comp, h2, h3, h4, h1⟩
theorem zcopy_W (cx : zCx D t0 base p s m c own cc nL) (hrep : zRep D t0 b0 base s H M) (hS : va_S (fun q => base ≤ q) s.heap H locs) (hsz : ls.size = nL) {idx p1 p2 p3 p4 a b : Nat} (w1 : zword p1 (.methodLink own idx arraycopyName) = true) (w2 : zword p2 (.native arraycopyName) = true) (w3 : zword p3 (.static arraycopyName) = true) (w4 : zword p4 (.initialized "java/lang/System") = true)
    {sp dp n : Int32} (ha : (zK M a).1 = 20) (hb' : (zK M b).1 = 20) (h1 : ¬ sp < 0) (h2 : ¬ dp < 0) (h3 : ¬ n < 0) (h4 : sp.toNatClampNeg + n.toNatClampNeg ≤ (zK M a).2) (h5 : dp.toNatClampNeg + n.toNatClampNeg ≤ (zK M b).2)
    (hframes : 1 ≤ R.frames) (hlocals : (rest.map fun v => v.category).sum + 18 ≤ R.locals) (hdg : decode cc pc = .ok (.invokestatic idx, 3))
    (kk : ∀ (H1 : Heap) (locs1 : List Loc), zRep D t0 b0 base s H1 (zcopy M a sp.toNatClampNeg b dp.toNatClampNeg n.toNatClampNeg) → va_S (fun q => base ≤ q) s.heap H1 locs1 → W p l e R s m args below meth c H1 locs1 cells slots Q (F0 m (pc + 3) ls rest)) : W p l e R s m args below meth c H locs cells slots Q (F0 m pc ls (.int n :: .int dp :: .ref (zad t0 b0 base b) :: .int sp :: .ref (zad t0 b0 base a) :: rest)) := by
  obtain ⟨hx, hb, hml, hown, hT, hK, -, -⟩ := cx
  have nn : ∀ z : Int32, ¬ z < 0 → z.toInt = (z.toNatClampNeg : Int) := by
    intro z hz
    have hz0 : (0 : Int) ≤ z.toInt := by
      have := Int32.not_lt.mp hz
      simpa using Int32.le_iff_toInt_le.mp this
    show z.toInt = ((z.toInt.toNat : Nat) : Int)
    omega
  obtain ⟨c0, hc0, g2, g3⟩ := (hrep.2.2.2.2.2.2.2.1 a).2.1 ha
  obtain ⟨c1, hc1, f2, f3⟩ := (hrep.2.2.2.2.2.2.2.1 b).2.1 hb'
  have hb2 : 2 ≤ b := hrep.two (by omega) (by omega)
  generalize hn0 : (zK M a).2 = n0 at *
  generalize hn1 : (zK M b).2 = n1 at *
  intro T hT' X
  obtain ⟨-, k0, hk0, cm0, hkk0⟩ := g2 n0 (fun j => .int (zI M a j))
  obtain ⟨-, k1, hk1, cm1, hkk1⟩ := f2 n1 (fun j => .int (zI M b j))
  obtain ⟨vm', X', step⟩ := X.arraycopy hx hown (zword_ok hT w1 rfl args) (zword_ok hT w2 rfl args) (zword_ok hT w3 rfl args) (zword_ok hT w4 rfl args) (srcPos := sp) (destPos := dp) (n := n) (by rw [hT']; exact hc0) (by rw [hT']; exact hc1)
    (fun _ h => by cases h) (fun _ h => by cases h) (fun h => by cases h) (fun h => by cases h) hk0 hk1 hkk0 hkk1 rfl h1 h2 h3
    (by rw [nn sp h1, nn n h3]; show ¬ _ > ((arrV c0 n0 _).slots.size : Int); rw [arrV_size]; omega)
    (by rw [nn dp h2, nn n h3]; show ¬ _ > ((arrV c1 n1 _).slots.size : Int); rw [arrV_size]; omega)
    (fun vm₁ _ i hi => by
      have e : (arrV c0 n0 (fun j => Value.int (zI M a j))).slots.getD (sp.toNatClampNeg + i) .null = .int (zI M a (sp.toNatClampNeg + i)) := by
        rw [Array.getD_eq_getD_getElem?, arrV_read _ _ (by omega)]
        rfl
      refine ⟨?_, ?_⟩
      · rw [e]; rfl
      · rw [e]; exact trivial)
    (g := F0 m pc ls (.int n :: .int dp :: .ref (zad t0 b0 base b) :: .int sp :: .ref (zad t0 b0 base a) :: rest)) rfl (by rw [hml]; exact hsz) (rest := rest) rfl (by rw [hb]; exact hdg) hframes (by show 2 * 0 + _ + (5 + 2 + 11) ≤ _; omega)
  have e1 : copied (arrV c0 n0 (fun j => Value.int (zI M a j))) (arrV c1 n1 (fun j => Value.int (zI M b j))) sp dp n = arrV c1 n1 (fun j => Value.int (va_cpy (zI M a) (zI M b) sp.toNatClampNeg dp.toNatClampNeg n.toNatClampNeg j)) := va_copied (fun z => .int z) c0 c1 _ _ h4
  rw [e1] at X' step
  have hl : zad t0 b0 base b < H.size := (Array.getElem?_eq_some_iff.mp hc1).1
  generalize hcell : arrV c1 n1 (fun j => Value.int (va_cpy (zI M a) (zI M b) sp.toNatClampNeg dp.toNatClampNeg n.toNatClampNeg j)) = cell at X' step
  have hheap : ((T.setVm vm').setCell (zad t0 b0 base b) cell).heap = H.setIfInBounds (zad t0 b0 base b) cell := by rw [← hT']; rfl
  have oq : ∀ q : Nat, q ≠ zad t0 b0 base b → (H.setIfInBounds (zad t0 b0 base b) cell)[q]? = H[q]? := fun q hq => by simp [Array.getElem?_setIfInBounds, Ne.symm hq]
  have zz : (H.setIfInBounds (zad t0 b0 base b) cell).size = H.size := by simp
  obtain ⟨t, a1, b1⟩ := kk _ (locs ++ ((arrV c0 n0 (fun j => Value.int (zI M a j))).stretch sp.toNatClampNeg n.toNatClampNeg).zipIdx.map fun q => ⟨zad t0 b0 base b, dp.toNatClampNeg + q.2⟩) (hrep.put (M1 := zcopy M a sp.toNatClampNeg b dp.toNatClampNeg n.toNatClampNeg) hb2 rfl rfl (fun x hx => by funext j; simp [zI, zcopy, zrow, hx]) (fun _ _ => rfl) (fun _ _ => rfl) zz oq (by
      refine ⟨fun ci2 r2 q hc2 => ?_, fun q => ?_, fun q => by omega, fun q => by omega, fun q => by omega, fun q => by omega, fun q => by omega, fun ci2 r2 q hc2 => by omega⟩
      · exfalso
        have hlt : ci2 < 11 := (List.getElem?_eq_some_iff.mp hc2).1
        omega
      · refine ⟨c1, ?_, f2, f3⟩
        rw [show (H.setIfInBounds (zad t0 b0 base b) cell)[zad t0 b0 base b]? = some cell by simp [Array.getElem?_setIfInBounds, hl], ← hcell, hn1]
        congr 2
        funext j
        simp [zI, zcopy, zrow]))
    ⟨by rw [zz]; exact hS.1, fun q g1 g2 => by
      rw [oq q (fun e => g2 (by rw [e]; exact zad_A hb2))]
      exact hS.2.1 q g1 g2, fun q hq => by
      rcases List.mem_append.mp hq with h | h
      · exact hS.2.2 q h
      · obtain ⟨z, -, hz⟩ := List.mem_map.mp h
        rw [← hz]
        exact zad_A hb2⟩ _ hheap X'
  exact ⟨t, step t a1, b1⟩
end ZOPS2
