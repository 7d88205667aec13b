/-! the machine's rows over the abstract memory -/
def zCx (D : va_G) (t0 base : Nat) (p : Program) (s : State) (m : MethodId) (c : Code) (own : String) (cc : ByteArray) (nL : Nat) : Prop :=
  p.tables.exec = Jvm.exec ∧ c.code = cc ∧ c.maxLocals = nL ∧ s.vm.findClass own = some m.cls ∧ zTb s ∧ va_K D vwCl [] s ∧ va_Z "PromiseTries$TruthStack" "PATTERNS" "[J" (.ref t0) (fun q => base ≤ q) s s.heap ∧ base ≤ s.heap.size
theorem zword_ok {s : State} (hT : zTb s) {p : Nat} {w : Cond} (h : zword p w = true) (hg : (goodWord w || znest w) = true) (a : Array Value) : w.before a s = true := hT w (zword_mem h) hg a
theorem zlays {s : State} (hT : zTb s) {ci : Nat} {r : vw_C} (h : vwCl[ci]? = some r) (args : Array Value) : ∀ w ∈ u_ws r.1 r.2.1 r.2.2, w.before args s = true := by
  intro w hw
  refine hT w (zlay h w hw) ?_ args
  obtain ⟨k, -, rfl⟩ := List.mem_map.mp hw
  rw [zlaygood (ci := ci) (r := r)]
  rfl
theorem zin_iff {j : Int32} {n : Nat} : zin j n = true ↔ ¬ j < 0 ∧ j.toNatClampNeg < n := by
  unfold zin
  simp only [Bool.and_eq_true, decide_eq_true_eq]
theorem zin_in {j : Int32} {n : Nat} (h : zin j n = true) : ¬ (j < 0 ∨ n ≤ j.toNatClampNeg) := by
  obtain ⟨h1, h2⟩ := zin_iff.mp h
  exact fun q => q.elim h1 (fun z => by omega)
theorem zin_in2 {j : Int32} {n k : Nat} (h : zin j n = true) (hk : n ≤ k) : ¬ (j < 0 ∨ k ≤ j.toNatClampNeg) := by
  obtain ⟨h1, h2⟩ := zin_iff.mp h
  exact fun q => q.elim h1 (fun z => by omega)
section ZOPS
variable {p : Program} {l : Launch} {e : Env} {R : Room} {s : State} {m : MethodId} {args : Array Value} {below : List Frame} {meth : Method} {c : Code} {H : Heap} {locs : List Loc} {cells slots : Nat} {Q : State → Prop}
variable {cc : ByteArray} {pc nL : Nat} {ls : Array Slot} {rest : List Value} {D : va_G} {t0 b0 base : Nat} {own : String} {M : zM}
theorem zfck_inv {idx ci k : Nat} {w : List Nat} (h : zfck own idx ci k w = true) : ∃ (r : vw_C) (pp nn : Nat), vwCl[ci]? = some r ∧ w = [pp, nn] ∧ k < r.2.2 ∧ ((nn = 0 ∧ zword pp (.fieldLink own idx (r.2.1 k).1 (r.2.1 k).2.1 (r.2.1 k).2.2.1) = true) ∨ (¬ nn = 0 ∧ zword pp (.fieldLinkNest own idx (r.2.1 k).1 (r.2.1 k).2.1 (r.2.1 k).2.2.1 zhost) = true)) := by
  unfold zfck at h
  split at h
  · rename_i C T N pp hc
    simp only [Bool.and_eq_true, decide_eq_true_eq] at h
    exact ⟨(C, T, N), pp, 0, hc, rfl, h.1, Or.inl ⟨rfl, h.2⟩⟩
  · rename_i C T N pp nn hne hc
    simp only [Bool.and_eq_true, decide_eq_true_eq] at h
    exact ⟨(C, T, N), pp, nn, hc, rfl, h.1, Or.inr ⟨fun z => by subst z; exact hne rfl, h.2⟩⟩
  · cases h
theorem zget (cx : zCx D t0 base p s m c own cc nL) (hrep : zRep D t0 b0 base s H M) {idx ci k a : Nat} {w : List Nat} (hka : (zK M a).1 = ci + 1) (hfk : zfck own idx ci k w = true) (hdg : decode cc pc = .ok (.getfield idx, 3))
    (kk : W p l e R s m args below meth c H locs cells slots Q (F0 m (pc + 3) ls (zfv (zad t0 b0 base) (ztys ci k) (zI M a k) (zL M a k) (zR M a k) :: rest))) : W p l e R s m args below meth c H locs cells slots Q (F0 m pc ls (.ref (zad t0 b0 base a) :: rest)) := by
  obtain ⟨hx, hb, -, hown, hT, hK, -, -⟩ := cx
  obtain ⟨r, pp, nn, hc, -, hk, hw⟩ := zfck_inv hfk
  have hob := (hrep.2.2.2.2.2.2.2.1 a).1 ci r hka hc
  obtain ⟨C, T, N⟩ := r
  have hP : va_P D vwCl [(zad t0 b0 base a, .inr (ci, (List.range N).map (fun k => zfv (zad t0 b0 base) (ztys ci k) (zI M a k) (zL M a k) (zR M a k))))] H := by
    intro i q hq
    match i, hq with
    | 0, hq =>
      cases hq
      refine ⟨(C, T, N), hc, hob.to fun j hj => ?_⟩
      have hj' : j < N := hj
      simp [vp_V, hj']
  have hv : ((List.range N).map (fun k => zfv (zad t0 b0 base) (ztys ci k) (zI M a k) (zL M a k) (zR M a k)))[k]? = some (zfv (zad t0 b0 base) (ztys ci k) (zI M a k) (zL M a k) (zR M a k)) := by
    have hk' : k < N := hk
    simp [hk']
  rcases hw with ⟨-, hw⟩ | ⟨-, hw⟩
  · exact va_get (D := D) (cl := vwCl) (tys := []) (C := C) (T := T) (N := N) (Ts := u_ws C T N) hx hb (zlays hT hc args) (fun _ h => h) hown hK hP 0 rfl hc k hk (zword_ok hT hw rfl args) (fun _ h => h) hv hdg kk
  · exact va_getN (D := D) (cl := vwCl) (tys := []) (C := C) (T := T) (N := N) (Ts := u_ws C T N) hx hb (zlays hT hc args) (fun _ h => h) hown hK hP 0 rfl hc k hk (zword_ok hT hw rfl args) (fun _ h => h) hv hdg kk
theorem zput0 (cx : zCx D t0 base p s m c own cc nL) {idx ci k q : Nat} {w : List Nat} {V : Nat → Value} {r : vw_C} (hc : vwCl[ci]? = some r) (hob : t_OB q (D.1 ci) r.2.2 (D.2 ci) H V) (hfk : zfck own idx ci k w = true) (hdg : decode cc pc = .ok (.putfield idx, 3)) {v : Value} (hn : narrow (ztys ci k) v = v) (hfit : fits (ztys ci k) v = true)
    (hfin : zfin ci k = true → meth.name = "<init>" ∧ (w.drop 1).headD 1 = 0 ∧ ((vwCl[ci]?).map (fun q => (q.2.1 k).1)) = some own)
    (kk : ∀ (H1 : Heap) (i : Nat), t_OB q (D.1 ci) r.2.2 (D.2 ci) H1 (updV V k v) → H1.size = H.size → (∀ x, x ≠ q → H1[x]? = H[x]?) → W p l e R s m args below meth c H1 (locs ++ [⟨q, i⟩]) cells slots Q (F0 m (pc + 3) ls rest)) : W p l e R s m args below meth c H locs cells slots Q (F0 m pc ls (v :: .ref q :: rest)) := by
  obtain ⟨hx, hb, -, hown, hT, hK, -, -⟩ := cx
  obtain ⟨r2, pp, nn, hc2, hwe, hk, hw⟩ := zfck_inv hfk
  cases hc.symm.trans hc2
  have hts := zlays hT hc args
  have hap := va_apart (own := own) hts (fun _ h => h) (ztys ci) (ztyp hc) (znam hc) hK hc
  have hd := ztyp hc k hk
  obtain ⟨cell, q1, q2, q3, q4⟩ := hob
  obtain ⟨hS, hfc, kC, hkC, hkind⟩ := hK.1 ci _ hc
  obtain ⟨cf, kf, fi, f, hi, hsl⟩ := hS k hk
  have hlay := hts _ (u_in_lay hk)
  have hlays := u_lays hts (fun _ h => h) hk
  have hst := (u_facts hfc hkC hlays hi).1
  have hend : ∀ H' : Heap, H'[q]? = some (cell.setSlot f.slot v) → H'.size = H.size → (∀ x, x ≠ q → H'[x]? = H[x]?) → W p l e R s m args below meth c H' (locs ++ [⟨q, f.slot⟩]) cells slots Q (F0 m (pc + 3) ls rest) := by
    intro H' e1 e2 e3
    rw [hsl] at e1 ⊢
    exact kk H' _ ⟨_, e1, q2, q3, t_set q4 hap hk v⟩ e2 e3
  cases hfb : (r.2.1 k).2.2.2 with
  | false =>
    unfold u_lay at hlay
    rw [if_neg (by rw [hfb]; decide)] at hlay
    have h6 := u_store hfc hkC hkind hlay hi hd hn hfit
    rcases hw with ⟨-, hw⟩ | ⟨-, hw⟩
    · exact W.putK hx hb (f := f) ⟨hown, zword_ok hT hw rfl args, ⟨_, _, _, hi⟩, hst⟩ (by rw [q2]; exact h6) q1 q3 (by rw [hsl]; exact k2_hasslot (q4 k hk)) rfl rfl hdg hend
    · exact va_WputK hx hb (f := f) hown (zword_ok hT hw rfl args) hi hst (by rw [q2]; exact h6) q1 q3 (by rw [hsl]; exact k2_hasslot (q4 k hk)) rfl rfl hdg hend
  | true =>
    unfold u_lay at hlay
    rw [if_pos hfb] at hlay
    obtain ⟨hnm, hw0, hdecl⟩ := hfin (by unfold zfin; rw [hc]; exact hfb)
    rw [hc] at hdecl
    have hdecl : (r.2.1 k).1 = own := Option.some.inj hdecl
    rw [hwe] at hw0
    have hn0 : nn = 0 := hw0
    rcases hw with ⟨-, hw⟩ | ⟨hne, hw⟩
    · have hcf : m.cls = cf := by
        obtain ⟨_, _, c', _, _, _, -, -, hf', -, -, -, hown2, -⟩ := Cond.laysFinal_spec hlay
        have e1 : c' = cf := by have := hi.symm.trans hf'; simp at this; exact this.1.symm
        rw [hdecl] at hown2
        rw [← e1]; exact Option.some.inj (hown.symm.trans hown2)
      have h6 := u_fits hfc hkC hkind (Or.inr hlay) hi hd hn hfit
      exact W.putFinK hx hb hown (zword_ok hT hw rfl args) hi hst hcf hnm (by rw [q2]; exact h6) q1 q3 (by rw [hsl]; exact k2_hasslot (q4 k hk)) rfl rfl hdg hend
    · exact absurd hn0 hne
theorem zS_put {A : Nat → Prop} {H0 H1 : Heap} {q i : Nat} (h : va_S A H0 H locs) (z : H1.size = H.size) (o : ∀ x, x ≠ q → H1[x]? = H[x]?) (ha : A q) : va_S A H0 H1 (locs ++ [⟨q, i⟩]) := h.put z o ha
theorem zad_A {a : Nat} (ha : 2 ≤ a) : base ≤ zad t0 b0 base a := by rw [zad_2 ha]; omega
theorem updV_fun {V : Nat → Value} {k : Nat} {v : Value} (W' : Nat → Value) (h1 : W' k = v) (h2 : ∀ j, j ≠ k → W' j = V j) : updV V k v = W' := by
  funext j
  by_cases h : j = k
  · subst h; simp [updV, h1]
  · simp [updV, h, h2 j h]
theorem zput_int (cx : zCx D t0 base p s m c own cc nL) (hrep : zRep D t0 b0 base s H M) (hS : va_S (fun q => base ≤ q) s.heap H locs) {idx ci k a ty : Nat} {w : List Nat} {x : Int32} (hka : (zK M a).1 = ci + 1) (hci : ci < 11) (hfk : zfck own idx ci k w = true) (hty : ty = ztyc (ztys ci k)) (hx01 : ty = 0 ∨ (ty = 3 ∧ (x = 0 ∨ x = 1))) (hdg : decode cc pc = .ok (.putfield idx, 3))
    (hfin : zfin ci k = true → meth.name = "<init>" ∧ (w.drop 1).headD 1 = 0 ∧ ((vwCl[ci]?).map (fun q => (q.2.1 k).1)) = some own)
    (kk : ∀ (H1 : Heap) (locs1 : List Loc), zRep D t0 b0 base s H1 (zsI M a k x) → va_S (fun q => base ≤ q) s.heap H1 locs1 → W p l e R s m args below meth c H1 locs1 cells slots Q (F0 m (pc + 3) ls rest)) : W p l e R s m args below meth c H locs cells slots Q (F0 m pc ls (.int x :: .ref (zad t0 b0 base a) :: rest)) := by
  obtain ⟨r, pp, nn, hc, -, hk, -⟩ := zfck_inv hfk
  have hob := (hrep.2.2.2.2.2.2.2.1 a).1 ci r hka hc
  have h2 : 2 ≤ a := hrep.two (by rw [hka]; omega) (by rw [hka]; omega)
  have hnf : narrow (ztys ci k) (.int x) = .int x ∧ fits (ztys ci k) (.int x) = true ∧ zfv (zad t0 b0 base) (ztys ci k) x (zL M a k) (zR M a k) = .int x := by
    rcases hx01 with h | ⟨h, hx⟩
    · rw [h] at hty
      generalize ztys ci k = t at hty
      unfold ztyc at hty
      split at hty <;> first | (exact ⟨rfl, rfl, rfl⟩) | (cases hty)
    · rw [h] at hty
      generalize ztys ci k = t at hty
      unfold ztyc at hty
      split at hty <;> first | (rcases hx with rfl | rfl <;> exact ⟨rfl, rfl, rfl⟩) | (cases hty)
  refine zput0 cx hc hob hfk hdg hnf.1 hnf.2.1 hfin fun H1 i e1 z o => ?_
  refine kk H1 _ (hrep.put h2 rfl rfl (fun b hb => zu_row _ _ _ _ hb) (fun _ _ => rfl) (fun _ _ => rfl) z o ?_) (hS.put z o (zad_A h2))
  refine ⟨fun ci2 r2 ht hc2 => ?_, fun q => by omega, fun q => by omega, fun q => by omega, fun q => by omega, fun q => by omega, fun q => by omega, fun ci2 r2 q => by omega⟩
  have : ci2 = ci := by omega
  subst this
  cases hc.symm.trans hc2
  refine e1.to fun j _ => ?_
  show updV _ k _ j = zfv _ _ (zu _ a k x a j) _ _
  rw [zu_at]
  by_cases hj : j = k
  · subst hj
    rw [if_pos rfl]
    simp only [updV, if_true]
    exact hnf.2.2.symm
  · rw [if_neg hj]
    simp [updV, hj]
    rfl
theorem zput_long (cx : zCx D t0 base p s m c own cc nL) (hrep : zRep D t0 b0 base s H M) (hS : va_S (fun q => base ≤ q) s.heap H locs) {idx ci k a : Nat} {w : List Nat} {x : Int64} (hka : (zK M a).1 = ci + 1) (hci : ci < 11) (hfk : zfck own idx ci k w = true) (hty : 1 = ztyc (ztys ci k)) (hdg : decode cc pc = .ok (.putfield idx, 3))
    (hfin : zfin ci k = true → meth.name = "<init>" ∧ (w.drop 1).headD 1 = 0 ∧ ((vwCl[ci]?).map (fun q => (q.2.1 k).1)) = some own)
    (kk : ∀ (H1 : Heap) (locs1 : List Loc), zRep D t0 b0 base s H1 (zsL M a k x) → va_S (fun q => base ≤ q) s.heap H1 locs1 → W p l e R s m args below meth c H1 locs1 cells slots Q (F0 m (pc + 3) ls rest)) : W p l e R s m args below meth c H locs cells slots Q (F0 m pc ls (.long x :: .ref (zad t0 b0 base a) :: rest)) := by
  obtain ⟨r, pp, nn, hc, -, hk, -⟩ := zfck_inv hfk
  have hob := (hrep.2.2.2.2.2.2.2.1 a).1 ci r hka hc
  have h2 : 2 ≤ a := hrep.two (by rw [hka]; omega) (by rw [hka]; omega)
  have hnf : narrow (ztys ci k) (.long x) = .long x ∧ fits (ztys ci k) (.long x) = true ∧ zfv (zad t0 b0 base) (ztys ci k) (zI M a k) x (zR M a k) = .long x := by
    generalize ztys ci k = t at hty
    unfold ztyc at hty
    split at hty <;> first | (exact ⟨rfl, rfl, rfl⟩) | (cases hty)
  refine zput0 cx hc hob hfk hdg hnf.1 hnf.2.1 hfin fun H1 i e1 z o => ?_
  refine kk H1 _ (hrep.put h2 rfl rfl (fun _ _ => rfl) (fun b hb => zu_row _ _ _ _ hb) (fun _ _ => rfl) z o ?_) (hS.put z o (zad_A h2))
  refine ⟨fun ci2 r2 ht hc2 => ?_, fun q => by omega, fun q => by omega, fun q => by omega, fun q => by omega, fun q => by omega, fun q => by omega, fun ci2 r2 q => by omega⟩
  have : ci2 = ci := by omega
  subst this
  cases hc.symm.trans hc2
  refine e1.to fun j _ => ?_
  show updV _ k _ j = zfv _ _ _ (zu _ a k x a j) _
  rw [zu_at]
  by_cases hj : j = k
  · subst hj
    rw [if_pos rfl]
    simp only [updV, if_true]
    exact hnf.2.2.symm
  · rw [if_neg hj]
    simp [updV, hj]
    rfl
theorem zput_ref (cx : zCx D t0 base p s m c own cc nL) (hrep : zRep D t0 b0 base s H M) (hS : va_S (fun q => base ≤ q) s.heap H locs) {idx ci k a x : Nat} {w : List Nat} (hka : (zK M a).1 = ci + 1) (hci : ci < 11) (hfk : zfck own idx ci k w = true) (hty : 2 = ztyc (ztys ci k)) (hdg : decode cc pc = .ok (.putfield idx, 3))
    (hfin : zfin ci k = true → meth.name = "<init>" ∧ (w.drop 1).headD 1 = 0 ∧ ((vwCl[ci]?).map (fun q => (q.2.1 k).1)) = some own)
    (kk : ∀ (H1 : Heap) (locs1 : List Loc), zRep D t0 b0 base s H1 (zsR M a k (some x)) → va_S (fun q => base ≤ q) s.heap H1 locs1 → W p l e R s m args below meth c H1 locs1 cells slots Q (F0 m (pc + 3) ls rest)) : W p l e R s m args below meth c H locs cells slots Q (F0 m pc ls (.ref (zad t0 b0 base x) :: .ref (zad t0 b0 base a) :: rest)) := by
  obtain ⟨r, pp, nn, hc, -, hk, -⟩ := zfck_inv hfk
  have hob := (hrep.2.2.2.2.2.2.2.1 a).1 ci r hka hc
  have h2 : 2 ≤ a := hrep.two (by rw [hka]; omega) (by rw [hka]; omega)
  have hnf : narrow (ztys ci k) (.ref (zad t0 b0 base x)) = .ref (zad t0 b0 base x) ∧ fits (ztys ci k) (.ref (zad t0 b0 base x)) = true ∧ zfv (zad t0 b0 base) (ztys ci k) (zI M a k) (zL M a k) (some x) = .ref (zad t0 b0 base x) := by
    generalize ztys ci k = t at hty
    unfold ztyc at hty
    split at hty <;> first | (exact ⟨rfl, rfl, rfl⟩) | (cases hty)
  refine zput0 cx hc hob hfk hdg hnf.1 hnf.2.1 hfin fun H1 i e1 z o => ?_
  refine kk H1 _ (hrep.put h2 rfl rfl (fun _ _ => rfl) (fun _ _ => rfl) (fun b hb => zu_row _ _ _ _ hb) z o ?_) (hS.put z o (zad_A h2))
  refine ⟨fun ci2 r2 ht hc2 => ?_, fun q => by omega, fun q => by omega, fun q => by omega, fun q => by omega, fun q => by omega, fun q => by omega, fun ci2 r2 q => by omega⟩
  have : ci2 = ci := by omega
  subst this
  cases hc.symm.trans hc2
  refine e1.to fun j _ => ?_
  show updV _ k _ j = zfv _ _ _ _ (zu _ a k (some x) a j)
  rw [zu_at]
  by_cases hj : j = k
  · subst hj
    rw [if_pos rfl]
    simp only [updV, if_true]
    exact hnf.2.2.symm
  · rw [if_neg hj]
    simp [updV, hj]
    rfl
/-! rows of numbers -/
theorem zar_i (hrep : zRep D t0 b0 base s H M) {a : Nat} (h : (zK M a).1 = 20 ∨ (zK M a).1 = 24) : zAr s H (zad t0 b0 base a) .int (zK M a).2 (fun j => .int (zI M a j)) := by
  obtain ⟨-, h2, -, -, -, h6, -, -⟩ := hrep.2.2.2.2.2.2.2.1 a
  rcases h with h | h
  · exact (h2 h).ar
  · exact h6 h
theorem zar_l (hrep : zRep D t0 b0 base s H M) {a : Nat} (h : (zK M a).1 = 23 ∨ (zK M a).1 = 25) : zAr s H (zad t0 b0 base a) .long (zK M a).2 (fun j => .long (zL M a j)) := by
  obtain ⟨-, -, -, -, h5, -, h7, -⟩ := hrep.2.2.2.2.2.2.2.1 a
  rcases h with h | h
  · exact (h5 h).ar
  · exact h7 h
theorem zald_i (cx : zCx D t0 base p s m c own cc nL) (hrep : zRep D t0 b0 base s H M) {a : Nat} {j : Int32} (h : (zK M a).1 = 20 ∨ (zK M a).1 = 24) (hj : zin j (zK M a).2 = true) (hdg : decode cc pc = .ok (.iaload, 1))
    (kk : W p l e R s m args below meth c H locs cells slots Q (F0 m (pc + 1) ls (.int (zI M a j.toNatClampNeg) :: rest))) : W p l e R s m args below meth c H locs cells slots Q (F0 m pc ls (.int j :: .ref (zad t0 b0 base a) :: rest)) := by
  obtain ⟨cell, h1, h2, h3, h4, h6, h5⟩ := zar_i hrep h
  exact W.iald cx.1 cx.2.1 h1 h2 h3 (zin_in2 hj h4) (h5 _ (zin_iff.mp hj).2) rfl rfl hdg kk
theorem zald_l (cx : zCx D t0 base p s m c own cc nL) (hrep : zRep D t0 b0 base s H M) {a : Nat} {j : Int32} (h : (zK M a).1 = 23 ∨ (zK M a).1 = 25) (hj : zin j (zK M a).2 = true) (hdg : decode cc pc = .ok (.laload, 1))
    (kk : W p l e R s m args below meth c H locs cells slots Q (F0 m (pc + 1) ls (.long (zL M a j.toNatClampNeg) :: rest))) : W p l e R s m args below meth c H locs cells slots Q (F0 m pc ls (.int j :: .ref (zad t0 b0 base a) :: rest)) := by
  obtain ⟨cell, h1, h2, h3, h4, h6, h5⟩ := zar_l hrep h
  exact W.lald cx.1 cx.2.1 h1 h2 h3 (zin_in2 hj h4) (h5 _ (zin_iff.mp hj).2) rfl rfl hdg kk
theorem zald_b (cx : zCx D t0 base p s m c own cc nL) (hrep : zRep D t0 b0 base s H M) {a : Nat} {j : Int32} (h : (zK M a).1 = 21 ∨ (zK M a).1 = 22) (hj : zin j (zK M a).2 = true) (hdg : decode cc pc = .ok (.baload, 1))
    (kk : W p l e R s m args below meth c H locs cells slots Q (F0 m (pc + 1) ls (.int (zI M a j.toNatClampNeg) :: rest))) : W p l e R s m args below meth c H locs cells slots Q (F0 m pc ls (.int j :: .ref (zad t0 b0 base a) :: rest)) := by
  obtain ⟨-, -, h3, h4, -, -, -, -⟩ := hrep.2.2.2.2.2.2.2.1 a
  rcases h with h | h
  · obtain ⟨cell, h1, h2, h3, h4, h6, h5⟩ := (h3 h).ar
    exact W.zald cx.1 cx.2.1 h1 h2 h3 (zin_in2 hj h4) (h5 _ (zin_iff.mp hj).2) rfl rfl hdg kk
  · obtain ⟨cell, h1, h2, h3, h4, h6, h5⟩ := (h4 h).ar
    exact W.bald cx.1 cx.2.1 h1 h2 h3 (zin_in2 hj h4) (h5 _ (zin_iff.mp hj).2) rfl rfl hdg kk
theorem zald_r (cx : zCx D t0 base p s m c own cc nL) (hrep : zRep D t0 b0 base s H M) {a ci q : Nat} {r : vw_C} {j : Int32} (h : (zK M a).1 = 30 + ci) (hc : vwCl[ci]? = some r) (hj : zin j (zK M a).2 = true) (hq : zR M a j.toNatClampNeg = some q) (hdg : decode cc pc = .ok (.aaload, 1))
    (kk : W p l e R s m args below meth c H locs cells slots Q (F0 m (pc + 1) ls (.ref (zad t0 b0 base q) :: rest))) : W p l e R s m args below meth c H locs cells slots Q (F0 m pc ls (.int j :: .ref (zad t0 b0 base a) :: rest)) := by
  obtain ⟨-, -, -, -, -, -, -, h8⟩ := hrep.2.2.2.2.2.2.2.1 a
  obtain ⟨cell, h1, h2, h3, h4, h6, h5⟩ := (h8 ci r h hc).ar
  exact W.aald (ty := .object r.1) cx.1 cx.2.1 h1 h2 rfl h3 (zin_in2 hj h4) (by rw [h5 _ (zin_iff.mp hj).2]; show some (va_rf (Option.map _ (zR M a _))) = _; rw [hq]; rfl) rfl rfl hdg kk
theorem zalen (cx : zCx D t0 base p s m c own cc nL) (hrep : zRep D t0 b0 base s H M) {a n : Nat} {ty : FieldType} {f : Nat → Value} (h : zAr s H (zad t0 b0 base a) ty n f) (hdg : decode cc pc = .ok (.arraylength, 1))
    (kk : W p l e R s m args below meth c H locs cells slots Q (F0 m (pc + 1) ls (.int (Int32.ofNat n) :: rest))) : W p l e R s m args below meth c H locs cells slots Q (F0 m pc ls (.ref (zad t0 b0 base a) :: rest)) := by
  obtain ⟨cell, h1, h2, h3, h4, h6, h5⟩ := h
  exact W.alen (n := Int32.ofNat n) cx.1 cx.2.1 h1 h2 h6 rfl rfl hdg kk
theorem zupd_i {fI : Nat → Int32} {j : Nat} {x : Int32} (cA : ClassId) (n : Nat) : (arrV cA n (fun i => .int (fI i))).setSlot j (.int x) = arrV cA n (fun i => .int (if i = j then x else fI i)) := by
  rw [arrV_store]
  congr 1
  funext i
  by_cases h : i = j
  · subst h; simp [updV]
  · simp [updV, h]
theorem zupd_l {fI : Nat → Int64} {j : Nat} {x : Int64} (cA : ClassId) (n : Nat) : (arrV cA n (fun i => .long (fI i))).setSlot j (.long x) = arrV cA n (fun i => .long (if i = j then x else fI i)) := by
  rw [arrV_store]
  congr 1
  funext i
  by_cases h : i = j
  · subst h; simp [updV]
  · simp [updV, h]
theorem zupd_r {ad : Nat → Nat} {fI : Nat → Option Nat} {j : Nat} {x : Nat} (cA : ClassId) (n : Nat) : (arrV cA n (fun i => va_rf ((fI i).map ad))).setSlot j (.ref (ad x)) = arrV cA n (fun i => va_rf ((if i = j then some x else fI i).map ad)) := by
  rw [arrV_store]
  congr 1
  funext i
  by_cases h : i = j
  · subst h; simp [updV, va_rf]
  · simp [updV, h]
theorem zast_i (cx : zCx D t0 base p s m c own cc nL) (hrep : zRep D t0 b0 base s H M) (hS : va_S (fun q => base ≤ q) s.heap H locs) {a : Nat} {j x : Int32} (h : (zK M a).1 = 20) (hj : zin j (zK M a).2 = true) (hdg : decode cc pc = .ok (.iastore, 1))
    (kk : ∀ (H1 : Heap) (locs1 : List Loc), zRep D t0 b0 base s H1 (zsI M a j.toNatClampNeg x) → va_S (fun q => base ≤ q) s.heap H1 locs1 → W p l e R s m args below meth c H1 locs1 cells slots Q (F0 m (pc + 1) ls rest)) : W p l e R s m args below meth c H locs cells slots Q (F0 m pc ls (.int x :: .int j :: .ref (zad t0 b0 base a) :: rest)) := by
  obtain ⟨cA, h1, h2, h3⟩ := (hrep.2.2.2.2.2.2.2.1 a).2.1 h
  have ha : 2 ≤ a := hrep.two (by omega) (by omega)
  refine W.iast cx.1 cx.2.1 h1 (h2 _ _) (fun q => by cases q) (by rw [arrV_size]; exact zin_in hj) rfl rfl hdg fun H1 e1 z o => ?_
  refine kk H1 _ (hrep.put ha rfl rfl (fun b hb => zu_row _ _ _ _ hb) (fun _ _ => rfl) (fun _ _ => rfl) z o ?_) (hS.put z o (zad_A ha))
  refine ⟨fun ci2 r2 q hc2 => ?_, fun q => ?_, fun q => by omega, fun q => by omega, fun q => by omega, fun q => by omega, fun q => by omega, fun ci2 r2 q => by omega⟩
  · exfalso
    have hlt : ci2 < 11 := (List.getElem?_eq_some_iff.mp hc2).1
    omega
  · refine ⟨cA, ?_, h2, h3⟩
    rw [e1, zupd_i]
    congr 2
    funext i
    show _ = Value.int (zu _ a _ x a i)
    rw [zu_at]
    rfl
theorem zast_l (cx : zCx D t0 base p s m c own cc nL) (hrep : zRep D t0 b0 base s H M) (hS : va_S (fun q => base ≤ q) s.heap H locs) {a : Nat} {j : Int32} {x : Int64} (h : (zK M a).1 = 23) (hj : zin j (zK M a).2 = true) (hdg : decode cc pc = .ok (.lastore, 1))
    (kk : ∀ (H1 : Heap) (locs1 : List Loc), zRep D t0 b0 base s H1 (zsL M a j.toNatClampNeg x) → va_S (fun q => base ≤ q) s.heap H1 locs1 → W p l e R s m args below meth c H1 locs1 cells slots Q (F0 m (pc + 1) ls rest)) : W p l e R s m args below meth c H locs cells slots Q (F0 m pc ls (.long x :: .int j :: .ref (zad t0 b0 base a) :: rest)) := by
  obtain ⟨cA, h1, h2, h3⟩ := (hrep.2.2.2.2.2.2.2.1 a).2.2.2.2.1 h
  have ha : 2 ≤ a := hrep.two (by omega) (by omega)
  refine W.last cx.1 cx.2.1 h1 (h2 _ _) (fun q => by cases q) (by rw [arrV_size]; exact zin_in hj) rfl rfl hdg fun H1 e1 z o => ?_
  refine kk H1 _ (hrep.put ha rfl rfl (fun _ _ => rfl) (fun b hb => zu_row _ _ _ _ hb) (fun _ _ => rfl) z o ?_) (hS.put z o (zad_A ha))
  refine ⟨fun ci2 r2 q hc2 => ?_, fun q => by omega, fun q => by omega, fun q => by omega, fun q => ?_, fun q => by omega, fun q => by omega, fun ci2 r2 q => by omega⟩
  · exfalso
    have hlt : ci2 < 11 := (List.getElem?_eq_some_iff.mp hc2).1
    omega
  · refine ⟨cA, ?_, h2, h3⟩
    rw [e1, zupd_l]
    congr 2
    funext i
    show _ = Value.long (zu _ a _ x a i)
    rw [zu_at]
    rfl
theorem znar_z (x : Int32) : narrow .boolean (.int x) = .int (vp_nar .boolean x) := rfl
theorem znar_b (x : Int32) : narrow .byte (.int x) = .int (vp_nar .byte x) := rfl
theorem zast_z (cx : zCx D t0 base p s m c own cc nL) (hrep : zRep D t0 b0 base s H M) (hS : va_S (fun q => base ≤ q) s.heap H locs) {a : Nat} {j x : Int32} (h : (zK M a).1 = 21) (hj : zin j (zK M a).2 = true) (hdg : decode cc pc = .ok (.bastore, 1))
    (kk : ∀ (H1 : Heap) (locs1 : List Loc), zRep D t0 b0 base s H1 (zsI M a j.toNatClampNeg (vp_nar .boolean x)) → va_S (fun q => base ≤ q) s.heap H1 locs1 → W p l e R s m args below meth c H1 locs1 cells slots Q (F0 m (pc + 1) ls rest)) : W p l e R s m args below meth c H locs cells slots Q (F0 m pc ls (.int x :: .int j :: .ref (zad t0 b0 base a) :: rest)) := by
  obtain ⟨cA, h1, h2, h3⟩ := (hrep.2.2.2.2.2.2.2.1 a).2.2.1 h
  have ha : 2 ≤ a := hrep.two (by omega) (by omega)
  refine W.zast cx.1 cx.2.1 h1 (h2 _ _) (fun q => by cases q) (by rw [arrV_size]; exact zin_in hj) rfl rfl hdg fun H1 e1 z o => ?_
  refine kk H1 _ (hrep.put ha rfl rfl (fun b hb => zu_row _ _ _ _ hb) (fun _ _ => rfl) (fun _ _ => rfl) z o ?_) (hS.put z o (zad_A ha))
  refine ⟨fun ci2 r2 q hc2 => ?_, fun q => by omega, fun q => ?_, fun q => by omega, fun q => by omega, fun q => by omega, fun q => by omega, fun ci2 r2 q => by omega⟩
  · exfalso
    have hlt : ci2 < 11 := (List.getElem?_eq_some_iff.mp hc2).1
    omega
  · refine ⟨cA, ?_, h2, h3⟩
    rw [e1, znar_z, zupd_i]
    congr 2
    funext i
    show _ = Value.int (zu _ a _ _ a i)
    rw [zu_at]
    rfl
theorem zast_b (cx : zCx D t0 base p s m c own cc nL) (hrep : zRep D t0 b0 base s H M) (hS : va_S (fun q => base ≤ q) s.heap H locs) {a : Nat} {j x : Int32} (h : (zK M a).1 = 22) (hj : zin j (zK M a).2 = true) (hdg : decode cc pc = .ok (.bastore, 1))
    (kk : ∀ (H1 : Heap) (locs1 : List Loc), zRep D t0 b0 base s H1 (zsI M a j.toNatClampNeg (vp_nar .byte x)) → va_S (fun q => base ≤ q) s.heap H1 locs1 → W p l e R s m args below meth c H1 locs1 cells slots Q (F0 m (pc + 1) ls rest)) : W p l e R s m args below meth c H locs cells slots Q (F0 m pc ls (.int x :: .int j :: .ref (zad t0 b0 base a) :: rest)) := by
  obtain ⟨cA, h1, h2, h3⟩ := (hrep.2.2.2.2.2.2.2.1 a).2.2.2.1 h
  have ha : 2 ≤ a := hrep.two (by omega) (by omega)
  refine W.bast cx.1 cx.2.1 h1 (h2 _ _) (fun q => by cases q) (by rw [arrV_size]; exact zin_in hj) rfl rfl hdg fun H1 e1 z o => ?_
  refine kk H1 _ (hrep.put ha rfl rfl (fun b hb => zu_row _ _ _ _ hb) (fun _ _ => rfl) (fun _ _ => rfl) z o ?_) (hS.put z o (zad_A ha))
  refine ⟨fun ci2 r2 q hc2 => ?_, fun q => by omega, fun q => by omega, fun q => ?_, fun q => by omega, fun q => by omega, fun q => by omega, fun ci2 r2 q => by omega⟩
  · exfalso
    have hlt : ci2 < 11 := (List.getElem?_eq_some_iff.mp hc2).1
    omega
  · refine ⟨cA, ?_, h2, h3⟩
    rw [e1, znar_b, zupd_i]
    congr 2
    funext i
    show _ = Value.int (zu _ a _ _ a i)
    rw [zu_at]
    rfl
theorem zast_r (cx : zCx D t0 base p s m c own cc nL) (hrep : zRep D t0 b0 base s H M) (hS : va_S (fun q => base ≤ q) s.heap H locs) {a q ci : Nat} {j : Int32} {r : vw_C} (hq : (zK M q).1 = ci + 1) (h : (zK M a).1 = 30 + ci) (hc : vwCl[ci]? = some r) (hj : zin j (zK M a).2 = true) (hdg : decode cc pc = .ok (.aastore, 1))
    (kk : ∀ (H1 : Heap) (locs1 : List Loc), zRep D t0 b0 base s H1 (zsR M a j.toNatClampNeg (some q)) → va_S (fun q => base ≤ q) s.heap H1 locs1 → W p l e R s m args below meth c H1 locs1 cells slots Q (F0 m (pc + 1) ls rest)) : W p l e R s m args below meth c H locs cells slots Q (F0 m pc ls (.ref (zad t0 b0 base q) :: .int j :: .ref (zad t0 b0 base a) :: rest)) := by
  obtain ⟨cA, h1, h2, h3⟩ := (hrep.2.2.2.2.2.2.2.1 a).2.2.2.2.2.2.2 ci r h hc
  have ha : 2 ≤ a := hrep.two (by omega) (by omega)
  obtain ⟨cellV, g1, g2, g3, -⟩ := (hrep.2.2.2.2.2.2.2.1 q).1 ci r hq hc
  have hcls := (cx.2.2.2.2.2.1.1 ci r hc).2
  obtain ⟨kA, comp, k1, k2, k3, k4⟩ := id h3
  have hcomp : comp = D.1 ci := Option.some.inj (k3.symm.trans hcls.1)
  subst hcomp
  obtain ⟨kC, hkC, -⟩ := hcls.2
  refine W.aast cx.1 cx.2.1 h1 (fun q h => by cases h) (fun h => by cases h) k1 k2 rfl hkC ⟨(zin_iff.mp hj).1, by rw [arrV_size]; exact (zin_iff.mp hj).2⟩ g1 (fun q h => by rw [g3] at h; cases h) (by rw [g2]; exact hkC) (by rw [g2]; exact va_assign hcls) rfl rfl hdg fun H1 e1 z o => ?_
  refine kk H1 _ (hrep.put ha rfl rfl (fun _ _ => rfl) (fun _ _ => rfl) (fun b hb => zu_row _ _ _ _ hb) z o ?_) (hS.put z o (zad_A ha))
  have hlt0 : ci < 11 := (List.getElem?_eq_some_iff.mp hc).1
  refine ⟨fun ci2 r2 q hc2 => ?_, fun q => by omega, fun q => by omega, fun q => by omega, fun q => by omega, fun q => by omega, fun q => by omega, fun ci2 r2 q2 hc2 => ?_⟩
  · exfalso
    have hlt : ci2 < 11 := (List.getElem?_eq_some_iff.mp hc2).1
    omega
  · have : ci2 = ci := by omega
    subst this
    cases hc.symm.trans hc2
    refine ⟨cA, ?_, h2, h3⟩
    rw [e1, zupd_r]
    congr 2
    funext i
    show _ = va_rf (Option.map _ (zu _ a _ _ a i))
    rw [zu_at]
    rfl
end ZOPS
