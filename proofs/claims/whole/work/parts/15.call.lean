/-! calls -/
def zPc (D : va_G) (t0 b0 base : Nat) (as : List Value) (M : zM) : Array Value → State → Prop := fun v U => v = (as.map (zv (zad t0 b0 base))).toArray ∧ zRep D t0 b0 base U U.heap M ∧ va_K D vwCl [] U ∧ zTb U ∧ va_Z "PromiseTries$TruthStack" "PATTERNS" "[J" (.ref t0) (fun q => base ≤ q) U U.heap
def zQc (D : va_G) (t0 b0 base : Nat) (rv : Option Value) (M' : zM) : Array Value → State → Outcome → State → Prop := fun _ st oc t => oc = .returned (rv.map (zv (zad t0 b0 base))) ∧ zRep D t0 b0 base t t.heap M' ∧ st.heap.size ≤ t.heap.size ∧ ∀ q, q < base → t.heap[q]? = st.heap[q]?
def zRoom (d : Nat) (M M' : zM) : Room := { frames := d, cells := zN M' - zN M, slots := zsz M' - zsz M, locals := 64 * d }
def zMet (l : Launch) (d : Nat) (E : zE0) : Prop := ∀ (y : Nat) (as : List Value) (M : zM) (rv : Option Value) (M' : zM), y < 210 → E y as M = some (rv, M') → ∀ (D : va_G) (t0 b0 base : Nat), Met l (zNm y).1 [.code (zNm y).1 (zNm y).2.1 (zNm y).2.2.1 (zNm y).2.2.2] (zRoom d M M') (zPc D t0 b0 base as M) (zQc D t0 b0 base rv M') (zN M' - zN M) (zsz M' - zsz M) (fun q => base ≤ q)
theorem zPc.blind {D : va_G} {t0 b0 base : Nat} {as : List Value} {M : zM} : FrameBlind (zPc D t0 b0 base as M) := by
  intro a U g mk h
  obtain ⟨h1, h2, h3, h4, h5⟩ := h
  exact ⟨h1, zRep.moved (u := U) (U := U.calling g mk a) (Vm.Alike.refl U.vm) h2, va_K.moved (u := U) (U := U.calling g mk a) (Vm.Alike.refl U.vm) h3, zTb.warm (s := U) (U := U.calling g mk a) h4 (State.WarmedH.refl U), va_Z.moved (u := U) (U := U.calling g mk a) (Vm.Alike.refl U.vm) h5⟩
theorem zNm_mem {y : Nat} (h : y < 210) : zNm y ∈ zNl := by
  have hl : zNl.length = 210 := by decide +kernel
  unfold zNm
  rw [List.getD_eq_getElem?_getD, List.getElem?_eq_getElem (by rw [hl]; exact h)]
  exact List.getElem_mem _
theorem zmk_at {y : Nat} (h : y < 210) : ∃ w, zmk y w = true := by
  have hl : ((List.range 210).zip zmw).length = 210 := by decide +kernel
  have hy : y < ((List.range 210).zip zmw).length := by rw [hl]; exact h
  have hm := List.all_eq_true.mp zmk_ok _ (List.getElem_mem hy)
  have e : (((List.range 210).zip zmw)[y]).1 = y := by
    rw [List.getElem_zip]
    simp
  rw [e] at hm
  exact ⟨_, hm⟩
theorem zmk_inv {y : Nat} {w : List Nat} (h : zmk y w = true) : plainName (zNm y).1.cls = true ∧ (Cond.initialized (zNm y).1.cls) ∈ lw_tbl ∧ ((zNm y).1.cls ≠ "java/lang/invoke/MethodHandle" ∧ (zNm y).1.cls ≠ "java/lang/invoke/VarHandle") ∧ (zT y).1 = (zNm y).2.2.1 ∧ (zNm y).2.2.1 ≤ 40 ∧ zrtc (zT y).2.1 (zNm y).2.2.2 = true := by
  unfold zmk at h
  split at h
  · simp only [Bool.and_eq_true, decide_eq_true_eq] at h
    obtain ⟨⟨⟨⟨⟨⟨h1, h2⟩, h3⟩, h4⟩, h5⟩, h6⟩, h7⟩ := h
    exact ⟨h1, zword_mem h2, ⟨h3, h4⟩, h5, h6, h7⟩
  · cases h
section ZCALL
variable {p : Program} {l : Launch} {e : Env} {R : Room} {s : State} {m : MethodId} {args : Array Value} {below : List Frame} {meth : Method} {c : Code} {H : Heap} {locs : List Loc} {cells slots : Nat} {Q : State → Prop}
variable {cc : ByteArray} {pc nL : Nat} {ls : Array Slot} {rest : List Value} {D : va_G} {t0 b0 base : Nat} {own : String} {M M1 : zM} {d : Nat} {E : zE0} {y idx : Nat} {as : List Value} {rv : Option Value} {st0 : List Value}
theorem zrun_W {mc ms : Nat} {Ar : Array Value} (cx : zCx D t0 base p s m c own cc nL) (hr : va_Run p l e R s m args below meth c H locs cells slots mc ms (F0 m pc ls st0) rest (zQc D t0 b0 base rv M1 Ar) (fun q => base ≤ q)) (hS : va_S (fun q => base ≤ q) s.heap H locs)
    (kk : ∀ (H1 : Heap) (locs1 : List Loc), zRep D t0 b0 base s H1 M1 → va_S (fun q => base ≤ q) s.heap H1 locs1 → W p l e R s m args below meth c H1 locs1 (cells + mc) (slots + ms) Q (F0 m (pc + 3) ls ((rv.map (zv (zad t0 b0 base))).toList ++ rest))) : W p l e R s m args below meth c H locs cells slots Q (F0 m pc ls st0) := by
  intro T hT X
  obtain ⟨v, st₀, t, T', L, h0, X', hL, e1, e2, ⟨hv, hrep, hz, hk⟩, st⟩ := hr T hT X
  have hv : v = rv.map (zv (zad t0 b0 base)) := by cases hv; rfl
  subst hv
  have hvm : s.vm.Alike t.vm := by rw [← e2]; exact X'.warmed.alike
  obtain ⟨t2, a1, b1⟩ := kk t.heap (locs ++ L) (hrep.moved hvm.symm) ⟨Nat.le_trans hS.1 (by rw [← h0]; exact hz), fun q g1 g2 => by
      rw [hk q (Nat.not_le.mp g2), h0]
      exact hS.2.1 q g1 g2, fun q hq => by
      rcases List.mem_append.mp hq with h | h
      · exact hS.2.2 q h
      · exact hL q h⟩ T' e1 X'
  exact ⟨t2, st t2 a1, b1⟩
theorem zpre (cx : zCx D t0 base p s m c own cc nL) (hrep : zRep D t0 b0 base s H M) (hS : va_S (fun q => base ≤ q) s.heap H locs) : ∀ U : State, U.heap = H → s.WarmedH U.vm → zPc D t0 b0 base as M ((as.map (zv (zad t0 b0 base))).toArray) U := by
  intro U hU hW
  obtain ⟨hx, hb, -, hown, hT, hK, hZ, -⟩ := cx
  exact ⟨rfl, by rw [hU]; exact hrep.moved hW.alike, va_K.moved hW.alike hK, hT.warm hW, by rw [hU]; exact (hZ.kept (fun a ha hn => hS.2.1 a ha hn)).moved hW.alike⟩
theorem zcode_w (hT : zTb s) (hy : y < 210) : ∀ w ∈ ([.code (zNm y).1 (zNm y).2.1 (zNm y).2.2.1 (zNm y).2.2.2] : List Cond), ∀ (a' : Array Value) (U : State), s.WarmedH U.vm → w.before a' U = true := by
  intro w hw a' U hW
  rw [List.mem_singleton.mp hw]
  exact hT.warm hW _ (zcw _ (zNm_mem hy)) rfl a'
theorem zsig {n : Nat} {desc : String} (h : (parseMethodDescriptor desc).map (fun d => d.parameters.length) = some n) : ∀ sig, parseMethodDescriptor desc = some sig → n = sig.parameters.length := by
  intro sig hs
  rw [hs] at h
  exact (Option.some.inj h).symm
theorem zcallS (cx : zCx D t0 base p s m c own cc nL) (hrep : zRep D t0 b0 base s H M) (hS : va_S (fun q => base ≤ q) s.heap H locs) (hsz : ls.size = nL) (hM : zMet l d E) (hy : y < 210) (hE : E y as M = some (rv, M1)) (hfr : d + 1 ≤ R.frames) (hlo : 64 * (d + 1) ≤ R.locals) (hcells : cells + (zN M1 - zN M) ≤ R.cells) (hslots : slots + (zsz M1 - zsz M) ≤ R.slots)
    (hsg : (parseMethodDescriptor (zNm y).1.desc).map (fun d => d.parameters.length) = some as.length) {p1 p2 nest : Nat} (w2 : zword p2 (.static (zNm y).1) = true) (w1 : (nest = 0 ∧ zword p1 (.methodLink own idx (zNm y).1) = true) ∨ (¬ nest = 0 ∧ zword p1 (.methodLinkNest own idx (zNm y).1 zhost) = true)) (hroom : (rest.map fun v => v.category).sum ≤ 8) (hdg : decode cc pc = .ok (.invokestatic idx, 3))
    (kk : ∀ (H1 : Heap) (locs1 : List Loc), zRep D t0 b0 base s H1 M1 → va_S (fun q => base ≤ q) s.heap H1 locs1 → W p l e R s m args below meth c H1 locs1 (cells + (zN M1 - zN M)) (slots + (zsz M1 - zsz M)) Q (F0 m (pc + 3) ls ((rv.map (zv (zad t0 b0 base))).toList ++ rest))) : W p l e R s m args below meth c H locs cells slots Q (F0 m pc ls ((as.map (zv (zad t0 b0 base))).reverse ++ rest)) := by
  obtain ⟨w, hw⟩ := zmk_at hy
  obtain ⟨-, hini, hne, -, hmx, -⟩ := zmk_inv hw
  obtain ⟨hx, hb, hml, hown, hT, hK, hZ, hbs⟩ := id cx
  have hMm := hM y as M rv M1 hy hE D t0 b0 base
  have hlen : (as.map (zv (zad t0 b0 base))).length = as.length := List.length_map _
  rcases w1 with ⟨-, w1⟩ | ⟨-, w1⟩
  · refine zrun_W cx (va_runS (Ts := []) (rest := rest) ⟨hx, hb, hml, hown, fun _ h => absurd h List.not_mem_nil⟩ hMm ⟨⟨rfl, rfl, hfr, ?_, zcode_w hT hy, List.mem_singleton.mpr rfl, hT _ (zcw _ (zNm_mem hy)) rfl args, hT _ hini rfl args, hne, zsig hsg, zword_ok hT w1 rfl args⟩, zword_ok hT w2 rfl args⟩ ⟨zPc.blind, zpre cx hrep hS⟩ rfl hlen hsz rfl (lv_room hroom) hdg ⟨hcells, hslots⟩) hS kk
    show 8 + ((zNm y).2.2.1 + 11) + 64 * d ≤ R.locals
    omega
  · refine zrun_W cx (va_runSN (Ts := []) (rest := rest) ⟨hx, hb, hml, hown, fun _ h => absurd h List.not_mem_nil⟩ hMm ⟨⟨⟨rfl, rfl, hfr, ?_, zcode_w hT hy, List.mem_singleton.mpr rfl⟩, hT _ (zcw _ (zNm_mem hy)) rfl args, hT _ hini rfl args, hne, zsig hsg, zword_ok hT w1 rfl args⟩, zword_ok hT w2 rfl args, trivial⟩ ⟨zPc.blind, zpre cx hrep hS⟩ rfl hlen hsz rfl (lv_room hroom) hdg ⟨hcells, hslots⟩) hS kk
    show 8 + ((zNm y).2.2.1 + 11) + 64 * d ≤ R.locals
    omega
theorem zcallI (cx : zCx D t0 base p s m c own cc nL) (hrep : zRep D t0 b0 base s H M) (hS : va_S (fun q => base ≤ q) s.heap H locs) (hsz : ls.size = nL) (hM : zMet l d E) (hy : y < 210) {b : Nat} {as0 : List Value} (hab : as = .ref b :: as0) (hE : E y as M = some (none, M1)) (hfr : d + 1 ≤ R.frames) (hlo : 64 * (d + 1) ≤ R.locals) (hcells : cells + (zN M1 - zN M) ≤ R.cells) (hslots : slots + (zsz M1 - zsz M) ≤ R.slots)
    (hsg : (parseMethodDescriptor (zNm y).1.desc).map (fun d => d.parameters.length) = some as0.length) (hnone : (zNm y).2.2.2 = none) (hinit : (zNm y).1.name = "<init>") {p1 p2 nest : Nat} (w2 : zword p2 (.instanceMethod (zNm y).1) = true) (w1 : (nest = 0 ∧ zword p1 (.methodLink own idx (zNm y).1) = true) ∨ (¬ nest = 0 ∧ zword p1 (.methodLinkNest own idx (zNm y).1 zhost) = true)) (hroom : (rest.map fun v => v.category).sum ≤ 8) (hdg : decode cc pc = .ok (.invokespecial idx, 3))
    (kk : ∀ (H1 : Heap) (locs1 : List Loc), zRep D t0 b0 base s H1 M1 → va_S (fun q => base ≤ q) s.heap H1 locs1 → W p l e R s m args below meth c H1 locs1 (cells + (zN M1 - zN M)) (slots + (zsz M1 - zsz M)) Q (F0 m (pc + 3) ls rest)) : W p l e R s m args below meth c H locs cells slots Q (F0 m pc ls ((as.map (zv (zad t0 b0 base))).reverse ++ rest)) := by
  subst hab
  obtain ⟨w, hw⟩ := zmk_at hy
  obtain ⟨-, hini, hne, -, hmx, -⟩ := zmk_inv hw
  obtain ⟨hx, hb, hml, hown, hT, hK, hZ, hbs⟩ := id cx
  have hMm := hM y _ M none M1 hy hE D t0 b0 base
  rw [hnone] at hMm
  have hcw := zcw _ (zNm_mem hy)
  rw [hnone] at hcw
  have hcw2 := zcode_w hT hy
  rw [hnone] at hcw2
  have hlen : (as0.map (zv (zad t0 b0 base))).length = as0.length := List.length_map _
  have hst : ((Value.ref b :: as0).map (zv (zad t0 b0 base))).reverse ++ rest = (as0.map (zv (zad t0 b0 base))).reverse ++ .ref (zad t0 b0 base b) :: rest := by
    simp [zv]
  rw [hst]
  rcases w1 with ⟨-, w1⟩ | ⟨-, w1⟩
  · refine zrun_W (rv := none) cx (va_runI (Ts := []) (rest := rest) ⟨hx, hb, hml, hown, fun _ h => absurd h List.not_mem_nil⟩ hMm ⟨⟨rfl, rfl, hfr, ?_, hcw2, List.mem_singleton.mpr rfl, hT _ hcw rfl args, hT _ hini rfl args, hne, zsig hsg, zword_ok hT w1 rfl args⟩, hinit, zword_ok hT w2 rfl args⟩ ⟨zPc.blind, zpre cx hrep hS⟩ rfl hlen hsz rfl (lv_room hroom) hdg ⟨hcells, hslots⟩) hS kk
    show 8 + ((zNm y).2.2.1 + 11) + 64 * d ≤ R.locals
    omega
  · refine zrun_W (rv := none) cx (va_runIN (Ts := []) (rest := rest) ⟨hx, hb, hml, hown, fun _ h => absurd h List.not_mem_nil⟩ hMm ⟨⟨⟨rfl, rfl, hfr, ?_, hcw2, List.mem_singleton.mpr rfl⟩, hT _ hcw rfl args, hT _ hini rfl args, hne, zsig hsg, zword_ok hT w1 rfl args⟩, hinit, zword_ok hT w2 rfl args⟩ ⟨zPc.blind, zpre cx hrep hS⟩ rfl hlen hsz rfl (lv_room hroom) hdg ⟨hcells, hslots⟩) hS kk
    show 8 + ((zNm y).2.2.1 + 11) + 64 * d ≤ R.locals
    omega
theorem zcallV (cx : zCx D t0 base p s m c own cc nL) (hrep : zRep D t0 b0 base s H M) (hS : va_S (fun q => base ≤ q) s.heap H locs) (hsz : ls.size = nL) (hM : zMet l d E) (hy : y < 210) {b t : Nat} {as0 : List Value} (hab : as = .ref b :: as0) (hE : E y as M = some (rv, M1)) (hfr : d + 1 ≤ R.frames) (hlo : 64 * (d + 1) ≤ R.locals) (hcells : cells + (zN M1 - zN M) ≤ R.cells) (hslots : slots + (zsz M1 - zsz M) ≤ R.slots)
    (hsg : (parseMethodDescriptor (zNm y).1.desc).map (fun d => d.parameters.length) = some as0.length) (ht : (zK M b).1 = t + 1) (hcl : (vwCl[t]?).map (fun q => q.1) = some (zNm y).1.cls) {p1 p2 p3 nest : Nat} (w2 : zword p2 (.instanceMethod (zNm y).1) = true) (w3 : zword p3 (.selects (zNm y).1.cls (zNm y).1 (zNm y).1) = true) (w1 : (nest = 0 ∧ zword p1 (.methodLink own idx (zNm y).1) = true) ∨ (¬ nest = 0 ∧ zword p1 (.methodLinkNest own idx (zNm y).1 zhost) = true)) (hroom : (rest.map fun v => v.category).sum ≤ 8) (hdg : decode cc pc = .ok (.invokevirtual idx, 3))
    (kk : ∀ (H1 : Heap) (locs1 : List Loc), zRep D t0 b0 base s H1 M1 → va_S (fun q => base ≤ q) s.heap H1 locs1 → W p l e R s m args below meth c H1 locs1 (cells + (zN M1 - zN M)) (slots + (zsz M1 - zsz M)) Q (F0 m (pc + 3) ls ((rv.map (zv (zad t0 b0 base))).toList ++ rest))) : W p l e R s m args below meth c H locs cells slots Q (F0 m pc ls ((as.map (zv (zad t0 b0 base))).reverse ++ rest)) := by
  subst hab
  obtain ⟨w, hw⟩ := zmk_at hy
  obtain ⟨-, hini, hne, -, hmx, -⟩ := zmk_inv hw
  obtain ⟨hx, hb, hml, hown, hT, hK, hZ, hbs⟩ := id cx
  have hMm := hM y _ M rv M1 hy hE D t0 b0 base
  have hlen : (as0.map (zv (zad t0 b0 base))).length = as0.length := List.length_map _
  have hst : ((Value.ref b :: as0).map (zv (zad t0 b0 base))).reverse ++ rest = (as0.map (zv (zad t0 b0 base))).reverse ++ .ref (zad t0 b0 base b) :: rest := by
    simp [zv]
  rw [hst]
  obtain ⟨r, hc, hrc⟩ := Option.map_eq_some_iff.mp hcl
  obtain ⟨cellB, g1, g2, g3, -⟩ := (hrep.2.2.2.2.2.2.2.1 b).1 t r ht hc
  have hrecv : ∃ cellB : Cell, H[zad t0 b0 base b]? = some cellB ∧ cellB.vm.isStatics = false ∧ s.vm.findClass (zNm y).1.cls = some cellB.cls := ⟨cellB, g1, by rw [g3]; rfl, by rw [g2, ← hrc]; exact (hK.1 t r hc).2.1⟩
  rcases w1 with ⟨-, w1⟩ | ⟨-, w1⟩
  · refine zrun_W cx (va_runV (Ts := []) (C := (zNm y).1.cls) (rest := rest) ⟨hx, hb, hml, hown, fun _ h => absurd h List.not_mem_nil⟩ hMm ⟨⟨rfl, rfl, hfr, ?_, zcode_w hT hy, List.mem_singleton.mpr rfl, hT _ (zcw _ (zNm_mem hy)) rfl args, hT _ hini rfl args, hne, zsig hsg, zword_ok hT w1 rfl args⟩, zword_ok hT w2 rfl args, zword_ok hT w3 rfl args⟩ ⟨zPc.blind, hrecv, zpre cx hrep hS⟩ rfl hlen hsz rfl (lv_room hroom) hdg ⟨hcells, hslots⟩) hS kk
    show 8 + ((zNm y).2.2.1 + 11) + 64 * d ≤ R.locals
    omega
  · refine zrun_W cx (va_runVN (Ts := []) (C := (zNm y).1.cls) (rest := rest) ⟨hx, hb, hml, hown, fun _ h => absurd h List.not_mem_nil⟩ hMm ⟨⟨⟨rfl, rfl, hfr, ?_, zcode_w hT hy, List.mem_singleton.mpr rfl⟩, hT _ (zcw _ (zNm_mem hy)) rfl args, hT _ hini rfl args, hne, zsig hsg, zword_ok hT w1 rfl args⟩, zword_ok hT w2 rfl args, zword_ok hT w3 rfl args⟩ ⟨zPc.blind, hrecv, zpre cx hrep hS⟩ rfl hlen hsz rfl (lv_room hroom) hdg ⟨hcells, hslots⟩) hS kk
    show 8 + ((zNm y).2.2.1 + 11) + 64 * d ≤ R.locals
    omega
end ZCALL
