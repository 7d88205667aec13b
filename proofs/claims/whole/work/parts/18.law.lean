-- ===== end of PART A; then your names; then what follows =====
/-! THE CLAIM OUT OF ONE WALK OF THE LAW'S BODY. Your part is whole_start (and what it stands on); all else here is the same for every law, but numbers. -/
def R_law : String := "PromiseTriesLaw"
def lw_P (b : Addr) (xs : List Int32) (args : Array Value) (s : State) : Prop := args = #[.ref b] ∧ s.IntsAt b xs ∧ xs.length ≤ 2560 ∧ (Jvm.Cond.and given_1 narrow_1).before args s = true
def lw_Q (_ : Array Value) (s : State) (o : Outcome) (t : State) : Prop := o = .returned (some (.int 1)) ∧ Framed s o t [] 600000 7302250
def lw_Z (below : List Frame) (a : Array Value) (s : State) : State → Prop := fun t => ∃ o, t.status = .running ∧ Ended t below o ∧ lw_Q a s o t
/-- the law's own end, with 1 on the stack, nothing written that was there before, its room as the claim has it -/
theorem lw_ret {p : Program} {l : Launch} {e : Env} {s : State} {m : MethodId} {below : List Frame} {meth : Method} {c : Code} {b : Nat} (hx : p.tables.exec = Jvm.exec) (hb : c.code = code) (hr : meth.sig.returnType = ret) (hlocks : meth.locks = false) {pc : Nat} {H : Heap} {ls : Array Slot} (hdg : decode code pc = .ok (.ireturn, 1)) : W p l e room_1 s m #[Value.ref b] below meth c H [] 600000 7302250 (lw_Z below #[Value.ref b] s) (F0 m pc ls [.int 1]) := by
  intro T hT X
  obtain ⟨fs, hret, hrun, hended, hW, hframe⟩ := X.leave (v := some (.int 1)) (hlocks := hlocks) (fun h => by rw [hr] at h; cases h)
  have hmeth' : T.vm.method? m = some meth := X.method'
  refine ⟨T.setFrames fs, ?_, .returned (some (.int 1)), hrun, hended, rfl, ⟨_, rfl⟩, hW, hframe⟩
  jvm_step X.here [X.here.top, hx, hb, hdg, hmeth', hr, ret, narrow_b1]
  (try refine ⟨rfl, ?_⟩); (try refine ⟨rfl, ?_⟩)
  first | (intro acts; rw [hret _ acts rfl rfl rfl]) | rw [hret _ _ rfl rfl rfl]
  exact Steps.refl _
/-- what holds at the law's entry: the machine, the code, the tables' words (any of lw_tbl by 'hts w (by decide +kernel)'), the script of L ints xs at the cell b, what the Statement gives of the start (any of its parts by flat_of_before) -/
def lw_At (p : Program) (s : State) (m : MethodId) (meth : Method) (c : Code) (b L : Nat) (xs : Nat → Int32) : Prop :=
  p.tables.exec = Jvm.exec ∧ c.code = code ∧ meth.sig.returnType = ret ∧ c.maxLocals = 4 ∧ s.vm.findClass R_law = some m.cls ∧ (∀ w ∈ lw_tbl, w.before #[Value.ref b] s = true) ∧ va_X b L xs s s.heap ∧ b < s.heap.size ∧ meth.locks = false ∧ (Jvm.Cond.and given_1 narrow_1).before #[Value.ref b] s = true

/-- the script in the cell 1, the wires' patterns in the cell 0 -/
def zpat (j : Nat) : Int64 := ([-6148914691236517206, -3689348814741910324, -1085102592571150096, -71777214294589696, -281470681808896, -4294967296] : List Int64).getD j 0
def zM0 (L : Nat) (xs : Nat → Int32) : zM := (2, fun a => if a = 0 then (25, 6) else if a = 1 then (24, L) else (0, 0), fun a j => if a = 1 then xs j else 0, fun a j => if a = 0 then zpat j else 0, fun _ _ => none)
theorem zK0_ge {L : Nat} {xs : Nat → Int32} {a : Nat} (h : 2 ≤ a) : zK (zM0 L xs) a = (0, 0) := by
  have h0 : ¬ a = 0 := by omega
  have h1 : ¬ a = 1 := by omega
  simp [zK, zM0, h0, h1]
/-- what is left to show, without the machine -/
def zPure : Prop := ∀ (L : Nat) (xs : Nat → Int32), L ≤ 2560 → ∃ M', zV 101 210 [.ref 1] (zM0 L xs) = some (some (.int 1), M') ∧ zN M' ≤ 600000 ∧ zsz M' ≤ 7302250
theorem zTb_of {s : State} {a0 : Array Value} (hts : ∀ w ∈ lw_tbl, w.before a0 s = true) : zTb s := by
  intro w hw hg a
  rcases Bool.or_eq_true_iff.mp hg with g | g
  · exact word_at (State.WarmedH.refl s) (good_of_word g) (hts w hw)
  · unfold znest at g
    split at g
    · exact va_Nw.use rfl (va_Nw.of rfl (hts _ hw))
    · exact va_Nw.use rfl (va_Nw.of rfl (hts _ hw))
    · exact va_AO.use (va_AO.of (hts _ hw))
    · cases g
theorem zinst {ci : Nat} {r : vw_C} (h : vwCl[ci]? = some r) : ∃ n, Cond.instantiable r.1 n ∈ lw_tbl := by
  match ci, h with
  | 0, h => cases h; exact ⟨7, zword_mem (p := 1082) (by decide +kernel)⟩
  | 1, h => cases h; exact ⟨5, zword_mem (p := 1197) (by decide +kernel)⟩
  | 2, h => cases h; exact ⟨3, zword_mem (p := 1024) (by decide +kernel)⟩
  | 3, h => cases h; exact ⟨11, zword_mem (p := 1088) (by decide +kernel)⟩
  | 4, h => cases h; exact ⟨3, zword_mem (p := 2030) (by decide +kernel)⟩
  | 5, h => cases h; exact ⟨8, zword_mem (p := 1030) (by decide +kernel)⟩
  | 6, h => cases h; exact ⟨2, zword_mem (p := 1175) (by decide +kernel)⟩
  | 7, h => cases h; exact ⟨2, zword_mem (p := 1068) (by decide +kernel)⟩
  | 8, h => cases h; exact ⟨9, zword_mem (p := 1233) (by decide +kernel)⟩
  | 9, h => cases h; exact ⟨12, zword_mem (p := 1016) (by decide +kernel)⟩
  | 10, h => cases h; exact ⟨52, zword_mem (p := 4065) (by decide +kernel)⟩
  | n + 11, h => simp [vwCl] at h
theorem zknown {s : State} (hT : zTb s) : ∃ D : va_G, va_K D vwCl [] s := by
  have h : ∀ ci : Nat, ∃ q : ClassId × (Nat → Nat), ∀ r : vw_C, vwCl[ci]? = some r → u_Kn s r.1 r.2.1 r.2.2 q.1 q.2 := by
    intro ci
    cases hc : vwCl[ci]? with
    | none => exact ⟨(0, fun _ => 0), fun r h => by cases h⟩
    | some r =>
      obtain ⟨n, hn⟩ := zinst hc
      obtain ⟨c, iS, hk⟩ := u_known (C := r.1) (T := r.2.1) (N := r.2.2) (n := n) (zlays hT hc #[]) (fun _ h => h) (hT _ hn rfl #[])
      exact ⟨(c, iS), fun r2 h => by cases h; exact hk⟩
  exact ⟨(fun ci => (Classical.choose (h ci)).1, fun ci => (Classical.choose (h ci)).2), fun ci r hr => Classical.choose_spec (h ci) r hr, fun k q h => by simp at h⟩
theorem zar_none {D : va_G} {ad : Nat → Nat} {s : State} {H : Heap} {q n : Nat} {fI : Nat → Int32} {fL : Nat → Int64} {fR : Nat → Option Nat} : zcel D ad s H q 0 n fI fL fR :=
  ⟨fun ci r a => by omega, fun a => by omega, fun a => by omega, fun a => by omega, fun a => by omega, fun a => by omega, fun a => by omega, fun ci r a => by omega⟩
set_option maxHeartbeats 4000000 in
set_option maxRecDepth 100000 in
theorem zwhole (hpure : zPure) {p : Program} {e : Env} {s : State} {m : MethodId} {below : List Frame} {meth : Method} {c : Code} (l : Launch) {b L : Nat} {xs : Nat → Int32} (hL : L ≤ 2560) (C0 : lw_At p s m meth c b L xs) : W p l e room_1 s m #[Value.ref b] below meth c s.heap [] 0 0 (lw_Z below #[Value.ref b] s) (entryFrame m ([Value.ref b] : List Value).toArray 4) := by
  obtain ⟨hx, hb, hr, hml, hown, hts, hX, hbl, hlocks, hgv⟩ := id C0
  have hT := zTb_of hts
  obtain ⟨D, hK⟩ := zknown hT
  have hs := flat_of_before _ hgv
  have hA : ∀ a : Nat, a < s.heap.size → ¬ (fun q : Nat => s.heap.size ≤ q) a := fun a h => Nat.not_le.mpr h
  have harr : (Cond.arrayOf (.static "PromiseTries$TruthStack" "PATTERNS" "[J") .long).before #[Value.ref b] s = true := hs _ (by decide +kernel)
  have hlen : (Cond.eq (.length (.static "PromiseTries$TruthStack" "PATTERNS" "[J")) (.int 6)).before #[Value.ref b] s = true := hs _ (by decide +kernel)
  have hel : ∀ j : Nat, j < 6 → (Term.elem (.static "PromiseTries$TruthStack" "PATTERNS" "[J") (.int (Int32.ofNat j))).eval #[Value.ref b] s none [] s = some (.long (zpat j)) := by
    intro j hj
    match j, hj with
    | 0, _ => exact va_eqtl (hs _ (by decide +kernel))
    | 1, _ => exact va_eqtl (hs _ (by decide +kernel))
    | 2, _ => exact va_eqtl (hs _ (by decide +kernel))
    | 3, _ => exact va_eqtl (hs _ (by decide +kernel))
    | 4, _ => exact va_eqtl (hs _ (by decide +kernel))
    | 5, _ => exact va_eqtl (hs _ (by decide +kernel))
  obtain ⟨t0, ht0, cell, c1, c2, c3, c4, c5, c6, c7⟩ := va_Tof (N := 6) (f := fun j => .long (zpat j)) (by decide) harr (va_eqt hlen) hel hA
  have hZ := va_Zof (hts _ (zword_mem (p := 2177) (w := .laysStatic "PromiseTries$TruthStack" "PATTERNS" "[J") (by decide +kernel))) (hT _ (zword_mem (p := 1004) (w := .initialized "PromiseTries$TruthStack") (by decide +kernel)) rfl #[Value.ref b]) ht0 hA
  have ht0l : t0 < s.heap.size := (Array.getElem?_eq_some_iff.mp c1).1
  obtain ⟨scr, x1, x2, x3, x4, x5⟩ := hX
  have hrep : zRep D t0 b s.heap.size s s.heap (zM0 L xs) := by
    refine ⟨rfl, Nat.le_refl 2, fun a ha => ?_, fun a ha => ?_, fun a ha => ?_, ht0l, hbl, fun a => ?_, fun a => ?_⟩
    · exact zK0_ge ha
    · match a, ha with
      | 0, _ => exact Or.inr rfl
      | 1, _ => exact Or.inl rfl
    · rw [zK0_ge ha]
      exact ⟨by decide, by decide⟩
    · match a with
      | 0 =>
        show zcel D _ s s.heap t0 25 6 _ _ _
        refine ⟨fun ci r q hc => ?_, fun q => by omega, fun q => by omega, fun q => by omega, fun q => by omega, fun q => by omega, fun _ => ⟨cell, c1, c2, c3, c4, c5, c6⟩, fun ci r q => by omega⟩
        exfalso
        have hlt : ci < 11 := (List.getElem?_eq_some_iff.mp hc).1
        omega
      | 1 =>
        show zcel D _ s s.heap b 24 L _ _ _
        refine ⟨fun ci r q hc => ?_, fun q => by omega, fun q => by omega, fun q => by omega, fun q => by omega, fun _ => ⟨scr, x1, x2, x3, by rw [x4]; exact Nat.le_refl L, by rw [x4] <;> rfl, x5⟩, fun q => by omega, fun ci r q => by omega⟩
        exfalso
        have hlt : ci < 11 := (List.getElem?_eq_some_iff.mp hc).1
        omega
      | a + 2 =>
        rw [zK0_ge (by omega)]
        exact zar_none
    · match a with
      | 0 => exact Or.inr (Or.inl (show 25 < 26 by decide))
      | 1 => exact Or.inr (Or.inl (show 24 < 26 by decide))
      | a + 2 =>
        rw [zK0_ge (by omega)]
        exact Or.inl rfl
  obtain ⟨M', hE, hN, hZs⟩ := hpure L xs hL
  obtain ⟨-, hF⟩ := zok_inv (show zok (Nat.ble (zent [Value.ref 1]).length (zT 210).1) (zF zT (zE zT 100) 210 0 (zloc (zT 210).1 [.ref 1]) [] (zM0 L xs)) = some (some (.int 1), M') from hE)
  obtain ⟨n, hn⟩ := zF_ex hF
  have hle := zE_ok zT 101 _ _ _ _ _ hE
  have cx : zCx D t0 s.heap.size p s m c RL code 4 := ⟨hx, hb, hml, hown, hT, hK, hZ, Nat.le_refl _⟩
  have hloc := zLoc.entry (ad := zad t0 b s.heap.size) (as := [.ref 1]) (n := 4) (by decide)
  rw [lg_entry_eq]
  have hTy : zT 210 = zm_La_law := rfl
  refine zsim_run (R := room_1) (ini := false) (own := RL) (cc := code) cx (zmet_all l 100) (zE_ok zT 100) (zEs_all 100) (Nat.le_of_ble_eq_true rfl) (Nat.le_of_ble_eq_true rfl) (CF := 600000) (SF := 7302250) (Nat.le_of_ble_eq_true rfl) (Nat.le_of_ble_eq_true rfl) (fun h => by cases h) ?_ ?_ n 0 _ [] _ _ s.heap [] 0 0 hn hloc hrep va_S.rf ⟨hle, by omega, by omega⟩
  · intro pc q hq
    rw [hTy] at hq
    exact zck_of (f := fun e w => zck RL false cL_law e w) zk_La_law hq
  · intro i pc' ls' H' locs' cells' slots' hdg hri hrep' hS' hc hs
    rcases hri with ⟨rfl, x, hx1, -⟩ | ⟨rfl, h3, x, hx1⟩ | ⟨rfl, h4, a, hx1⟩ | ⟨rfl, h0, hx1⟩
    · refine va_forget (fun q hq => hS'.2.2 q hq) ?_
      refine W.widen hc hs ?_
      exact lw_ret hx hb hr hlocks hdg
    · cases hx1
    · cases hx1
    · cases hx1
