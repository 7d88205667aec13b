/-! the script hidden -/
def zRel (M N : zM) : Prop := zN N = zN M ∧ 1 < zN M ∧ (∀ a, a ≠ 1 → zK N a = zK M a ∧ zI N a = zI M a) ∧ zK N 1 = (0, 0) ∧ zL N = zL M ∧ zR N = zR M
theorem zRel.nq1 {M N : zM} (h : zRel M N) {a t : Nat} (ht : (zK N a).1 = t) (h0 : t ≠ 0) : a ≠ 1 := by
  rintro rfl
  rw [h.2.2.2.1] at ht
  exact h0 ht.symm
theorem zRel.sI {M N : zM} (h : zRel M N) {a k : Nat} {x : Int32} (ha : a ≠ 1) : zRel (zsI M a k x) (zsI N a k x) := by
  refine ⟨h.1, h.2.1, fun b hb => ⟨(h.2.2.1 b hb).1, ?_⟩, h.2.2.2.1, h.2.2.2.2.1, h.2.2.2.2.2⟩
  funext j
  rw [zI_sI, zI_sI, (h.2.2.1 b hb).2]
theorem zRel.sL {M N : zM} (h : zRel M N) {a k : Nat} {x : Int64} : zRel (zsL M a k x) (zsL N a k x) := by
  refine ⟨h.1, h.2.1, h.2.2.1, h.2.2.2.1, ?_, h.2.2.2.2.2⟩
  funext b j
  rw [zL_sL, zL_sL, h.2.2.2.2.1]
theorem zRel.sR {M N : zM} (h : zRel M N) {a k : Nat} {x : Option Nat} : zRel (zsR M a k x) (zsR N a k x) := by
  refine ⟨h.1, h.2.1, h.2.2.1, h.2.2.2.1, h.2.2.2.2.1, ?_⟩
  funext b j
  rw [zR_sR, zR_sR, h.2.2.2.2.2]
theorem zRel.nw {M N : zM} (h : zRel M N) {t n : Nat} : zRel (znew M t n) (znew N t n) := by
  obtain ⟨h1, h2, h3, h4, h5, h6⟩ := h
  have h1' : N.1 = M.1 := h1
  have h2' : 1 < M.1 := h2
  refine ⟨?_, ?_, fun b hb => ⟨?_, ?_⟩, ?_, ?_, ?_⟩
  · show N.1 + 1 = M.1 + 1
    rw [h1']
  · show 1 < M.1 + 1
    omega
  · show (if b = N.1 then (t, n) else zK N b) = (if b = M.1 then (t, n) else zK M b)
    rw [h1', (h3 b hb).1]
  · funext j
    show (if b = N.1 then (0 : Int32) else zI N b j) = (if b = M.1 then 0 else zI M b j)
    rw [h1', (h3 b hb).2]
  · show (if 1 = N.1 then (t, n) else zK N 1) = (0, 0)
    rw [if_neg (by omega)]
    exact h4
  · funext b j
    show (if b = N.1 then (0 : Int64) else zL N b j) = (if b = M.1 then 0 else zL M b j)
    rw [h1', h5]
  · funext b j
    show (if b = N.1 then (none : Option Nat) else zR N b j) = (if b = M.1 then none else zR M b j)
    rw [h1', h6]
theorem zRel.cpy {M N : zM} (h : zRel M N) {a sp b dp n : Nat} (ha : a ≠ 1) (hb : b ≠ 1) : zRel (zcopy M a sp b dp n) (zcopy N a sp b dp n) := by
  refine ⟨h.1, h.2.1, fun c hc => ⟨(h.2.2.1 c hc).1, ?_⟩, h.2.2.2.1, h.2.2.2.2.1, h.2.2.2.2.2⟩
  funext j
  show (if c = b then va_cpy (zI N a) (zI N b) sp dp n j else zI N c j) = (if c = b then va_cpy (zI M a) (zI M b) sp dp n j else zI M c j)
  rw [(h.2.2.1 a ha).2, (h.2.2.1 b hb).2, (h.2.2.1 c hc).2]
def zOo (o n : zO) : Prop := ∀ r N', n = some (r, N') → ∃ M', o = some (r, M') ∧ zRel M' N'
theorem zOo_n {o : zO} : zOo o none := by
  intro r N' h
  cases h
theorem zOo_r {M N : zM} {v : Option Value} (h : zRel M N) : zOo (some (v, M)) (some (v, N)) := by
  intro r N' e
  cases e
  exact ⟨M, rfl, h⟩
theorem zOo_zif {c c' : Prop} [Decidable c] [Decidable c'] {x y : zO} (h1 : c' → c) (h : c' → zOo x y) : zOo (zif c x) (zif c' y) := by
  unfold zif
  by_cases hc : c'
  · rw [if_pos hc, if_pos (h1 hc)]
    exact h hc
  · rw [if_neg hc]
    exact zOo_n
theorem zOo_zok {b : Bool} {x y : zO} (h : zOo x y) : zOo (zok b x) (zok b y) := by
  cases b
  · exact zOo_n
  · exact h
theorem zOo_ite {c : Prop} [Decidable c] {x y x' y' : zO} (h : zOo x y) (k : zOo x' y') : zOo (if c then x else x') (if c then y else y') := by
  by_cases hc : c
  · rw [if_pos hc, if_pos hc]
    exact h
  · rw [if_neg hc, if_neg hc]
    exact k
theorem zOo_z1i {st : List Value} {F G : Int32 → List Value → zO} (h : ∀ x0 x1, zOo (F x0 x1) (G x0 x1)) : zOo (z1i st F) (z1i st G) := by
  unfold z1i
  split
  · exact h _ _
  · exact zOo_n
theorem zOo_z2i {st : List Value} {F G : Int32 → Int32 → List Value → zO} (h : ∀ x0 x1 x2, zOo (F x0 x1 x2) (G x0 x1 x2)) : zOo (z2i st F) (z2i st G) := by
  unfold z2i
  split
  · exact h _ _ _
  · exact zOo_n
theorem zOo_z1l {st : List Value} {F G : Int64 → List Value → zO} (h : ∀ x0 x1, zOo (F x0 x1) (G x0 x1)) : zOo (z1l st F) (z1l st G) := by
  unfold z1l
  split
  · exact h _ _
  · exact zOo_n
theorem zOo_z2l {st : List Value} {F G : Int64 → Int64 → List Value → zO} (h : ∀ x0 x1 x2, zOo (F x0 x1 x2) (G x0 x1 x2)) : zOo (z2l st F) (z2l st G) := by
  unfold z2l
  split
  · exact h _ _ _
  · exact zOo_n
theorem zOo_zli {st : List Value} {F G : Int64 → Int32 → List Value → zO} (h : ∀ x0 x1 x2, zOo (F x0 x1 x2) (G x0 x1 x2)) : zOo (zli st F) (zli st G) := by
  unfold zli
  split
  · exact h _ _ _
  · exact zOo_n
theorem zOo_z1r {st : List Value} {F G : Nat → List Value → zO} (h : ∀ x0 x1, zOo (F x0 x1) (G x0 x1)) : zOo (z1r st F) (z1r st G) := by
  unfold z1r
  split
  · exact h _ _
  · exact zOo_n
theorem zOo_zri {st : List Value} {F G : Nat → Int32 → List Value → zO} (h : ∀ x0 x1 x2, zOo (F x0 x1 x2) (G x0 x1 x2)) : zOo (zri st F) (zri st G) := by
  unfold zri
  split
  · exact h _ _ _
  · exact zOo_n
theorem zOo_zrl {st : List Value} {F G : Nat → Int64 → List Value → zO} (h : ∀ x0 x1 x2, zOo (F x0 x1 x2) (G x0 x1 x2)) : zOo (zrl st F) (zrl st G) := by
  unfold zrl
  split
  · exact h _ _ _
  · exact zOo_n
theorem zOo_zrr {st : List Value} {F G : Nat → Nat → List Value → zO} (h : ∀ x0 x1 x2, zOo (F x0 x1 x2) (G x0 x1 x2)) : zOo (zrr st F) (zrr st G) := by
  unfold zrr
  split
  · exact h _ _ _
  · exact zOo_n
theorem zOo_zrii {st : List Value} {F G : Nat → Int32 → Int32 → List Value → zO} (h : ∀ x0 x1 x2 x3, zOo (F x0 x1 x2 x3) (G x0 x1 x2 x3)) : zOo (zrii st F) (zrii st G) := by
  unfold zrii
  split
  · exact h _ _ _ _
  · exact zOo_n
theorem zOo_zril {st : List Value} {F G : Nat → Int32 → Int64 → List Value → zO} (h : ∀ x0 x1 x2 x3, zOo (F x0 x1 x2 x3) (G x0 x1 x2 x3)) : zOo (zril st F) (zril st G) := by
  unfold zril
  split
  · exact h _ _ _ _
  · exact zOo_n
theorem zOo_zrir {st : List Value} {F G : Nat → Int32 → Nat → List Value → zO} (h : ∀ x0 x1 x2 x3, zOo (F x0 x1 x2 x3) (G x0 x1 x2 x3)) : zOo (zrir st F) (zrir st G) := by
  unfold zrir
  split
  · exact h _ _ _ _
  · exact zOo_n
theorem zOo_zld {l : zLs} {i : Nat} {F G : Value → zO} (h : ∀ x0, zOo (F x0) (G x0)) : zOo (zld l i F) (zld l i G) := by
  unfold zld
  split
  · exact h _
  · exact zOo_n
theorem zOo_zvi {v : Value} {F G : Int32 → zO} (h : ∀ x0, zOo (F x0) (G x0)) : zOo (zvi v F) (zvi v G) := by
  unfold zvi
  split
  · exact h _
  · exact zOo_n
theorem zOo_zvl {v : Value} {F G : Int64 → zO} (h : ∀ x0, zOo (F x0) (G x0)) : zOo (zvl v F) (zvl v G) := by
  unfold zvl
  split
  · exact h _
  · exact zOo_n
theorem zOo_zvr {v : Value} {F G : Nat → zO} (h : ∀ x0, zOo (F x0) (G x0)) : zOo (zvr v F) (zvr v G) := by
  unfold zvr
  split
  · exact h _
  · exact zOo_n
theorem zOo_zoR {v : Option Nat} {F G : Nat → zO} (h : ∀ x0, zOo (F x0) (G x0)) : zOo (zoR v F) (zoR v G) := by
  unfold zoR
  split
  · exact h _
  · exact zOo_n
theorem zOo_zcond {c : ClassFile.Cond} {x y : Int32} {a b a' b' : zO} (h : zOo a a') (k : zOo b b') : zOo (zcond c x y a b) (zcond c x y a' b') := by
  unfold zcond
  split <;> exact zOo_ite h k
theorem zOo_zsw {x : Int32} {d : Nat} {F G : Nat → zO} (h : ∀ t, zOo (F t) (G t)) : ∀ (ts : List Nat) (lo : Nat), zOo (zsw x lo ts d F) (zsw x lo ts d G)
  | [], _ => h d
  | t :: ts, lo => zOo_ite (h t) (zOo_zsw h ts (lo + 1))
theorem zOo_zlk {x : Int32} {d : Nat} {F G : Nat → zO} (h : ∀ t, zOo (F t) (G t)) : ∀ (ts : List Nat), zOo (zlk x ts d F) (zlk x ts d G)
  | [] => h d
  | [_] => h d
  | _ :: t :: ts => zOo_ite (h t) (zOo_zlk h ts)
theorem zOo_zret {rt : Nat} {o n : zO} {rest : List Value} {F G : List Value → zM → zO} (ho : zOo o n) (h : ∀ s M N, zRel M N → zOo (F s M) (G s N)) : zOo (zret rt o rest F) (zret rt n rest G) := by
  cases n with
  | none =>
    intro r N' hh
    exfalso
    unfold zret at hh
    split at hh <;> first | (unfold zbV at hh; simp at hh; done) | (unfold zbI at hh; simp at hh; done) | (unfold zbL at hh; simp at hh; done) | (unfold zbR at hh; simp at hh; done)
  | some q =>
    obtain ⟨M1, e, hr⟩ := ho q.1 q.2 rfl
    rw [e]
    obtain ⟨v, N1⟩ := q
    unfold zret
    split
    · unfold zbV
      cases v with
      | none => exact h _ _ _ hr
      | some v => exact zOo_n
    · unfold zbI
      cases v with
      | none => exact zOo_n
      | some v => cases v <;> first | exact h _ _ _ hr | exact zOo_n
    · unfold zbL
      cases v with
      | none => exact zOo_n
      | some v => cases v <;> first | exact h _ _ _ hr | exact zOo_n
    · unfold zbR
      cases v with
      | none => exact zOo_n
      | some v => cases v <;> first | exact h _ _ _ hr | exact zOo_n
theorem zOo_zcall {M N : zM} (hr : zRel M N) {E Em : zE0} (hE : ∀ y as M N, zRel M N → zOo (E y as M) (Em y as N)) {y n rt tag : Nat} {st : List Value} {F G : List Value → zM → zO} (h : ∀ s M N, zRel M N → zOo (F s M) (G s N)) : zOo (zcall E y n rt tag st M F) (zcall Em y n rt tag st N G) := by
  unfold zcall
  split
  · exact zOo_n
  split
  · exact zOo_zret (hE _ _ _ _ hr) h
  · split
    · exact zOo_zif (fun hc => by rw [← (hr.2.2.1 _ (hr.nq1 hc (by omega))).1]; exact hc) (fun _ => zOo_zret (hE _ _ _ _ hr) h)
    · exact zOo_n
theorem zOo_zinvoke {M N : zM} (hr : zRel M N) {E Em : zE0} (hE : ∀ y as M N, zRel M N → zOo (E y as M) (Em y as N)) {r : List Nat} {st : List Value} {F G : List Value → zM → zO} (h : ∀ s M N, zRel M N → zOo (F s M) (G s N)) : zOo (zinvoke E r st M F) (zinvoke Em r st N G) := by
  unfold zinvoke
  split
  · split
    · exact zOo_z1r (fun _ s => zOo_zok (h s M N hr))
    · split
      · refine zOo_zif (fun hc => ?_) (fun hc => h _ _ _ (hr.cpy (hr.nq1 hc.1 (by decide)) (hr.nq1 hc.2.1 (by decide))))
        rw [← (hr.2.2.1 _ (hr.nq1 hc.1 (by decide))).1, ← (hr.2.2.1 _ (hr.nq1 hc.2.1 (by decide))).1]
        exact hc
      · exact zOo_n
    · exact zOo_z2i (fun _ _ s => zOo_zok (h _ M N hr))
    · exact zOo_z2i (fun _ _ s => zOo_zok (h _ M N hr))
    · exact zOo_zcall hr hE h
  · exact zOo_n
theorem zOo_zgetf {M N : zM} (hr : zRel M N) {r : List Nat} {a : Nat} {st : List Value} {F G : List Value → zO} (h : ∀ s, zOo (F s) (G s)) : zOo (zgetf r a st M F) (zgetf r a st N G) := by
  unfold zgetf
  split
  · refine zOo_zif (fun hc => by rw [← (hr.2.2.1 _ (hr.nq1 hc (by omega))).1]; exact hc) (fun hc => ?_)
    rw [hr.2.2.2.2.1, hr.2.2.2.2.2, (hr.2.2.1 _ (hr.nq1 hc (by omega))).2]
    split
    · exact h _
    · exact zOo_zoR (fun q => h _)
    · exact h _
  · exact zOo_n
theorem zOo_zputf {M N : zM} (hr : zRel M N) {r : List Nat} {st : List Value} {F G : List Value → zM → zO} (h : ∀ s M N, zRel M N → zOo (F s M) (G s N)) : zOo (zputf r st M F) (zputf r st N G) := by
  unfold zputf
  split
  · split
    · exact zOo_zrl (fun a x s => zOo_zif (fun hc => by rw [← (hr.2.2.1 _ (hr.nq1 hc (by omega))).1]; exact hc) (fun _ => h _ _ _ hr.sL))
    · exact zOo_zrr (fun a x s => zOo_zif (fun hc => by rw [← (hr.2.2.1 _ (hr.nq1 hc (by omega))).1]; exact hc) (fun _ => h _ _ _ hr.sR))
    · exact zOo_zri (fun a x s => zOo_zif (fun hc => by rw [← (hr.2.2.1 _ (hr.nq1 hc.1 (by omega))).1]; exact hc) (fun hc => h _ _ _ (hr.sI (hr.nq1 hc.1 (by omega)))))
    · exact zOo_zri (fun a x s => zOo_zif (fun hc => by rw [← (hr.2.2.1 _ (hr.nq1 hc (by omega))).1]; exact hc) (fun hc => h _ _ _ (hr.sI (hr.nq1 hc (by omega)))))
  · exact zOo_n
set_option maxHeartbeats 4000000 in
theorem zstep_rel {E Em : zE0} (hE : ∀ y as M N, zRel M N → zOo (E y as M) (Em y as N)) (rt : Nat) (i : Instr) (r : List Nat) (pc : Nat) (l : zLs) (st : List Value) (M N : zM) (hr : zRel M N) {K Km : zKt} (hK : ∀ pc l st M N, zRel M N → zOo (K pc l st M) (Km pc l st N)) : zOo (zstep E rt i r pc l st M K) (zstep Em rt i r pc l st N Km) := by
  cases i
  case iconst => exact hK _ _ _ _ _ hr
  case bipush => exact hK _ _ _ _ _ hr
  case sipush => exact hK _ _ _ _ _ hr
  case ldc => exact hK _ _ _ _ _ hr
  case ldc_w => exact hK _ _ _ _ _ hr
  case lconst => exact hK _ _ _ _ _ hr
  case ldc2_w => exact hK _ _ _ _ _ hr
  case iload_n => exact zOo_zld fun v => zOo_zvi fun x => hK _ _ _ _ _ hr
  case iload => exact zOo_zld fun v => zOo_zvi fun x => hK _ _ _ _ _ hr
  case lload_n => exact zOo_zld fun v => zOo_zvl fun x => hK _ _ _ _ _ hr
  case lload => exact zOo_zld fun v => zOo_zvl fun x => hK _ _ _ _ _ hr
  case aload_n => exact zOo_zld fun v => zOo_zvr fun x => hK _ _ _ _ _ hr
  case aload => exact zOo_zld fun v => zOo_zvr fun x => hK _ _ _ _ _ hr
  case istore_n => exact zOo_z1i fun x s => zOo_zok (hK _ _ _ _ _ hr)
  case istore => exact zOo_z1i fun x s => zOo_zok (hK _ _ _ _ _ hr)
  case lstore_n => exact zOo_z1l fun x s => zOo_zok (hK _ _ _ _ _ hr)
  case lstore => exact zOo_z1l fun x s => zOo_zok (hK _ _ _ _ _ hr)
  case astore_n => exact zOo_z1r fun x s => zOo_zok (hK _ _ _ _ _ hr)
  case astore => exact zOo_z1r fun x s => zOo_zok (hK _ _ _ _ _ hr)
  case iinc => exact zOo_zld fun v => zOo_zvi fun x => zOo_zok (hK _ _ _ _ _ hr)
  case iadd => exact zOo_z2i fun x y s => hK _ _ _ _ _ hr
  case isub => exact zOo_z2i fun x y s => hK _ _ _ _ _ hr
  case imul => exact zOo_z2i fun x y s => hK _ _ _ _ _ hr
  case iand => exact zOo_z2i fun x y s => hK _ _ _ _ _ hr
  case idiv => exact zOo_z2i fun x y s => zOo_zif id (fun _ => hK _ _ _ _ _ hr)
  case irem => exact zOo_z2i fun x y s => zOo_zif id (fun _ => hK _ _ _ _ _ hr)
  case ishr => exact zOo_z2i fun x y s => hK _ _ _ _ _ hr
  case iushr => exact zOo_z2i fun x y s => hK _ _ _ _ _ hr
  case ladd => exact zOo_z2l fun x y s => hK _ _ _ _ _ hr
  case lsub => exact zOo_z2l fun x y s => hK _ _ _ _ _ hr
  case land => exact zOo_z2l fun x y s => hK _ _ _ _ _ hr
  case lor => exact zOo_z2l fun x y s => hK _ _ _ _ _ hr
  case lxor => exact zOo_z2l fun x y s => hK _ _ _ _ _ hr
  case lcmp => exact zOo_z2l fun x y s => hK _ _ _ _ _ hr
  case lshl => exact zOo_zli fun x y s => hK _ _ _ _ _ hr
  case lshr => exact zOo_zli fun x y s => hK _ _ _ _ _ hr
  case lushr => exact zOo_zli fun x y s => hK _ _ _ _ _ hr
  case i2l => exact zOo_z1i fun x s => hK _ _ _ _ _ hr
  case l2i => exact zOo_z1l fun x s => hK _ _ _ _ _ hr
  case i2b => exact zOo_z1i fun x s => hK _ _ _ _ _ hr
  case i2c => exact zOo_z1i fun x s => hK _ _ _ _ _ hr
  case goto => exact hK _ _ _ _ _ hr
  case ifCond => exact zOo_z1i fun x s => zOo_zcond (hK _ _ _ _ _ hr) (hK _ _ _ _ _ hr)
  case if_icmp => exact zOo_z2i fun x y s => zOo_zcond (hK _ _ _ _ _ hr) (hK _ _ _ _ _ hr)
  case getstatic => exact hK _ _ _ _ _ hr
  case dup => unfold zstep; dsimp only; split <;> first | exact hK _ _ _ _ _ hr | exact zOo_n
  case pop => unfold zstep; dsimp only; split <;> first | exact hK _ _ _ _ _ hr | exact zOo_n
  case dup2 => unfold zstep; dsimp only; split <;> first | exact hK _ _ _ _ _ hr | exact zOo_n
  case tableswitch =>
    refine zOo_z1i (fun x s => ?_)
    split
    · exact zOo_zsw (fun t => hK _ _ _ _ _ hr) _ _
    · exact zOo_n
  case lookupswitch =>
    refine zOo_z1i (fun x s => ?_)
    split
    · exact zOo_zlk (fun t => hK _ _ _ _ _ hr) _
    · exact zOo_n
  case getfield => exact zOo_z1r (fun a s => zOo_zgetf hr (fun s' => hK _ _ _ _ _ hr))
  case putfield => exact zOo_zputf hr (fun s M N h => hK _ _ _ _ _ h)
  case iaload =>
    refine zOo_zri (fun a j s => ?_)
    by_cases ha : a = 1
    · refine zOo_zif (fun hc => ?_) (fun hc => ?_)
      · rw [ha, hr.2.2.2.1] at hc
        exact absurd hc.1 (by decide)
      · rw [ha, hr.2.2.2.1] at hc
        exact absurd hc.1 (by decide)
    · rw [(hr.2.2.1 a ha).1, (hr.2.2.1 a ha).2]
      exact zOo_zif id (fun _ => hK _ _ _ _ _ hr)
  case baload =>
    refine zOo_zri (fun a j s => ?_)
    by_cases ha : a = 1
    · refine zOo_zif (fun hc => ?_) (fun hc => ?_)
      · rw [ha, hr.2.2.2.1] at hc
        exact absurd hc.1 (by decide)
      · rw [ha, hr.2.2.2.1] at hc
        exact absurd hc.1 (by decide)
    · rw [(hr.2.2.1 a ha).1, (hr.2.2.1 a ha).2]
      exact zOo_zif id (fun _ => hK _ _ _ _ _ hr)
  case laload =>
    refine zOo_zri (fun a j s => ?_)
    by_cases ha : a = 1
    · refine zOo_zif (fun hc => ?_) (fun hc => ?_)
      · rw [ha, hr.2.2.2.1] at hc
        exact absurd hc.1 (by decide)
      · rw [ha, hr.2.2.2.1] at hc
        exact absurd hc.1 (by decide)
    · rw [(hr.2.2.1 a ha).1, hr.2.2.2.2.1]
      exact zOo_zif id (fun _ => hK _ _ _ _ _ hr)
  case aaload =>
    refine zOo_zri (fun a j s => ?_)
    by_cases ha : a = 1
    · refine zOo_zif (fun hc => ?_) (fun hc => ?_)
      · rw [ha, hr.2.2.2.1] at hc
        exact absurd hc.1 (by decide)
      · rw [ha, hr.2.2.2.1] at hc
        exact absurd hc.1 (by decide)
    · rw [(hr.2.2.1 a ha).1, hr.2.2.2.2.2]
      exact zOo_zif id (fun _ => zOo_zoR (fun q => hK _ _ _ _ _ hr))
  case iastore =>
    refine zOo_zrii (fun a j x s => ?_)
    by_cases ha : a = 1
    · refine zOo_zif (fun hc => ?_) (fun hc => ?_)
      · rw [ha, hr.2.2.2.1] at hc
        exact absurd hc.1 (by decide)
      · rw [ha, hr.2.2.2.1] at hc
        exact absurd hc.1 (by decide)
    · rw [(hr.2.2.1 a ha).1]
      exact zOo_zif id (fun _ => hK _ _ _ _ _ (hr.sI ha))
  case bastore =>
    refine zOo_zrii (fun a j x s => ?_)
    by_cases ha : a = 1
    · subst ha
      intro r' N' e
      rw [hr.2.2.2.1, if_neg (show ¬ ((0, 0) : Nat × Nat).1 = 21 by decide)] at e
      unfold zif at e
      rw [if_neg (fun z => absurd z.1 (show ¬ ((0, 0) : Nat × Nat).1 = 22 by decide))] at e
      cases e
    · rw [(hr.2.2.1 a ha).1]
      exact zOo_ite (zOo_zif id (fun _ => hK _ _ _ _ _ (hr.sI ha))) (zOo_zif id (fun _ => hK _ _ _ _ _ (hr.sI ha)))
  case lastore =>
    refine zOo_zril (fun a j x s => ?_)
    by_cases ha : a = 1
    · refine zOo_zif (fun hc => ?_) (fun hc => ?_)
      · rw [ha, hr.2.2.2.1] at hc
        exact absurd hc.1 (by decide)
      · rw [ha, hr.2.2.2.1] at hc
        exact absurd hc.1 (by decide)
    · rw [(hr.2.2.1 a ha).1]
      exact zOo_zif id (fun _ => hK _ _ _ _ _ hr.sL)
  case aastore =>
    refine zOo_zrir (fun a j q s => ?_)
    by_cases ha : a = 1
    · refine zOo_zif (fun hc => ?_) (fun hc => ?_)
      · rw [ha, hr.2.2.2.1] at hc
        exact absurd hc.1 (by decide)
      · rw [ha, hr.2.2.2.1] at hc
        exact absurd hc.1 (by decide)
    · by_cases hq : q = 1
      · refine zOo_zif (fun hc => ?_) (fun hc => ?_)
        · rw [hq, hr.2.2.2.1] at hc
          exact absurd hc.2.2.1 (by decide)
        · rw [hq, hr.2.2.2.1] at hc
          exact absurd hc.2.2.1 (by decide)
      · rw [(hr.2.2.1 a ha).1, (hr.2.2.1 q hq).1]
        exact zOo_zif id (fun _ => hK _ _ _ _ _ hr.sR)
  case arraylength =>
    refine zOo_z1r (fun a s => ?_)
    by_cases ha : a = 1
    · refine zOo_zif (fun hc => ?_) (fun hc => ?_)
      · rw [ha, hr.2.2.2.1] at hc
        exact absurd hc (by decide)
      · rw [ha, hr.2.2.2.1] at hc
        exact absurd hc (by decide)
    · rw [(hr.2.2.1 a ha).1]
      exact zOo_zif id (fun _ => hK _ _ _ _ _ hr)
  case new =>
    show zOo (K (pc + 3) l (.ref (zN M) :: st) (znew M _ _)) (Km (pc + 3) l (.ref (zN N) :: st) (znew N _ _))
    rw [hr.1]
    exact hK _ _ _ _ _ hr.nw
  case newarray =>
    refine zOo_z1i (fun x s => zOo_zif id (fun _ => ?_))
    rw [hr.1]
    exact hK _ _ _ _ _ hr.nw
  case anewarray =>
    refine zOo_z1i (fun x s => zOo_zif id (fun _ => ?_))
    rw [hr.1]
    exact hK _ _ _ _ _ hr.nw
  case invokevirtual => exact zOo_zinvoke hr hE (fun s M N h => hK _ _ _ _ _ h)
  case invokespecial => exact zOo_zinvoke hr hE (fun s M N h => hK _ _ _ _ _ h)
  case invokestatic => exact zOo_zinvoke hr hE (fun s M N h => hK _ _ _ _ _ h)
  case ireturn => unfold zstep; dsimp only; split <;> first | (split <;> first | exact zOo_zif id (fun _ => zOo_r hr) | exact zOo_r hr | exact zOo_n) | exact zOo_n
  case lreturn => unfold zstep; dsimp only; split <;> first | exact zOo_zok (zOo_r hr) | exact zOo_n
  case areturn => unfold zstep; dsimp only; split <;> first | exact zOo_zok (zOo_r hr) | exact zOo_n
  case return_ => unfold zstep; dsimp only; split <;> first | exact zOo_zok (zOo_r hr) | exact zOo_n
  all_goals exact zOo_n
theorem zrun_rel {T : zTab} {E Em : zE0} (hE : ∀ y as M N, zRel M N → zOo (E y as M) (Em y as N)) {y : Nat} : ∀ n pc l st M N, zRel M N → zOo (zrun T E y n pc l st M) (zrun T Em y n pc l st N) := by
  intro n
  induction n with
  | zero => intro pc l st M N hr; exact zOo_n
  | succ n ih =>
    intro pc l st M N hr
    unfold zrun
    split
    · exact zOo_n
    · exact zstep_rel hE _ _ _ _ _ _ _ _ hr (fun pc l st M N h => ih _ _ _ _ _ h)
theorem zEn_rel (T : zTab) (n : Nat) : ∀ d y as M N, zRel M N → zOo (zEn T n d y as M) (zEn T n d y as N)
  | 0, _, _, _, _, _ => zOo_n
  | d + 1, y, as, M, N, hr => zOo_zok (zrun_rel (zEn_rel T n d) n _ _ _ _ _ hr)
