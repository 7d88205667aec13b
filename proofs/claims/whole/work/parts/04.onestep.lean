def zsz (M : zM) : Nat := ((List.range (zN M)).map (fun a => (zK M a).2)).sum
def zle (M M' : zM) : Prop := zN M ≤ zN M' ∧ zsz M ≤ zsz M'
theorem zle.rf (M : zM) : zle M M := ⟨Nat.le_refl _, Nat.le_refl _⟩
theorem zle.tr {M M1 M2 : zM} (h : zle M M1) (k : zle M1 M2) : zle M M2 := ⟨Nat.le_trans h.1 k.1, Nat.le_trans h.2 k.2⟩
theorem zsz_new (M : zM) (t n : Nat) : zsz (znew M t n) = zsz M + n := by
  have h : zN (znew M t n) = zN M + 1 := rfl
  unfold zsz
  rw [h, List.range_succ, List.map_append, List.sum_append]
  have e : (List.range (zN M)).map (fun a => (zK (znew M t n) a).2) = (List.range (zN M)).map (fun a => (zK M a).2) := by
    apply List.map_congr_left
    intro a ha
    have hl : a < zN M := List.mem_range.mp ha
    have hne : ¬ a = M.1 := Nat.ne_of_lt hl
    simp [zK, znew, hne]
  rw [e]
  simp [zK, znew, zN]
theorem zle.new (M : zM) (t n : Nat) : zle M (znew M t n) := ⟨Nat.le_succ _, by rw [zsz_new]; exact Nat.le_add_right _ _⟩
def zOne (M : zM) (F : zKt → zO) : Prop := ∃ o : Option (zNx ⊕ (Option Value × zM)), (∀ K, F K = zap o K) ∧ (∀ q, o = some (.inl q) → zle M q.2.2.2) ∧ ∀ q, o = some (.inr q) → q.2 = M
theorem zOne_k {M M1 : zM} (h : zle M M1) (pc : Nat) (l : zLs) (st : List Value) : zOne M (fun K => K pc l st M1) :=
  ⟨some (.inl (pc, l, st, M1)), fun _ => rfl, fun q hq => (by cases hq; exact h), fun q hq => (by cases hq)⟩
theorem zOne_n {M : zM} : zOne M (fun _ => none) := ⟨none, fun _ => rfl, fun q hq => (by cases hq), fun q hq => (by cases hq)⟩
theorem zOne_r {M : zM} (r : Option Value) : zOne M (fun _ => some (r, M)) := ⟨some (.inr (r, M)), fun _ => rfl, fun q hq => (by cases hq), fun q hq => (by cases hq; rfl)⟩
theorem zOne_zif {M : zM} {c : Prop} [Decidable c] {F : zKt → zO} (h : zOne M F) : zOne M (fun K => zif c (F K)) := by
  by_cases hc : c
  · simpa [zif, hc] using h
  · simpa [zif, hc] using zOne_n
theorem zOne_zok {M : zM} {b : Bool} {F : zKt → zO} (h : zOne M F) : zOne M (fun K => zok b (F K)) := by
  cases b
  · exact zOne_n
  · exact h
theorem zOne_ite {M : zM} {c : Prop} [Decidable c] {F G : zKt → zO} (h : zOne M F) (k : zOne M G) : zOne M (fun K => if c then F K else G K) := by
  by_cases hc : c
  · simpa [hc] using h
  · simpa [hc] using k
theorem zOne_z1i {M : zM} {st : List Value} {F : Int32 → List Value → zKt → zO} (h : ∀ x s, zOne M (F x s)) : zOne M (fun K => z1i st (fun x s => F x s K)) := by
  unfold z1i; split; exact h _ _; exact zOne_n
theorem zOne_z2i {M : zM} {st : List Value} {F : Int32 → Int32 → List Value → zKt → zO} (h : ∀ x y s, zOne M (F x y s)) : zOne M (fun K => z2i st (fun x y s => F x y s K)) := by
  unfold z2i; split; exact h _ _ _; exact zOne_n
theorem zOne_z1l {M : zM} {st : List Value} {F : Int64 → List Value → zKt → zO} (h : ∀ x s, zOne M (F x s)) : zOne M (fun K => z1l st (fun x s => F x s K)) := by
  unfold z1l; split; exact h _ _; exact zOne_n
theorem zOne_z2l {M : zM} {st : List Value} {F : Int64 → Int64 → List Value → zKt → zO} (h : ∀ x y s, zOne M (F x y s)) : zOne M (fun K => z2l st (fun x y s => F x y s K)) := by
  unfold z2l; split; exact h _ _ _; exact zOne_n
theorem zOne_zli {M : zM} {st : List Value} {F : Int64 → Int32 → List Value → zKt → zO} (h : ∀ x y s, zOne M (F x y s)) : zOne M (fun K => zli st (fun x y s => F x y s K)) := by
  unfold zli; split; exact h _ _ _; exact zOne_n
theorem zOne_z1r {M : zM} {st : List Value} {F : Nat → List Value → zKt → zO} (h : ∀ x s, zOne M (F x s)) : zOne M (fun K => z1r st (fun x s => F x s K)) := by
  unfold z1r; split; exact h _ _; exact zOne_n
theorem zOne_zri {M : zM} {st : List Value} {F : Nat → Int32 → List Value → zKt → zO} (h : ∀ x y s, zOne M (F x y s)) : zOne M (fun K => zri st (fun x y s => F x y s K)) := by
  unfold zri; split; exact h _ _ _; exact zOne_n
theorem zOne_zrl {M : zM} {st : List Value} {F : Nat → Int64 → List Value → zKt → zO} (h : ∀ x y s, zOne M (F x y s)) : zOne M (fun K => zrl st (fun x y s => F x y s K)) := by
  unfold zrl; split; exact h _ _ _; exact zOne_n
theorem zOne_zrr {M : zM} {st : List Value} {F : Nat → Nat → List Value → zKt → zO} (h : ∀ x y s, zOne M (F x y s)) : zOne M (fun K => zrr st (fun x y s => F x y s K)) := by
  unfold zrr; split; exact h _ _ _; exact zOne_n
theorem zOne_zrii {M : zM} {st : List Value} {F : Nat → Int32 → Int32 → List Value → zKt → zO} (h : ∀ x y z s, zOne M (F x y z s)) : zOne M (fun K => zrii st (fun x y z s => F x y z s K)) := by
  unfold zrii; split; exact h _ _ _ _; exact zOne_n
theorem zOne_zril {M : zM} {st : List Value} {F : Nat → Int32 → Int64 → List Value → zKt → zO} (h : ∀ x y z s, zOne M (F x y z s)) : zOne M (fun K => zril st (fun x y z s => F x y z s K)) := by
  unfold zril; split; exact h _ _ _ _; exact zOne_n
theorem zOne_zrir {M : zM} {st : List Value} {F : Nat → Int32 → Nat → List Value → zKt → zO} (h : ∀ x y z s, zOne M (F x y z s)) : zOne M (fun K => zrir st (fun x y z s => F x y z s K)) := by
  unfold zrir; split; exact h _ _ _ _; exact zOne_n
theorem zOne_zld {M : zM} {l : zLs} {i : Nat} {F : Value → zKt → zO} (h : ∀ v, zOne M (F v)) : zOne M (fun K => zld l i (fun v => F v K)) := by
  unfold zld; split; exact h _; exact zOne_n
theorem zOne_zvi {M : zM} {v : Value} {F : Int32 → zKt → zO} (h : ∀ v, zOne M (F v)) : zOne M (fun K => zvi v (fun v => F v K)) := by
  unfold zvi; split; exact h _; exact zOne_n
theorem zOne_zvl {M : zM} {v : Value} {F : Int64 → zKt → zO} (h : ∀ v, zOne M (F v)) : zOne M (fun K => zvl v (fun v => F v K)) := by
  unfold zvl; split; exact h _; exact zOne_n
theorem zOne_zvr {M : zM} {v : Value} {F : Nat → zKt → zO} (h : ∀ v, zOne M (F v)) : zOne M (fun K => zvr v (fun v => F v K)) := by
  unfold zvr; split; exact h _; exact zOne_n
theorem zOne_zoR {M : zM} {v : Option Nat} {F : Nat → zKt → zO} (h : ∀ v, zOne M (F v)) : zOne M (fun K => zoR v (fun v => F v K)) := by
  unfold zoR; split; exact h _; exact zOne_n
theorem zOne_zcond {M : zM} {c : ClassFile.Cond} {x y : Int32} {F G : zKt → zO} (h : zOne M F) (k : zOne M G) : zOne M (fun K => zcond c x y (F K) (G K)) := by
  unfold zcond; split <;> exact zOne_ite h k
theorem zOne_zsw {M : zM} {x : Int32} {d : Nat} {F : Nat → zKt → zO} (h : ∀ t, zOne M (F t)) : ∀ (ts : List Nat) (lo : Nat), zOne M (fun K => zsw x lo ts d (fun t => F t K))
  | [], _ => h d
  | t :: ts, lo => zOne_ite (h t) (zOne_zsw h ts (lo + 1))
theorem zOne_zlk {M : zM} {x : Int32} {d : Nat} {F : Nat → zKt → zO} (h : ∀ t, zOne M (F t)) : ∀ (ts : List Nat), zOne M (fun K => zlk x ts d (fun t => F t K))
  | [] => h d
  | [_] => h d
  | _ :: t :: ts => zOne_ite (h t) (zOne_zlk h ts)
theorem zOne_zret {M : zM} {rt : Nat} {o : zO} {rest : List Value} {F : List Value → zM → zKt → zO} (ho : ∀ r M', o = some (r, M') → zle M M') (h : ∀ s M', zle M M' → zOne M (F s M')) : zOne M (fun K => zret rt o rest (fun s M' => F s M' K)) := by
  unfold zret
  split
  · unfold zbV; split
    · exact h _ _ (ho _ _ rfl)
    · exact zOne_n
  · unfold zbI; split
    · exact h _ _ (ho _ _ rfl)
    · exact zOne_n
  · unfold zbL; split
    · exact h _ _ (ho _ _ rfl)
    · exact zOne_n
  · unfold zbR; split
    · exact h _ _ (ho _ _ rfl)
    · exact zOne_n
theorem zOne_zcall {M : zM} {E : zE0} (hE : ∀ y as M r M', E y as M = some (r, M') → zle M M') {y n rt tag : Nat} {st : List Value} {F : List Value → zM → zKt → zO} (h : ∀ s M', zle M M' → zOne M (F s M')) : zOne M (fun K => zcall E y n rt tag st M (fun s M' => F s M' K)) := by
  unfold zcall
  split
  · exact zOne_n
  split
  · exact zOne_zret (fun r M' q => hE _ _ _ _ _ q) h
  · split
    · exact zOne_zif (zOne_zret (fun r M' q => hE _ _ _ _ _ q) h)
    · exact zOne_n
theorem zOne_zinvoke {M : zM} {E : zE0} (hE : ∀ y as M r M', E y as M = some (r, M') → zle M M') {r : List Nat} {st : List Value} {F : List Value → zM → zKt → zO} (h : ∀ s M', zle M M' → zOne M (F s M')) : zOne M (fun K => zinvoke E r st M (fun s M' => F s M' K)) := by
  unfold zinvoke
  split
  · split
    · exact zOne_z1r (fun _ s => zOne_zok (h s M (zle.rf M)))
    · split
      · exact zOne_zif (h _ _ ⟨Nat.le_refl _, Nat.le_refl _⟩)
      · exact zOne_n
    · exact zOne_z2i (fun _ _ s => zOne_zok (h _ M (zle.rf M)))
    · exact zOne_z2i (fun _ _ s => zOne_zok (h _ M (zle.rf M)))
    · exact zOne_zcall hE h
  · exact zOne_n
theorem zOne_zgetf {M : zM} {r : List Nat} {a : Nat} {st : List Value} {F : List Value → zKt → zO} (h : ∀ s, zOne M (F s)) : zOne M (fun K => zgetf r a st M (fun s => F s K)) := by
  unfold zgetf
  split
  · refine zOne_zif ?_
    split
    · exact h _
    · exact zOne_zoR (fun q => h _)
    · exact h _
  · exact zOne_n
theorem zOne_zputf {M : zM} {r : List Nat} {st : List Value} {F : List Value → zM → zKt → zO} (h : ∀ s M', zle M M' → zOne M (F s M')) : zOne M (fun K => zputf r st M (fun s M' => F s M' K)) := by
  unfold zputf
  split
  · split
    · exact zOne_zrl (fun a x s => zOne_zif (h _ _ ⟨Nat.le_refl _, Nat.le_refl _⟩))
    · exact zOne_zrr (fun a x s => zOne_zif (h _ _ ⟨Nat.le_refl _, Nat.le_refl _⟩))
    · exact zOne_zri (fun a x s => zOne_zif (h _ _ ⟨Nat.le_refl _, Nat.le_refl _⟩))
    · exact zOne_zri (fun a x s => zOne_zif (h _ _ ⟨Nat.le_refl _, Nat.le_refl _⟩))
  · exact zOne_n
theorem zle.sI (M : zM) (a i : Nat) (x : Int32) : zle M (zsI M a i x) := ⟨Nat.le_refl _, Nat.le_refl _⟩
theorem zle.sL (M : zM) (a i : Nat) (x : Int64) : zle M (zsL M a i x) := ⟨Nat.le_refl _, Nat.le_refl _⟩
theorem zle.sR (M : zM) (a i : Nat) (x : Option Nat) : zle M (zsR M a i x) := ⟨Nat.le_refl _, Nat.le_refl _⟩
set_option maxHeartbeats 4000000 in
theorem zstep_one {E : zE0} (hE : ∀ y as M r M', E y as M = some (r, M') → zle M M') (rt : Nat) (i : Instr) (r : List Nat) (pc : Nat) (l : zLs) (st : List Value) (M : zM) : zOne M (zstep E rt i r pc l st M) := by
  cases i
  case iconst => exact zOne_k (zle.rf M) _ _ _
  case bipush => exact zOne_k (zle.rf M) _ _ _
  case sipush => exact zOne_k (zle.rf M) _ _ _
  case ldc => exact zOne_k (zle.rf M) _ _ _
  case ldc_w => exact zOne_k (zle.rf M) _ _ _
  case lconst => exact zOne_k (zle.rf M) _ _ _
  case ldc2_w => exact zOne_k (zle.rf M) _ _ _
  case iload_n => exact zOne_zld fun v => zOne_zvi fun x => zOne_k (zle.rf M) _ _ _
  case iload => exact zOne_zld fun v => zOne_zvi fun x => zOne_k (zle.rf M) _ _ _
  case lload_n => exact zOne_zld fun v => zOne_zvl fun x => zOne_k (zle.rf M) _ _ _
  case lload => exact zOne_zld fun v => zOne_zvl fun x => zOne_k (zle.rf M) _ _ _
  case aload_n => exact zOne_zld fun v => zOne_zvr fun x => zOne_k (zle.rf M) _ _ _
  case aload => exact zOne_zld fun v => zOne_zvr fun x => zOne_k (zle.rf M) _ _ _
  case istore_n => exact zOne_z1i fun x s => zOne_zok (zOne_k (zle.rf M) _ _ _)
  case istore => exact zOne_z1i fun x s => zOne_zok (zOne_k (zle.rf M) _ _ _)
  case lstore_n => exact zOne_z1l fun x s => zOne_zok (zOne_k (zle.rf M) _ _ _)
  case lstore => exact zOne_z1l fun x s => zOne_zok (zOne_k (zle.rf M) _ _ _)
  case astore_n => exact zOne_z1r fun x s => zOne_zok (zOne_k (zle.rf M) _ _ _)
  case astore => exact zOne_z1r fun x s => zOne_zok (zOne_k (zle.rf M) _ _ _)
  case iinc => exact zOne_zld fun v => zOne_zvi fun x => zOne_zok (zOne_k (zle.rf M) _ _ _)
  case iadd => exact zOne_z2i fun x y s => zOne_k (zle.rf M) _ _ _
  case isub => exact zOne_z2i fun x y s => zOne_k (zle.rf M) _ _ _
  case imul => exact zOne_z2i fun x y s => zOne_k (zle.rf M) _ _ _
  case iand => exact zOne_z2i fun x y s => zOne_k (zle.rf M) _ _ _
  case idiv => exact zOne_z2i fun x y s => zOne_zif (zOne_k (zle.rf M) _ _ _)
  case irem => exact zOne_z2i fun x y s => zOne_zif (zOne_k (zle.rf M) _ _ _)
  case ishr => exact zOne_z2i fun x y s => zOne_k (zle.rf M) _ _ _
  case iushr => exact zOne_z2i fun x y s => zOne_k (zle.rf M) _ _ _
  case ladd => exact zOne_z2l fun x y s => zOne_k (zle.rf M) _ _ _
  case lsub => exact zOne_z2l fun x y s => zOne_k (zle.rf M) _ _ _
  case land => exact zOne_z2l fun x y s => zOne_k (zle.rf M) _ _ _
  case lor => exact zOne_z2l fun x y s => zOne_k (zle.rf M) _ _ _
  case lxor => exact zOne_z2l fun x y s => zOne_k (zle.rf M) _ _ _
  case lcmp => exact zOne_z2l fun x y s => zOne_k (zle.rf M) _ _ _
  case lshl => exact zOne_zli fun x y s => zOne_k (zle.rf M) _ _ _
  case lshr => exact zOne_zli fun x y s => zOne_k (zle.rf M) _ _ _
  case lushr => exact zOne_zli fun x y s => zOne_k (zle.rf M) _ _ _
  case i2l => exact zOne_z1i fun x s => zOne_k (zle.rf M) _ _ _
  case l2i => exact zOne_z1l fun x s => zOne_k (zle.rf M) _ _ _
  case i2b => exact zOne_z1i fun x s => zOne_k (zle.rf M) _ _ _
  case i2c => exact zOne_z1i fun x s => zOne_k (zle.rf M) _ _ _
  case dup => unfold zstep; dsimp only; split <;> first | exact zOne_k (zle.rf M) _ _ _ | exact zOne_n
  case pop => unfold zstep; dsimp only; split <;> first | exact zOne_k (zle.rf M) _ _ _ | exact zOne_n
  case dup2 => unfold zstep; dsimp only; split <;> first | exact zOne_k (zle.rf M) _ _ _ | exact zOne_n
  case goto => exact zOne_k (zle.rf M) _ _ _
  case ifCond => exact zOne_z1i fun x s => zOne_zcond (zOne_k (zle.rf M) _ _ _) (zOne_k (zle.rf M) _ _ _)
  case if_icmp => exact zOne_z2i fun x y s => zOne_zcond (zOne_k (zle.rf M) _ _ _) (zOne_k (zle.rf M) _ _ _)
  case tableswitch =>
    refine zOne_z1i (F := fun x s K => match r with
      | d :: lo :: ts => zsw x lo ts d (fun t => K t l s M)
      | _ => none) fun x s => ?_
    split
    · exact zOne_zsw (F := fun t K => K t l s M) (fun t => zOne_k (zle.rf M) _ _ _) _ _
    · exact zOne_n
  case lookupswitch =>
    refine zOne_z1i (F := fun x s K => match r with
      | d :: ts => zlk x ts d (fun t => K t l s M)
      | _ => none) fun x s => ?_
    split
    · exact zOne_zlk (F := fun t K => K t l s M) (fun t => zOne_k (zle.rf M) _ _ _) _
    · exact zOne_n
  case getfield => exact zOne_z1r fun a s => zOne_zgetf fun s' => zOne_k (zle.rf M) _ _ _
  case putfield => exact zOne_zputf fun s M' h => zOne_k h _ _ _
  case getstatic => exact zOne_k (zle.rf M) _ _ _
  case iaload => exact zOne_zri fun a j s => zOne_zif (zOne_k (zle.rf M) _ _ _)
  case baload => exact zOne_zri fun a j s => zOne_zif (zOne_k (zle.rf M) _ _ _)
  case laload => exact zOne_zri fun a j s => zOne_zif (zOne_k (zle.rf M) _ _ _)
  case aaload => exact zOne_zri fun a j s => zOne_zif (zOne_zoR fun q => zOne_k (zle.rf M) _ _ _)
  case iastore => exact zOne_zrii fun a j x s => zOne_zif (zOne_k (zle.sI M _ _ _) _ _ _)
  case bastore => exact zOne_zrii fun a j x s => zOne_ite (zOne_zif (zOne_k (zle.sI M _ _ _) _ _ _)) (zOne_zif (zOne_k (zle.sI M _ _ _) _ _ _))
  case lastore => exact zOne_zril fun a j x s => zOne_zif (zOne_k (zle.sL M _ _ _) _ _ _)
  case aastore => exact zOne_zrir fun a j x s => zOne_zif (zOne_k (zle.sR M _ _ _) _ _ _)
  case arraylength => exact zOne_z1r fun a s => zOne_zif (zOne_k (zle.rf M) _ _ _)
  case new => exact zOne_k (zle.new M _ _) _ _ _
  case newarray => exact zOne_z1i fun x s => zOne_zif (zOne_k (zle.new M _ _) _ _ _)
  case anewarray => exact zOne_z1i fun x s => zOne_zif (zOne_k (zle.new M _ _) _ _ _)
  case invokevirtual => exact zOne_zinvoke hE fun s M' h => zOne_k h _ _ _
  case invokespecial => exact zOne_zinvoke hE fun s M' h => zOne_k h _ _ _
  case invokestatic => exact zOne_zinvoke hE fun s M' h => zOne_k h _ _ _
  case ireturn => unfold zstep; dsimp only; split <;> first | (split <;> first | exact zOne_zif (zOne_r _) | exact zOne_r _ | exact zOne_n) | exact zOne_n
  case lreturn => unfold zstep; dsimp only; split <;> first | exact zOne_zok (zOne_r _) | exact zOne_n
  case areturn => unfold zstep; dsimp only; split <;> first | exact zOne_zok (zOne_r _) | exact zOne_n
  case return_ => unfold zstep; dsimp only; split <;> first | exact zOne_zok (zOne_r _) | exact zOne_n
  all_goals exact zOne_n
