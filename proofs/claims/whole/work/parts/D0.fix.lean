/-! no call writes to the script -/
def zfx (M M' : zM) : Prop := zN M ≤ zN M' ∧ (∀ a, a < zN M → zK M' a = zK M a ∧ ((zK M a).1 = 24 → zI M' a = zI M a)) ∧ ∀ a, zN M' ≤ a → zK M' a = zK M a
theorem zfx.rf (M : zM) : zfx M M := ⟨Nat.le_refl _, fun _ _ => ⟨rfl, fun _ => rfl⟩, fun _ _ => rfl⟩
theorem zfx.tr {M M1 M2 : zM} (h : zfx M M1) (k : zfx M1 M2) : zfx M M2 := by
  refine ⟨Nat.le_trans h.1 k.1, fun a ha => ?_, fun a ha => (k.2.2 a ha).trans (h.2.2 a (Nat.le_trans k.1 ha))⟩
  obtain ⟨h1, h2⟩ := h.2.1 a ha
  obtain ⟨k1, k2⟩ := k.2.1 a (Nat.lt_of_lt_of_le ha h.1)
  exact ⟨k1.trans h1, fun z => (k2 (by rw [h1]; exact z)).trans (h2 z)⟩
theorem zfx.sI {M : zM} {a i : Nat} {x : Int32} (h : (zK M a).1 ≠ 24) : zfx M (zsI M a i x) := ⟨Nat.le_refl _, fun b _ => ⟨rfl, fun z => zI_ne (fun y => h (by rw [← y]; exact z))⟩, fun _ _ => rfl⟩
theorem zfx.sL (M : zM) (a i : Nat) (x : Int64) : zfx M (zsL M a i x) := ⟨Nat.le_refl _, fun _ _ => ⟨rfl, fun _ => rfl⟩, fun _ _ => rfl⟩
theorem zfx.sR (M : zM) (a i : Nat) (x : Option Nat) : zfx M (zsR M a i x) := ⟨Nat.le_refl _, fun _ _ => ⟨rfl, fun _ => rfl⟩, fun _ _ => rfl⟩
theorem zfx.new (M : zM) (t n : Nat) : zfx M (znew M t n) := by
  refine ⟨Nat.le_succ _, fun b hb => ?_, fun b hb => ?_⟩
  · have hne : ¬ b = M.1 := Nat.ne_of_lt hb
    refine ⟨by simp [zK, znew, hne], fun _ => ?_⟩
    funext j
    simp [zI, znew, zrow, hne]
  · have hb : M.1 + 1 ≤ b := hb
    have hne : ¬ b = M.1 := by omega
    simp [zK, znew, hne]
theorem zfx.cp {M : zM} {a sp b dp n : Nat} (h : (zK M b).1 = 20) : zfx M (zcopy M a sp b dp n) := by
  refine ⟨Nat.le_refl _, fun c _ => ⟨rfl, fun z => ?_⟩, fun _ _ => rfl⟩
  have hne : ¬ c = b := fun y => by
    rw [y, h] at z
    exact absurd z (by decide)
  funext j
  simp [zI, zcopy, zrow, hne]
def zgp (r : List Nat) : Bool := match r with
  | _ :: ci :: _ :: _ => Nat.blt ci 20
  | _ => true
def zgd (i : Instr) (r : List Nat) : Bool := match i with
  | .putfield _ => zgp r
  | _ => true
def zTwo (M : zM) (F : zKt → zO) : Prop := ∃ o : Option (zNx ⊕ (Option Value × zM)), (∀ K, F K = zap o K) ∧ (∀ q, o = some (.inl q) → zfx M q.2.2.2) ∧ ∀ q, o = some (.inr q) → q.2 = M
theorem zTwo_k {M M1 : zM} (h : zfx M M1) (pc : Nat) (l : zLs) (st : List Value) : zTwo M (fun K => K pc l st M1) :=
  ⟨some (.inl (pc, l, st, M1)), fun _ => rfl, fun q hq => (by cases hq; exact h), fun q hq => (by cases hq)⟩
theorem zTwo_n {M : zM} : zTwo M (fun _ => none) := ⟨none, fun _ => rfl, fun q hq => (by cases hq), fun q hq => (by cases hq)⟩
theorem zTwo_r {M : zM} (r : Option Value) : zTwo M (fun _ => some (r, M)) := ⟨some (.inr (r, M)), fun _ => rfl, fun q hq => (by cases hq), fun q hq => (by cases hq; rfl)⟩
theorem zTwo_zif {M : zM} {c : Prop} [Decidable c] {F : zKt → zO} (h : zTwo M F) : zTwo M (fun K => zif c (F K)) := by
  by_cases hc : c
  · simpa [zif, hc] using h
  · simpa [zif, hc] using zTwo_n
theorem zTwo_zok {M : zM} {b : Bool} {F : zKt → zO} (h : zTwo M F) : zTwo M (fun K => zok b (F K)) := by
  cases b
  · exact zTwo_n
  · exact h
theorem zTwo_ite {M : zM} {c : Prop} [Decidable c] {F G : zKt → zO} (h : zTwo M F) (k : zTwo M G) : zTwo M (fun K => if c then F K else G K) := by
  by_cases hc : c
  · simpa [hc] using h
  · simpa [hc] using k
theorem zTwo_z1i {M : zM} {st : List Value} {F : Int32 → List Value → zKt → zO} (h : ∀ x s, zTwo M (F x s)) : zTwo M (fun K => z1i st (fun x s => F x s K)) := by
  unfold z1i; split; exact h _ _; exact zTwo_n
theorem zTwo_z2i {M : zM} {st : List Value} {F : Int32 → Int32 → List Value → zKt → zO} (h : ∀ x y s, zTwo M (F x y s)) : zTwo M (fun K => z2i st (fun x y s => F x y s K)) := by
  unfold z2i; split; exact h _ _ _; exact zTwo_n
theorem zTwo_z1l {M : zM} {st : List Value} {F : Int64 → List Value → zKt → zO} (h : ∀ x s, zTwo M (F x s)) : zTwo M (fun K => z1l st (fun x s => F x s K)) := by
  unfold z1l; split; exact h _ _; exact zTwo_n
theorem zTwo_z2l {M : zM} {st : List Value} {F : Int64 → Int64 → List Value → zKt → zO} (h : ∀ x y s, zTwo M (F x y s)) : zTwo M (fun K => z2l st (fun x y s => F x y s K)) := by
  unfold z2l; split; exact h _ _ _; exact zTwo_n
theorem zTwo_zli {M : zM} {st : List Value} {F : Int64 → Int32 → List Value → zKt → zO} (h : ∀ x y s, zTwo M (F x y s)) : zTwo M (fun K => zli st (fun x y s => F x y s K)) := by
  unfold zli; split; exact h _ _ _; exact zTwo_n
theorem zTwo_z1r {M : zM} {st : List Value} {F : Nat → List Value → zKt → zO} (h : ∀ x s, zTwo M (F x s)) : zTwo M (fun K => z1r st (fun x s => F x s K)) := by
  unfold z1r; split; exact h _ _; exact zTwo_n
theorem zTwo_zri {M : zM} {st : List Value} {F : Nat → Int32 → List Value → zKt → zO} (h : ∀ x y s, zTwo M (F x y s)) : zTwo M (fun K => zri st (fun x y s => F x y s K)) := by
  unfold zri; split; exact h _ _ _; exact zTwo_n
theorem zTwo_zrl {M : zM} {st : List Value} {F : Nat → Int64 → List Value → zKt → zO} (h : ∀ x y s, zTwo M (F x y s)) : zTwo M (fun K => zrl st (fun x y s => F x y s K)) := by
  unfold zrl; split; exact h _ _ _; exact zTwo_n
theorem zTwo_zrr {M : zM} {st : List Value} {F : Nat → Nat → List Value → zKt → zO} (h : ∀ x y s, zTwo M (F x y s)) : zTwo M (fun K => zrr st (fun x y s => F x y s K)) := by
  unfold zrr; split; exact h _ _ _; exact zTwo_n
theorem zTwo_zrii {M : zM} {st : List Value} {F : Nat → Int32 → Int32 → List Value → zKt → zO} (h : ∀ x y z s, zTwo M (F x y z s)) : zTwo M (fun K => zrii st (fun x y z s => F x y z s K)) := by
  unfold zrii; split; exact h _ _ _ _; exact zTwo_n
theorem zTwo_zril {M : zM} {st : List Value} {F : Nat → Int32 → Int64 → List Value → zKt → zO} (h : ∀ x y z s, zTwo M (F x y z s)) : zTwo M (fun K => zril st (fun x y z s => F x y z s K)) := by
  unfold zril; split; exact h _ _ _ _; exact zTwo_n
theorem zTwo_zrir {M : zM} {st : List Value} {F : Nat → Int32 → Nat → List Value → zKt → zO} (h : ∀ x y z s, zTwo M (F x y z s)) : zTwo M (fun K => zrir st (fun x y z s => F x y z s K)) := by
  unfold zrir; split; exact h _ _ _ _; exact zTwo_n
theorem zTwo_zld {M : zM} {l : zLs} {i : Nat} {F : Value → zKt → zO} (h : ∀ v, zTwo M (F v)) : zTwo M (fun K => zld l i (fun v => F v K)) := by
  unfold zld; split; exact h _; exact zTwo_n
theorem zTwo_zvi {M : zM} {v : Value} {F : Int32 → zKt → zO} (h : ∀ v, zTwo M (F v)) : zTwo M (fun K => zvi v (fun v => F v K)) := by
  unfold zvi; split; exact h _; exact zTwo_n
theorem zTwo_zvl {M : zM} {v : Value} {F : Int64 → zKt → zO} (h : ∀ v, zTwo M (F v)) : zTwo M (fun K => zvl v (fun v => F v K)) := by
  unfold zvl; split; exact h _; exact zTwo_n
theorem zTwo_zvr {M : zM} {v : Value} {F : Nat → zKt → zO} (h : ∀ v, zTwo M (F v)) : zTwo M (fun K => zvr v (fun v => F v K)) := by
  unfold zvr; split; exact h _; exact zTwo_n
theorem zTwo_zoR {M : zM} {v : Option Nat} {F : Nat → zKt → zO} (h : ∀ v, zTwo M (F v)) : zTwo M (fun K => zoR v (fun v => F v K)) := by
  unfold zoR; split; exact h _; exact zTwo_n
theorem zTwo_zcond {M : zM} {c : ClassFile.Cond} {x y : Int32} {F G : zKt → zO} (h : zTwo M F) (k : zTwo M G) : zTwo M (fun K => zcond c x y (F K) (G K)) := by
  unfold zcond; split <;> exact zTwo_ite h k
theorem zTwo_zsw {M : zM} {x : Int32} {d : Nat} {F : Nat → zKt → zO} (h : ∀ t, zTwo M (F t)) : ∀ (ts : List Nat) (lo : Nat), zTwo M (fun K => zsw x lo ts d (fun t => F t K))
  | [], _ => h d
  | t :: ts, lo => zTwo_ite (h t) (zTwo_zsw h ts (lo + 1))
theorem zTwo_zlk {M : zM} {x : Int32} {d : Nat} {F : Nat → zKt → zO} (h : ∀ t, zTwo M (F t)) : ∀ (ts : List Nat), zTwo M (fun K => zlk x ts d (fun t => F t K))
  | [] => h d
  | [_] => h d
  | _ :: t :: ts => zTwo_ite (h t) (zTwo_zlk h ts)
theorem zTwo_zifc {M : zM} {c : Prop} [Decidable c] {F : zKt → zO} (h : c → zTwo M F) : zTwo M (fun K => zif c (F K)) := by
  by_cases hc : c
  · simpa [zif, hc] using h hc
  · simpa [zif, hc] using zTwo_n
theorem zTwo_itec {M : zM} {c : Prop} [Decidable c] {F G : zKt → zO} (h : c → zTwo M F) (k : ¬ c → zTwo M G) : zTwo M (fun K => if c then F K else G K) := by
  by_cases hc : c
  · simpa [hc] using h hc
  · simpa [hc] using k hc
theorem zTwo_zret {M : zM} {rt : Nat} {o : zO} {rest : List Value} {F : List Value → zM → zKt → zO} (ho : ∀ r M', o = some (r, M') → zfx M M') (h : ∀ s M', zfx M M' → zTwo M (F s M')) : zTwo M (fun K => zret rt o rest (fun s M' => F s M' K)) := by
  unfold zret
  split
  · unfold zbV; split
    · exact h _ _ (ho _ _ rfl)
    · exact zTwo_n
  · unfold zbI; split
    · exact h _ _ (ho _ _ rfl)
    · exact zTwo_n
  · unfold zbL; split
    · exact h _ _ (ho _ _ rfl)
    · exact zTwo_n
  · unfold zbR; split
    · exact h _ _ (ho _ _ rfl)
    · exact zTwo_n
theorem zTwo_zcall {M : zM} {E : zE0} (hE : ∀ y as M r M', E y as M = some (r, M') → zfx M M') {y n rt tag : Nat} {st : List Value} {F : List Value → zM → zKt → zO} (h : ∀ s M', zfx M M' → zTwo M (F s M')) : zTwo M (fun K => zcall E y n rt tag st M (fun s M' => F s M' K)) := by
  unfold zcall
  split
  · exact zTwo_n
  split
  · exact zTwo_zret (fun r M' q => hE _ _ _ _ _ q) h
  · split
    · exact zTwo_zif (zTwo_zret (fun r M' q => hE _ _ _ _ _ q) h)
    · exact zTwo_n
theorem zTwo_zinvoke {M : zM} {E : zE0} (hE : ∀ y as M r M', E y as M = some (r, M') → zfx M M') {r : List Nat} {st : List Value} {F : List Value → zM → zKt → zO} (h : ∀ s M', zfx M M' → zTwo M (F s M')) : zTwo M (fun K => zinvoke E r st M (fun s M' => F s M' K)) := by
  unfold zinvoke
  split
  · split
    · exact zTwo_z1r (fun _ s => zTwo_zok (h s M (zfx.rf M)))
    · split
      · exact zTwo_zifc fun hc => h _ _ (zfx.cp hc.2.1)
      · exact zTwo_n
    · exact zTwo_z2i (fun _ _ s => zTwo_zok (h _ M (zfx.rf M)))
    · exact zTwo_z2i (fun _ _ s => zTwo_zok (h _ M (zfx.rf M)))
    · exact zTwo_zcall hE h
  · exact zTwo_n
theorem zTwo_zgetf {M : zM} {r : List Nat} {a : Nat} {st : List Value} {F : List Value → zKt → zO} (h : ∀ s, zTwo M (F s)) : zTwo M (fun K => zgetf r a st M (fun s => F s K)) := by
  unfold zgetf
  split
  · refine zTwo_zif ?_
    split
    · exact h _
    · exact zTwo_zoR (fun q => h _)
    · exact h _
  · exact zTwo_n
theorem zTwo_zputf {M : zM} {r : List Nat} (hr : zgp r = true) {st : List Value} {F : List Value → zM → zKt → zO} (h : ∀ s M', zfx M M' → zTwo M (F s M')) : zTwo M (fun K => zputf r st M (fun s M' => F s M' K)) := by
  unfold zputf
  split
  · rename_i ty ci k rest
    have hci : ci < 20 := by
      have : Nat.blt ci 20 = true := hr
      exact Nat.blt_eq.mp this
    split
    · exact zTwo_zrl (fun a x s => zTwo_zif (h _ _ (zfx.sL M _ _ _)))
    · exact zTwo_zrr (fun a x s => zTwo_zif (h _ _ (zfx.sR M _ _ _)))
    · exact zTwo_zri (fun a x s => zTwo_zifc fun hc => h _ _ (zfx.sI (by rw [hc.1]; omega)))
    · exact zTwo_zri (fun a x s => zTwo_zifc fun hc => h _ _ (zfx.sI (by rw [hc]; omega)))
  · exact zTwo_n
set_option maxHeartbeats 4000000 in
theorem zstep_two {E : zE0} (hE : ∀ y as M r M', E y as M = some (r, M') → zfx M M') (rt : Nat) (i : Instr) (r : List Nat) (hg : zgd i r = true) (pc : Nat) (l : zLs) (st : List Value) (M : zM) : zTwo M (zstep E rt i r pc l st M) := by
  cases i
  case iconst => exact zTwo_k (zfx.rf M) _ _ _
  case bipush => exact zTwo_k (zfx.rf M) _ _ _
  case sipush => exact zTwo_k (zfx.rf M) _ _ _
  case ldc => exact zTwo_k (zfx.rf M) _ _ _
  case ldc_w => exact zTwo_k (zfx.rf M) _ _ _
  case lconst => exact zTwo_k (zfx.rf M) _ _ _
  case ldc2_w => exact zTwo_k (zfx.rf M) _ _ _
  case iload_n => exact zTwo_zld fun v => zTwo_zvi fun x => zTwo_k (zfx.rf M) _ _ _
  case iload => exact zTwo_zld fun v => zTwo_zvi fun x => zTwo_k (zfx.rf M) _ _ _
  case lload_n => exact zTwo_zld fun v => zTwo_zvl fun x => zTwo_k (zfx.rf M) _ _ _
  case lload => exact zTwo_zld fun v => zTwo_zvl fun x => zTwo_k (zfx.rf M) _ _ _
  case aload_n => exact zTwo_zld fun v => zTwo_zvr fun x => zTwo_k (zfx.rf M) _ _ _
  case aload => exact zTwo_zld fun v => zTwo_zvr fun x => zTwo_k (zfx.rf M) _ _ _
  case istore_n => exact zTwo_z1i fun x s => zTwo_zok (zTwo_k (zfx.rf M) _ _ _)
  case istore => exact zTwo_z1i fun x s => zTwo_zok (zTwo_k (zfx.rf M) _ _ _)
  case lstore_n => exact zTwo_z1l fun x s => zTwo_zok (zTwo_k (zfx.rf M) _ _ _)
  case lstore => exact zTwo_z1l fun x s => zTwo_zok (zTwo_k (zfx.rf M) _ _ _)
  case astore_n => exact zTwo_z1r fun x s => zTwo_zok (zTwo_k (zfx.rf M) _ _ _)
  case astore => exact zTwo_z1r fun x s => zTwo_zok (zTwo_k (zfx.rf M) _ _ _)
  case iinc => exact zTwo_zld fun v => zTwo_zvi fun x => zTwo_zok (zTwo_k (zfx.rf M) _ _ _)
  case iadd => exact zTwo_z2i fun x y s => zTwo_k (zfx.rf M) _ _ _
  case isub => exact zTwo_z2i fun x y s => zTwo_k (zfx.rf M) _ _ _
  case imul => exact zTwo_z2i fun x y s => zTwo_k (zfx.rf M) _ _ _
  case iand => exact zTwo_z2i fun x y s => zTwo_k (zfx.rf M) _ _ _
  case idiv => exact zTwo_z2i fun x y s => zTwo_zif (zTwo_k (zfx.rf M) _ _ _)
  case irem => exact zTwo_z2i fun x y s => zTwo_zif (zTwo_k (zfx.rf M) _ _ _)
  case ishr => exact zTwo_z2i fun x y s => zTwo_k (zfx.rf M) _ _ _
  case iushr => exact zTwo_z2i fun x y s => zTwo_k (zfx.rf M) _ _ _
  case ladd => exact zTwo_z2l fun x y s => zTwo_k (zfx.rf M) _ _ _
  case lsub => exact zTwo_z2l fun x y s => zTwo_k (zfx.rf M) _ _ _
  case land => exact zTwo_z2l fun x y s => zTwo_k (zfx.rf M) _ _ _
  case lor => exact zTwo_z2l fun x y s => zTwo_k (zfx.rf M) _ _ _
  case lxor => exact zTwo_z2l fun x y s => zTwo_k (zfx.rf M) _ _ _
  case lcmp => exact zTwo_z2l fun x y s => zTwo_k (zfx.rf M) _ _ _
  case lshl => exact zTwo_zli fun x y s => zTwo_k (zfx.rf M) _ _ _
  case lshr => exact zTwo_zli fun x y s => zTwo_k (zfx.rf M) _ _ _
  case lushr => exact zTwo_zli fun x y s => zTwo_k (zfx.rf M) _ _ _
  case i2l => exact zTwo_z1i fun x s => zTwo_k (zfx.rf M) _ _ _
  case l2i => exact zTwo_z1l fun x s => zTwo_k (zfx.rf M) _ _ _
  case i2b => exact zTwo_z1i fun x s => zTwo_k (zfx.rf M) _ _ _
  case i2c => exact zTwo_z1i fun x s => zTwo_k (zfx.rf M) _ _ _
  case dup => unfold zstep; dsimp only; split <;> first | exact zTwo_k (zfx.rf M) _ _ _ | exact zTwo_n
  case pop => unfold zstep; dsimp only; split <;> first | exact zTwo_k (zfx.rf M) _ _ _ | exact zTwo_n
  case dup2 => unfold zstep; dsimp only; split <;> first | exact zTwo_k (zfx.rf M) _ _ _ | exact zTwo_n
  case goto => exact zTwo_k (zfx.rf M) _ _ _
  case ifCond => exact zTwo_z1i fun x s => zTwo_zcond (zTwo_k (zfx.rf M) _ _ _) (zTwo_k (zfx.rf M) _ _ _)
  case if_icmp => exact zTwo_z2i fun x y s => zTwo_zcond (zTwo_k (zfx.rf M) _ _ _) (zTwo_k (zfx.rf M) _ _ _)
  case tableswitch =>
    clear hg
    refine zTwo_z1i (F := fun x s K => match r with
      | d :: lo :: ts => zsw x lo ts d (fun t => K t l s M)
      | _ => none) fun x s => ?_
    split
    · exact zTwo_zsw (F := fun t K => K t l s M) (fun t => zTwo_k (zfx.rf M) _ _ _) _ _
    · exact zTwo_n
  case lookupswitch =>
    clear hg
    refine zTwo_z1i (F := fun x s K => match r with
      | d :: ts => zlk x ts d (fun t => K t l s M)
      | _ => none) fun x s => ?_
    split
    · exact zTwo_zlk (F := fun t K => K t l s M) (fun t => zTwo_k (zfx.rf M) _ _ _) _
    · exact zTwo_n
  case getfield => exact zTwo_z1r fun a s => zTwo_zgetf fun s' => zTwo_k (zfx.rf M) _ _ _
  case putfield => exact zTwo_zputf hg fun s M' h => zTwo_k h _ _ _
  case getstatic => exact zTwo_k (zfx.rf M) _ _ _
  case iaload => exact zTwo_zri fun a j s => zTwo_zif (zTwo_k (zfx.rf M) _ _ _)
  case baload => exact zTwo_zri fun a j s => zTwo_zif (zTwo_k (zfx.rf M) _ _ _)
  case laload => exact zTwo_zri fun a j s => zTwo_zif (zTwo_k (zfx.rf M) _ _ _)
  case aaload => exact zTwo_zri fun a j s => zTwo_zif (zTwo_zoR fun q => zTwo_k (zfx.rf M) _ _ _)
  case iastore => exact zTwo_zrii fun a j x s => zTwo_zifc fun hc => zTwo_k (zfx.sI (by rw [hc.1]; decide)) _ _ _
  case bastore => exact zTwo_zrii fun a j x s => zTwo_itec (fun hc => zTwo_zif (zTwo_k (zfx.sI (by rw [hc]; decide)) _ _ _)) (fun _ => zTwo_zifc fun hc => zTwo_k (zfx.sI (by rw [hc.1]; decide)) _ _ _)
  case lastore => exact zTwo_zril fun a j x s => zTwo_zif (zTwo_k (zfx.sL M _ _ _) _ _ _)
  case aastore => exact zTwo_zrir fun a j x s => zTwo_zif (zTwo_k (zfx.sR M _ _ _) _ _ _)
  case arraylength => exact zTwo_z1r fun a s => zTwo_zif (zTwo_k (zfx.rf M) _ _ _)
  case new => exact zTwo_k (zfx.new M _ _) _ _ _
  case newarray => exact zTwo_z1i fun x s => zTwo_zif (zTwo_k (zfx.new M _ _) _ _ _)
  case anewarray => exact zTwo_z1i fun x s => zTwo_zif (zTwo_k (zfx.new M _ _) _ _ _)
  case invokevirtual => exact zTwo_zinvoke hE fun s M' h => zTwo_k h _ _ _
  case invokespecial => exact zTwo_zinvoke hE fun s M' h => zTwo_k h _ _ _
  case invokestatic => exact zTwo_zinvoke hE fun s M' h => zTwo_k h _ _ _
  case ireturn => unfold zstep; dsimp only; split <;> first | (split <;> first | exact zTwo_zif (zTwo_r _) | exact zTwo_r _ | exact zTwo_n) | exact zTwo_n
  case lreturn => unfold zstep; dsimp only; split <;> first | exact zTwo_zok (zTwo_r _) | exact zTwo_n
  case areturn => unfold zstep; dsimp only; split <;> first | exact zTwo_zok (zTwo_r _) | exact zTwo_n
  case return_ => unfold zstep; dsimp only; split <;> first | exact zTwo_zok (zTwo_r _) | exact zTwo_n
  all_goals exact zTwo_n
theorem zat_mm {q : Instr × Nat × List Nat} {pc : Nat} : ∀ {C : List zC}, zat C pc = some q → ∃ e, e ∈ C ∧ e.2 = q
  | [], h => by cases h
  | e :: C, h => by
    unfold zat at h
    split at h
    · exact ⟨e, List.mem_cons_self .., Option.some.inj h⟩
    · obtain ⟨f, h1, h2⟩ := zat_mm h
      exact ⟨f, List.mem_cons_of_mem e h1, h2⟩
theorem zTl_good : (zTl.all fun m => m.2.2.1.all fun c => zgd c.2.1 c.2.2.2) = true := by decide +kernel
theorem zT_good {y pc : Nat} {q : Instr × Nat × List Nat} (h : zat (zT y).2.2.1 pc = some q) : zgd q.1 q.2.2 = true := by
  obtain ⟨e, he, rfl⟩ := zat_mm h
  by_cases hy : y < zTl.length
  · have hm : zT y ∈ zTl := by
      unfold zT
      rw [List.getD_eq_getElem?_getD, List.getElem?_eq_getElem hy]
      exact List.getElem_mem hy
    have := List.all_eq_true.mp zTl_good _ hm
    exact List.all_eq_true.mp this e he
  · have hn : zT y = (0, 0, [], []) := by
      unfold zT
      rw [List.getD_eq_getElem?_getD, List.getElem?_eq_none (by omega)]
      rfl
    rw [hn] at he
    cases he
theorem zrun_fx {E : zE0} (hE : ∀ y as M r M', E y as M = some (r, M') → zfx M M') {y : Nat} : ∀ n pc l st M r M', zrun zT E y n pc l st M = some (r, M') → zfx M M' := by
  intro n
  induction n with
  | zero => intro pc l st M r M' h; cases h
  | succ n ih =>
    intro pc l st M r M' h
    unfold zrun at h
    split at h
    · cases h
    · rename_i q hq
      obtain ⟨o, ho, h1, h2⟩ := zstep_two hE (zT y).2.1 q.1 q.2.2 (zT_good hq) pc l st M
      rw [ho] at h
      match o, h, h1, h2 with
      | some (.inl q), h, h1, _ => exact (h1 q rfl).tr (ih _ _ _ _ _ _ h)
      | some (.inr q), h, _, h2 =>
        have e := h2 q rfl
        have e2 : q = (r, M') := Option.some.inj h
        rw [e2] at e
        have e : M' = M := e
        rw [e]
        exact zfx.rf M
theorem zE_fx : ∀ d y as M r M', zE zT d y as M = some (r, M') → zfx M M'
  | 0, _, _, _, _, _, h => by cases h
  | d + 1, y, as, M, r, M', h => by
    have h2 := (zok_inv h).2
    unfold zF at h2
    by_cases hx : ∃ res n, zrun zT (zE zT d) y n 0 (zloc (zT y).1 as) [] M = some res
    · rw [dif_pos hx] at h2
      obtain ⟨n, hn⟩ := hx.choose_spec
      rw [Option.some.inj h2] at hn
      exact zrun_fx (zE_fx d) n _ _ _ _ _ _ hn
    · rw [dif_neg hx] at h2
      cases h2
