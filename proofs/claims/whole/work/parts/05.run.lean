/-- most locals, kind of answer, code, heads of loops with the places that are dead there -/
abbrev zMi : Type := Nat × Nat × List zC × List (Nat × List Nat)
abbrev zTab : Type := Nat → zMi
def zat (C : List zC) (pc : Nat) : Option (Instr × Nat × List Nat) := match C with
  | [] => none
  | e :: C => match Nat.beq e.1 pc with
    | true => some e.2
    | false => zat C pc
def zhd (H : List (Nat × List Nat)) (pc : Nat) : Option (List Nat) := match H with
  | [] => none
  | e :: H => match Nat.beq e.1 pc with
    | true => some e.2
    | false => zhd H pc
def zforget (ds : List Nat) (l : zLs) : zLs := match ds with
  | [] => l
  | i :: ds => zforget ds (l.set i none)
def zfg (H : List (Nat × List Nat)) (pc : Nat) (l : zLs) : zLs := match zhd H pc with
  | none => l
  | some ds => zforget ds l
def zent : List Value → zLs
  | [] => []
  | v :: vs => match v.category with
    | 2 => some v :: none :: zent vs
    | _ => some v :: zent vs
def zpad (n : Nat) (l : zLs) : zLs := match n, l with
  | 0, l => l
  | n + 1, [] => none :: zpad n []
  | n + 1, x :: l => x :: zpad n l
def zloc (n : Nat) (as : List Value) : zLs := zpad n (zent as)
def zrun (T : zTab) (E : zE0) (y : Nat) : Nat → zKt
  | 0, _, _, _, _ => none
  | n + 1, pc, l, st, M => match zat (T y).2.2.1 pc with
    | none => none
    | some q => zstep E (T y).2.1 q.1 q.2.2 pc l st M (fun pc' l' st' M' => zrun T E y n pc' (zfg (T y).2.2.2 pc' l') st' M')
noncomputable def zF (T : zTab) (E : zE0) (y : Nat) : zKt := fun pc l st M =>
  @dite zO (∃ res n, zrun T E y n pc l st M = some res) (Classical.propDecidable _) (fun h => some h.choose) (fun _ => none)
noncomputable def zE (T : zTab) : Nat → zE0
  | 0 => fun _ _ _ => none
  | d + 1 => fun y as M => zok (Nat.ble (zent as).length (T y).1) (zF T (zE T d) y 0 (zloc (T y).1 as) [] M)
def zEn (T : zTab) (n : Nat) : Nat → zE0
  | 0 => fun _ _ _ => none
  | d + 1 => fun y as M => zok (Nat.ble (zent as).length (T y).1) (zrun T (zEn T n d) y n 0 (zloc (T y).1 as) [] M)
theorem zok_inv {b : Bool} {x : zO} {r : Option Value × zM} (h : zok b x = some r) : b = true ∧ x = some r := by
  cases b with
  | true => exact ⟨rfl, h⟩
  | false => cases h
theorem zok_mk {b : Bool} {x : zO} {r : Option Value × zM} (hb : b = true) (h : x = some r) : zok b x = some r := by
  subst hb; exact h
def zKle (K1 K2 : zKt) : Prop := ∀ pc l st M res, K1 pc l st M = some res → K2 pc l st M = some res
def zEle (E1 E2 : zE0) : Prop := ∀ y as M res, E1 y as M = some res → E2 y as M = some res
def zEok (E : zE0) : Prop := ∀ y as M r M', E y as M = some (r, M') → zle M M'
theorem zret_mono {rt : Nat} {o1 o2 : zO} (ho : ∀ res, o1 = some res → o2 = some res) {rest : List Value} {K : List Value → zM → zO} {res : Option Value × zM} (h : zret rt o1 rest K = some res) : zret rt o2 rest K = some res := by
  cases o1 with
  | none =>
    exfalso
    unfold zret at h
    split at h <;> first | (unfold zbV at h; simp at h; done) | (unfold zbI at h; simp at h; done) | (unfold zbL at h; simp at h; done) | (unfold zbR at h; simp at h; done)
  | some q => rw [ho q rfl]; exact h
theorem zcall_mono {E1 E2 : zE0} (hE : zEle E1 E2) {y n rt tag : Nat} {st : List Value} {M : zM} {K : List Value → zM → zO} {res : Option Value × zM} (h : zcall E1 y n rt tag st M K = some res) : zcall E2 y n rt tag st M K = some res := by
  unfold zcall at h ⊢
  cases hb : (Nat.ble n st.length && zroomy (st.drop n)) with
  | false => rw [hb] at h; cases h
  | true =>
    rw [hb] at h
    try dsimp only at h ⊢
    match tag, h with
    | 0, h => exact zret_mono (fun res q => hE _ _ _ _ q) h
    | t + 1, h =>
      try dsimp only at h ⊢
      generalize ha : (st.take n).reverse = as at h ⊢
      match as, h with
      | .ref b :: as, h =>
        try dsimp only at h ⊢
        unfold zif at h ⊢
        by_cases hk : (zK M b).1 = t + 1
        · rw [if_pos hk] at h ⊢
          exact zret_mono (fun res q => hE _ _ _ _ q) h
        · rw [if_neg hk] at h; cases h
theorem zinvoke_mono {E1 E2 : zE0} (hE : zEle E1 E2) {r : List Nat} {st : List Value} {M : zM} {K : List Value → zM → zO} {res : Option Value × zM} (h : zinvoke E1 r st M K = some res) : zinvoke E2 r st M K = some res := by
  unfold zinvoke at h ⊢
  split at h
  · split at h
    · exact h
    · exact h
    · exact h
    · exact h
    · exact zcall_mono hE h
  · cases h
theorem zstep_E {E1 E2 : zE0} (hE : zEle E1 E2) {rt : Nat} {i : Instr} {r : List Nat} {pc : Nat} {l : zLs} {st : List Value} {M : zM} {K : zKt} {res : Option Value × zM} (h : zstep E1 rt i r pc l st M K = some res) : zstep E2 rt i r pc l st M K = some res := by
  cases i
  case invokevirtual => exact zinvoke_mono hE h
  case invokespecial => exact zinvoke_mono hE h
  case invokestatic => exact zinvoke_mono hE h
  all_goals exact h
theorem zap_mono {o : Option (zNx ⊕ (Option Value × zM))} {K1 K2 : zKt} (hK : zKle K1 K2) {res : Option Value × zM} (h : zap o K1 = some res) : zap o K2 = some res := by
  match o, h with
  | some (.inl q), h => exact hK _ _ _ _ _ h
  | some (.inr q), h => exact h
theorem zstep_K {E : zE0} (hE : zEok E) {rt : Nat} {i : Instr} {r : List Nat} {pc : Nat} {l : zLs} {st : List Value} {M : zM} {K1 K2 : zKt} (hK : zKle K1 K2) {res : Option Value × zM} (h : zstep E rt i r pc l st M K1 = some res) : zstep E rt i r pc l st M K2 = some res := by
  obtain ⟨o, ho, -, -⟩ := zstep_one hE rt i r pc l st M
  rw [ho] at h ⊢
  exact zap_mono hK h
theorem zrun_le {T : zTab} {E : zE0} (hE : zEok E) {y : Nat} : ∀ n pc l st M r M', zrun T E y n pc l st M = some (r, M') → zle M M' := by
  intro n
  induction n with
  | zero => intro pc l st M r M' h; cases h
  | succ n ih =>
    intro pc l st M r M' h
    unfold zrun at h
    split at h
    · cases h
    · rename_i q hq
      obtain ⟨o, ho, h1, h2⟩ := zstep_one hE (T y).2.1 q.1 q.2.2 pc l st M
      rw [ho] at h
      match o, h, h1, h2 with
      | some (.inl q), h, h1, _ => exact (h1 q rfl).tr (ih _ _ _ _ _ _ h)
      | some (.inr q), h, _, h2 =>
        have e := h2 q rfl
        have e2 : q = (r, M') := Option.some.inj h
        rw [e2] at e
        dsimp only at e
        rw [e]
        exact zle.rf M
theorem zrun_succ {T : zTab} {E : zE0} (hE : zEok E) {y : Nat} : ∀ n, zKle (zrun T E y n) (zrun T E y (n + 1)) := by
  intro n
  induction n with
  | zero => intro pc l st M res h; cases h
  | succ n ih =>
    intro pc l st M res h
    unfold zrun at h ⊢
    split at h
    · cases h
    · rename_i q hq
      exact zstep_K hE (fun pc l st M res h => ih _ _ _ _ _ h) h
theorem zrun_mono {T : zTab} {E : zE0} (hE : zEok E) {y : Nat} {n k : Nat} (hk : n ≤ k) : zKle (zrun T E y n) (zrun T E y k) := by
  induction hk with
  | refl => exact fun _ _ _ _ _ h => h
  | step _ ih => exact fun pc l st M res h => zrun_succ hE _ _ _ _ _ _ (ih _ _ _ _ _ h)
theorem zF_of {T : zTab} {E : zE0} (hE : zEok E) {y n pc : Nat} {l : zLs} {st : List Value} {M : zM} {res : Option Value × zM} (h : zrun T E y n pc l st M = some res) : zF T E y pc l st M = some res := by
  have hex : ∃ res n, zrun T E y n pc l st M = some res := ⟨res, n, h⟩
  unfold zF
  rw [dif_pos hex]
  obtain ⟨k, hk⟩ := hex.choose_spec
  have a := zrun_mono hE (Nat.le_max_left n k) _ _ _ _ _ h
  have b := zrun_mono hE (Nat.le_max_right n k) _ _ _ _ _ hk
  rw [a] at b
  exact b.symm
theorem zF_ex {T : zTab} {E : zE0} {y pc : Nat} {l : zLs} {st : List Value} {M : zM} {res : Option Value × zM} (h : zF T E y pc l st M = some res) : ∃ n, zrun T E y n pc l st M = some res := by
  unfold zF at h
  by_cases hex : ∃ res n, zrun T E y n pc l st M = some res
  · rw [dif_pos hex] at h
    obtain ⟨k, hk⟩ := hex.choose_spec
    exact ⟨k, by rw [hk]; exact h⟩
  · rw [dif_neg hex] at h
    cases h
def zgo (T : zTab) (E : zE0) (y : Nat) (K : zKt) : zKt := fun pc l st M => match zat (T y).2.2.1 pc with
  | none => none
  | some q => zstep E (T y).2.1 q.1 q.2.2 pc l st M (fun pc' l' st' M' => K pc' (zfg (T y).2.2.2 pc' l') st' M')
theorem zF_eq {T : zTab} {E : zE0} (hE : zEok E) {y pc : Nat} {l : zLs} {st : List Value} {M : zM} : zF T E y pc l st M = zgo T E y (zF T E y) pc l st M := by
  cases hL : zF T E y pc l st M with
  | some res =>
    obtain ⟨n, hn⟩ := zF_ex hL
    cases n with
    | zero => cases hn
    | succ n =>
      unfold zrun at hn
      unfold zgo
      split at hn
      · cases hn
      · rename_i q hq
        exact (zstep_K hE (fun pc l st M res h => zF_of hE h) hn).symm
  | none =>
    cases hR : zgo T E y (zF T E y) pc l st M with
    | none => rfl
    | some res =>
      exfalso
      unfold zgo at hR
      split at hR
      · cases hR
      · rename_i q hq
        obtain ⟨o, ho, -, -⟩ := zstep_one hE (T y).2.1 q.1 q.2.2 pc l st M
        rw [ho] at hR
        have hex : ∃ n, zrun T E y n pc l st M = some res := by
          match o, hR, ho with
          | some (.inl w), hR, ho =>
            obtain ⟨n, hn⟩ := zF_ex (show zF T E y _ _ _ _ = some res from hR)
            refine ⟨n + 1, ?_⟩
            unfold zrun
            rw [hq]
            dsimp only
            rw [ho]
            exact hn
          | some (.inr w), hR, ho =>
            refine ⟨1, ?_⟩
            unfold zrun
            rw [hq]
            dsimp only
            rw [ho]
            exact hR
        obtain ⟨n, hn⟩ := hex
        rw [zF_of hE hn] at hL
        cases hL
theorem zE_ok (T : zTab) : ∀ d, zEok (zE T d)
  | 0 => fun _ _ _ _ _ h => by cases h
  | d + 1 => fun y as M r M' h => by
    obtain ⟨n, hn⟩ := zF_ex (zok_inv h).2
    exact zrun_le (zE_ok T d) _ _ _ _ _ _ _ hn
theorem zrun_E {T : zTab} {E1 E2 : zE0} (h1 : zEok E1) (h2 : zEok E2) (hE : zEle E1 E2) {y : Nat} : ∀ n, zKle (zrun T E1 y n) (zrun T E2 y n) := by
  intro n
  induction n with
  | zero => intro pc l st M res h; cases h
  | succ n ih =>
    intro pc l st M res h
    unfold zrun at h ⊢
    split at h
    · cases h
    · rename_i q hq
      exact zstep_E hE (zstep_K h1 (fun pc l st M res h => ih _ _ _ _ _ h) h)
theorem zE_succ (T : zTab) : ∀ d, zEle (zE T d) (zE T (d + 1))
  | 0 => fun _ _ _ _ h => by cases h
  | d + 1 => fun y as M res h => by
    obtain ⟨n, hn⟩ := zF_ex (zok_inv h).2
    refine zok_mk (zok_inv h).1 ?_
    exact zF_of (zE_ok T (d + 1)) (zrun_E (zE_ok T d) (zE_ok T (d + 1)) (zE_succ T d) n _ _ _ _ _ hn)
theorem zE_mono (T : zTab) {d k : Nat} (hk : d ≤ k) {y : Nat} {as : List Value} {M : zM} {res : Option Value × zM} (h : zE T d y as M = some res) : zE T k y as M = some res := by
  induction hk with
  | refl => exact h
  | step _ ih => exact zE_succ T _ _ _ _ _ ih
theorem zEn_ok (T : zTab) (n : Nat) : ∀ d, zEok (zEn T n d)
  | 0 => fun _ _ _ _ _ h => by cases h
  | d + 1 => fun y as M r M' h => zrun_le (zEn_ok T n d) _ _ _ _ _ _ _ (zok_inv h).2
theorem zE_of (T : zTab) (n : Nat) : ∀ d, zEle (zEn T n d) (zE T d)
  | 0 => fun _ _ _ _ h => by cases h
  | d + 1 => fun y as M res h => zok_mk (zok_inv h).1 (zF_of (zE_ok T d) (zrun_E (zEn_ok T n d) (zE_ok T d) (zE_of T n d) n _ _ _ _ _ (zok_inv h).2))
/-- a stretch of steps, up to a head of a loop: what a region's equation says -/
def zsg (m : zMi) (E : zE0) (K : zKt) : Nat → zKt
  | 0, pc, l, st, M => K pc l st M
  | n + 1, pc, l, st, M => match zat m.2.2.1 pc with
    | none => none
    | some q => zstep E m.2.1 q.1 q.2.2 pc l st M (fun pc' l' st' M' => match zhd m.2.2.2 pc' with
      | none => zsg m E K n pc' l' st' M'
      | some ds => K pc' (zforget ds l') st' M')
theorem zstep_congr {E : zE0} {rt : Nat} {i : Instr} {r : List Nat} {pc : Nat} {l : zLs} {st : List Value} {M : zM} {K1 K2 : zKt} (h : ∀ pc l st M, K1 pc l st M = K2 pc l st M) : zstep E rt i r pc l st M K1 = zstep E rt i r pc l st M K2 := by
  have e : K1 = K2 := by funext a b c d; exact h a b c d
  rw [e]
theorem zF_sg {T : zTab} {E : zE0} (hE : zEok E) {y : Nat} {m : zMi} (hm : T y = m) : ∀ (n pc : Nat) (l : zLs) (st : List Value) (M : zM), zF T E y pc l st M = zsg m E (zF T E y) n pc l st M := by
  subst hm
  intro n
  induction n with
  | zero => intro pc l st M; rfl
  | succ n ih =>
    intro pc l st M
    rw [zF_eq hE]
    unfold zgo zsg
    split
    · rfl
    · refine zstep_congr fun pc' l' st' M' => ?_
      unfold zfg
      split
      · exact ih _ _ _ _
      · rfl
/-! names for what a region's equation shares -/
def zbi (x : Int32) (f : Int32 → zO) : zO := f x
def zbl (x : Int64) (f : Int64 → zO) : zO := f x
def zbm (M : zM) (f : zM → zO) : zO := f M
