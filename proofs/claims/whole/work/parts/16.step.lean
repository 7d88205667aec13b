theorem ite_inv {c : Prop} [Decidable c] {a b : zO} {r : Option Value × zM} (h : (if c then a else b) = some r) : (c → a = some r) ∧ (¬ c → b = some r) := by
  by_cases hc : c
  · rw [if_pos hc] at h; exact ⟨fun _ => h, fun q => absurd hc q⟩
  · rw [if_neg hc] at h; exact ⟨fun q => absurd q hc, fun _ => h⟩
theorem zfv_1 {ad : Nat → Nat} {ty : FieldType} {x : Int32} {y : Int64} {r : Option Nat} (h : ztyc ty = 1) : zfv ad ty x y r = .long y := by
  cases ty <;> first | rfl | (exact absurd h (by simp [ztyc]))
theorem zfv_2 {ad : Nat → Nat} {ty : FieldType} {x : Int32} {y : Int64} {r : Option Nat} (h : ztyc ty = 2) : zfv ad ty x y r = va_rf (r.map ad) := by
  cases ty <;> first | rfl | (exact absurd h (by simp [ztyc]))
theorem zfv_0 {ad : Nat → Nat} {ty : FieldType} {x : Int32} {y : Int64} {r : Option Nat} (h1 : ztyc ty ≠ 1) (h2 : ztyc ty ≠ 2) : zfv ad ty x y r = .int x := by
  cases ty <;> first | rfl | exact absurd rfl h1 | exact absurd rfl h2
theorem ztyc_0 {t : Nat} {ty : FieldType} (h : t = ztyc ty) (h1 : t = 1 → False) (h2 : t = 2 → False) (h3 : t = 3 → False) (h9 : t ≠ 9) : t = 0 := by
  subst h
  cases ty <;> first | rfl | exact absurd rfl h1 | exact absurd rfl h2 | exact absurd rfl h3 | exact absurd rfl h9
theorem ztbl_inv {pc d lo2 : Nat} {lo hi dflt : Int} {offs : List Int} {ts : List Nat} (h : ztbl pc lo hi offs d dflt lo2 ts = true) : (pc : Int) + dflt = (d : Int) ∧ lo = (lo2 : Int) ∧ hi = (lo2 : Int) + (ts.length : Int) - 1 ∧ offs.map (fun o => (pc : Int) + o) = ts.map (fun (t : Nat) => (t : Int)) ∧ lo2 + ts.length < 1000 := by
  unfold ztbl at h
  simp only [Bool.and_eq_true, decide_eq_true_eq] at h
  exact ⟨h.1.1.1.1, h.1.1.1.2, h.1.1.2, h.1.2, h.2⟩
theorem zsw_inv {x : Int32} {d : Nat} {K : Nat → zO} {res : Option Value × zM} : ∀ {ts : List Nat} {lo : Nat}, zsw x lo ts d K = some res → ∃ t, ((∀ j, j < ts.length → ¬ x = Int32.ofNat (lo + j)) ∧ t = d ∨ ∃ j, j < ts.length ∧ x = Int32.ofNat (lo + j) ∧ ts[j]? = some t) ∧ K t = some res
  | [], lo, h => ⟨d, Or.inl ⟨fun j hj => absurd hj (Nat.not_lt_zero j), rfl⟩, h⟩
  | t :: ts, lo, h => by
    unfold zsw at h
    have h := ite_inv h
    by_cases hx : x = Int32.ofNat lo
    · exact ⟨t, Or.inr ⟨0, Nat.zero_lt_succ _, hx, rfl⟩, h.1 hx⟩
    · obtain ⟨t2, h1, h2⟩ := zsw_inv (h.2 hx)
      refine ⟨t2, ?_, h2⟩
      rcases h1 with ⟨h1, h3⟩ | ⟨j, h1, h3, h4⟩
      · refine Or.inl ⟨fun j hj => ?_, h3⟩
        match j, hj with
        | 0, _ => exact hx
        | j + 1, hj =>
          have := h1 j (by simpa using hj)
          rwa [show lo + (j + 1) = lo + 1 + j by omega]
      · exact Or.inr ⟨j + 1, by simpa using h1, by rw [show lo + (j + 1) = lo + 1 + j by omega]; exact h3, h4⟩
theorem zsw_out {x : Int32} {lo n : Nat} (hb : lo + n < 1000) (h : ∀ j, j < n → ¬ x = Int32.ofNat (lo + j)) : x.toInt < (lo : Int) ∨ (lo : Int) + (n : Int) - 1 < x.toInt := by
  by_cases h1 : x.toInt < (lo : Int)
  · exact Or.inl h1
  · by_cases h2 : (lo : Int) + (n : Int) - 1 < x.toInt
    · exact Or.inr h2
    · exfalso
      refine h (x.toInt.toNat - lo) (by omega) ?_
      apply Int32.toInt_inj.mp
      rw [show Int32.ofNat (lo + (x.toInt.toNat - lo)) = nI (lo + (x.toInt.toNat - lo)) from rfl, nI_toInt (by omega)]
      omega
theorem zlk_inv {x : Int32} {d pc : Nat} {dflt : Int} {K : Nat → zO} {res : Option Value × zM} (hd : (pc : Int) + dflt = (d : Int)) : ∀ {ps : List (Int × Int)} {ts : List Nat}, zevn ts = true → ps.map (fun q => (q.1, (pc : Int) + q.2)) = zpairs ts → zlk x ts d K = some res → ∃ t : Nat, (pc : Int) + Op.lookupswitch.offset ps dflt x.toInt = (t : Int) ∧ K t = some res
  | [], [], _, _, h => ⟨d, hd, h⟩
  | q :: ps, [], _, hp, h => by simp [zpairs] at hp
  | _, [_], he, _, _ => by simp [zevn] at he
  | [], k :: t :: ts, _, hp, _ => by simp [zpairs] at hp
  | (a, o) :: ps, k :: t :: ts, he, hp, h => by
    unfold zlk at h
    unfold zpairs at hp
    unfold zevn at he
    obtain ⟨hk, he⟩ := Bool.and_eq_true_iff.mp he
    have hk : k < 1000 := of_decide_eq_true hk
    simp only [List.map_cons, List.cons.injEq, Prod.mk.injEq] at hp
    obtain ⟨⟨ha, ho⟩, hp⟩ := hp
    have h := ite_inv h
    have hkt : (Int32.ofNat k).toInt = a := by rw [ha]; exact nI_toInt (by omega)
    by_cases hx : x = Int32.ofNat k
    · refine ⟨t, ?_, h.1 hx⟩
      have e : Op.lookupswitch.offset ((a, o) :: ps) dflt x.toInt = o := by
        rw [hx, hkt]
        simp [Op.lookupswitch.offset]
      rw [e]
      exact ho
    · obtain ⟨t2, h1, h2⟩ := zlk_inv hd he hp (h.2 hx)
      refine ⟨t2, ?_, h2⟩
      rw [lv_osw hx hkt]
      exact h1
theorem zcp_inv {E : zE0} {st : List Value} {M : zM} {K : List Value → zM → zO} {r : Option Value × zM} (h : zinvoke E [1001, 5, 0, 0] st M K = some r) : ∃ (n dp : Int32) (b : Nat) (sp : Int32) (a : Nat) (s : List Value), st = .int n :: .int dp :: .ref b :: .int sp :: .ref a :: s ∧ ((zK M a).1 = 20 ∧ (zK M b).1 = 20 ∧ zroomy s = true ∧ (¬ sp < 0) ∧ (¬ dp < 0) ∧ (¬ n < 0) ∧ sp.toNatClampNeg + n.toNatClampNeg ≤ (zK M a).2 ∧ dp.toNatClampNeg + n.toNatClampNeg ≤ (zK M b).2) ∧ K s (zcopy M a sp.toNatClampNeg b dp.toNatClampNeg n.toNatClampNeg) = some r := by
  match st, h with
  | .int n :: .int dp :: .ref b :: .int sp :: .ref a :: s, h =>
    have h : (if ((zK M a).1 = 20 ∧ (zK M b).1 = 20 ∧ zroomy s = true ∧ (¬ sp < 0) ∧ (¬ dp < 0) ∧ (¬ n < 0) ∧ sp.toNatClampNeg + n.toNatClampNeg ≤ (zK M a).2 ∧ dp.toNatClampNeg + n.toNatClampNeg ≤ (zK M b).2) then K s (zcopy M a sp.toNatClampNeg b dp.toNatClampNeg n.toNatClampNeg) else none) = some r := h
    split at h
    · rename_i hc; exact ⟨n, dp, b, sp, a, s, rfl, hc, h⟩
    · cases h
def zEs (E : zE0) : Prop := ∀ (y : Nat) (as : List Value) (M : zM) (res : Option Value × zM), y < 210 → (zNm y).1.name = "<init>" → E y as M = some res → ∃ b as0, as = .ref b :: as0
theorem zspecial {y : Nat} {E : zE0} {as : List Value} {M M1 : zM} {rv : Option Value} (hy : y < 210) (hE : E y as M = some (rv, M1)) (hn : (zNm y).1.name = "<init>") (h : zEs E) : ∃ b as0, as = .ref b :: as0 := h y as M _ hy hn hE
section ZCK
variable {own : String} {ini : Bool} {cc : ByteArray} {pc len : Nat} {r w : List Nat}
theorem zck_table {dflt lo hi : Int} {offs : Array Int} (h : zck own ini cc (pc, .tableswitch dflt lo hi offs, len, r) w = true) : ∃ (d lo2 : Nat) (ts : List Nat), r = d :: lo2 :: ts ∧ (pc : Int) + dflt = (d : Int) ∧ lo = (lo2 : Int) ∧ hi = (lo2 : Int) + (ts.length : Int) - 1 ∧ offs.toList.map (fun o => (pc : Int) + o) = ts.map (fun (t : Nat) => (t : Int)) ∧ lo2 + ts.length < 1000 := by
  have h := (Bool.and_eq_true_iff.mp h).2
  dsimp only at h
  split at h
  · exact ⟨_, _, _, rfl, ztbl_inv h⟩
  · cases h
theorem zck_look {dflt : Int} {ps : Array (Int × Int)} (h : zck own ini cc (pc, .lookupswitch dflt ps, len, r) w = true) : ∃ (d : Nat) (ts : List Nat), r = d :: ts ∧ (pc : Int) + dflt = (d : Int) ∧ zevn ts = true ∧ ps.toList.map (fun q => (q.1, (pc : Int) + q.2)) = zpairs ts ∧ (ps.toList.zip (ps.toList.drop 1)).all (fun (a, next) => a.1 < next.1) = true := by
  have h := (Bool.and_eq_true_iff.mp h).2
  dsimp only at h
  split at h
  · obtain ⟨h1, h4⟩ := Bool.and_eq_true_iff.mp h
    obtain ⟨h1, h3⟩ := Bool.and_eq_true_iff.mp h1
    obtain ⟨h1, h2⟩ := Bool.and_eq_true_iff.mp h1
    exact ⟨_, _, rfl, of_decide_eq_true h1, h2, of_decide_eq_true h3, h4⟩
  · cases h
theorem zck_get {z : Nat} (h : zck own ini cc (pc, .getfield z, len, r) w = true) : ∃ ty ci k, len = 3 ∧ r = [ty, ci, k] ∧ zfck own z ci k w = true ∧ (ty = ztyc (ztys ci k) ∨ (ty = 0 ∧ ztyc (ztys ci k) = 3)) := by
  have h := (Bool.and_eq_true_iff.mp h).2
  obtain ⟨h1, h⟩ := Bool.and_eq_true_iff.mp h
  dsimp only at h
  split at h
  · obtain ⟨h3, h4⟩ := Bool.and_eq_true_iff.mp h
    refine ⟨_, _, _, of_decide_eq_true h1, rfl, h3, ?_⟩
    rcases Bool.or_eq_true_iff.mp h4 with q | q
    · exact Or.inl (of_decide_eq_true q)
    · obtain ⟨q1, q2⟩ := Bool.and_eq_true_iff.mp q
      exact Or.inr ⟨of_decide_eq_true q1, of_decide_eq_true q2⟩
  · cases h
theorem zck_put {z : Nat} (h : zck own ini cc (pc, .putfield z, len, r) w = true) : ∃ ty ci k, len = 3 ∧ r = [ty, ci, k] ∧ zfck own z ci k w = true ∧ ty = ztyc (ztys ci k) ∧ (zfin ci k = true → ini = true ∧ (w.drop 1).headD 1 = 0 ∧ ((vwCl[ci]?).map (fun q => (q.2.1 k).1)) = some own) := by
  have h := (Bool.and_eq_true_iff.mp h).2
  obtain ⟨h1, h⟩ := Bool.and_eq_true_iff.mp h
  dsimp only at h
  split at h
  · obtain ⟨h3, h5⟩ := Bool.and_eq_true_iff.mp h
    obtain ⟨h3, h4⟩ := Bool.and_eq_true_iff.mp h3
    refine ⟨_, _, _, of_decide_eq_true h1, rfl, h3, of_decide_eq_true h4, fun hf => ?_⟩
    rw [hf] at h5
    dsimp only at h5
    obtain ⟨h6, h7⟩ := Bool.and_eq_true_iff.mp h5
    obtain ⟨h6, h8⟩ := Bool.and_eq_true_iff.mp h6
    exact ⟨h6, of_decide_eq_true h8, of_decide_eq_true h7⟩
  · cases h
theorem zck_new {z : Nat} (h : zck own ini cc (pc, .new z, len, r) w = true) : ∃ (C : String) (T : u_T) (N ci p1 p2 p3 : Nat), len = 3 ∧ r = [ci, N] ∧ vwCl[ci]? = some (C, T, N) ∧ zword p1 (.classLink own z C) = true ∧ zword p2 (.instantiable C N) = true ∧ zword p3 (.initialized C) = true := by
  have h := (Bool.and_eq_true_iff.mp h).2
  obtain ⟨h1, h⟩ := Bool.and_eq_true_iff.mp h
  dsimp only at h
  split at h
  · split at h
    · rename_i hc
      obtain ⟨h3, h6⟩ := Bool.and_eq_true_iff.mp h
      obtain ⟨h3, h5⟩ := Bool.and_eq_true_iff.mp h3
      obtain ⟨h3, h4⟩ := Bool.and_eq_true_iff.mp h3
      have h3 := of_decide_eq_true h3
      subst h3
      exact ⟨_, _, _, _, _, _, _, of_decide_eq_true h1, rfl, hc, h4, h5, h6⟩
    · cases h
  · cases h
theorem zck_newa {z : ArrayType} (h : zck own ini cc (pc, .newarray z, len, r) w = true) : ∃ t, len = 2 ∧ r = [t] ∧ zword (w.headD 0) (.arrayClass (newarray.typeOf z)) = true ∧ ((t = 20 ∧ newarray.typeOf z = .int) ∨ (t = 21 ∧ newarray.typeOf z = .boolean) ∨ (t = 22 ∧ newarray.typeOf z = .byte) ∨ (t = 23 ∧ newarray.typeOf z = .long)) := by
  have h := (Bool.and_eq_true_iff.mp h).2
  obtain ⟨h1, h⟩ := Bool.and_eq_true_iff.mp h
  dsimp only at h
  split at h
  · obtain ⟨h3, h4⟩ := Bool.and_eq_true_iff.mp h
    refine ⟨_, of_decide_eq_true h1, rfl, h3, ?_⟩
    clear h3
    revert h4
    generalize newarray.typeOf z = ty
    intro h4
    split at h4
    · exact Or.inl ⟨rfl, rfl⟩
    · exact Or.inr (Or.inl ⟨rfl, rfl⟩)
    · exact Or.inr (Or.inr (Or.inl ⟨rfl, rfl⟩))
    · exact Or.inr (Or.inr (Or.inr ⟨rfl, rfl⟩))
    · cases h4
  · cases h
theorem zck_anew {z : Nat} (h : zck own ini cc (pc, .anewarray z, len, r) w = true) : ∃ (C : String) (T : u_T) (N ci p1 p2 : Nat), len = 3 ∧ r = [ci] ∧ vwCl[ci]? = some (C, T, N) ∧ zword p1 (.classLink own z C) = true ∧ zword p2 (.arrayOver (.object C)) = true := by
  have h := (Bool.and_eq_true_iff.mp h).2
  obtain ⟨h1, h⟩ := Bool.and_eq_true_iff.mp h
  dsimp only at h
  split at h
  · split at h
    · rename_i hc
      obtain ⟨h3, h4⟩ := Bool.and_eq_true_iff.mp h
      exact ⟨_, _, _, _, _, _, of_decide_eq_true h1, rfl, hc, h3, h4⟩
    · cases h
  · cases h
theorem znest_inv {y p1 nest z : Nat} (h : (match nest with
      | 0 => zword p1 (.methodLink own z (zNm y).1)
      | _ => zword p1 (.methodLinkNest own z (zNm y).1 zhost)) = true) : ((nest = 0 ∧ zword p1 (.methodLink own z (zNm y).1) = true) ∨ (¬ nest = 0 ∧ zword p1 (.methodLinkNest own z (zNm y).1 zhost) = true)) := by
  cases nest with
  | zero => exact Or.inl ⟨rfl, h⟩
  | succ n => exact Or.inr ⟨Nat.succ_ne_zero n, h⟩
theorem zck_virt {z : Nat} (h : zck own ini cc (pc, .invokevirtual z, len, r) w = true) : ∃ y n rt tag p1 p2 p3 nest : Nat, len = 3 ∧ r = [y, n, rt, tag] ∧ y < 210 ∧ 1 ≤ n ∧ (parseMethodDescriptor (zNm y).1.desc).map (fun d => d.parameters.length) = some (n - 1) ∧ 1 ≤ tag ∧ (vwCl[tag - 1]?).map (fun q => q.1) = some (zNm y).1.cls ∧ zword p2 (.instanceMethod (zNm y).1) = true ∧ zword p3 (.selects (zNm y).1.cls (zNm y).1 (zNm y).1) = true ∧ ((nest = 0 ∧ zword p1 (.methodLink own z (zNm y).1) = true) ∨ (¬ nest = 0 ∧ zword p1 (.methodLinkNest own z (zNm y).1 zhost) = true)) := by
  have h := (Bool.and_eq_true_iff.mp h).2
  obtain ⟨h1, h⟩ := Bool.and_eq_true_iff.mp h
  dsimp only at h
  split at h
  · obtain ⟨h, hw⟩ := Bool.and_eq_true_iff.mp h
    obtain ⟨h, w3⟩ := Bool.and_eq_true_iff.mp h
    obtain ⟨h, w2⟩ := Bool.and_eq_true_iff.mp h
    obtain ⟨h, hcl⟩ := Bool.and_eq_true_iff.mp h
    obtain ⟨h, htg⟩ := Bool.and_eq_true_iff.mp h
    obtain ⟨h, hrt⟩ := Bool.and_eq_true_iff.mp h
    obtain ⟨h, hsg⟩ := Bool.and_eq_true_iff.mp h
    obtain ⟨hy, hn1⟩ := Bool.and_eq_true_iff.mp h
    exact ⟨_, _, _, _, _, _, _, _, of_decide_eq_true h1, rfl, of_decide_eq_true hy, of_decide_eq_true hn1, of_decide_eq_true hsg, of_decide_eq_true htg, of_decide_eq_true hcl, w2, w3, znest_inv hw⟩
  · cases h
theorem zck_spec {z : Nat} (h : zck own ini cc (pc, .invokespecial z, len, r) w = true) : (∃ p1 p2 : Nat, len = 3 ∧ r = [1000, 1, 0, 0] ∧ zword p1 (.methodLink own z Lib.objectInit) = true ∧ zword p2 (.instanceMethod Lib.objectInit) = true) ∨ ∃ y n p1 p2 nest : Nat, len = 3 ∧ r = [y, n, 0, 0] ∧ y < 210 ∧ 1 ≤ n ∧ (parseMethodDescriptor (zNm y).1.desc).map (fun d => d.parameters.length) = some (n - 1) ∧ (zNm y).2.2.2 = none ∧ (zNm y).1.name = "<init>" ∧ zword p2 (.instanceMethod (zNm y).1) = true ∧ ((nest = 0 ∧ zword p1 (.methodLink own z (zNm y).1) = true) ∨ (¬ nest = 0 ∧ zword p1 (.methodLinkNest own z (zNm y).1 zhost) = true)) := by
  have h := (Bool.and_eq_true_iff.mp h).2
  obtain ⟨h1, h⟩ := Bool.and_eq_true_iff.mp h
  dsimp only at h
  split at h
  · obtain ⟨w1, w2⟩ := Bool.and_eq_true_iff.mp h
    exact Or.inl ⟨_, _, of_decide_eq_true h1, rfl, w1, w2⟩
  · obtain ⟨h, hw⟩ := Bool.and_eq_true_iff.mp h
    obtain ⟨h, w2⟩ := Bool.and_eq_true_iff.mp h
    obtain ⟨h, hnm⟩ := Bool.and_eq_true_iff.mp h
    obtain ⟨h, hno⟩ := Bool.and_eq_true_iff.mp h
    obtain ⟨h, hrt⟩ := Bool.and_eq_true_iff.mp h
    obtain ⟨h, hsg⟩ := Bool.and_eq_true_iff.mp h
    obtain ⟨hy, hn1⟩ := Bool.and_eq_true_iff.mp h
    have hrt := of_decide_eq_true hrt
    subst hrt
    exact Or.inr ⟨_, _, _, _, _, of_decide_eq_true h1, rfl, of_decide_eq_true hy, of_decide_eq_true hn1, of_decide_eq_true hsg, of_decide_eq_true hno, of_decide_eq_true hnm, w2, znest_inv hw⟩
  · cases h
theorem zck_stat {z : Nat} (h : zck own ini cc (pc, .invokestatic z, len, r) w = true) : (∃ p1 p2 p3 p4 : Nat, len = 3 ∧ r = [1001, 5, 0, 0] ∧ zword p1 (.methodLink own z arraycopyName) = true ∧ zword p2 (.native arraycopyName) = true ∧ zword p3 (.static arraycopyName) = true ∧ zword p4 (.initialized "java/lang/System") = true) ∨ (∃ p1 p2 p3 : Nat, len = 3 ∧ r = [1002, 2, 1, 0] ∧ zword p1 (.methodLink own z Lib.Math.max.name) = true ∧ zword p2 (.static Lib.Math.max.name) = true ∧ zword p3 (.initialized "java/lang/Math") = true) ∨ (∃ p1 p2 p3 : Nat, len = 3 ∧ r = [1003, 2, 1, 0] ∧ zword p1 (.methodLink own z Lib.Math.min.name) = true ∧ zword p2 (.static Lib.Math.min.name) = true ∧ zword p3 (.initialized "java/lang/Math") = true) ∨ ∃ y n rt p1 p2 nest : Nat, len = 3 ∧ r = [y, n, rt, 0] ∧ y < 210 ∧ (parseMethodDescriptor (zNm y).1.desc).map (fun d => d.parameters.length) = some n ∧ zword p2 (.static (zNm y).1) = true ∧ ((nest = 0 ∧ zword p1 (.methodLink own z (zNm y).1) = true) ∨ (¬ nest = 0 ∧ zword p1 (.methodLinkNest own z (zNm y).1 zhost) = true)) := by
  have h := (Bool.and_eq_true_iff.mp h).2
  obtain ⟨h1, h⟩ := Bool.and_eq_true_iff.mp h
  dsimp only at h
  split at h
  · obtain ⟨h, w4⟩ := Bool.and_eq_true_iff.mp h
    obtain ⟨h, w3⟩ := Bool.and_eq_true_iff.mp h
    obtain ⟨w1, w2⟩ := Bool.and_eq_true_iff.mp h
    exact Or.inl ⟨_, _, _, _, of_decide_eq_true h1, rfl, w1, w2, w3, w4⟩
  · obtain ⟨h, w3⟩ := Bool.and_eq_true_iff.mp h
    obtain ⟨w1, w2⟩ := Bool.and_eq_true_iff.mp h
    exact Or.inr (Or.inl ⟨_, _, _, of_decide_eq_true h1, rfl, w1, w2, w3⟩)
  · obtain ⟨h, w3⟩ := Bool.and_eq_true_iff.mp h
    obtain ⟨w1, w2⟩ := Bool.and_eq_true_iff.mp h
    exact Or.inr (Or.inr (Or.inl ⟨_, _, _, of_decide_eq_true h1, rfl, w1, w2, w3⟩))
  · obtain ⟨h, hw⟩ := Bool.and_eq_true_iff.mp h
    obtain ⟨h, w2⟩ := Bool.and_eq_true_iff.mp h
    obtain ⟨h, hrt⟩ := Bool.and_eq_true_iff.mp h
    obtain ⟨hy, hsg⟩ := Bool.and_eq_true_iff.mp h
    exact Or.inr (Or.inr (Or.inr ⟨_, _, _, _, _, _, of_decide_eq_true h1, rfl, of_decide_eq_true hy, of_decide_eq_true hsg, w2, znest_inv hw⟩))
  · cases h
end ZCK
theorem zkind {D : va_G} {t0 b0 base : Nat} {s : State} {H : Heap} {M : zM} (hrep : zRep D t0 b0 base s H M) {a : Nat} {j : Int32} (h1 : 30 ≤ (zK M a).1) (h2 : zin j (zK M a).2 = true) : ∃ (ci : Nat) (r : vw_C), (zK M a).1 = 30 + ci ∧ vwCl[ci]? = some r := by
  rcases hrep.2.2.2.2.2.2.2.2 a with h | h | ⟨ci, r, h, hc⟩
  · rw [h] at h1; exact absurd h1 (by decide)
  · omega
  · exact ⟨ci, r, h, hc⟩
theorem zkind_ar {D : va_G} {t0 b0 base : Nat} {s : State} {H : Heap} {M : zM} (hrep : zRep D t0 b0 base s H M) {a : Nat} (h1 : 20 ≤ (zK M a).1) : ∃ (ty : FieldType) (f : Nat → Value), zAr s H (zad t0 b0 base a) ty (zK M a).2 f := by
  obtain ⟨-, h2, h3, h4, h5, h6, h7, h8⟩ := hrep.2.2.2.2.2.2.2.1 a
  rcases hrep.2.2.2.2.2.2.2.2 a with h | h | ⟨ci, r, h, hc⟩
  · rw [h] at h1; exact absurd h1 (by decide)
  · rcases (show (zK M a).1 = 20 ∨ (zK M a).1 = 21 ∨ (zK M a).1 = 22 ∨ (zK M a).1 = 23 ∨ (zK M a).1 = 24 ∨ (zK M a).1 = 25 by omega) with q | q | q | q | q | q
    · exact ⟨_, _, (h2 q).ar⟩
    · exact ⟨_, _, (h3 q).ar⟩
    · exact ⟨_, _, (h4 q).ar⟩
    · exact ⟨_, _, (h5 q).ar⟩
    · exact ⟨_, _, h6 q⟩
    · exact ⟨_, _, h7 q⟩
  · exact ⟨_, _, (h8 ci r h hc).ar⟩
theorem z1i_inv {st : List Value} {f : Int32 → List Value → zO} {r : Option Value × zM} (h : z1i st f = some r) : ∃ (x : Int32) (s : List Value), st = .int x :: s ∧ f x s = some r := by
  unfold z1i at h
  split at h
  · exact ⟨_, _, rfl, h⟩
  · cases h
theorem z2i_inv {st : List Value} {f : Int32 → Int32 → List Value → zO} {r : Option Value × zM} (h : z2i st f = some r) : ∃ (x : Int32) (y : Int32) (s : List Value), st = .int y :: .int x :: s ∧ f x y s = some r := by
  unfold z2i at h
  split at h
  · exact ⟨_, _, _, rfl, h⟩
  · cases h
theorem z1l_inv {st : List Value} {f : Int64 → List Value → zO} {r : Option Value × zM} (h : z1l st f = some r) : ∃ (x : Int64) (s : List Value), st = .long x :: s ∧ f x s = some r := by
  unfold z1l at h
  split at h
  · exact ⟨_, _, rfl, h⟩
  · cases h
theorem z2l_inv {st : List Value} {f : Int64 → Int64 → List Value → zO} {r : Option Value × zM} (h : z2l st f = some r) : ∃ (x : Int64) (y : Int64) (s : List Value), st = .long y :: .long x :: s ∧ f x y s = some r := by
  unfold z2l at h
  split at h
  · exact ⟨_, _, _, rfl, h⟩
  · cases h
theorem zli_inv {st : List Value} {f : Int64 → Int32 → List Value → zO} {r : Option Value × zM} (h : zli st f = some r) : ∃ (x : Int64) (y : Int32) (s : List Value), st = .int y :: .long x :: s ∧ f x y s = some r := by
  unfold zli at h
  split at h
  · exact ⟨_, _, _, rfl, h⟩
  · cases h
theorem z1r_inv {st : List Value} {f : Nat → List Value → zO} {r : Option Value × zM} (h : z1r st f = some r) : ∃ (x : Nat) (s : List Value), st = .ref x :: s ∧ f x s = some r := by
  unfold z1r at h
  split at h
  · exact ⟨_, _, rfl, h⟩
  · cases h
theorem zri_inv {st : List Value} {f : Nat → Int32 → List Value → zO} {r : Option Value × zM} (h : zri st f = some r) : ∃ (a : Nat) (j : Int32) (s : List Value), st = .int j :: .ref a :: s ∧ f a j s = some r := by
  unfold zri at h
  split at h
  · exact ⟨_, _, _, rfl, h⟩
  · cases h
theorem zrl_inv {st : List Value} {f : Nat → Int64 → List Value → zO} {r : Option Value × zM} (h : zrl st f = some r) : ∃ (a : Nat) (j : Int64) (s : List Value), st = .long j :: .ref a :: s ∧ f a j s = some r := by
  unfold zrl at h
  split at h
  · exact ⟨_, _, _, rfl, h⟩
  · cases h
theorem zrr_inv {st : List Value} {f : Nat → Nat → List Value → zO} {r : Option Value × zM} (h : zrr st f = some r) : ∃ (a : Nat) (q : Nat) (s : List Value), st = .ref q :: .ref a :: s ∧ f a q s = some r := by
  unfold zrr at h
  split at h
  · exact ⟨_, _, _, rfl, h⟩
  · cases h
theorem zrii_inv {st : List Value} {f : Nat → Int32 → Int32 → List Value → zO} {r : Option Value × zM} (h : zrii st f = some r) : ∃ (a : Nat) (j : Int32) (x : Int32) (s : List Value), st = .int x :: .int j :: .ref a :: s ∧ f a j x s = some r := by
  unfold zrii at h
  split at h
  · exact ⟨_, _, _, _, rfl, h⟩
  · cases h
theorem zril_inv {st : List Value} {f : Nat → Int32 → Int64 → List Value → zO} {r : Option Value × zM} (h : zril st f = some r) : ∃ (a : Nat) (j : Int32) (x : Int64) (s : List Value), st = .long x :: .int j :: .ref a :: s ∧ f a j x s = some r := by
  unfold zril at h
  split at h
  · exact ⟨_, _, _, _, rfl, h⟩
  · cases h
theorem zrir_inv {st : List Value} {f : Nat → Int32 → Nat → List Value → zO} {r : Option Value × zM} (h : zrir st f = some r) : ∃ (a : Nat) (j : Int32) (q : Nat) (s : List Value), st = .ref q :: .int j :: .ref a :: s ∧ f a j q s = some r := by
  unfold zrir at h
  split at h
  · exact ⟨_, _, _, _, rfl, h⟩
  · cases h
theorem zld_i {l : zLs} {i : Nat} {f : Int32 → zO} {r : Option Value × zM} (h : zld l i (fun v => zvi v f) = some r) : ∃ x, l[i]? = some (some (.int x)) ∧ f x = some r := by
  unfold zld at h
  split at h
  · rename_i v hv
    have h : zvi v f = some r := h
    cases v with
    | int x => exact ⟨x, hv, h⟩
    | _ => cases h
  · cases h
theorem zld_l {l : zLs} {i : Nat} {f : Int64 → zO} {r : Option Value × zM} (h : zld l i (fun v => zvl v f) = some r) : ∃ x, l[i]? = some (some (.long x)) ∧ f x = some r := by
  unfold zld at h
  split at h
  · rename_i v hv
    have h : zvl v f = some r := h
    cases v with
    | long x => exact ⟨x, hv, h⟩
    | _ => cases h
  · cases h
theorem zld_r {l : zLs} {i : Nat} {f : Nat → zO} {r : Option Value × zM} (h : zld l i (fun v => zvr v f) = some r) : ∃ x, l[i]? = some (some (.ref x)) ∧ f x = some r := by
  unfold zld at h
  split at h
  · rename_i v hv
    have h : zvr v f = some r := h
    cases v with
    | ref x => exact ⟨x, hv, h⟩
    | _ => cases h
  · cases h
theorem zif_inv {c : Prop} [Decidable c] {x : zO} {r : Option Value × zM} (h : zif c x = some r) : c ∧ x = some r := by
  unfold zif at h
  split at h
  · rename_i hc; exact ⟨hc, h⟩
  · cases h
theorem zoR_inv {v : Option Nat} {f : Nat → zO} {r : Option Value × zM} (h : zoR v f = some r) : ∃ q, v = some q ∧ f q = some r := by
  cases v with
  | some q => exact ⟨q, rfl, h⟩
  | none => cases h
theorem zret_inv {rt : Nat} {o : zO} {rest : List Value} {K : List Value → zM → zO} {r : Option Value × zM} (h : zret rt o rest K = some r) : ∃ rv M1, o = some (rv, M1) ∧ K (rv.toList ++ rest) M1 = some r ∧ (rt = 0 → rv = none) := by
  unfold zret at h
  split at h
  · unfold zbV at h
    split at h
    · exact ⟨none, _, rfl, h, fun _ => rfl⟩
    · cases h
  · unfold zbI at h
    split at h
    · exact ⟨some (.int _), _, rfl, h, fun q => absurd q (by decide)⟩
    · cases h
  · unfold zbL at h
    split at h
    · exact ⟨some (.long _), _, rfl, h, fun q => absurd q (by decide)⟩
    · cases h
  · rename_i h0 h1 h2
    unfold zbR at h
    split at h
    · exact ⟨some (.ref _), _, rfl, h, fun q => (h0 q).elim⟩
    · cases h
theorem zroomy_le {ad : Nat → Nat} {st : List Value} (h : zroomy st = true) : ((st.map (zv ad)).map fun v => v.category).sum ≤ 8 := by
  unfold zroomy at h
  have e : (st.map (zv ad)).map (fun v => v.category) = st.map fun v => v.category := by
    rw [List.map_map]
    exact List.map_congr_left fun v _ => zv_cat ad v
  rw [e]
  exact Nat.ble_eq.mp h
theorem zcall_inv {E : zE0} {y n rt tag : Nat} {st : List Value} {M : zM} {K : List Value → zM → zO} {r : Option Value × zM} (h : zcall E y n rt tag st M K = some r) : n ≤ st.length ∧ zroomy (st.drop n) = true ∧ ∃ rv M1, E y (st.take n).reverse M = some (rv, M1) ∧ K (rv.toList ++ st.drop n) M1 = some r ∧ (rt = 0 → rv = none) ∧ (¬ tag = 0 → ∃ b as0, (st.take n).reverse = .ref b :: as0 ∧ (zK M b).1 = tag) := by
  unfold zcall at h
  cases hb : (Nat.ble n st.length && zroomy (st.drop n)) with
  | false => rw [hb] at h; cases h
  | true =>
    rw [hb] at h
    obtain ⟨h1, h2⟩ := Bool.and_eq_true_iff.mp hb
    refine ⟨Nat.ble_eq.mp h1, h2, ?_⟩
    match tag, h with
    | 0, h =>
      obtain ⟨rv, M1, e1, e2, e3⟩ := zret_inv h
      exact ⟨rv, M1, e1, e2, e3, fun q => absurd rfl q⟩
    | t + 1, h =>
      dsimp only at h
      generalize ha : (st.take n).reverse = as at h ⊢
      match as, h with
      | .ref b :: as0, h =>
        obtain ⟨hk, h⟩ := zif_inv h
        obtain ⟨rv, M1, e1, e2, e3⟩ := zret_inv h
        exact ⟨rv, M1, e1, e2, e3, fun _ => ⟨b, as0, rfl, hk⟩⟩
def zRm (CF SF cells slots : Nat) (M M' : zM) : Prop := zle M M' ∧ cells + (zN M' - zN M) ≤ CF ∧ slots + (zsz M' - zsz M) ≤ SF
def zRetI (rt : Nat) (i : Instr) (rv : Option Value) : Prop := (i = .ireturn ∧ ∃ x, rv = some (.int x) ∧ (rt = 1 ∨ (rt = 2 ∧ (x = 0 ∨ x = 1)))) ∨ (i = .lreturn ∧ rt = 3 ∧ ∃ x, rv = some (.long x)) ∨ (i = .areturn ∧ rt = 4 ∧ ∃ a, rv = some (.ref a)) ∨ (i = .return_ ∧ rt = 0 ∧ rv = none)
theorem zRm.new {CF SF cells slots t n : Nat} {M M' : zM} (h : zRm CF SF cells slots M M') (k : zle (znew M t n) M') : zRm CF SF (cells + 1) (slots + n) (znew M t n) M' ∧ cells + 1 ≤ CF ∧ slots + n ≤ SF := by
  obtain ⟨⟨h1, h2⟩, h3, h4⟩ := h
  have e1 : zN (znew M t n) = zN M + 1 := rfl
  have e2 := zsz_new M t n
  obtain ⟨k1, k2⟩ := k
  rw [e1] at k1
  rw [e2] at k2
  refine ⟨⟨⟨by rw [e1]; exact k1, by rw [e2]; exact k2⟩, by rw [e1]; omega, by rw [e2]; omega⟩, by omega, by omega⟩
theorem zRm.call {CF SF cells slots : Nat} {M M1 M' : zM} (h : zRm CF SF cells slots M M') (k0 : zle M M1) (k : zle M1 M') : zRm CF SF (cells + (zN M1 - zN M)) (slots + (zsz M1 - zsz M)) M1 M' ∧ cells + (zN M1 - zN M) ≤ CF ∧ slots + (zsz M1 - zsz M) ≤ SF := by
  obtain ⟨⟨h1, h2⟩, h3, h4⟩ := h
  obtain ⟨k1, k2⟩ := k
  obtain ⟨k3, k4⟩ := k0
  refine ⟨⟨⟨k1, k2⟩, by omega, by omega⟩, by omega, by omega⟩
theorem zrest_map {ad : Nat → Nat} {st : List Value} {n : Nat} (h : n ≤ st.length) : st.map (zv ad) = ((st.take n).reverse.map (zv ad)).reverse ++ (st.drop n).map (zv ad) := by
  rw [List.map_reverse, List.reverse_reverse, ← List.map_append, List.take_append_drop]
theorem zrv_map {ad : Nat → Nat} {rv : Option Value} {rest : List Value} : (rv.toList ++ rest).map (zv ad) = (rv.map (zv ad)).toList ++ rest.map (zv ad) := by
  cases rv <;> simp
section ZSIM
variable {p : Program} {l : Launch} {e : Env} {R : Room} {s : State} {m : MethodId} {args : Array Value} {below : List Frame} {meth : Method} {c : Code} {H : Heap} {locs : List Loc} {cells slots : Nat} {Q : State → Prop}
variable {cc : ByteArray} {pc nL : Nat} {ls : Array Slot} {D : va_G} {t0 b0 base : Nat} {own : String} {M M' : zM} {d : Nat} {E : zE0} {rv : Option Value}
/-- what comes behind a step -/
def zGo (p : Program) (l : Launch) (e : Env) (R : Room) (s : State) (m : MethodId) (args : Array Value) (below : List Frame) (meth : Method) (c : Code) (Q : State → Prop) (D : va_G) (t0 b0 base nL CF SF : Nat) (M' : zM) (K : zKt) (rv : Option Value) : Prop :=
  ∀ (pc' : Nat) (l' : zLs) (st' : List Value) (M1 : zM), K pc' l' st' M1 = some (rv, M') → ∀ (ls' : Array Slot) (H' : Heap) (locs' : List Loc) (cells' slots' : Nat), zLoc (zad t0 b0 base) ls' nL l' → zRep D t0 b0 base s H' M1 → va_S (fun q => base ≤ q) s.heap H' locs' → zRm CF SF cells' slots' M1 M' → W p l e R s m args below meth c H' locs' cells' slots' Q (F0 m pc' ls' (st'.map (zv (zad t0 b0 base))))
/-- what comes at a return -/
def zEnd (p : Program) (l : Launch) (e : Env) (R : Room) (s : State) (m : MethodId) (args : Array Value) (below : List Frame) (meth : Method) (c : Code) (Q : State → Prop) (D : va_G) (t0 b0 base CF SF : Nat) (M' : zM) (cc : ByteArray) (rt : Nat) (rv : Option Value) : Prop :=
  ∀ (i : Instr) (pc' : Nat) (ls' : Array Slot) (H' : Heap) (locs' : List Loc) (cells' slots' : Nat), decode cc pc' = .ok (i, 1) → zRetI rt i rv → zRep D t0 b0 base s H' M' → va_S (fun q => base ≤ q) s.heap H' locs' → cells' ≤ CF → slots' ≤ SF → W p l e R s m args below meth c H' locs' cells' slots' Q (F0 m pc' ls' ((rv.map (zv (zad t0 b0 base))).toList))
set_option maxHeartbeats 8000000 in
theorem zsim_step (cx : zCx D t0 base p s m c own cc nL) (hM : zMet l d E) (hEok : zEok E) (hEs : zEs E) (hfr : d + 1 ≤ R.frames) (hlo : 64 * (d + 1) ≤ R.locals) {CF SF : Nat} (hCF : CF ≤ R.cells) (hSF : SF ≤ R.slots) {ini : Bool} (hini : ini = true → meth.name = "<init>") {rt len : Nat} {i : Instr} {r w : List Nat} (hck : zck own ini cc (pc, i, len, r) w = true) {K : zKt} (hKl : ∀ pc l st M1, K pc l st M1 = some (rv, M') → zle M1 M')
    (hK : zGo p l e R s m args below meth c Q D t0 b0 base nL CF SF M' K rv) (hR : zEnd p l e R s m args below meth c Q D t0 b0 base CF SF M' cc rt rv)
    {lv : zLs} {st : List Value} (hloc : zLoc (zad t0 b0 base) ls nL lv) (hrep : zRep D t0 b0 base s H M) (hS : va_S (fun q => base ≤ q) s.heap H locs) (hrm : zRm CF SF cells slots M M') (hst : zstep E rt i r pc lv st M K = some (rv, M')) : W p l e R s m args below meth c H locs cells slots Q (F0 m pc ls (st.map (zv (zad t0 b0 base)))) := by
  have hx := cx.1
  have hb := cx.2.1
  have hown := cx.2.2.2.1
  have hT := cx.2.2.2.2.1
  have hfrm : 1 ≤ R.frames := by omega
  have hd : decode cc pc = .ok (i, len) := of_decide_eq_true (Bool.and_eq_true_iff.mp hck).1
  cases i
  case iconst z =>
    replace hck := (Bool.and_eq_true_iff.mp hck).2
    obtain ⟨h1, h2⟩ := Bool.and_eq_true_iff.mp hck
    have h1 : len = _ := of_decide_eq_true h1
    subst h1
    refine lv_iconst hx hb hd (of_decide_eq_true h2) ?_
    exact hK _ _ _ _ hst _ _ _ _ _ hloc hrep hS hrm
  case bipush z =>
    replace hck := (Bool.and_eq_true_iff.mp hck).2
    obtain ⟨h1, h2⟩ := Bool.and_eq_true_iff.mp hck
    have h1 : len = _ := of_decide_eq_true h1
    subst h1
    refine lv_bipush hx hb hd (of_decide_eq_true h2) ?_
    exact hK _ _ _ _ hst _ _ _ _ _ hloc hrep hS hrm
  case sipush z =>
    replace hck := (Bool.and_eq_true_iff.mp hck).2
    obtain ⟨h1, h2⟩ := Bool.and_eq_true_iff.mp hck
    have h1 : len = _ := of_decide_eq_true h1
    subst h1
    refine lv_sipush hx hb hd (of_decide_eq_true h2) ?_
    exact hK _ _ _ _ hst _ _ _ _ _ hloc hrep hS hrm
  case lconst z =>
    replace hck := (Bool.and_eq_true_iff.mp hck).2
    obtain ⟨h1, h2⟩ := Bool.and_eq_true_iff.mp hck
    have h1 : len = _ := of_decide_eq_true h1
    subst h1
    refine lv_lconst hx hb hd (of_decide_eq_true h2) ?_
    exact hK _ _ _ _ hst _ _ _ _ _ hloc hrep hS hrm
  case ldc z =>
    replace hck := (Bool.and_eq_true_iff.mp hck).2
    obtain ⟨h1, h2⟩ := Bool.and_eq_true_iff.mp hck
    have h1 : len = _ := of_decide_eq_true h1
    subst h1
    refine W.ldc hx hb hown (zword_ok hT h2 rfl args) rfl hd ?_
    exact hK _ _ _ _ hst _ _ _ _ _ hloc hrep hS hrm
  case ldc_w z =>
    replace hck := (Bool.and_eq_true_iff.mp hck).2
    obtain ⟨h1, h2⟩ := Bool.and_eq_true_iff.mp hck
    have h1 : len = _ := of_decide_eq_true h1
    subst h1
    refine lv_ldcw hx hb hown (zword_ok hT h2 rfl args) hd ?_
    exact hK _ _ _ _ hst _ _ _ _ _ hloc hrep hS hrm
  case ldc2_w z =>
    replace hck := (Bool.and_eq_true_iff.mp hck).2
    obtain ⟨h1, h2⟩ := Bool.and_eq_true_iff.mp hck
    have h1 : len = _ := of_decide_eq_true h1
    subst h1
    refine W.ldc2 hx hb hown (zword_ok hT h2 rfl args) rfl hd ?_
    exact hK _ _ _ _ hst _ _ _ _ _ hloc hrep hS hrm
  case iload_n z =>
    replace hck := (Bool.and_eq_true_iff.mp hck).2
    have h1 : len = _ := of_decide_eq_true hck
    subst h1
    obtain ⟨x, h1, hst⟩ := zld_i hst
    refine lv_iload_n hx hb hd rfl (hloc.2.2.2 _ _ h1) ?_
    exact hK _ _ _ _ hst _ _ _ _ _ hloc hrep hS hrm
  case iload z =>
    replace hck := (Bool.and_eq_true_iff.mp hck).2
    have h1 : len = _ := of_decide_eq_true hck
    subst h1
    obtain ⟨x, h1, hst⟩ := zld_i hst
    refine lv_iload hx hb hd (hloc.2.2.2 _ _ h1) ?_
    exact hK _ _ _ _ hst _ _ _ _ _ hloc hrep hS hrm
  case istore_n z =>
    replace hck := (Bool.and_eq_true_iff.mp hck).2
    have h1 : len = _ := of_decide_eq_true hck
    subst h1
    obtain ⟨x, s1, rfl, hst⟩ := z1i_inv hst
    obtain ⟨hlt, hst⟩ := zok_inv hst
    refine lv_istore_n hx hb hd rfl hloc.has (by rw [← hloc.2.1]; exact Nat.ble_eq.mp hlt) rfl (fun ls2 hl2 => ?_)
    exact hK _ _ _ _ hst _ _ _ _ _ (zLoc.st1 hloc.2.1 hl2) hrep hS hrm
  case istore z =>
    replace hck := (Bool.and_eq_true_iff.mp hck).2
    have h1 : len = _ := of_decide_eq_true hck
    subst h1
    obtain ⟨x, s1, rfl, hst⟩ := z1i_inv hst
    obtain ⟨hlt, hst⟩ := zok_inv hst
    refine lv_istore hx hb hd hloc.has (by rw [← hloc.2.1]; exact Nat.ble_eq.mp hlt) rfl (fun ls2 hl2 => ?_)
    exact hK _ _ _ _ hst _ _ _ _ _ (zLoc.st1 hloc.2.1 hl2) hrep hS hrm
  case lload_n z =>
    replace hck := (Bool.and_eq_true_iff.mp hck).2
    have h1 : len = _ := of_decide_eq_true hck
    subst h1
    obtain ⟨x, h1, hst⟩ := zld_l hst
    refine lv_lload_n hx hb hd rfl (hloc.2.2.2 _ _ h1) ?_
    exact hK _ _ _ _ hst _ _ _ _ _ hloc hrep hS hrm
  case lload z =>
    replace hck := (Bool.and_eq_true_iff.mp hck).2
    have h1 : len = _ := of_decide_eq_true hck
    subst h1
    obtain ⟨x, h1, hst⟩ := zld_l hst
    refine lv_lload hx hb hd (hloc.2.2.2 _ _ h1) ?_
    exact hK _ _ _ _ hst _ _ _ _ _ hloc hrep hS hrm
  case lstore_n z =>
    replace hck := (Bool.and_eq_true_iff.mp hck).2
    have h1 : len = _ := of_decide_eq_true hck
    subst h1
    obtain ⟨x, s1, rfl, hst⟩ := z1l_inv hst
    obtain ⟨hlt, hst⟩ := zok_inv hst
    refine lv_lstore_n hx hb hd rfl hloc.has (by rw [← hloc.2.1]; exact Nat.ble_eq.mp hlt) rfl (fun ls2 hl2 => ?_)
    exact hK _ _ _ _ hst _ _ _ _ _ (zLoc.st2 hloc.2.1 hl2) hrep hS hrm
  case lstore z =>
    replace hck := (Bool.and_eq_true_iff.mp hck).2
    have h1 : len = _ := of_decide_eq_true hck
    subst h1
    obtain ⟨x, s1, rfl, hst⟩ := z1l_inv hst
    obtain ⟨hlt, hst⟩ := zok_inv hst
    refine lv_lstore hx hb hd hloc.has (by rw [← hloc.2.1]; exact Nat.ble_eq.mp hlt) rfl (fun ls2 hl2 => ?_)
    exact hK _ _ _ _ hst _ _ _ _ _ (zLoc.st2 hloc.2.1 hl2) hrep hS hrm
  case aload_n z =>
    replace hck := (Bool.and_eq_true_iff.mp hck).2
    have h1 : len = _ := of_decide_eq_true hck
    subst h1
    obtain ⟨x, h1, hst⟩ := zld_r hst
    refine lv_aload_n hx hb hd rfl (hloc.2.2.2 _ _ h1) ?_
    exact hK _ _ _ _ hst _ _ _ _ _ hloc hrep hS hrm
  case aload z =>
    replace hck := (Bool.and_eq_true_iff.mp hck).2
    have h1 : len = _ := of_decide_eq_true hck
    subst h1
    obtain ⟨x, h1, hst⟩ := zld_r hst
    refine lv_aload hx hb hd (hloc.2.2.2 _ _ h1) ?_
    exact hK _ _ _ _ hst _ _ _ _ _ hloc hrep hS hrm
  case astore_n z =>
    replace hck := (Bool.and_eq_true_iff.mp hck).2
    have h1 : len = _ := of_decide_eq_true hck
    subst h1
    obtain ⟨x, s1, rfl, hst⟩ := z1r_inv hst
    obtain ⟨hlt, hst⟩ := zok_inv hst
    refine lv_astore_n hx hb hd rfl hloc.has (by rw [← hloc.2.1]; exact Nat.ble_eq.mp hlt) rfl (fun ls2 hl2 => ?_)
    exact hK _ _ _ _ hst _ _ _ _ _ (zLoc.st1 hloc.2.1 hl2) hrep hS hrm
  case astore z =>
    replace hck := (Bool.and_eq_true_iff.mp hck).2
    have h1 : len = _ := of_decide_eq_true hck
    subst h1
    obtain ⟨x, s1, rfl, hst⟩ := z1r_inv hst
    obtain ⟨hlt, hst⟩ := zok_inv hst
    refine lv_astore hx hb hd hloc.has (by rw [← hloc.2.1]; exact Nat.ble_eq.mp hlt) rfl (fun ls2 hl2 => ?_)
    exact hK _ _ _ _ hst _ _ _ _ _ (zLoc.st1 hloc.2.1 hl2) hrep hS hrm
  case iinc z n =>
    replace hck := (Bool.and_eq_true_iff.mp hck).2
    obtain ⟨h1, h2⟩ := Bool.and_eq_true_iff.mp hck
    have h1 : len = _ := of_decide_eq_true h1
    subst h1
    obtain ⟨x, h1, hst⟩ := zld_i hst
    obtain ⟨hlt, hst⟩ := zok_inv hst
    have hmem := zlv_mem (ad := zad t0 b0 base) h1
    obtain ⟨k, hk⟩ := List.getElem?_of_mem hmem
    have h2 : Int32.ofInt n = zci r := of_decide_eq_true h2
    refine lv_iinc (v := x + zci r) hx hb hd hloc.has hk (by rw [h2]) (by rw [← hloc.2.1]; exact Nat.ble_eq.mp hlt) rfl (fun ls2 hl2 => ?_)
    exact hK _ _ _ _ hst _ _ _ _ _ (zLoc.st1 (v := .int (x + zci r)) hloc.2.1 hl2) hrep hS hrm
  case iadd =>
    replace hck := (Bool.and_eq_true_iff.mp hck).2
    have h1 : len = _ := of_decide_eq_true hck
    subst h1
    obtain ⟨x, y, s1, rfl, hst⟩ := z2i_inv hst
    refine lv_iadd hx hb hd ?_
    exact hK _ _ _ _ hst _ _ _ _ _ hloc hrep hS hrm
  case isub =>
    replace hck := (Bool.and_eq_true_iff.mp hck).2
    have h1 : len = _ := of_decide_eq_true hck
    subst h1
    obtain ⟨x, y, s1, rfl, hst⟩ := z2i_inv hst
    refine lv_isub hx hb hd ?_
    exact hK _ _ _ _ hst _ _ _ _ _ hloc hrep hS hrm
  case imul =>
    replace hck := (Bool.and_eq_true_iff.mp hck).2
    have h1 : len = _ := of_decide_eq_true hck
    subst h1
    obtain ⟨x, y, s1, rfl, hst⟩ := z2i_inv hst
    refine lv_imul hx hb hd ?_
    exact hK _ _ _ _ hst _ _ _ _ _ hloc hrep hS hrm
  case iand =>
    replace hck := (Bool.and_eq_true_iff.mp hck).2
    have h1 : len = _ := of_decide_eq_true hck
    subst h1
    obtain ⟨x, y, s1, rfl, hst⟩ := z2i_inv hst
    refine lv_iand hx hb hd ?_
    exact hK _ _ _ _ hst _ _ _ _ _ hloc hrep hS hrm
  case ishr =>
    replace hck := (Bool.and_eq_true_iff.mp hck).2
    have h1 : len = _ := of_decide_eq_true hck
    subst h1
    obtain ⟨x, y, s1, rfl, hst⟩ := z2i_inv hst
    refine lv_ishr hx hb hd ?_
    exact hK _ _ _ _ hst _ _ _ _ _ hloc hrep hS hrm
  case iushr =>
    replace hck := (Bool.and_eq_true_iff.mp hck).2
    have h1 : len = _ := of_decide_eq_true hck
    subst h1
    obtain ⟨x, y, s1, rfl, hst⟩ := z2i_inv hst
    refine lv_iushr hx hb hd rfl ?_
    exact hK _ _ _ _ hst _ _ _ _ _ hloc hrep hS hrm
  case idiv =>
    replace hck := (Bool.and_eq_true_iff.mp hck).2
    have h1 : len = _ := of_decide_eq_true hck
    subst h1
    obtain ⟨x, y, s1, rfl, hst⟩ := z2i_inv hst
    obtain ⟨hne, hst⟩ := zif_inv hst
    refine lv_idiv hx hb hd hne ?_
    exact hK _ _ _ _ hst _ _ _ _ _ hloc hrep hS hrm
  case irem =>
    replace hck := (Bool.and_eq_true_iff.mp hck).2
    have h1 : len = _ := of_decide_eq_true hck
    subst h1
    obtain ⟨x, y, s1, rfl, hst⟩ := z2i_inv hst
    obtain ⟨hne, hst⟩ := zif_inv hst
    refine lv_irem hx hb hd hne ?_
    exact hK _ _ _ _ hst _ _ _ _ _ hloc hrep hS hrm
  case ladd =>
    replace hck := (Bool.and_eq_true_iff.mp hck).2
    have h1 : len = _ := of_decide_eq_true hck
    subst h1
    obtain ⟨x, y, s1, rfl, hst⟩ := z2l_inv hst
    refine lv_ladd hx hb hd ?_
    exact hK _ _ _ _ hst _ _ _ _ _ hloc hrep hS hrm
  case lsub =>
    replace hck := (Bool.and_eq_true_iff.mp hck).2
    have h1 : len = _ := of_decide_eq_true hck
    subst h1
    obtain ⟨x, y, s1, rfl, hst⟩ := z2l_inv hst
    refine lv_lsub hx hb hd ?_
    exact hK _ _ _ _ hst _ _ _ _ _ hloc hrep hS hrm
  case land =>
    replace hck := (Bool.and_eq_true_iff.mp hck).2
    have h1 : len = _ := of_decide_eq_true hck
    subst h1
    obtain ⟨x, y, s1, rfl, hst⟩ := z2l_inv hst
    refine lv_land hx hb hd ?_
    exact hK _ _ _ _ hst _ _ _ _ _ hloc hrep hS hrm
  case lor =>
    replace hck := (Bool.and_eq_true_iff.mp hck).2
    have h1 : len = _ := of_decide_eq_true hck
    subst h1
    obtain ⟨x, y, s1, rfl, hst⟩ := z2l_inv hst
    refine lv_lor hx hb hd ?_
    exact hK _ _ _ _ hst _ _ _ _ _ hloc hrep hS hrm
  case lxor =>
    replace hck := (Bool.and_eq_true_iff.mp hck).2
    have h1 : len = _ := of_decide_eq_true hck
    subst h1
    obtain ⟨x, y, s1, rfl, hst⟩ := z2l_inv hst
    refine lv_lxor hx hb hd ?_
    exact hK _ _ _ _ hst _ _ _ _ _ hloc hrep hS hrm
  case lcmp =>
    replace hck := (Bool.and_eq_true_iff.mp hck).2
    have h1 : len = _ := of_decide_eq_true hck
    subst h1
    obtain ⟨x, y, s1, rfl, hst⟩ := z2l_inv hst
    refine W.lcmp hx hb hd ?_
    exact hK _ _ _ _ hst _ _ _ _ _ hloc hrep hS hrm
  case lshl =>
    replace hck := (Bool.and_eq_true_iff.mp hck).2
    have h1 : len = _ := of_decide_eq_true hck
    subst h1
    obtain ⟨x, y, s1, rfl, hst⟩ := zli_inv hst
    refine lv_lshl hx hb hd rfl ?_
    exact hK _ _ _ _ hst _ _ _ _ _ hloc hrep hS hrm
  case lshr =>
    replace hck := (Bool.and_eq_true_iff.mp hck).2
    have h1 : len = _ := of_decide_eq_true hck
    subst h1
    obtain ⟨x, y, s1, rfl, hst⟩ := zli_inv hst
    refine lv_lshr hx hb hd rfl ?_
    exact hK _ _ _ _ hst _ _ _ _ _ hloc hrep hS hrm
  case lushr =>
    replace hck := (Bool.and_eq_true_iff.mp hck).2
    have h1 : len = _ := of_decide_eq_true hck
    subst h1
    obtain ⟨x, y, s1, rfl, hst⟩ := zli_inv hst
    refine lv_lushr hx hb hd rfl ?_
    exact hK _ _ _ _ hst _ _ _ _ _ hloc hrep hS hrm
  case i2l =>
    replace hck := (Bool.and_eq_true_iff.mp hck).2
    have h1 : len = _ := of_decide_eq_true hck
    subst h1
    obtain ⟨x, s1, rfl, hst⟩ := z1i_inv hst
    refine lv_i2l hx hb hd rfl ?_
    exact hK _ _ _ _ hst _ _ _ _ _ hloc hrep hS hrm
  case l2i =>
    replace hck := (Bool.and_eq_true_iff.mp hck).2
    have h1 : len = _ := of_decide_eq_true hck
    subst h1
    obtain ⟨x, s1, rfl, hst⟩ := z1l_inv hst
    refine lv_l2i hx hb hd rfl ?_
    exact hK _ _ _ _ hst _ _ _ _ _ hloc hrep hS hrm
  case i2b =>
    replace hck := (Bool.and_eq_true_iff.mp hck).2
    have h1 : len = _ := of_decide_eq_true hck
    subst h1
    obtain ⟨x, s1, rfl, hst⟩ := z1i_inv hst
    refine lv_i2b hx hb hd rfl ?_
    exact hK _ _ _ _ hst _ _ _ _ _ hloc hrep hS hrm
  case i2c =>
    replace hck := (Bool.and_eq_true_iff.mp hck).2
    have h1 : len = _ := of_decide_eq_true hck
    subst h1
    obtain ⟨x, s1, rfl, hst⟩ := z1i_inv hst
    refine lv_i2c hx hb hd rfl ?_
    exact hK _ _ _ _ hst _ _ _ _ _ hloc hrep hS hrm
  case dup =>
    replace hck := (Bool.and_eq_true_iff.mp hck).2
    have h1 : len = _ := of_decide_eq_true hck
    subst h1
    unfold zstep at hst
    dsimp only at hst
    split at hst
    · refine lv_dup hx hb hd rfl ?_
      exact hK _ _ _ _ hst _ _ _ _ _ hloc hrep hS hrm
    · refine lv_dup hx hb hd rfl ?_
      exact hK _ _ _ _ hst _ _ _ _ _ hloc hrep hS hrm
    · cases hst
  case pop =>
    replace hck := (Bool.and_eq_true_iff.mp hck).2
    have h1 : len = _ := of_decide_eq_true hck
    subst h1
    unfold zstep at hst
    dsimp only at hst
    split at hst
    · refine lv_pop hx hb hd rfl ?_
      exact hK _ _ _ _ hst _ _ _ _ _ hloc hrep hS hrm
    · refine lv_pop hx hb hd rfl ?_
      exact hK _ _ _ _ hst _ _ _ _ _ hloc hrep hS hrm
    · cases hst
  case dup2 =>
    replace hck := (Bool.and_eq_true_iff.mp hck).2
    have h1 : len = _ := of_decide_eq_true hck
    subst h1
    unfold zstep at hst
    dsimp only at hst
    split at hst
    · refine lv_dup2_2 hx hb hd rfl ?_
      exact hK _ _ _ _ hst _ _ _ _ _ hloc hrep hS hrm
    · refine lv_dup2_11 hx hb hd rfl rfl ?_
      exact hK _ _ _ _ hst _ _ _ _ _ hloc hrep hS hrm
    · refine lv_dup2_11 hx hb hd rfl rfl ?_
      exact hK _ _ _ _ hst _ _ _ _ _ hloc hrep hS hrm
    · cases hst
  case goto z =>
    obtain ⟨h1, h2⟩ := Bool.and_eq_true_iff.mp (Bool.and_eq_true_iff.mp hck).2
    replace h1 : len = 3 := of_decide_eq_true h1
    replace h2 := of_decide_eq_true h2
    clear hck
    subst h1
    refine lv_goto hx hb hd h2 ?_
    exact hK _ _ _ _ hst _ _ _ _ _ hloc hrep hS hrm
  case ifCond cd z =>
    obtain ⟨h1, h2⟩ := Bool.and_eq_true_iff.mp (Bool.and_eq_true_iff.mp hck).2
    replace h1 : len = 3 := of_decide_eq_true h1
    replace h2 := of_decide_eq_true h2
    clear hck
    subst h1
    obtain ⟨x, s1, rfl, hst⟩ := z1i_inv hst
    cases cd
    case eq =>
      have hst := ite_inv hst
      refine lv_if_eq hx hb hd h2 (fun hc => ?_) (fun hc => ?_)
      · have hst := hst.1 hc
        exact hK _ _ _ _ hst _ _ _ _ _ hloc hrep hS hrm
      · have hst := hst.2 hc
        exact hK _ _ _ _ hst _ _ _ _ _ hloc hrep hS hrm
    case ne =>
      have hst := ite_inv hst
      refine lv_if_ne hx hb hd h2 (fun hc => ?_) (fun hc => ?_)
      · have hst := hst.1 hc
        exact hK _ _ _ _ hst _ _ _ _ _ hloc hrep hS hrm
      · have hst := hst.2 (fun q => q hc)
        exact hK _ _ _ _ hst _ _ _ _ _ hloc hrep hS hrm
    case lt =>
      have hst := ite_inv hst
      refine lv_if_lt hx hb hd h2 (fun hc => ?_) (fun hc => ?_)
      · have hst := hst.1 hc
        exact hK _ _ _ _ hst _ _ _ _ _ hloc hrep hS hrm
      · have hst := hst.2 hc
        exact hK _ _ _ _ hst _ _ _ _ _ hloc hrep hS hrm
    case ge =>
      have hst := ite_inv hst
      refine lv_if_ge hx hb hd h2 (fun hc => ?_) (fun hc => ?_)
      · have hst := hst.1 hc
        exact hK _ _ _ _ hst _ _ _ _ _ hloc hrep hS hrm
      · have hst := hst.2 hc
        exact hK _ _ _ _ hst _ _ _ _ _ hloc hrep hS hrm
    case gt =>
      have hst := ite_inv hst
      refine lv_if_gt hx hb hd h2 (fun hc => ?_) (fun hc => ?_)
      · have hst := hst.1 hc
        exact hK _ _ _ _ hst _ _ _ _ _ hloc hrep hS hrm
      · have hst := hst.2 hc
        exact hK _ _ _ _ hst _ _ _ _ _ hloc hrep hS hrm
    case le =>
      have hst := ite_inv hst
      refine lv_if_le hx hb hd h2 (fun hc => ?_) (fun hc => ?_)
      · have hst := hst.1 hc
        exact hK _ _ _ _ hst _ _ _ _ _ hloc hrep hS hrm
      · have hst := hst.2 hc
        exact hK _ _ _ _ hst _ _ _ _ _ hloc hrep hS hrm
  case if_icmp cd z =>
    obtain ⟨h1, h2⟩ := Bool.and_eq_true_iff.mp (Bool.and_eq_true_iff.mp hck).2
    replace h1 : len = 3 := of_decide_eq_true h1
    replace h2 := of_decide_eq_true h2
    clear hck
    subst h1
    obtain ⟨x, y, s1, rfl, hst⟩ := z2i_inv hst
    cases cd
    case eq =>
      have hst := ite_inv hst
      refine lv_icmp_eq hx hb hd h2 (fun hc => ?_) (fun hc => ?_)
      · have hst := hst.1 hc
        exact hK _ _ _ _ hst _ _ _ _ _ hloc hrep hS hrm
      · have hst := hst.2 hc
        exact hK _ _ _ _ hst _ _ _ _ _ hloc hrep hS hrm
    case ne =>
      have hst := ite_inv hst
      refine lv_icmp_ne hx hb hd h2 (fun hc => ?_) (fun hc => ?_)
      · have hst := hst.1 hc
        exact hK _ _ _ _ hst _ _ _ _ _ hloc hrep hS hrm
      · have hst := hst.2 (fun q => q hc)
        exact hK _ _ _ _ hst _ _ _ _ _ hloc hrep hS hrm
    case lt =>
      have hst := ite_inv hst
      refine lv_icmp_lt hx hb hd h2 (fun hc => ?_) (fun hc => ?_)
      · have hst := hst.1 hc
        exact hK _ _ _ _ hst _ _ _ _ _ hloc hrep hS hrm
      · have hst := hst.2 hc
        exact hK _ _ _ _ hst _ _ _ _ _ hloc hrep hS hrm
    case ge =>
      have hst := ite_inv hst
      refine lv_icmp_ge hx hb hd h2 (fun hc => ?_) (fun hc => ?_)
      · have hst := hst.1 hc
        exact hK _ _ _ _ hst _ _ _ _ _ hloc hrep hS hrm
      · have hst := hst.2 hc
        exact hK _ _ _ _ hst _ _ _ _ _ hloc hrep hS hrm
    case gt =>
      have hst := ite_inv hst
      refine lv_icmp_gt hx hb hd h2 (fun hc => ?_) (fun hc => ?_)
      · have hst := hst.1 hc
        exact hK _ _ _ _ hst _ _ _ _ _ hloc hrep hS hrm
      · have hst := hst.2 hc
        exact hK _ _ _ _ hst _ _ _ _ _ hloc hrep hS hrm
    case le =>
      have hst := ite_inv hst
      refine lv_icmp_le hx hb hd h2 (fun hc => ?_) (fun hc => ?_)
      · have hst := hst.1 hc
        exact hK _ _ _ _ hst _ _ _ _ _ hloc hrep hS hrm
      · have hst := hst.2 hc
        exact hK _ _ _ _ hst _ _ _ _ _ hloc hrep hS hrm
  case tableswitch dflt lo hi offs =>
    obtain ⟨x, s1, rfl, hst⟩ := z1i_inv hst
    obtain ⟨dd, lo2, ts, rfl, k1, k2, k3, k4, k5⟩ := zck_table hck
    obtain ⟨t, ht, hst2⟩ := zsw_inv (K := fun t => K t lv s1 M) (show zsw x lo2 ts dd (fun t => K t lv s1 M) = some (rv, M') from hst)
    rcases ht with ⟨hlo, rfl⟩ | ⟨j, hj, hx2, hts⟩
    · refine lv_tableOut hx hb hd ?_ k1 ?_
      · rw [k2, k3]
        exact zsw_out k5 hlo
      · exact hK _ _ _ _ hst2 _ _ _ _ _ hloc hrep hS hrm
    · have hxi : x.toInt = ((lo2 + j : Nat) : Int) := by rw [hx2]; exact nI_toInt (by omega)
      have hoff := congrArg (fun l => l[j]?) k4
      simp only [List.getElem?_map, hts, Option.map_some] at hoff
      obtain ⟨off, ho1, ho2⟩ := Option.map_eq_some_iff.mp hoff
      refine lv_tableIn hx hb hd (by rw [hxi, k2]; omega) (by rw [hxi, k3]; omega) (off := off) ?_ ho2 ?_
      · rw [hxi, k2, show (((lo2 + j : Nat) : Int) - (lo2 : Int)).toNat = j by omega, ← Array.getElem?_toList]; exact ho1
      · exact hK _ _ _ _ hst2 _ _ _ _ _ hloc hrep hS hrm
  case lookupswitch dflt ps =>
    obtain ⟨x, s1, rfl, hst⟩ := z1i_inv hst
    obtain ⟨dd, ts, rfl, k1, k2, k3, k4⟩ := zck_look hck
    obtain ⟨t, hoff, hst⟩ := zlk_inv (pc := pc) (K := fun t => K t lv s1 M) k1 k2 k3 (show zlk x ts dd (fun t => K t lv s1 M) = some (rv, M') from hst)
    refine lv_lookup hx hb hd k4 rfl hoff ?_
    exact hK _ _ _ _ hst _ _ _ _ _ hloc hrep hS hrm
  case getfield z =>
    obtain ⟨ty, ci, k, rfl, rfl, h3, h4⟩ := zck_get hck
    obtain ⟨a, s1, rfl, hst⟩ := z1r_inv hst
    obtain ⟨hka, hst⟩ := zif_inv (show zif _ _ = _ from hst)
    refine zget cx hrep hka h3 hd ?_
    match ty, h4, hst with
    | 1, h4, hst =>
      rw [zfv_1 (h4.resolve_right (fun q => by omega)).symm]
      exact hK _ _ _ _ hst _ _ _ _ _ hloc hrep hS hrm
    | 2, h4, hst =>
      obtain ⟨q, hq, hst⟩ := zoR_inv hst
      rw [zfv_2 (h4.resolve_right (fun q => by omega)).symm, hq]
      exact hK _ _ _ _ hst _ _ _ _ _ hloc hrep hS hrm
    | 0, h4, hst =>
      rw [zfv_0 (by omega) (by omega)]
      exact hK _ _ _ _ hst _ _ _ _ _ hloc hrep hS hrm
    | n + 3, h4, hst =>
      rw [zfv_0 (by omega) (by omega)]
      exact hK _ _ _ _ hst _ _ _ _ _ hloc hrep hS hrm
  case putfield z =>
    obtain ⟨ty, ci, k, rfl, rfl, h3, h4, h5⟩ := zck_put hck
    have hfin : zfin ci k = true → meth.name = "<init>" ∧ (w.drop 1).headD 1 = 0 ∧ ((vwCl[ci]?).map (fun q => (q.2.1 k).1)) = some own := fun hf => ⟨hini (h5 hf).1, (h5 hf).2⟩
    obtain ⟨r2, pp, nn, hc, -, hk, -⟩ := zfck_inv h3
    have hci : ci < 11 := (List.getElem?_eq_some_iff.mp hc).1
    have h9 : ty ≠ 9 := by rw [h4]; exact ztyc9 hc k hk
    replace hst : zputf [ty, ci, k] st M (fun s M1 => K (pc + 3) lv s M1) = some (rv, M') := hst
    match ty, h4, h9, hst with
    | 1, h4, h9, hst =>
      obtain ⟨a, x, s1, rfl, hst⟩ := zrl_inv hst
      obtain ⟨hka, hst⟩ := zif_inv hst
      refine zput_long cx hrep hS hka hci h3 h4 hd hfin fun H1 locs1 hrep hS => ?_
      exact hK _ _ _ _ hst _ _ _ _ _ hloc hrep hS hrm
    | 2, h4, h9, hst =>
      obtain ⟨a, x, s1, rfl, hst⟩ := zrr_inv hst
      obtain ⟨hka, hst⟩ := zif_inv hst
      refine zput_ref cx hrep hS hka hci h3 h4 hd hfin fun H1 locs1 hrep hS => ?_
      exact hK _ _ _ _ hst _ _ _ _ _ hloc hrep hS hrm
    | 3, h4, h9, hst =>
      obtain ⟨a, x, s1, rfl, hst⟩ := zri_inv hst
      obtain ⟨hka, hst⟩ := zif_inv hst
      refine zput_int cx hrep hS hka.1 hci h3 h4 (Or.inr ⟨rfl, hka.2⟩) hd hfin fun H1 locs1 hrep hS => ?_
      exact hK _ _ _ _ hst _ _ _ _ _ hloc hrep hS hrm
    | 0, h4, h9, hst =>
      obtain ⟨a, x, s1, rfl, hst⟩ := zri_inv hst
      obtain ⟨hka, hst⟩ := zif_inv hst
      refine zput_int cx hrep hS hka hci h3 h4 (Or.inl rfl) hd hfin fun H1 locs1 hrep hS => ?_
      exact hK _ _ _ _ hst _ _ _ _ _ hloc hrep hS hrm
    | n + 4, h4, h9, hst =>
      exact absurd (ztyc_0 h4 (by omega) (by omega) (by omega) h9) (by omega)
  case getstatic z =>
    replace hck := (Bool.and_eq_true_iff.mp hck).2
    obtain ⟨h1, h2⟩ := Bool.and_eq_true_iff.mp hck
    have h1 : len = _ := of_decide_eq_true h1
    subst h1
    refine va_gets hx hb cx.2.2.2.2.2.2.1 hS hown (zword_ok hT h2 rfl args) (fun _ h => h) hd ?_
    exact hK _ _ _ _ hst _ _ _ _ _ hloc hrep hS hrm
  case iaload =>
    replace hck := (Bool.and_eq_true_iff.mp hck).2
    have h1 : len = _ := of_decide_eq_true hck
    subst h1
    obtain ⟨a, j, s1, rfl, hst⟩ := zri_inv hst
    obtain ⟨⟨h1, h2⟩, hst⟩ := zif_inv hst
    refine zald_i cx hrep h1 h2 hd ?_
    exact hK _ _ _ _ hst _ _ _ _ _ hloc hrep hS hrm
  case baload =>
    replace hck := (Bool.and_eq_true_iff.mp hck).2
    have h1 : len = _ := of_decide_eq_true hck
    subst h1
    obtain ⟨a, j, s1, rfl, hst⟩ := zri_inv hst
    obtain ⟨⟨h1, h2⟩, hst⟩ := zif_inv hst
    refine zald_b cx hrep h1 h2 hd ?_
    exact hK _ _ _ _ hst _ _ _ _ _ hloc hrep hS hrm
  case laload =>
    replace hck := (Bool.and_eq_true_iff.mp hck).2
    have h1 : len = _ := of_decide_eq_true hck
    subst h1
    obtain ⟨a, j, s1, rfl, hst⟩ := zri_inv hst
    obtain ⟨⟨h1, h2⟩, hst⟩ := zif_inv hst
    refine zald_l cx hrep h1 h2 hd ?_
    exact hK _ _ _ _ hst _ _ _ _ _ hloc hrep hS hrm
  case aaload =>
    replace hck := (Bool.and_eq_true_iff.mp hck).2
    have h1 : len = _ := of_decide_eq_true hck
    subst h1
    obtain ⟨a, j, s1, rfl, hst⟩ := zri_inv hst
    obtain ⟨⟨h1, h2⟩, hst⟩ := zif_inv hst
    obtain ⟨q, hq, hst⟩ := zoR_inv hst
    obtain ⟨ci, r2, h3, h4⟩ := zkind hrep h1 h2
    refine zald_r cx hrep h3 h4 h2 hq hd ?_
    exact hK _ _ _ _ hst _ _ _ _ _ hloc hrep hS hrm
  case iastore =>
    replace hck := (Bool.and_eq_true_iff.mp hck).2
    have h1 : len = _ := of_decide_eq_true hck
    subst h1
    obtain ⟨a, j, x, s1, rfl, hst⟩ := zrii_inv hst
    obtain ⟨⟨h1, h2⟩, hst⟩ := zif_inv hst
    refine zast_i cx hrep hS h1 h2 hd fun H1 locs1 hrep hS => ?_
    exact hK _ _ _ _ hst _ _ _ _ _ hloc hrep hS hrm
  case lastore =>
    replace hck := (Bool.and_eq_true_iff.mp hck).2
    have h1 : len = _ := of_decide_eq_true hck
    subst h1
    obtain ⟨a, j, x, s1, rfl, hst⟩ := zril_inv hst
    obtain ⟨⟨h1, h2⟩, hst⟩ := zif_inv hst
    refine zast_l cx hrep hS h1 h2 hd fun H1 locs1 hrep hS => ?_
    exact hK _ _ _ _ hst _ _ _ _ _ hloc hrep hS hrm
  case bastore =>
    replace hck := (Bool.and_eq_true_iff.mp hck).2
    have h1 : len = _ := of_decide_eq_true hck
    subst h1
    obtain ⟨a, j, x, s1, rfl, hst⟩ := zrii_inv hst
    have hst := ite_inv hst
    by_cases h1 : (zK M a).1 = 21
    · obtain ⟨h2, hst⟩ := zif_inv (hst.1 h1)
      refine zast_z cx hrep hS h1 h2 hd fun H1 locs1 hrep hS => ?_
      exact hK _ _ _ _ hst _ _ _ _ _ hloc hrep hS hrm
    · obtain ⟨⟨h3, h2⟩, hst⟩ := zif_inv (hst.2 h1)
      refine zast_b cx hrep hS h3 h2 hd fun H1 locs1 hrep hS => ?_
      exact hK _ _ _ _ hst _ _ _ _ _ hloc hrep hS hrm
  case aastore =>
    replace hck := (Bool.and_eq_true_iff.mp hck).2
    have h1 : len = _ := of_decide_eq_true hck
    subst h1
    obtain ⟨a, j, q, s1, rfl, hst⟩ := zrir_inv hst
    obtain ⟨⟨h1, h2, h3, h4, h5⟩, hst⟩ := zif_inv hst
    obtain ⟨ci, r2, h6, h7⟩ := zkind hrep h1 h5
    refine zast_r (ci := ci) cx hrep hS (by omega) h6 h7 h5 hd fun H1 locs1 hrep hS => ?_
    exact hK _ _ _ _ hst _ _ _ _ _ hloc hrep hS hrm
  case arraylength =>
    replace hck := (Bool.and_eq_true_iff.mp hck).2
    have h1 : len = _ := of_decide_eq_true hck
    subst h1
    obtain ⟨a, s1, rfl, hst⟩ := z1r_inv hst
    obtain ⟨h1, hst⟩ := zif_inv hst
    obtain ⟨ty, f, h2⟩ := zkind_ar hrep h1
    refine zalen cx hrep h2 hd ?_
    exact hK _ _ _ _ hst _ _ _ _ _ hloc hrep hS hrm
  case new z =>
    obtain ⟨C, T, N, ci, p1, p2, p3, rfl, rfl, hc, h4, h5, h6⟩ := zck_new hck
    replace hst : K (pc + 3) lv (.ref (zN M) :: st) (znew M (ci + 1) N) = some (rv, M') := hst
    obtain ⟨k1, k2, k3⟩ := hrm.new (hKl _ _ _ _ hst)
    refine znew_o (r := (C, T, N)) cx hrep hS hc h4 h5 h6 (Nat.le_trans k2 hCF) (Nat.le_trans k3 hSF) hd fun H1 hrep hS => ?_
    exact hK _ _ _ _ hst _ _ _ _ _ hloc hrep hS k1
  case newarray z =>
    obtain ⟨t, rfl, rfl, h3, ht⟩ := zck_newa hck
    obtain ⟨n, s1, rfl, hst⟩ := z1i_inv hst
    obtain ⟨⟨hn, hmx⟩, hst⟩ := zif_inv hst
    replace hst : K (pc + 2) lv (.ref (zN M) :: s1) (znew M t n.toNatClampNeg) = some (rv, M') := hst
    obtain ⟨k1, k2, k3⟩ := hrm.new (hKl _ _ _ _ hst)
    refine znew_a cx hrep hS h3 ht hn hmx (Nat.le_trans k2 hCF) (Nat.le_trans k3 hSF) hd fun H1 hrep hS => ?_
    exact hK _ _ _ _ hst _ _ _ _ _ hloc hrep hS k1
  case anewarray z =>
    obtain ⟨C, T, N, ci, p1, p2, rfl, rfl, hc, h3, h4⟩ := zck_anew hck
    obtain ⟨n, s1, rfl, hst⟩ := z1i_inv hst
    obtain ⟨⟨hn, hmx⟩, hst⟩ := zif_inv hst
    replace hst : K (pc + 3) lv (.ref (zN M) :: s1) (znew M (30 + ci) n.toNatClampNeg) = some (rv, M') := hst
    obtain ⟨k1, k2, k3⟩ := hrm.new (hKl _ _ _ _ hst)
    refine znew_q (r := (C, T, N)) cx hrep hS hc h3 h4 hn hmx (Nat.le_trans k2 hCF) (Nat.le_trans k3 hSF) hd fun H1 hrep hS => ?_
    exact hK _ _ _ _ hst _ _ _ _ _ hloc hrep hS k1
  case invokevirtual z =>
    obtain ⟨y, n, rt2, tag, p1, p2, p3, nest, rfl, rfl, hy, hn1, hsg, htg, hcl, w2, w3, w1⟩ := zck_virt hck
    replace hst : zinvoke E [y, n, rt2, tag] st M (fun s M1 => K (pc + 3) lv s M1) = some (rv, M') := hst
    rw [zinv_c (Nat.ble_eq.mpr (by omega))] at hst
    obtain ⟨hle, hrmy, rv1, M1, hE, hst, -, htag⟩ := zcall_inv hst
    obtain ⟨b, as0, hab, hkb⟩ := htag (by omega)
    obtain ⟨k1, k2, k3⟩ := hrm.call (hEok _ _ _ _ _ hE) (hKl _ _ _ _ hst)
    have hl0 : as0.length = n - 1 := by
      have := congrArg List.length hab
      rw [List.length_reverse, List.length_take, List.length_cons, Nat.min_eq_left hle] at this
      omega
    rw [zrest_map hle]
    refine zcallV (t := tag - 1) cx hrep hS hloc.1 hM hy hab hE hfr hlo (Nat.le_trans k2 hCF) (Nat.le_trans k3 hSF) (by rw [hl0]; exact hsg) (by rw [hkb]; omega) hcl w2 w3 w1 (zroomy_le hrmy) hd fun H1 locs1 hrep hS => ?_
    rw [← zrv_map]
    exact hK _ _ _ _ hst _ _ _ _ _ hloc hrep hS k1
  case invokespecial z =>
    rcases zck_spec hck with ⟨p1, p2, rfl, rfl, w1, w2⟩ | ⟨y, n, p1, p2, nest, rfl, rfl, hy, hn1, hsg, hno, hnm, w2, w1⟩
    · obtain ⟨a, s1, rfl, hst⟩ := z1r_inv (show z1r st (fun _ s => zok (zroomy s) (K (pc + 3) lv s M)) = some (rv, M') from hst)
      obtain ⟨hry, hst⟩ := zok_inv hst
      replace hry := zroomy_le (ad := zad t0 b0 base) hry
      refine W.objInit hx hb hown (zword_ok hT w1 rfl args) (zword_ok hT w2 rfl args) (hT _ zcw_obj rfl args) rfl (by rw [cx.2.2.1]; exact hloc.1) rfl hd hfrm ?_ ?_
      · show 2 * 0 + ((s1.map (zv (zad t0 b0 base))).map fun v => v.category).sum + 12 ≤ R.locals
        omega
      · exact hK _ _ _ _ hst _ _ _ _ _ hloc hrep hS hrm
    · replace hst : zinvoke E [y, n, 0, 0] st M (fun s M1 => K (pc + 3) lv s M1) = some (rv, M') := hst
      rw [zinv_c (Nat.ble_eq.mpr (by omega))] at hst
      obtain ⟨hle, hrmy, rv1, M1, hE, hst, hv0, -⟩ := zcall_inv hst
      replace hv0 := hv0 rfl
      subst hv0
      obtain ⟨k1, k2, k3⟩ := hrm.call (hEok _ _ _ _ _ hE) (hKl _ _ _ _ hst)
      obtain ⟨b, as0, hab⟩ := zspecial hy hE hnm hEs
      have hl0 : as0.length = n - 1 := by
        have := congrArg List.length hab
        rw [List.length_reverse, List.length_take, List.length_cons, Nat.min_eq_left hle] at this
        omega
      rw [zrest_map hle]
      refine zcallI cx hrep hS hloc.1 hM hy hab hE hfr hlo (Nat.le_trans k2 hCF) (Nat.le_trans k3 hSF) (by rw [hl0]; exact hsg) hno hnm w2 w1 (zroomy_le hrmy) hd fun H1 locs1 hrep hS => ?_
      exact hK _ _ _ _ hst _ _ _ _ _ hloc hrep hS k1
  case invokestatic z =>
    rcases zck_stat hck with ⟨p1, p2, p3, p4, rfl, rfl, w1, w2, w3, w4⟩ | ⟨p1, p2, p3, rfl, rfl, w1, w2, w3⟩ | ⟨p1, p2, p3, rfl, rfl, w1, w2, w3⟩ | ⟨y, n, rt2, p1, p2, nest, rfl, rfl, hy, hsg, w2, w1⟩
    · obtain ⟨nn, dp, b, sp, a, s1, rfl, ⟨g1, g2, g3, g4, g5, g6, g7, g8⟩, hst⟩ := zcp_inv (show zinvoke E [1001, 5, 0, 0] st M (fun s M1 => K (pc + 3) lv s M1) = some (rv, M') from hst)
      have hry := zroomy_le (ad := zad t0 b0 base) g3
      refine zcopy_W cx hrep hS hloc.1 w1 w2 w3 w4 g1 g2 g4 g5 g6 g7 g8 hfrm (by omega) hd fun H1 locs1 hrep hS => ?_
      exact hK _ _ _ _ hst _ _ _ _ _ hloc hrep hS hrm
    · obtain ⟨x, y, s1, rfl, hst⟩ := z2i_inv (show z2i st (fun x y s => zok (zroomy s) (K (pc + 3) lv (.int (if x < y then y else x) :: s) M)) = some (rv, M') from hst)
      obtain ⟨hry, hst⟩ := zok_inv hst
      replace hry := zroomy_le (ad := zad t0 b0 base) hry
      refine va_mmax hx hb (by rw [cx.2.2.1, hloc.1]) hown (zword_ok hT w1 rfl args) (zword_ok hT w2 rfl args) (zword_ok hT w3 rfl args) (hT _ zcw_max rfl args) hfrm (by omega) (Nat.le_trans (Nat.le_trans (Nat.le_add_right _ _) hrm.2.1) hCF) (Nat.le_trans (Nat.le_trans (Nat.le_add_right _ _) hrm.2.2) hSF) hd ?_
      exact hK _ _ _ _ hst _ _ _ _ _ hloc hrep hS hrm
    · obtain ⟨x, y, s1, rfl, hst⟩ := z2i_inv (show z2i st (fun x y s => zok (zroomy s) (K (pc + 3) lv (.int (if y < x then y else x) :: s) M)) = some (rv, M') from hst)
      obtain ⟨hry, hst⟩ := zok_inv hst
      replace hry := zroomy_le (ad := zad t0 b0 base) hry
      refine va_mmin hx hb (by rw [cx.2.2.1, hloc.1]) hown (zword_ok hT w1 rfl args) (zword_ok hT w2 rfl args) (zword_ok hT w3 rfl args) (hT _ zcw_min rfl args) hfrm (by omega) (Nat.le_trans (Nat.le_trans (Nat.le_add_right _ _) hrm.2.1) hCF) (Nat.le_trans (Nat.le_trans (Nat.le_add_right _ _) hrm.2.2) hSF) hd ?_
      exact hK _ _ _ _ hst _ _ _ _ _ hloc hrep hS hrm
    · replace hst : zinvoke E [y, n, rt2, 0] st M (fun s M1 => K (pc + 3) lv s M1) = some (rv, M') := hst
      rw [zinv_c (Nat.ble_eq.mpr (by omega))] at hst
      obtain ⟨hle, hrmy, rv1, M1, hE, hst, -, -⟩ := zcall_inv hst
      obtain ⟨k1, k2, k3⟩ := hrm.call (hEok _ _ _ _ _ hE) (hKl _ _ _ _ hst)
      rw [zrest_map hle]
      refine zcallS cx hrep hS hloc.1 hM hy hE hfr hlo (Nat.le_trans k2 hCF) (Nat.le_trans k3 hSF) (by rw [List.length_reverse, List.length_take, Nat.min_eq_left hle]; exact hsg) w2 w1 (zroomy_le hrmy) hd fun H1 locs1 hrep hS => ?_
      rw [← zrv_map]
      exact hK _ _ _ _ hst _ _ _ _ _ hloc hrep hS k1
  case ireturn =>
    replace hck := (Bool.and_eq_true_iff.mp hck).2
    have h1 : len = _ := of_decide_eq_true hck
    subst h1
    unfold zstep at hst
    dsimp only at hst
    split at hst
    · split at hst
      · cases hst
        exact hR _ _ _ _ _ _ _ hd (Or.inl ⟨rfl, _, rfl, Or.inl rfl⟩) hrep hS (Nat.le_trans (Nat.le_add_right _ _) hrm.2.1) (Nat.le_trans (Nat.le_add_right _ _) hrm.2.2)
      · obtain ⟨h1, hst⟩ := zif_inv hst
        cases hst
        exact hR _ _ _ _ _ _ _ hd (Or.inl ⟨rfl, _, rfl, Or.inr ⟨rfl, h1⟩⟩) hrep hS (Nat.le_trans (Nat.le_add_right _ _) hrm.2.1) (Nat.le_trans (Nat.le_add_right _ _) hrm.2.2)
      · cases hst
    · cases hst
  case lreturn =>
    replace hck := (Bool.and_eq_true_iff.mp hck).2
    have h1 : len = _ := of_decide_eq_true hck
    subst h1
    unfold zstep at hst
    dsimp only at hst
    split at hst
    · obtain ⟨h1, hst⟩ := zok_inv hst
      cases hst
      exact hR _ _ _ _ _ _ _ hd (Or.inr (Or.inl ⟨rfl, Nat.eq_of_beq_eq_true h1, _, rfl⟩)) hrep hS (Nat.le_trans (Nat.le_add_right _ _) hrm.2.1) (Nat.le_trans (Nat.le_add_right _ _) hrm.2.2)
    · cases hst
  case areturn =>
    replace hck := (Bool.and_eq_true_iff.mp hck).2
    have h1 : len = _ := of_decide_eq_true hck
    subst h1
    unfold zstep at hst
    dsimp only at hst
    split at hst
    · obtain ⟨h1, hst⟩ := zok_inv hst
      cases hst
      exact hR _ _ _ _ _ _ _ hd (Or.inr (Or.inr (Or.inl ⟨rfl, Nat.eq_of_beq_eq_true h1, _, rfl⟩))) hrep hS (Nat.le_trans (Nat.le_add_right _ _) hrm.2.1) (Nat.le_trans (Nat.le_add_right _ _) hrm.2.2)
    · cases hst
  case return_ =>
    replace hck := (Bool.and_eq_true_iff.mp hck).2
    have h1 : len = _ := of_decide_eq_true hck
    subst h1
    unfold zstep at hst
    dsimp only at hst
    split at hst
    · obtain ⟨h1, hst⟩ := zok_inv hst
      cases hst
      exact hR _ _ _ _ _ _ _ hd (Or.inr (Or.inr (Or.inr ⟨rfl, Nat.eq_of_beq_eq_true h1, rfl⟩))) hrep hS (Nat.le_trans (Nat.le_add_right _ _) hrm.2.1) (Nat.le_trans (Nat.le_add_right _ _) hrm.2.2)
    · cases hst
  all_goals (exact absurd hst (by intro q; cases q))
end ZSIM
