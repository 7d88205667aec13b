/-! pieces of sequences: a language, how long, the fewest and the most ticks, the conditions -/
abbrev Pc : Type := (List Nat → Prop) × Nat × Nat × Nat × List T4
def pL (x : Pc) : List Nat → Prop := x.1
def pN (x : Pc) : Nat := x.2.1
def pF (x : Pc) : Nat := x.2.2.1
def pM (x : Pc) : Nat := x.2.2.2.1
def pC (x : Pc) : List T4 := x.2.2.2.2
def tV (t : T4) (v : Nat) : Prop := v < 256 ∧ zb (t (v / 64)) (v % 64) = true
def coP (t : T4) : Pc := (fun w => ∃ v, w = [v] ∧ tV t v, 1, 1, 1, [t])
def chP (a b : Pc) : Pc := (lch (pL a) (pL b), pN a + pN b, pF a + pF b, pM a + pM b, pC a ++ pC b)
def orP (a b : Pc) : Pc := (lor2 (pL a) (pL b), pN a + pN b, min (pF a) (pF b), max (pM a) (pM b), pC a ++ pC b)
def rpP (m n : Nat) (a : Pc) : Pc := (lrep (pL a) m n, n * pN a, m * pF a, n * pM a, pC a)
def wfp (x : Pc) : Prop := (pL x [] ↔ pF x = 0) ∧ pF x ≤ pM x ∧ pM x ≤ pN x ∧ 1 ≤ pN x ∧ (pC x).length ≤ pN x
theorem wf_co (t : T4) : wfp (coP t) := by
  refine ⟨⟨fun ⟨v, h, _⟩ => absurd h (by simp), fun h => absurd h (show ¬ (1 : Nat) = 0 by decide)⟩, Nat.le_refl 1, Nat.le_refl 1, Nat.le_refl 1, Nat.le_refl 1⟩
theorem wf_ch {a b : Pc} (ha : wfp a) (hb : wfp b) : wfp (chP a b) := by
  obtain ⟨a1, a2, a3, a4, a5⟩ := ha
  obtain ⟨b1, b2, b3, b4, b5⟩ := hb
  refine ⟨?_, ?_, ?_, ?_, ?_⟩
  · show lch (pL a) (pL b) [] ↔ pF a + pF b = 0
    constructor
    · rintro ⟨x, y, e, hx, hy⟩
      obtain ⟨rfl, rfl⟩ := List.append_eq_nil_iff.mp e.symm
      have := a1.mp hx
      have := b1.mp hy
      omega
    · intro h
      exact ⟨[], [], rfl, a1.mpr (by omega), b1.mpr (by omega)⟩
  · show pF a + pF b ≤ pM a + pM b
    omega
  · show pM a + pM b ≤ pN a + pN b
    omega
  · show 1 ≤ pN a + pN b
    omega
  · show (pC a ++ pC b).length ≤ pN a + pN b
    rw [List.length_append]
    omega
theorem wf_or {a b : Pc} (ha : wfp a) (hb : wfp b) : wfp (orP a b) := by
  obtain ⟨a1, a2, a3, a4, a5⟩ := ha
  obtain ⟨b1, b2, b3, b4, b5⟩ := hb
  refine ⟨?_, ?_, ?_, ?_, ?_⟩
  · show (pL a [] ∨ pL b []) ↔ min (pF a) (pF b) = 0
    rw [a1, b1]
    omega
  · show min (pF a) (pF b) ≤ max (pM a) (pM b)
    omega
  · show max (pM a) (pM b) ≤ pN a + pN b
    omega
  · show 1 ≤ pN a + pN b
    omega
  · show (pC a ++ pC b).length ≤ pN a + pN b
    rw [List.length_append]
    omega
theorem wf_rp {a : Pc} {m n : Nat} (ha : wfp a) (hn : 1 ≤ n) (hmn : m ≤ n) : wfp (rpP m n a) := by
  obtain ⟨a1, a2, a3, a4, a5⟩ := ha
  have hnN : pN a ≤ n * pN a := Nat.le_mul_of_pos_left (pN a) hn
  refine ⟨?_, Nat.mul_le_mul hmn a2, Nat.mul_le_mul_left n a3, ?_, ?_⟩
  · show lrep (pL a) m n [] ↔ m * pF a = 0
    rw [Nat.mul_eq_zero]
    constructor
    · rintro ⟨k, h1, h2, h3⟩
      cases k with
      | zero => exact Or.inl (by omega)
      | succ k =>
        obtain ⟨x, y, e, hx, -⟩ := h3
        obtain ⟨rfl, rfl⟩ := List.append_eq_nil_iff.mp e.symm
        exact Or.inr (a1.mp hx)
    · rintro (h | h)
      · subst h
        exact ⟨0, Nat.le_refl 0, by omega, rfl⟩
      · have := lpow_pad (Lg := pL a) (a1.mpr h) (k := 0) (w := []) rfl m
        rw [Nat.zero_add] at this
        exact ⟨m, Nat.le_refl m, hmn, this⟩
  · show 1 ≤ n * pN a
    omega
  · show (pC a).length ≤ n * pN a
    omega
theorem Fr_one {F T : Nat → Nat → Prop} {B E : Nat → Prop} {lo : Nat} {t : T4} (hB : ∀ q, B q ↔ q = lo) (hE : ∀ q, E q ↔ q = lo) (hF : ∀ r, ¬ F lo r) (hT : ∀ v, T lo v ↔ tV t v) : Fr F T lo 1 B E (pL (coP t)) := by
  refine ⟨fun q hq => ?_, fun q hq => ?_, fun q r h1 h2 h3 => ?_, fun w hw => ?_⟩
  · have := (hB q).mp hq; omega
  · have := (hE q).mp hq; omega
  · have : q = lo := by omega
    subst this
    exact absurd h3 (hF r)
  · constructor
    · rintro ⟨v, rfl, hv⟩
      exact ⟨lo, (hB lo).mpr rfl, (hT v).mpr hv, Or.inl ⟨rfl, (hE lo).mpr rfl⟩⟩
    · rintro ⟨q, hq, hp⟩
      have hql := (hB q).mp hq
      subst hql
      cases w with
      | nil => exact absurd rfl hw
      | cons v w =>
        obtain ⟨h1, h2⟩ := hp
        rcases h2 with ⟨rfl, -⟩ | ⟨r, h3, -⟩
        · exact ⟨v, rfl, (hT v).mp h1⟩
        · exact absurd h3 (hF r)
/-- pieces one behind another, each with its index -/
abbrev IP : Type := List (Nat × Pc)
def tt : IP → Nat
  | [] => 0
  | y :: l => pN y.2 + tt l
def cc : IP → List T4
  | [] => []
  | y :: l => pC y.2 ++ cc l
theorem tt_app : ∀ (l m : IP), tt (l ++ m) = tt l + tt m
  | [], m => (Nat.zero_add _).symm
  | y :: l, m => by
    show pN y.2 + tt (l ++ m) = pN y.2 + tt l + tt m
    rw [tt_app l m, Nat.add_assoc]
theorem cc_app : ∀ (l m : IP), cc (l ++ m) = cc l ++ cc m
  | [], m => rfl
  | y :: l, m => by
    show pC y.2 ++ cc (l ++ m) = pC y.2 ++ cc l ++ cc m
    rw [cc_app l m, List.append_assoc]
def zB (x : Int64) : Nat → Prop := fun q => zb x q = true
def Stk (F T : Nat → Nat → Prop) (B E : Nat → Int64) (u : Nat → Int32) : Nat → IP → Prop
  | _, [] => True
  | lo, y :: l => Fr F T lo (pN y.2) (zB (B y.1)) (zB (E y.1)) (pL y.2) ∧ u y.1 = nI lo ∧ Stk F T B E u (lo + pN y.2) l
theorem Stk_app {F T : Nat → Nat → Prop} {B E : Nat → Int64} {u : Nat → Int32} : ∀ {l m : IP} {lo : Nat}, Stk F T B E u lo (l ++ m) ↔ Stk F T B E u lo l ∧ Stk F T B E u (lo + tt l) m
  | [], m, lo => ⟨fun h => ⟨trivial, h⟩, fun h => h.2⟩
  | y :: l, m, lo => by
    have ih := Stk_app (F := F) (T := T) (B := B) (E := E) (u := u) (l := l) (m := m) (lo := lo + pN y.2)
    have e : lo + tt (y :: l) = lo + pN y.2 + tt l := by
      show lo + (pN y.2 + tt l) = _
      omega
    rw [e]
    constructor
    · rintro ⟨h1, h2, h3⟩
      exact ⟨⟨h1, h2, (ih.mp h3).1⟩, (ih.mp h3).2⟩
    · rintro ⟨⟨h1, h2, h3⟩, h4⟩
      exact ⟨h1, h2, ih.mpr ⟨h3, h4⟩⟩
theorem Stk_congr {F F' T T' : Nat → Nat → Prop} {B B' E E' : Nat → Int64} {u u' : Nat → Int32} : ∀ {l : IP} {lo : Nat}, Stk F T B E u lo l → (∀ q r, lo ≤ q → q < lo + tt l → (F q r ↔ F' q r)) → (∀ q v, lo ≤ q → q < lo + tt l → (T q v ↔ T' q v)) → (∀ y, y ∈ l → B' y.1 = B y.1 ∧ E' y.1 = E y.1 ∧ u' y.1 = u y.1) → Stk F' T' B' E' u' lo l
  | [], lo, h, _, _, _ => trivial
  | y :: l, lo, ⟨h1, h2, h3⟩, hF, hT, hi => by
    obtain ⟨i1, i2, i3⟩ := hi y (List.mem_cons_self ..)
    have e : tt (y :: l) = pN y.2 + tt l := rfl
    refine ⟨?_, i3.trans h2, Stk_congr h3 (fun q r a b => hF q r (by omega) (by omega)) (fun q v a b => hT q v (by omega) (by omega)) (fun z hz => hi z (List.mem_cons_of_mem y hz))⟩
    rw [i1, i2]
    exact h1.congr (fun q r a b => hF q r a (by omega)) (fun q v a b => hT q v a (by omega)) (fun _ => Iff.rfl) (fun _ => Iff.rfl)
/-- all positions of the pieces stay within them -/
theorem Stk_in {F T : Nat → Nat → Prop} {B E : Nat → Int64} {u : Nat → Int32} : ∀ {l : IP} {lo : Nat}, Stk F T B E u lo l → ∀ q r, lo ≤ q → q < lo + tt l → F q r → q < r ∧ r < lo + tt l
  | [], lo, _, q, r, h1, h2, _ => by
    have : tt ([] : IP) = 0 := rfl
    omega
  | y :: l, lo, ⟨h1, _, h3⟩, q, r, g1, g2, g3 => by
    have e : tt (y :: l) = pN y.2 + tt l := rfl
    by_cases hq : q < lo + pN y.2
    · have := h1.2.2.1 q r g1 hq g3
      omega
    · have := Stk_in h3 q r (by omega) (by omega) g3
      omega
def en (k : Nat) : List Pc → IP
  | [] => []
  | x :: l => (k, x) :: en (k + 1) l
theorem en_app : ∀ (k : Nat) (l m : List Pc), en k (l ++ m) = en k l ++ en (k + l.length) m
  | k, [], m => rfl
  | k, x :: l, m => by
    show (k, x) :: en (k + 1) (l ++ m) = (k, x) :: (en (k + 1) l ++ en (k + (l.length + 1)) m)
    rw [en_app (k + 1) l m, show k + 1 + l.length = k + (l.length + 1) by omega]
theorem en_mem : ∀ {k : Nat} {l : List Pc} {y : Nat × Pc}, y ∈ en k l → k ≤ y.1 ∧ y.1 < k + l.length
  | k, [], y, h => absurd h (List.not_mem_nil)
  | k, x :: l, y, h => by
    rcases List.mem_cons.mp h with rfl | h
    · exact ⟨Nat.le_refl k, by show k < k + (l.length + 1); omega⟩
    · have := en_mem h
      have e : (x :: l).length = l.length + 1 := rfl
      omega
def tot (l : List Pc) : Nat := tt (en 0 l)
def cds (l : List Pc) : List T4 := cc (en 0 l)
theorem tt_en : ∀ (k j : Nat) (l : List Pc), tt (en k l) = tt (en j l)
  | _, _, [] => rfl
  | k, j, x :: l => by
    show pN x + tt (en (k + 1) l) = pN x + tt (en (j + 1) l)
    rw [tt_en (k + 1) (j + 1) l]
theorem cc_en : ∀ (k j : Nat) (l : List Pc), cc (en k l) = cc (en j l)
  | _, _, [] => rfl
  | k, j, x :: l => by
    show pC x ++ cc (en (k + 1) l) = pC x ++ cc (en (j + 1) l)
    rw [cc_en (k + 1) (j + 1) l]
theorem tot_app (l m : List Pc) : tot (l ++ m) = tot l + tot m := by
  unfold tot
  rw [en_app, tt_app, tt_en (0 + l.length) 0 m]
theorem cds_app (l m : List Pc) : cds (l ++ m) = cds l ++ cds m := by
  unfold cds
  rw [en_app, cc_app, cc_en (0 + l.length) 0 m]
theorem tot_1 (x : Pc) : tot [x] = pN x := rfl
theorem cds_1 (x : Pc) : cds [x] = pC x := List.append_nil (pC x)
theorem tot_2 (x y : Pc) : tot [x, y] = pN x + pN y := rfl
theorem cds_2 (x y : Pc) : cds [x, y] = pC x ++ pC y := by
  show pC x ++ (pC y ++ []) = _
  rw [List.append_nil]
theorem cds_le : ∀ {l : List Pc}, (∀ x, x ∈ l → wfp x) → (cds l).length ≤ tot l
  | [], _ => Nat.le_refl 0
  | x :: l, h => by
    have e : cds (x :: l) = pC x ++ cds l := by
      show pC x ++ cc (en 1 l) = _
      rw [cc_en 1 0]; rfl
    have e2 : tot (x :: l) = pN x + tot l := by
      show pN x + tt (en 1 l) = _
      rw [tt_en 1 0]; rfl
    rw [e, e2, List.length_append]
    have h1 := (h x (List.mem_cons_self ..)).2.2.2.2
    have h2 := cds_le (l := l) (fun z hz => h z (List.mem_cons_of_mem x hz))
    omega
/-! what a text says: sequences -/
def sPt (X : Nat → Tk) (R : Option (Nat → Rs Pc)) (C : Nat → Rs T4) (i : Nat) : Rs Pc :=
  if (X i).1 = 123 then (match R with
    | none => .inl (4, plc X i)
    | some r => nxt X i (fun j => rb (r j) (fun x j' => if (X j').1 = 125 then nxt X j' (fun k => .inr (x, k)) else .inl (2, plc X j'))))
  else rb (C i) (fun t j => .inr (coP t, j))
def sNum {α : Type} (X : Nat → Tk) (lo i : Nat) (f : Nat → Nat → Rs α) : Rs α :=
  if (X i).1 = 2 then (if (X i).2.1 < lo ∨ 9 < (X i).2.1 then .inl (3, plc X i) else nxt X i (fun j => f (X i).2.1 j)) else .inl (2, plc X i)
def sRpB (X : Nat → Tk) (x : Pc) (j : Nat) : Rs Pc :=
  if (X j).1 = 42 then nxt X j (fun j1 => sNum X 0 j1 (fun m j2 => sNum X (max 1 m) j2 (fun n j3 => .inr (rpP m n x, j3)))) else .inr (x, j)
def sRp (X : Nat → Tk) (R : Option (Nat → Rs Pc)) (C : Nat → Rs T4) (i : Nat) : Rs Pc := rb (sPt X R C i) (sRpB X)
def sChL (X : Nat → Tk) (R : Option (Nat → Rs Pc)) (C : Nat → Rs T4) : Nat → Pc → Nat → Rs Pc
  | 0, x, i => .inr (x, i)
  | f + 1, x, i => if (X i).1 = 44 then nxt X i (fun j => rb (sRp X R C j) (fun y k => sChL X R C f (chP x y) k)) else .inr (x, i)
def sCh (X : Nat → Tk) (R : Option (Nat → Rs Pc)) (C : Nat → Rs T4) (i : Nat) : Rs Pc := rb (sRp X R C i) (fun x j => sChL X R C 200 x j)
def sSqL (X : Nat → Tk) (R : Option (Nat → Rs Pc)) (C : Nat → Rs T4) : Nat → Pc → Nat → Rs Pc
  | 0, x, i => .inr (x, i)
  | f + 1, x, i => if (X i).1 = 47 then nxt X i (fun j => rb (sCh X R C j) (fun y k => sSqL X R C f (orP x y) k)) else .inr (x, i)
def sSqB (X : Nat → Tk) (R : Option (Nat → Rs Pc)) (C : Nat → Rs T4) (i : Nat) : Rs Pc := rb (sCh X R C i) (fun x j => sSqL X R C 200 x j)
def sC (X : Nat → Tk) (pt : Nat → Int64) (k : Nat) : Nat → Rs T4 := sNeg X pt (rK X pt k) 200 false
def sSq (X : Nat → Tk) (pt : Nat → Int64) : Nat → Nat → Rs Pc
  | 0 => sSqB X none (sC X pt 0)
  | k + 1 => sSqB X (some (sSq X pt k)) (sC X pt (k + 1))
def qK (X : Nat → Tk) (pt : Nat → Int64) : Nat → Option (Nat → Rs Pc)
  | 0 => none
  | k + 1 => some (sSq X pt k)
theorem sSq_eq (X : Nat → Tk) (pt : Nat → Int64) : ∀ k, sSq X pt k = sSqB X (qK X pt k) (sC X pt k)
  | 0 => rfl
  | _ + 1 => rfl
