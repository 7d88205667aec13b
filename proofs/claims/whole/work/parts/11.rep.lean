/-! the abstract memory in the machine's heap -/
def zv (ad : Nat → Nat) (v : Value) : Value := match v with
  | .ref a => .ref (ad a)
  | v => v
theorem zv_cat (ad : Nat → Nat) (v : Value) : (zv ad v).category = v.category := by cases v <;> rfl
def zad (t0 b0 base k : Nat) : Nat := if k = 0 then t0 else if k = 1 then b0 else base + (k - 2)
theorem zad_2 {t0 b0 base k : Nat} (h : 2 ≤ k) : zad t0 b0 base k = base + (k - 2) := by
  unfold zad; rw [if_neg (by omega), if_neg (by omega)]
theorem zad_lt {t0 b0 base k : Nat} (h0 : t0 < base) (h1 : b0 < base) (h : k < 2) : zad t0 b0 base k < base := by
  unfold zad
  by_cases a : k = 0
  · rw [if_pos a]; exact h0
  · rw [if_neg a, if_pos (by omega)]; exact h1
theorem zad_ne {t0 b0 base a b : Nat} (h0 : t0 < base) (h1 : b0 < base) (ha : 2 ≤ a) (hab : b ≠ a) : zad t0 b0 base b ≠ zad t0 b0 base a := by
  rw [zad_2 ha]
  by_cases hb : 2 ≤ b
  · rw [zad_2 hb]; omega
  · have := zad_lt (base := base) h0 h1 (k := b) (by omega)
    omega
/-! locals -/
def zLoc (ad : Nat → Nat) (ls : Array Slot) (nL : Nat) (l : zLs) : Prop := ls.size = nL ∧ l.length = nL ∧ lv_wf ls ∧ ∀ (i : Nat) (v : Value), l[i]? = some (some v) → ls[i]? = some (.val (zv ad v))
def zlv (ad : Nat → Nat) (l : zLs) : List (Nat × Value) := (List.range l.length).filterMap (fun i => match l[i]? with
  | some (some v) => some (i, zv ad v)
  | _ => none)
theorem zlv_mem {ad : Nat → Nat} {l : zLs} {i : Nat} {v : Value} (h : l[i]? = some (some v)) : (i, zv ad v) ∈ zlv ad l := by
  unfold zlv
  refine List.mem_filterMap.mpr ⟨i, List.mem_range.mpr (List.getElem?_eq_some_iff.mp h).1, ?_⟩
  rw [h]
theorem zlv_of {ad : Nat → Nat} {l : zLs} {q : Nat × Value} (h : q ∈ zlv ad l) : ∃ v, l[q.1]? = some (some v) ∧ q.2 = zv ad v := by
  unfold zlv at h
  obtain ⟨i, -, hi⟩ := List.mem_filterMap.mp h
  split at hi
  · rename_i v hv
    cases hi
    exact ⟨v, hv, rfl⟩
  · cases hi
theorem zLoc.has {ad : Nat → Nat} {ls : Array Slot} {nL : Nat} {l : zLs} (h : zLoc ad ls nL l) : lv_has ls nL (zlv ad l) := by
  refine ⟨h.1, h.2.2.1, fun q hq => ?_⟩
  obtain ⟨v, h1, h2⟩ := zlv_of hq
  rw [h2]
  exact h.2.2.2 _ _ h1
theorem zcut_length (l : zLs) (i : Nat) : (zcut l i).length = l.length := by
  cases i with
  | zero => rfl
  | succ j =>
    unfold zcut
    dsimp only
    split
    · split <;> simp
    · rfl
theorem zcut_get {l : zLs} {i j : Nat} {w : Value} (h : (zcut l i)[j]? = some (some w)) : l[j]? = some (some w) ∧ ¬ (j + 1 = i ∧ w.category = 2) := by
  cases i with
  | zero => exact ⟨h, fun q => by omega⟩
  | succ k =>
    unfold zcut at h
    dsimp only at h
    split at h
    · rename_i v hv
      split at h
      · rename_i hc
        by_cases hj : j = k
        · subst hj
          simp [List.getElem?_set] at h
        · rw [List.getElem?_set_ne (fun q => hj q.symm)] at h
          exact ⟨h, fun q => hj (by omega)⟩
      · rename_i hc
        refine ⟨h, fun q => ?_⟩
        have : j = k := by omega
        subst this
        rw [hv] at h
        cases h
        exact hc q.2
    · rename_i hn
      refine ⟨h, fun q => ?_⟩
      have : j = k := by omega
      subst this
      exact hn w h
theorem zLoc.st1 {ad : Nat → Nat} {ls' : Array Slot} {nL : Nat} {l : zLs} {i : Nat} {v : Value} (hl : l.length = nL) (h : lv_has ls' nL ((i, zv ad v) :: (zlv ad l).filter (fun q => !(q.1 == i) && !(q.1 + 1 == i && q.2.category == 2)))) : zLoc ad ls' nL (zst1 l i v) := by
  refine ⟨h.1, by unfold zst1; rw [List.length_set, zcut_length]; exact hl, h.2.1, fun j w hj => ?_⟩
  unfold zst1 at hj
  by_cases hji : j = i
  · subst hji
    have hlt : j < (zcut l j).length := by
      have := (List.getElem?_eq_some_iff.mp hj).1
      rwa [List.length_set] at this
    rw [List.getElem?_set_self hlt] at hj
    cases hj
    exact h.2.2 (j, zv ad v) List.mem_cons_self
  · rw [List.getElem?_set_ne (fun q => hji q.symm)] at hj
    obtain ⟨h1, h2⟩ := zcut_get hj
    refine h.2.2 (j, zv ad w) (List.mem_cons_of_mem _ (List.mem_filter.mpr ⟨zlv_mem h1, ?_⟩))
    simp only [Bool.and_eq_true, Bool.not_eq_true', beq_eq_false_iff_ne, ne_eq, Bool.and_eq_false_iff, zv_cat]
    refine ⟨hji, ?_⟩
    by_cases q : j + 1 = i
    · exact Or.inr (fun z => h2 ⟨q, z⟩)
    · exact Or.inl q
theorem zLoc.st2 {ad : Nat → Nat} {ls' : Array Slot} {nL : Nat} {l : zLs} {i : Nat} {v : Value} (hl : l.length = nL) (h : lv_has ls' nL ((i, zv ad v) :: (zlv ad l).filter (fun q => !(q.1 == i) && (!(q.1 == i + 1) && !(q.1 + 1 == i && q.2.category == 2))))) : zLoc ad ls' nL (zst2 l i v) := by
  refine ⟨h.1, by unfold zst2; rw [List.length_set, List.length_set, zcut_length]; exact hl, h.2.1, fun j w hj => ?_⟩
  unfold zst2 at hj
  by_cases hj1 : j = i + 1
  · subst hj1
    exfalso
    have hlt := (List.getElem?_eq_some_iff.mp hj).1
    rw [List.length_set] at hlt
    rw [List.getElem?_set_self hlt] at hj
    cases hj
  rw [List.getElem?_set_ne (fun q => hj1 q.symm)] at hj
  by_cases hji : j = i
  · subst hji
    have hlt : j < (zcut l j).length := by
      have := (List.getElem?_eq_some_iff.mp hj).1
      rwa [List.length_set] at this
    rw [List.getElem?_set_self hlt] at hj
    cases hj
    exact h.2.2 (j, zv ad v) List.mem_cons_self
  · rw [List.getElem?_set_ne (fun q => hji q.symm)] at hj
    obtain ⟨h1, h2⟩ := zcut_get hj
    refine h.2.2 (j, zv ad w) (List.mem_cons_of_mem _ (List.mem_filter.mpr ⟨zlv_mem h1, ?_⟩))
    simp only [Bool.and_eq_true, Bool.not_eq_true', beq_eq_false_iff_ne, ne_eq, Bool.and_eq_false_iff, zv_cat]
    refine ⟨hji, hj1, ?_⟩
    by_cases q : j + 1 = i
    · exact Or.inr (fun z => h2 ⟨q, z⟩)
    · exact Or.inl q
theorem zforget_length : ∀ (ds : List Nat) (l : zLs), (zforget ds l).length = l.length
  | [], _ => rfl
  | i :: ds, l => by unfold zforget; rw [zforget_length ds, List.length_set]
theorem zforget_get : ∀ (ds : List Nat) (l : zLs) {i : Nat} {v : Value}, (zforget ds l)[i]? = some (some v) → l[i]? = some (some v)
  | [], _, _, _, h => h
  | k :: ds, l, i, v, h => by
    unfold zforget at h
    have h2 := zforget_get ds _ h
    by_cases e : i = k
    · subst e
      exfalso
      have hlt := (List.getElem?_eq_some_iff.mp h2).1
      rw [List.length_set] at hlt
      rw [List.getElem?_set_self hlt] at h2
      cases h2
    · rwa [List.getElem?_set_ne (fun q => e q.symm)] at h2
theorem zLoc.fg {ad : Nat → Nat} {ls : Array Slot} {nL : Nat} {l : zLs} {H : List (Nat × List Nat)} {pc : Nat} (h : zLoc ad ls nL l) : zLoc ad ls nL (zfg H pc l) := by
  unfold zfg
  split
  · exact h
  · exact ⟨h.1, by rw [zforget_length]; exact h.2.1, h.2.2.1, fun i v hv => h.2.2.2 i v (zforget_get _ _ hv)⟩
/-! the entry's locals -/
theorem zent_get {ad : Nat → Nat} : ∀ (as : List Value) (k i : Nat) (v : Value), (zent as)[i]? = some (some v) → (k + i, zv ad v) ∈ lv_args k (as.map (zv ad))
  | [], _, _, _, h => by cases h
  | a :: as, k, i, v, h => by
    unfold zent at h
    show _ ∈ (k, zv ad a) :: lv_args (if (zv ad a).category = 2 then k + 2 else k + 1) (as.map (zv ad))
    rw [zv_cat]
    split at h
    · rename_i hc
      match i, h with
      | 0, h => cases h; exact List.mem_cons_self
      | 1, h => cases h
      | i + 2, h =>
        refine List.mem_cons_of_mem _ ?_
        rw [if_pos hc]
        have := zent_get (ad := ad) as (k + 2) i v h
        rwa [show k + (i + 2) = k + 2 + i by omega]
    · rename_i hc
      match i, h with
      | 0, h => cases h; exact List.mem_cons_self
      | i + 1, h =>
        refine List.mem_cons_of_mem _ ?_
        rw [if_neg hc]
        have := zent_get (ad := ad) as (k + 1) i v h
        rwa [show k + (i + 1) = k + 1 + i by omega]
theorem zpad_get : ∀ (n : Nat) (l : zLs) (i : Nat) (v : Value), (zpad n l)[i]? = some (some v) → l[i]? = some (some v)
  | 0, _, _, _, h => h
  | n + 1, [], i, v, h => by
    exfalso
    unfold zpad at h
    match i, h with
    | 0, h => cases h
    | i + 1, h => exact absurd (zpad_get n [] i v h) (by simp)
  | n + 1, x :: l, i, v, h => by
    unfold zpad at h
    match i, h with
    | 0, h => exact h
    | i + 1, h => exact zpad_get n l i v h
theorem zpad_length : ∀ (n : Nat) (l : zLs), l.length ≤ n → (zpad n l).length = n
  | 0, [], _ => rfl
  | 0, _ :: _, h => absurd h (by simp)
  | n + 1, [], _ => by unfold zpad; rw [List.length_cons, zpad_length n [] (Nat.zero_le _)]
  | n + 1, x :: l, h => by unfold zpad; rw [List.length_cons, zpad_length n l (Nat.le_of_succ_le_succ h)]
theorem zent_length (ad : Nat → Nat) : ∀ (as : List Value), (zent as).length = (lg_sl (as.map (zv ad))).length
  | [] => rfl
  | a :: as => by
    have ih := zent_length ad as
    have e : lg_sl ((a :: as).map (zv ad)) = (if (zv ad a).category = 2 then [Slot.val (zv ad a), Slot.second] else [Slot.val (zv ad a)]) ++ lg_sl (as.map (zv ad)) := by simp [lg_sl]
    rw [e, List.length_append, zv_cat, zent]
    split
    · rename_i hc
      rw [if_pos hc]
      simp only [List.length_cons, List.length_nil, ih]
      omega
    · rename_i hc
      rw [if_neg hc]
      simp only [List.length_cons, List.length_nil, ih]
      omega
theorem zLoc.entry {ad : Nat → Nat} {as : List Value} {n : Nat} (h : (zent as).length ≤ n) : zLoc ad ((lg_sl (as.map (zv ad)) ++ List.replicate (n - (lg_sl (as.map (zv ad))).length) Slot.unset).toArray) n (zloc n as) := by
  have hl := lv_entry (as.map (zv ad)) (n := n) (by rw [← zent_length ad as]; exact h)
  refine ⟨hl.1, zpad_length n _ h, hl.2.1, fun i v hv => ?_⟩
  have h1 := zent_get (ad := ad) as 0 i v (zpad_get _ _ _ _ hv)
  rw [Nat.zero_add] at h1
  exact hl.2.2 (i, zv ad v) h1
