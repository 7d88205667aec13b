/-! behind the constructors -/
theorem zob_t {o : Option Nat} {v : Nat} (h : zob o v = true) : o = some v := by
  cases o with
  | none => cases h
  | some u => rw [Nat.eq_of_beq_eq_true h]
theorem zC_gen (o1 : zO) (hN : zChN o1 = true) (hA : zChA (zC2f o1) = true) (hK : zChK (zC2f o1) = true) (hR : zChR (zC2f o1) = true) (hI : zChI (zC2f o1) = true) (hP : zChP (zC2f o1) = true) : ∃ N2 N4, o1 = some (none, N2) ∧ zN N2 = 146 ∧ zEn zT 700 9 n_Mo_init [.ref 146] (znew N2 11 52) = some (none, N4) ∧ zN N4 = 182 ∧ (∀ a, a < 182 → a ≠ 1 → zK N4 a = zKc 0 a) ∧ (∀ t, t ∈ zRls → zR N4 t.1 t.2.1 = some t.2.2) ∧ (∀ t, t ∈ zIls → zI N4 t.1 t.2.1 = t.2.2) ∧ ∀ k, k < 6 → zL N4 0 k = zL N4 165 k := by
  match o1, hN, hA, hK, hR, hI, hP with
  | some (none, N2), hN, hA, hK, hR, hI, hP =>
    have n2 : zN N2 = 146 := Nat.eq_of_beq_eq_true hN
    unfold zC2f at hA hK hR hI hP
    rw [zbV_S, n2] at hA hK hR hI hP
    generalize he : zEn zT 700 9 n_Mo_init [.ref 146] (znew N2 11 52) = o2 at hA hK hR hI hP
    match o2, he, hA, hK, hR, hI, hP with
    | some (none, N4), he, hA, hK, hR, hI, hP =>
      refine ⟨N2, N4, rfl, n2, he, Nat.eq_of_beq_eq_true hA, fun a h1 h2 => ?_, fun t ht => zob_t (List.all_eq_true.mp hR t ht), fun t ht => of_decide_eq_true (List.all_eq_true.mp hI t ht), fun k hk => of_decide_eq_true (List.all_eq_true.mp hP k (List.mem_range.mpr hk))⟩
      have := List.all_eq_true.mp hK a (List.mem_range.mpr h1)
      rw [Bool.or_eq_true, Bool.and_eq_true] at this
      rcases this with h | ⟨h3, h4⟩
      · exact absurd (Nat.eq_of_beq_eq_true h) h2
      · exact Prod.ext (Nat.eq_of_beq_eq_true h3) (Nat.eq_of_beq_eq_true h4)
theorem zC_ex : ∃ N2 N4, zC1 = some (none, N2) ∧ zN N2 = 146 ∧ zEn zT 700 9 n_Mo_init [.ref 146] (znew N2 11 52) = some (none, N4) ∧ zN N4 = 182 ∧ (∀ a, a < 182 → a ≠ 1 → zK N4 a = zKc 0 a) ∧ (∀ t, t ∈ zRls → zR N4 t.1 t.2.1 = some t.2.2) ∧ (∀ t, t ∈ zIls → zI N4 t.1 t.2.1 = t.2.2) ∧ ∀ k, k < 6 → zL N4 0 k = zL N4 165 k := zC_gen zC1 zChN_ok zChA_ok zChK_ok zChR_ok zChI_ok zChP_ok
theorem zKc_ne {L a : Nat} (h : a ≠ 1) : zKc L a = zKc 0 a := by
  match a, h with
  | 0, _ => rfl
  | 1, h => exact absurd rfl h
  | _ + 2, _ => rfl
theorem zKc_ge {L a : Nat} (h : 182 ≤ a) : zKc L a = (0, 0) := by
  unfold zKc
  rw [List.getD_eq_getElem?_getD, List.getElem?_eq_none (show (zKl L).length ≤ a from h)]
  rfl
theorem zSh_0 {L : Nat} {M : zM} (n4 : zN M = 182) (hK : zK M = zKc L) (hT : ∀ t, t ∈ zRls → zR M t.1 t.2.1 = some t.2.2) : zSh L 0 M := by
  refine ⟨n4, hK, ⟨hT (2, 0, 3) (by decide +kernel), hT (2, 1, 4) (by decide +kernel), hT (2, 2, 18) (by decide +kernel), hT (2, 3, 19) (by decide +kernel), hT (2, 4, 21) (by decide +kernel), hT (2, 5, 22) (by decide +kernel), hT (2, 6, 23) (by decide +kernel), hT (3, 0, 4) (by decide +kernel), hT (3, 1, 6) (by decide +kernel), hT (3, 2, 8) (by decide +kernel), hT (4, 0, 5) (by decide +kernel), hT (6, 0, 7) (by decide +kernel), hT (8, 0, 9) (by decide +kernel), hT (8, 1, 10) (by decide +kernel), hT (8, 2, 11) (by decide +kernel), hT (8, 3, 12) (by decide +kernel), hT (8, 4, 13) (by decide +kernel), hT (19, 0, 20) (by decide +kernel)⟩, ⟨hT (146, 0, 147) (by decide +kernel), hT (146, 1, 148) (by decide +kernel), hT (146, 2, 149) (by decide +kernel), hT (146, 3, 150) (by decide +kernel), hT (146, 4, 151) (by decide +kernel), hT (146, 5, 152) (by decide +kernel), hT (146, 6, 153) (by decide +kernel), hT (146, 7, 154) (by decide +kernel), hT (146, 9, 155) (by decide +kernel), hT (146, 10, 156) (by decide +kernel), hT (146, 11, 157) (by decide +kernel), hT (146, 12, 158) (by decide +kernel), hT (146, 21, 159) (by decide +kernel), hT (146, 22, 160) (by decide +kernel), hT (146, 23, 161) (by decide +kernel), hT (146, 24, 162) (by decide +kernel), hT (146, 25, 163) (by decide +kernel), hT (146, 26, 164) (by decide +kernel), hT (146, 28, 165) (by decide +kernel), hT (146, 29, 166) (by decide +kernel), hT (146, 30, 167) (by decide +kernel), hT (146, 31, 168) (by decide +kernel), hT (146, 32, 169) (by decide +kernel), hT (146, 33, 170) (by decide +kernel), hT (146, 34, 171) (by decide +kernel), hT (146, 35, 172) (by decide +kernel), hT (146, 36, 173) (by decide +kernel), hT (146, 40, 174) (by decide +kernel), hT (146, 41, 175) (by decide +kernel), hT (146, 42, 176) (by decide +kernel), hT (146, 43, 177) (by decide +kernel), hT (146, 44, 178) (by decide +kernel), hT (146, 48, 179) (by decide +kernel), hT (146, 49, 180) (by decide +kernel), hT (146, 50, 181) (by decide +kernel)⟩, ⟨fun p hp => ?_, fun k hk => ?_, ?_, ?_⟩, by omega, hT (2, 7, 24) (by decide +kernel), hT (2, 8, 25) (by decide +kernel)⟩
  · match p, hp with
    | 0, _ => exact ⟨hT (24, 0, 26) (by decide +kernel), hT (25, 0, 36) (by decide +kernel), hT (18, 0, 46) (by decide +kernel), hT (23, 0, 138) (by decide +kernel), ⟨by rw [hK]; rfl, by rw [hK]; rfl, hT (26, 0, 27) (by decide +kernel), hT (26, 1, 31) (by decide +kernel), hT (26, 2, 35) (by decide +kernel), ⟨by rw [hK]; rfl, by rw [hK]; rfl, by rw [hK]; rfl, by rw [hK]; rfl, hT (27, 0, 28) (by decide +kernel), hT (27, 1, 29) (by decide +kernel), hT (27, 2, 30) (by decide +kernel)⟩, ⟨by rw [hK]; rfl, by rw [hK]; rfl, by rw [hK]; rfl, by rw [hK]; rfl, hT (31, 0, 32) (by decide +kernel), hT (31, 1, 33) (by decide +kernel), hT (31, 2, 34) (by decide +kernel)⟩⟩, ⟨by rw [hK]; rfl, by rw [hK]; rfl, hT (36, 0, 37) (by decide +kernel), hT (36, 1, 41) (by decide +kernel), hT (36, 2, 45) (by decide +kernel), ⟨by rw [hK]; rfl, by rw [hK]; rfl, by rw [hK]; rfl, by rw [hK]; rfl, hT (37, 0, 38) (by decide +kernel), hT (37, 1, 39) (by decide +kernel), hT (37, 2, 40) (by decide +kernel)⟩, ⟨by rw [hK]; rfl, by rw [hK]; rfl, by rw [hK]; rfl, by rw [hK]; rfl, hT (41, 0, 42) (by decide +kernel), hT (41, 1, 43) (by decide +kernel), hT (41, 2, 44) (by decide +kernel)⟩⟩, ⟨by rw [hK]; rfl, by rw [hK]; rfl, by rw [hK]; rfl, by rw [hK]; rfl, by rw [hK]; rfl, by rw [hK]; rfl, by rw [hK]; rfl, hT (46, 0, 47) (by decide +kernel), hT (46, 1, 48) (by decide +kernel), hT (46, 2, 49) (by decide +kernel), hT (46, 3, 50) (by decide +kernel), hT (46, 4, 51) (by decide +kernel), hT (46, 5, 52) (by decide +kernel)⟩, ⟨by rw [hK]; rfl, by rw [hK]; rfl, hT (138, 0, 139) (by decide +kernel)⟩⟩
    | 1, _ => exact ⟨hT (24, 1, 53) (by decide +kernel), hT (25, 1, 63) (by decide +kernel), hT (18, 1, 73) (by decide +kernel), hT (23, 1, 140) (by decide +kernel), ⟨by rw [hK]; rfl, by rw [hK]; rfl, hT (53, 0, 54) (by decide +kernel), hT (53, 1, 58) (by decide +kernel), hT (53, 2, 62) (by decide +kernel), ⟨by rw [hK]; rfl, by rw [hK]; rfl, by rw [hK]; rfl, by rw [hK]; rfl, hT (54, 0, 55) (by decide +kernel), hT (54, 1, 56) (by decide +kernel), hT (54, 2, 57) (by decide +kernel)⟩, ⟨by rw [hK]; rfl, by rw [hK]; rfl, by rw [hK]; rfl, by rw [hK]; rfl, hT (58, 0, 59) (by decide +kernel), hT (58, 1, 60) (by decide +kernel), hT (58, 2, 61) (by decide +kernel)⟩⟩, ⟨by rw [hK]; rfl, by rw [hK]; rfl, hT (63, 0, 64) (by decide +kernel), hT (63, 1, 68) (by decide +kernel), hT (63, 2, 72) (by decide +kernel), ⟨by rw [hK]; rfl, by rw [hK]; rfl, by rw [hK]; rfl, by rw [hK]; rfl, hT (64, 0, 65) (by decide +kernel), hT (64, 1, 66) (by decide +kernel), hT (64, 2, 67) (by decide +kernel)⟩, ⟨by rw [hK]; rfl, by rw [hK]; rfl, by rw [hK]; rfl, by rw [hK]; rfl, hT (68, 0, 69) (by decide +kernel), hT (68, 1, 70) (by decide +kernel), hT (68, 2, 71) (by decide +kernel)⟩⟩, ⟨by rw [hK]; rfl, by rw [hK]; rfl, by rw [hK]; rfl, by rw [hK]; rfl, by rw [hK]; rfl, by rw [hK]; rfl, by rw [hK]; rfl, hT (73, 0, 74) (by decide +kernel), hT (73, 1, 75) (by decide +kernel), hT (73, 2, 76) (by decide +kernel), hT (73, 3, 77) (by decide +kernel), hT (73, 4, 78) (by decide +kernel), hT (73, 5, 79) (by decide +kernel)⟩, ⟨by rw [hK]; rfl, by rw [hK]; rfl, hT (140, 0, 141) (by decide +kernel)⟩⟩
    | 2, _ => exact ⟨hT (24, 2, 80) (by decide +kernel), hT (25, 2, 90) (by decide +kernel), hT (18, 2, 100) (by decide +kernel), hT (23, 2, 142) (by decide +kernel), ⟨by rw [hK]; rfl, by rw [hK]; rfl, hT (80, 0, 81) (by decide +kernel), hT (80, 1, 85) (by decide +kernel), hT (80, 2, 89) (by decide +kernel), ⟨by rw [hK]; rfl, by rw [hK]; rfl, by rw [hK]; rfl, by rw [hK]; rfl, hT (81, 0, 82) (by decide +kernel), hT (81, 1, 83) (by decide +kernel), hT (81, 2, 84) (by decide +kernel)⟩, ⟨by rw [hK]; rfl, by rw [hK]; rfl, by rw [hK]; rfl, by rw [hK]; rfl, hT (85, 0, 86) (by decide +kernel), hT (85, 1, 87) (by decide +kernel), hT (85, 2, 88) (by decide +kernel)⟩⟩, ⟨by rw [hK]; rfl, by rw [hK]; rfl, hT (90, 0, 91) (by decide +kernel), hT (90, 1, 95) (by decide +kernel), hT (90, 2, 99) (by decide +kernel), ⟨by rw [hK]; rfl, by rw [hK]; rfl, by rw [hK]; rfl, by rw [hK]; rfl, hT (91, 0, 92) (by decide +kernel), hT (91, 1, 93) (by decide +kernel), hT (91, 2, 94) (by decide +kernel)⟩, ⟨by rw [hK]; rfl, by rw [hK]; rfl, by rw [hK]; rfl, by rw [hK]; rfl, hT (95, 0, 96) (by decide +kernel), hT (95, 1, 97) (by decide +kernel), hT (95, 2, 98) (by decide +kernel)⟩⟩, ⟨by rw [hK]; rfl, by rw [hK]; rfl, by rw [hK]; rfl, by rw [hK]; rfl, by rw [hK]; rfl, by rw [hK]; rfl, by rw [hK]; rfl, hT (100, 0, 101) (by decide +kernel), hT (100, 1, 102) (by decide +kernel), hT (100, 2, 103) (by decide +kernel), hT (100, 3, 104) (by decide +kernel), hT (100, 4, 105) (by decide +kernel), hT (100, 5, 106) (by decide +kernel)⟩, ⟨by rw [hK]; rfl, by rw [hK]; rfl, hT (142, 0, 143) (by decide +kernel)⟩⟩
    | 3, _ => exact ⟨hT (24, 3, 107) (by decide +kernel), hT (25, 3, 117) (by decide +kernel), hT (18, 3, 127) (by decide +kernel), hT (23, 3, 144) (by decide +kernel), ⟨by rw [hK]; rfl, by rw [hK]; rfl, hT (107, 0, 108) (by decide +kernel), hT (107, 1, 112) (by decide +kernel), hT (107, 2, 116) (by decide +kernel), ⟨by rw [hK]; rfl, by rw [hK]; rfl, by rw [hK]; rfl, by rw [hK]; rfl, hT (108, 0, 109) (by decide +kernel), hT (108, 1, 110) (by decide +kernel), hT (108, 2, 111) (by decide +kernel)⟩, ⟨by rw [hK]; rfl, by rw [hK]; rfl, by rw [hK]; rfl, by rw [hK]; rfl, hT (112, 0, 113) (by decide +kernel), hT (112, 1, 114) (by decide +kernel), hT (112, 2, 115) (by decide +kernel)⟩⟩, ⟨by rw [hK]; rfl, by rw [hK]; rfl, hT (117, 0, 118) (by decide +kernel), hT (117, 1, 122) (by decide +kernel), hT (117, 2, 126) (by decide +kernel), ⟨by rw [hK]; rfl, by rw [hK]; rfl, by rw [hK]; rfl, by rw [hK]; rfl, hT (118, 0, 119) (by decide +kernel), hT (118, 1, 120) (by decide +kernel), hT (118, 2, 121) (by decide +kernel)⟩, ⟨by rw [hK]; rfl, by rw [hK]; rfl, by rw [hK]; rfl, by rw [hK]; rfl, hT (122, 0, 123) (by decide +kernel), hT (122, 1, 124) (by decide +kernel), hT (122, 2, 125) (by decide +kernel)⟩⟩, ⟨by rw [hK]; rfl, by rw [hK]; rfl, by rw [hK]; rfl, by rw [hK]; rfl, by rw [hK]; rfl, by rw [hK]; rfl, by rw [hK]; rfl, hT (127, 0, 128) (by decide +kernel), hT (127, 1, 129) (by decide +kernel), hT (127, 2, 130) (by decide +kernel), hT (127, 3, 131) (by decide +kernel), hT (127, 4, 132) (by decide +kernel), hT (127, 5, 133) (by decide +kernel)⟩, ⟨by rw [hK]; rfl, by rw [hK]; rfl, hT (144, 0, 145) (by decide +kernel)⟩⟩
  · match k, hk with
    | 0, _ => exact ⟨hT (21, 0, 134) (by decide +kernel), ⟨by rw [hK]; rfl, by rw [hK]; rfl, hT (134, 0, 135) (by decide +kernel)⟩⟩
    | 1, _ => exact ⟨hT (21, 1, 136) (by decide +kernel), ⟨by rw [hK]; rfl, by rw [hK]; rfl, hT (136, 0, 137) (by decide +kernel)⟩⟩
  · exact ⟨by rw [hK]; rfl, by rw [hK]; rfl, hT (19, 0, 20) (by decide +kernel)⟩
  · exact ⟨by rw [hK]; rfl, by rw [hK]; rfl, by rw [hK]; rfl, by rw [hK]; rfl, hT (14, 0, 15) (by decide +kernel), hT (14, 1, 16) (by decide +kernel), hT (14, 2, 17) (by decide +kernel)⟩
theorem ctor_ok (L : Nat) (xs : Nat → Int32) : ∃ M2 M4, zV 100 n_PT_init [.ref 2] (znew (zM0 L xs) 10 12) = some (none, M2) ∧ zN M2 = 146 ∧ zV 100 n_Mo_init [.ref 146] (znew M2 11 52) = some (none, M4) ∧ zI M4 1 = xs ∧ Inv L M4 := by
  obtain ⟨N2, N4, c1, c2, c3, f1, f2, f3, f4, f5⟩ := zC_ex
  obtain ⟨M2, e1, r1⟩ := zEn_rel zT 700 9 n_PT_init [.ref 2] (znew (zM0 L xs) 10 12) (znew zM1 10 12) (zRel_0 L xs).nw none N2 c1
  obtain ⟨M4, e2, r2⟩ := zEn_rel zT 700 9 n_Mo_init [.ref 146] (znew M2 11 52) (znew N2 11 52) r1.nw none N4 c3
  have v1 : zV 100 n_PT_init [.ref 2] (znew (zM0 L xs) 10 12) = some (none, M2) := zE_mono zT (by omega) (zE_of zT 700 9 _ _ _ _ e1)
  have v2 : zV 100 n_Mo_init [.ref 146] (znew M2 11 52) = some (none, M4) := zE_mono zT (by omega) (zE_of zT 700 9 _ _ _ _ e2)
  have n2 : zN M2 = 146 := r1.1.symm.trans c2
  have fx : zfx (zM0 L xs) M4 := (((zfx.new (zM0 L xs) 10 12).tr (zE_fx 100 _ _ _ _ _ v1)).tr (zfx.new M2 11 52)).tr (zE_fx 100 _ _ _ _ _ v2)
  obtain ⟨k1, k2⟩ := fx.2.1 1 (show 1 < 2 by decide)
  have hx : zI M4 1 = xs := k2 rfl
  have n4 : zN M4 = 182 := r2.1.symm.trans f1
  have hKn : ∀ a, a ≠ 1 → zK N4 a = zK M4 a := fun a ha => (r2.2.2.1 a ha).1
  have hK : zK M4 = zKc L := by
    funext a
    by_cases h1 : a = 1
    · subst h1
      exact k1
    · by_cases h2 : a < 182
      · rw [← hKn a h1, f2 a h2 h1]
        exact (zKc_ne h1).symm
      · rw [fx.2.2 a (by omega), zK0_ge (by omega), zKc_ge (by omega)]
  have hR := r2.2.2.2.2.2
  have hL := r2.2.2.2.2.1
  have hs : zSh L 0 M4 := zSh_0 n4 hK (fun t ht => by rw [← hR]; exact f3 t ht)
  have gi : ∀ a j x, a ≠ 1 → (a, j, x) ∈ zIls → zI M4 a j = x := fun a j x ha h => by
    rw [← (r2.2.2.1 a ha).2]
    exact f4 _ h
  refine ⟨M2, M4, v1, n2, v2, hx, 0, 0, 0, 0, fun _ => 0, hs, ⟨by omega, gi 4 1 0 (by omega) (by decide +kernel), gi 146 13 0 (by omega) (by decide +kernel), fun i hi => absurd hi (by omega)⟩, (gi 2 10 0 (by omega) (by decide +kernel)).trans (gi 146 18 0 (by omega) (by decide +kernel)).symm, ⟨(gi 2 11 0 (by omega) (by decide +kernel)).trans (gi 146 51 0 (by omega) (by decide +kernel)).symm, fun k hk => by rw [← hL]; exact f5 k hk⟩, ⟨by omega, gi 19 1 0 (by omega) (by decide +kernel), gi 155 0 0 (by omega) (by decide +kernel), fun i hi => absurd hi (by omega)⟩, fun k hk => Or.inl ?_, fun k hk => Or.inl ?_, ⟨by omega, gi 2 9 0 (by omega) (by decide +kernel), gi 146 8 0 (by omega) (by decide +kernel), fun p hp => absurd hp (by omega)⟩⟩
  · match k, hk with
    | 0, _ => exact ⟨gi 22 0 0 (by omega) (by decide +kernel), gi 157 0 0 (by omega) (by decide +kernel)⟩
    | 1, _ => exact ⟨gi 22 1 0 (by omega) (by decide +kernel), gi 157 1 0 (by omega) (by decide +kernel)⟩
  · match k, hk with
    | 0, _ => exact ⟨gi 138 2 (-1) (by omega) (by decide +kernel), gi 179 0 (-4) (by omega) (by decide +kernel)⟩
    | 1, _ => exact ⟨gi 140 2 (-1) (by omega) (by decide +kernel), gi 179 1 (-4) (by omega) (by decide +kernel)⟩
    | 2, _ => exact ⟨gi 142 2 (-1) (by omega) (by decide +kernel), gi 179 2 (-4) (by omega) (by decide +kernel)⟩
    | 3, _ => exact ⟨gi 144 2 (-1) (by omega) (by decide +kernel), gi 179 3 (-4) (by omega) (by decide +kernel)⟩
