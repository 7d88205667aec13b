/-! text: one call -/
theorem i_small {x : Int32} (h0 : 0 ≤ x.toInt) (h1 : x.toInt ≤ 127) : x = nI (Int32.toNatClampNeg x) ∧ Int32.toNatClampNeg x < 128 := by
  obtain ⟨j, hj, rfl⟩ := nI_of (x := x) (fun h => by
    have h2 : x.toInt < 0 := i32_lt.mp h
    omega)
  rw [nI_toInt hj] at h1
  rw [nI_clamp hj]
  exact ⟨rfl, by omega⟩
theorem Inv_mk {L w w' P P' n t : Nat} {tr : Nat → Nat} {M M3 : zM} (hs3 : zSh L w' M3) (hT : zI M3 4 1 = nI 0 ∧ zI M3 146 13 = nI 0) (hfa : zI M3 2 10 = zI M3 146 18) (hto : zI M 2 11 = zI M 146 51 ∧ pat M) (h11 : zI M3 2 11 = zI M 2 11) (h51 : zI M3 146 51 = zI M 146 51) (htr : iTrace t tr M) (him : ∀ k, k < 2 → iImage M3 k) (hsh : ∀ k, k < 4 → iSheet M k) (hp : iProm w' t P' tr M3) (hI : ∀ b, b = 19 ∨ b = 20 ∨ b = 155 ∨ (138 ≤ b ∧ b ≤ 145) ∨ (179 ≤ b ∧ b ≤ 181) → zI M3 b = zI M b) (hL : zL M3 0 = zL M 0 ∧ zL M3 165 = zL M 165) : Inv L M3 := by
  refine ⟨w', 0, t, P', tr, hs3, ⟨by omega, hT.1, hT.2, fun i hi => absurd hi (by omega)⟩, hfa, ⟨by rw [h11, h51]; exact hto.1, fun k hk => by rw [hL.1, hL.2]; exact hto.2 k hk⟩, iTrace_fr htr (hI 19 (by omega)) (hI 20 (by omega)) (hI 155 (by omega)), him, fun k hk => iSheet_fr (hsh k hk) hk ⟨hI 179 (by omega), hI 180 (by omega), hI 181 (by omega), fun b h1 h2 => hI b (by omega)⟩, hp⟩
/-- a promise that has been read by both -/
theorem iPled_of {y : Pr} {g p : Nat} {M : zM} {hI' : Prop} (hp : p < 4) (hc : PrC y M g) {M0 : zM} (hm : PrM y p M0) (e1 : ∀ j, j < 360 → zI M 147 j = zI M0 148 j) (e2 : ∀ j, j < 1624 → zL M 149 j = zL M0 150 j) (e3 : ∀ j, j < 8 → zI M 151 j = zI M0 152 j) (e4 : ∀ j, j < 16 → zL M 153 j = zL M0 154 j) : iPled (sqP y.1) (sqP y.2.1) y.2.2.1 (oN y.2.2.2) M g p := by
  obtain ⟨⟨c1, c2, c3, c4⟩, s1, s2, k1, k2, k3, k4⟩ := hc
  obtain ⟨-, t1, t2, -, j2, j3, j4⟩ := hm
  obtain ⟨a1, a2⟩ := s1.2.2.2 c1 c3
  obtain ⟨b1, b2⟩ := s2.2.2.2 c2 c4
  obtain ⟨d1, d2⟩ := t1.2.2 c1
  obtain ⟨f1, f2⟩ := t2.2.2 c2
  refine ⟨a1, SeqD_to d1 (by omega) e1 e2, b1, SeqD_to f1 (by omega) e1 e2, fun z => c3 (s1.1.1.mp z), fun z => c4 (s2.1.1.mp z), k1, ?_, k2, k3, by rw [e3 _ (by omega)]; exact j2, by rw [e3 _ (by omega)]; exact j3, ?_, ?_, ?_⟩
  · cases y.2.2.2 with
    | none => show 0 < 2; omega
    | some t => show 1 < 2; omega
  · intro e q he hq
    have he : e < (pC y.1).length := he
    have hl := s1.1.2.2.2.2
    have hg : (pC y.1)[e]? = some (pC y.1)[e] := List.getElem?_eq_getElem he
    rw [a2 e _ hg q hq, e2 _ (by omega), d2 e _ hg q hq]
  · intro e q he hq
    have he : e < (pC y.2.1).length := he
    have hl := s2.1.2.2.2.2
    have hg : (pC y.2.1)[e]? = some (pC y.2.1)[e] := List.getElem?_eq_getElem he
    rw [b2 e _ hg q hq, e2 _ (by omega), f2 e _ hg q hq]
  · intro ho q hq
    cases hy : y.2.2.2 with
    | none =>
      rw [hy] at ho
      exact absurd ho (show ¬ 0 = 1 by decide)
    | some t => rw [k4 t hy q hq, e4 _ (by omega), j4 t hy q hq]
theorem st_text {d L : Nat} {M : zM} (hd : 50 ≤ d) (hi : Inv L M) : Cal d n_PT_text n_Mo_text L [] M := by
  have hi0 := hi
  obtain ⟨w, n, t, P, tr, hs, hT, hfa, hto, htr, him, hsh, hp⟩ := hi
  obtain ⟨d, rfl, hd1⟩ := zdep hd
  obtain ⟨t1, t2, t3, t4⟩ := hT
  have hw := hs.2.2.2.2.2.1
  have hβ : ∀ i, i < n → zI M 5 i = nI (Int32.toNatClampNeg (zI M 5 i)) ∧ Int32.toNatClampNeg (zI M 5 i) < 128 := fun i hi => i_small (t4 i hi).2.1 (t4 i hi).2.2
  generalize hβe : (fun i => Int32.toNatClampNeg (zI M 5 i)) = β at *
  have hβ2 : ∀ i, i < n → zI M 5 i = nI (β i) ∧ β i < 128 := by rw [← hβe]; exact hβ
  have hk : tkOk (tok β n) n := tok_ok (fun i hi => (hβ2 i hi).2)
  have hEC : EC L w n β (zL M 0) M := ⟨hs, ⟨t1, t2, hβ2⟩, rfl⟩
  obtain ⟨M1, b, e1, ho⟩ := re_txt (d := d) (by omega) hk hEC
  unfold Cal
  cases hrr : sTt (tok β n) (zL M 0) with
  | inl e =>
    rw [hrr] at ho
    obtain ⟨f1, z1, z2, z3, z4, rfl⟩ := ho
    have hs1 := zSh_made hs f1.1 f1.2.1 f1.2.2.1
    have e2 := pt_text_bad hs hs1 e1 z3 z4
    generalize hM2 : zsI (zsI M1 4 1 (nI 0)) 2 10 (nI e.1) = M2 at *
    have I2 : ∀ b, b ≠ 2 → b ≠ 4 → zI M2 b = zI M1 b := fun b h1 h2 => by rw [← hM2, zI_ne h1, zI_ne h2]
    have L2 : zL M2 = zL M1 := by rw [← hM2]; rfl
    have hs2 : zSh L w M2 := by rw [← hM2]; exact hs1
    have I12 : ∀ b, ¬ (b = 2 ∨ b = 4 ∨ b = 6 ∨ b = 8 ∨ (11 ≤ b ∧ b ≤ 13)) → (∀ r, 0 ≤ r → r < 4 → b < 36 - 10 * w + 27 * r ∨ 36 - 10 * w + 27 * r + 9 < b) → zI M2 b = zI M b := fun b hb h7 => by rw [I2 b (by omega) (by omega)]; exact f1.2.2.2.1 b (by omega) (by omega) (by omega) (by omega) (by omega) (by omega) h7
    have L12 : ∀ b, ¬ (b = 7 ∨ b = 9 ∨ b = 10) → (∀ r, 0 ≤ r → r < 4 → b < 36 - 10 * w + 27 * r ∨ 36 - 10 * w + 27 * r + 9 < b) → zL M2 b = zL M b := fun b hb h4 => by rw [L2]; exact f1.2.2.2.2.2 b (by omega) (by omega) (by omega) h4
    have hE2 : EM L w n β (zL M 0) M2 := ⟨hs2, ⟨t1, by rw [I12 146 (by omega) (by omega)]; exact t3, fun i hi => ⟨by rw [I12 158 (by omega) (by omega), ← (t4 i hi).1]; exact (hβ2 i hi).1, (hβ2 i hi).2⟩⟩, fun k hk6 => by rw [L12 165 (by omega) (by omega), ← hto.2 k hk6]⟩
    obtain ⟨M', r, M3, e3, f3, ho3⟩ := m_text (d := d + 1) (N := n) t1 (by omega) hk hE2
    rw [hrr] at ho3
    obtain ⟨mf, rfl, rfl⟩ := ho3
    refine ⟨_, M2, _, e2, e3, ?_⟩
    have hs3 : zSh L w (zsI M' 146 13 (nI 0)) := zSh_fr hs2 f3.1 f3.2.1 f3.2.2.1
    have I3 : ∀ b, ¬ (b = 146 ∨ b = 148 ∨ b = 152 ∨ (161 ≤ b ∧ b ≤ 163) ∨ b = 166 ∨ (169 ≤ b ∧ b ≤ 173)) → zI (zsI M' 146 13 (nI 0)) b = zI M2 b := fun b hb => by rw [zI_ne (by omega)]; exact f3.2.2.2.1 b hb
    have L3 : ∀ b, ¬ (b = 150 ∨ b = 154 ∨ b = 159 ∨ b = 160 ∨ b = 164 ∨ b = 167 ∨ b = 168) → zL (zsI M' 146 13 (nI 0)) b = zL M2 b := fun b hb => f3.2.2.2.2.2.2.2.1 b hb
    have J3 : ∀ j, (j < 13 ∨ 20 < j) → j ≠ 27 → j ≠ 37 → j ≠ 38 → j ≠ 39 → zI (zsI M' 146 13 (nI 0)) 146 j = zI M 146 j := fun j h1 h2 h3 h4 h5 => by rw [zI_sI, if_neg (fun z => by omega), f3.2.2.2.2.1 j (by omega) h2 h3 h4 h5, I12 146 (by omega) (by omega)]
    refine Inv_mk (w := w) (P := P) (n := n) hs3 ⟨?_, by rw [zI_sI, if_pos ⟨rfl, rfl⟩]⟩ ?_ hto ?_ (J3 51 (by omega) (by omega) (by omega) (by omega) (by omega)) htr (fun k hk2 => iImage_fr (him k hk2) hk2 ⟨?_, ?_, ?_, fun b h1 h2 => ?_⟩) hsh (iProm_fr4 hp (fun p hp4 b hb => ⟨?_, ?_⟩) ?_ (J3 8 (by omega) (by omega) (by omega) (by omega) (by omega)) ?_ ?_ ?_ ?_) (fun b hb => ?_) ⟨?_, ?_⟩
    · rw [I3 4 (by omega), ← hM2]; rfl
    · rw [I3 2 (by omega), zI_sI, if_neg (fun z => by omega), mf.2.2.1, ← hM2]; rfl
    · rw [I3 2 (by omega), ← hM2, zI_sI, if_neg (fun z => by omega), zI_ne (by omega), f1.2.2.2.1 2 (by omega) (by omega) (by omega) (by omega) (by omega) (by omega) (by omega)]
    · rw [I3 22 (by omega), I12 22 (by omega) (by omega)]
    · rw [I3 157 (by omega), I12 157 (by omega) (by omega)]
    · rw [I3 156 (by omega), I12 156 (by omega) (by omega)]
    · rw [I3 b (by omega), I12 b (by omega) (by omega)]
    · rw [I3 b (by omega), I12 b (by omega) (fun r _ hr => by
        have : w = 0 ∨ w = 1 := by omega
        have : r = 0 ∨ r = 1 ∨ r = 2 ∨ r = 3 := by omega
        omega)]
    · rw [L3 b (by omega), L12 b (by omega) (fun r _ hr => by
        have : w = 0 ∨ w = 1 := by omega
        have : r = 0 ∨ r = 1 ∨ r = 2 ∨ r = 3 := by omega
        omega)]
    · rw [I3 2 (by omega), ← hM2, zI_sI, if_neg (fun z => by omega), zI_ne (by omega), f1.2.2.2.1 2 (by omega) (by omega) (by omega) (by omega) (by omega) (by omega) (by omega)]
    · rw [I3 147 (by omega), I12 147 (by omega) (by omega)]
    · rw [I3 151 (by omega), I12 151 (by omega) (by omega)]
    · rw [L3 149 (by omega), L12 149 (by omega) (by omega)]
    · rw [L3 153 (by omega), L12 153 (by omega) (by omega)]
    · rw [I3 b (by omega), I12 b (by omega) (by omega)]
    · rw [L3 0 (by omega), L12 0 (by omega) (by omega)]
    · rw [L3 165 (by omega), L12 165 (by omega) (by omega)]
  | inr x =>
    rw [hrr] at ho
    obtain ⟨f1, rfl, z2, z3, z4⟩ := ho
    rw [Nat.zero_add] at e1 z2
    have hs1 := zSh_made hs f1.1 f1.2.1 f1.2.2.1
    obtain ⟨M2, e2, hs2, I2, L2, I22, g9, g10, g41, g220, g221, gW⟩ := pt_text_ok (d := d) (by omega) hs hs1 z2 e1 z3
    have I12 : ∀ b, ¬ (b = 2 ∨ b = 4 ∨ b = 22 ∨ b = 6 ∨ b = 8 ∨ (11 ≤ b ∧ b ≤ 13) ∨ (26 ≤ b ∧ b < 134)) → zI M2 b = zI M b := fun b hb => by
      rw [I2 b (by omega) (by omega) (by omega) (by omega)]
      exact f1.2.2.2.1 b (by omega) (by omega) (by omega) (by omega) (by omega) (by omega) (by omega)
    have L12 : ∀ b, ¬ (b = 7 ∨ b = 9 ∨ b = 10 ∨ (26 ≤ b ∧ b < 134)) → zL M2 b = zL M b := fun b hb => by
      rw [L2 b (by omega)]
      exact f1.2.2.2.2.2 b (by omega) (by omega) (by omega) (by omega)
    have hE2 : EM L (1 - w) n β (zL M 0) M2 := ⟨hs2, ⟨t1, by rw [I12 146 (by omega)]; exact t3, fun i hi => ⟨by rw [I12 158 (by omega), ← (t4 i hi).1]; exact (hβ2 i hi).1, (hβ2 i hi).2⟩⟩, fun k hk6 => by rw [L12 165 (by omega), ← hto.2 k hk6]⟩
    obtain ⟨M', r, M3, e3, f3, ho3⟩ := m_text (d := d + 1) (N := n) t1 (by omega) hk hE2
    rw [hrr] at ho3
    obtain ⟨q1, q2, rfl, rfl, q5⟩ := ho3
    refine ⟨_, M2, _, e2, e3, ?_⟩
    have hs3 : zSh L (1 - w) (txM M' x.1.length) := zSh_fr hs2 f3.1 f3.2.1 f3.2.2.1
    have I3 : ∀ b, ¬ (b = 146 ∨ b = 147 ∨ b = 148 ∨ b = 151 ∨ b = 152 ∨ b = 157 ∨ (161 ≤ b ∧ b ≤ 163) ∨ b = 166 ∨ (169 ≤ b ∧ b ≤ 173)) → zI (txM M' x.1.length) b = zI M2 b := fun b hb => by
      unfold txM
      rw [zI_ne (by omega), zI_ne (by omega)]
      show zI (zwI (zwL (zwI (zsI (zsI M' 146 13 (nI 0)) 146 8 (nI x.1.length)) 147 _) 149 _) 151 _) b = _
      rw [zIw_ne (by omega)]
      show zI (zwI (zsI (zsI M' 146 13 (nI 0)) 146 8 (nI x.1.length)) 147 _) b = _
      rw [zIw_ne (by omega), zI_ne (by omega), zI_ne (by omega)]
      exact f3.2.2.2.1 b (by omega)
    have J3 : ∀ j, j ≠ 13 → j ≠ 8 → zI (txM M' x.1.length) 146 j = zI M' 146 j := fun j h1 h2 => by
      unfold txM
      simp (disch := omega) only [zL_sL, zI_sI, zS, iteF, iteT, eq_self, and_self, true_and, and_true, false_and, and_false, if_true, if_false, reduceIte, Nat.reduceEqDiff, zI_wI]
    have J38 : zI (txM M' x.1.length) 146 8 = nI x.1.length ∧ zI (txM M' x.1.length) 146 13 = nI 0 := ⟨rfl, rfl⟩
    have L3 : ∀ b, ¬ (b = 149 ∨ b = 150 ∨ b = 153 ∨ b = 154 ∨ b = 159 ∨ b = 160 ∨ b = 164 ∨ b = 167 ∨ b = 168) → zL (txM M' x.1.length) b = zL M2 b := fun b hb => by
      unfold txM
      show zL (zwL (zwI (zwL (zwI (zsI (zsI M' 146 13 (nI 0)) 146 8 (nI x.1.length)) 147 _) 149 _) 151 _) 153 _) b = _
      rw [zLw_ne (by omega)]
      show zL (zwL (zwI (zsI (zsI M' 146 13 (nI 0)) 146 8 (nI x.1.length)) 147 _) 149 _) b = _
      rw [zLw_ne (by omega)]
      exact f3.2.2.2.2.2.2.2.1 b (by omega)
    have c147 : ∀ j, j < 360 → zI (txM M' x.1.length) 147 j = zI M' 148 j := fun j hj => by
      unfold txM
      simp (disch := omega) only [zL_sL, zI_sI, zS, iteF, iteT, eq_self, and_self, true_and, and_true, false_and, and_false, if_true, if_false, reduceIte, Nat.reduceEqDiff, zI_wI]
      unfold fil
      rw [if_pos (by omega), Nat.sub_zero]
    have c149 : ∀ j, j < 1624 → zL (txM M' x.1.length) 149 j = zL M' 150 j := fun j hj => by
      unfold txM
      show zL (zwL (zwI (zwL (zwI (zsI (zsI M' 146 13 (nI 0)) 146 8 (nI x.1.length)) 147 _) 149 _) 151 _) 153 _) 149 j = _
      rw [zLw_ne (by omega)]
      show zL (zwL (zwI (zsI (zsI M' 146 13 (nI 0)) 146 8 (nI x.1.length)) 147 _) 149 _) 149 j = _
      rw [zLw_eq]
      unfold fil
      rw [if_pos (by omega), Nat.sub_zero]
    have c151 : ∀ j, j < 8 → zI (txM M' x.1.length) 151 j = zI M' 152 j := fun j hj => by
      unfold txM
      simp (disch := omega) only [zL_sL, zI_sI, zS, iteF, iteT, eq_self, and_self, true_and, and_true, false_and, and_false, if_true, if_false, reduceIte, Nat.reduceEqDiff, zI_wI]
      unfold fil
      rw [if_pos (by omega), Nat.sub_zero]
    have c153 : ∀ j, j < 16 → zL (txM M' x.1.length) 153 j = zL M' 154 j := fun j hj => by
      unfold txM
      show zL (zwL (zwI (zwL (zwI (zsI (zsI M' 146 13 (nI 0)) 146 8 (nI x.1.length)) 147 _) 149 _) 151 _) 153 _) 153 j = _
      rw [zLw_eq]
      unfold fil
      rw [if_pos (by omega), Nat.sub_zero]
    have c157 : zI (txM M' x.1.length) 157 0 = nI 0 ∧ zI (txM M' x.1.length) 157 1 = nI 0 := ⟨rfl, rfl⟩
    generalize txM M' x.1.length = M3 at *
    refine Inv_mk (w := w) (P := P) (n := n) hs3 ⟨by rw [I3 4 (by omega)]; exact g41, J38.2⟩ ?_ hto ?_ ?_ htr (fun k hk2 => Or.inl ?_) hsh ⟨q2, by rw [I3 2 (by omega)]; exact g9, J38.1, fun p hp4 => ?_⟩ (fun b hb => ?_) ⟨?_, ?_⟩
    · rw [I3 2 (by omega), g10, J3 18 (by omega) (by omega), q1]
    · rw [I3 2 (by omega), I22 11 (by omega) (by omega), f1.2.2.2.1 2 (by omega) (by omega) (by omega) (by omega) (by omega) (by omega) (by omega)]
    · rw [J3 51 (by omega) (by omega), f3.2.2.2.2.1 51 (by omega) (by omega) (by omega) (by omega) (by omega), I12 146 (by omega)]
    · have : k = 0 ∨ k = 1 := by omega
      rw [I3 22 (by omega)]
      rcases this with rfl | rfl
      · exact ⟨g220, c157.1⟩
      · exact ⟨g221, c157.2⟩
    · obtain ⟨y, hy⟩ : ∃ y, x.1[p]? = some y := ⟨x.1[p], List.getElem?_eq_getElem hp4⟩
      have hc := z4 p y hy
      rw [Nat.zero_add] at hc
      have hgw : 36 - 10 * w + 27 * p = 26 + 10 * (1 - w) + 27 * p := by omega
      have hc3 : PrC y M3 (26 + 10 * (1 - w) + 27 * p) := by
        rw [← hgw]
        refine PrC_fr hc (fun b h1 h2 => ⟨?_, ?_⟩)
        · rw [I3 b (by omega), I2 b (by omega) (by omega) (by omega) (fun r hr => by
            have : w = 0 ∨ w = 1 := by omega
            have : r = 0 ∨ r = 1 ∨ r = 2 ∨ r = 3 := by omega
            omega)]
        · rw [L3 b (by omega), L2 b (fun r hr => by
            have : w = 0 ∨ w = 1 := by omega
            have : r = 0 ∨ r = 1 ∨ r = 2 ∨ r = 3 := by omega
            omega)]
      refine ⟨sqP y.1, sqP y.2.1, y.2.2.1, oN y.2.2.2, 0, by omega, iPled_of (hI' := True) (by omega) hc3 (q5 p y hy) c147 c149 c151 c153, ?_⟩
      obtain ⟨w1, w2, w3⟩ := gW p (by omega)
      refine ⟨by rw [I3 _ (by omega)]; exact w1, fun _ q => absurd q (by omega), fun _ _ q => absurd q (by omega), ?_, ?_, fun _ q => absurd q (by omega), fun _ q => absurd q (by omega)⟩
      · intro u _
        rw [L3 _ (by omega), w2, zb_0]
        exact ⟨fun q => absurd q (by decide), fun q => absurd q.1 (by omega)⟩
      · intro u _
        rw [L3 _ (by omega), w3, zb_0]
        exact ⟨fun q => absurd q (by decide), fun q => absurd q.1 (by omega)⟩
    · rw [I3 b (by omega), I12 b (by omega)]
    · rw [L3 0 (by omega), L12 0 (by omega)]
    · rw [L3 165 (by omega), L12 165 (by omega)]
