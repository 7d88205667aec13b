/-! the reference reads a sequence: its state -/
def fSe (sd l : Nat) (M M' : zM) : Prop := zN M' = zN M ∧ zK M' = zK M ∧ zR M' = zR M ∧ (∀ b, ¬ (b = 146 ∨ b = 148 ∨ (161 ≤ b ∧ b ≤ 163) ∨ b = 166 ∨ (169 ≤ b ∧ b ≤ 173)) → zI M' b = zI M b) ∧ (∀ j, (j < 14 ∨ 20 < j) → j ≠ 27 → j ≠ 37 → j ≠ 39 → zI M' 146 j = zI M 146 j) ∧ (∀ j, (j < 45 * sd ∨ 45 * sd + 45 ≤ j) → zI M' 148 j = zI M 148 j) ∧ (∀ b, ¬ (b = 150 ∨ b = 159 ∨ b = 160 ∨ b = 164 ∨ b = 167 ∨ b = 168) → zL M' b = zL M b) ∧ (∀ j, (j < 203 * sd ∨ 203 * sd + 203 ≤ j) → zL M' 150 j = zL M 150 j) ∧ ∀ j, ((1 ≤ j ∧ j < 1 + l) ∨ (11 ≤ j ∧ j < 11 + l)) → zI M' 173 j = zI M 173 j
theorem fSq_rfl (sd l : Nat) (M : zM) : fSe sd l M M := ⟨rfl, rfl, rfl, fun _ _ => rfl, fun _ _ _ _ _ => rfl, fun _ _ => rfl, fun _ _ => rfl, fun _ _ => rfl, fun _ _ => rfl⟩
theorem fSe.trans {sd l l' : Nat} {M M1 M2 : zM} (h : fSe sd l M M1) (g : fSe sd l' M1 M2) (hl : l ≤ l') : fSe sd l M M2 := by
  obtain ⟨a1, a2, a3, a4, a5, a6, a7, a8, a9⟩ := h
  obtain ⟨b1, b2, b3, b4, b5, b6, b7, b8, b9⟩ := g
  exact ⟨b1.trans a1, b2.trans a2, b3.trans a3, fun b h => (b4 b h).trans (a4 b h), fun j h1 h2 h3 h4 => (b5 j h1 h2 h3 h4).trans (a5 j h1 h2 h3 h4), fun j h => (b6 j h).trans (a6 j h), fun b h => (b7 b h).trans (a7 b h), fun j h => (b8 j h).trans (a8 j h), fun j h => (b9 j (by omega)).trans (a9 j h)⟩
theorem fMc.sq {D sd l : Nat} {M M' : zM} (h : fMc D M M') : fSe sd l M M' := ⟨h.1, h.2.1, h.2.2.1, fun b hb => h.2.2.2.1 b (by omega) (by omega) (by omega) (by omega), fun j h1 h2 _ _ => h.2.2.2.2.1 j h1 h2, fun j _ => by rw [h.2.2.2.1 148 (by omega) (by omega) (by omega) (by omega)], fun b hb => h.2.2.2.2.2.1 b (by omega) (by omega) (by omega), fun j _ => by rw [h.2.2.2.2.2.1 150 (by omega) (by omega) (by omega)], fun j _ => by rw [h.2.2.2.1 173 (by omega) (by omega) (by omega) (by omega)]⟩
theorem fMo.sq {sd l : Nat} {M M' : zM} (h : fMo M M') : fSe sd l M M' := (h.mc (D := 0)).sq
theorem fPc.sq {sd l : Nat} {M M' : zM} (h : fPc sd M M') (h173 : ∀ j, ((1 ≤ j ∧ j < 1 + l) ∨ (11 ≤ j ∧ j < 11 + l)) → zI M' 173 j = zI M 173 j) : fSe sd l M M' := ⟨h.1, h.2.1, h.2.2.1, fun b hb => h.2.2.2.1 b (by omega) (by omega) (by omega) (by omega) (by omega) (by omega) (by omega) (by omega), fun j _ _ _ h4 => h.2.2.2.2.1 j h4, h.2.2.2.2.2.1, fun b hb => h.2.2.2.2.2.2.1 b (by omega) (by omega) (by omega), h.2.2.2.2.2.2.2, h173⟩
theorem EM_sq {L w N sd l : Nat} {β : Nat → Nat} {pt : Nat → Int64} {M M' : zM} (h : EM L w N β pt M) (f : fSe sd l M M') : EM L w N β pt M' := by
  obtain ⟨h1, h2, h3⟩ := h
  refine ⟨zSh_fr h1 f.1 f.2.1 f.2.2.1, ?_, by rw [f.2.2.2.2.2.2.1 165 (by omega)]; exact h3⟩
  unfold tapeM
  rw [f.2.2.2.2.1 13 (by omega) (by omega) (by omega) (by omega), f.2.2.2.1 158 (by omega)]
  exact h2
theorem Qst_fr {sd : Nat} {m : IP} {M M' : zM} (h : Qst sd m M) (e38 : zI M' 146 38 = zI M 146 38) (e39 : zI M' 146 39 = zI M 146 39) (eI : ∀ b, b = 148 ∨ b = 166 ∨ (169 ≤ b ∧ b ≤ 172) → zI M' b = zI M b) (eL : ∀ b, b = 150 ∨ b = 167 ∨ b = 168 → zL M' b = zL M b) : Qst sd m M' := by
  unfold Qst Qok qS qF qT qC qTb qN at *
  rw [e38, e39, eI 148 (by omega), eI 166 (by omega), eI 169 (by omega), eI 170 (by omega), eI 171 (by omega), eI 172 (by omega), eL 150 (by omega), eL 167 (by omega), eL 168 (by omega)]
  exact h
theorem Qst_mc {sd D : Nat} {m : IP} {M M' : zM} (h : Qst sd m M) (f : fMc D M M') : Qst sd m M' := Qst_fr h (f.2.2.2.2.1 38 (by omega) (by omega)) (f.2.2.2.2.1 39 (by omega) (by omega)) (fun b hb => f.2.2.2.1 b (by omega) (by omega) (by omega) (by omega)) (fun b hb => f.2.2.2.2.2.1 b (by omega) (by omega) (by omega))
def oL (j : Nat) : Option Pc → IP
  | none => []
  | some x => [(j, x)]
def chQ (t : Option Pc) (x : Pc) : Pc := match t with
  | none => x
  | some a => chP a x
def orQ (t : Option Pc) (x : Pc) : Pc := match t with
  | none => x
  | some a => orP a x
def ixl (l j : Nat) : Prop := (1 ≤ j ∧ j < 1 + l) ∨ (11 ≤ j ∧ j < 11 + l)
/-- depth l, n signs that are not ended, at the token i; the pieces m of the lower depths, o and t of this one, x the last -/
def SG (L w N : Nat) (β : Nat → Nat) (pt : Nat → Int64) (sd l n i : Nat) (m : IP) (o t x : Option Pc) (M : zM) : Prop := EM L w N β pt M ∧ mTok (tok β N i) M ∧ (tok β N i).1 ≠ 3 ∧ i ≤ N ∧ zI M 146 37 = nI l ∧ zI M 146 20 = nI n ∧ zI M 173 (1 + l) = nI (oN o) ∧ zI M 173 (11 + l) = nI (oN t) ∧ (∀ z, z ∈ m → ixl l z.1) ∧ Qst sd (m ++ oL (1 + l) o ++ oL (11 + l) t ++ oL 0 x) M
theorem oL_mem {j : Nat} {o : Option Pc} {z : Nat × Pc} (h : z ∈ oL j o) : z.1 = j := by
  cases o with
  | none => exact absurd h (by unfold oL; simp)
  | some x =>
    have : z = (j, x) := by simpa [oL] using h
    rw [this]
theorem m_chainsO {d L w sd a b : Nat} {M : zM} {m : IP} {t : Option Pc} {x : Pc} (hd : 3 ≤ d) (hs : zSh L w M) (hsd : sd < 8) (ha : a < 21) (hb : b < 21) (hab : b ≠ a) (h173 : zI M 173 a = nI (oN t)) (h : Qst sd (m ++ oL a t ++ [(b, x)]) M) (hm : ∀ z, z ∈ m → z.1 ≠ a) : ∃ M', zV d n_Mo_chains [.ref 146, .int (nI a), .int (nI b)] M = some (none, M') ∧ fPc sd M M' ∧ zI M' 146 = zI M 146 ∧ zI M' 173 a = nI 1 ∧ (∀ j, j ≠ a → zI M' 173 j = zI M 173 j) ∧ Qst sd (m ++ [(a, chQ t x)]) M' := by
  cases t with
  | none =>
    rw [show oL a none = [] from rfl, List.append_nil] at h
    obtain ⟨e, q⟩ := m_join0 (y0 := n_Mo_chains) (d := d) (by omega) hs ha hb h173 h hm (Or.inl rfl)
    exact ⟨_, e, tkM_f, rfl, tkM_t.2.2.2.2.2.2.2, fun j hj => (tkM_o hj).1, q⟩
  | some y =>
    rw [List.append_assoc] at h
    obtain ⟨M', e, f1, f2, f3, q⟩ := m_chains hd hs hsd ha hb hab h173 h hm
    exact ⟨M', e, f1, f3, by rw [f2]; exact h173, fun j _ => by rw [f2], q⟩
theorem m_choosesO {d L w sd a b : Nat} {M : zM} {m : IP} {t : Option Pc} {x : Pc} (hd : 3 ≤ d) (hs : zSh L w M) (ha : a < 21) (hb : b < 21) (hab : b ≠ a) (h173 : zI M 173 a = nI (oN t)) (h : Qst sd (m ++ oL a t ++ [(b, x)]) M) (hm : ∀ z, z ∈ m → z.1 ≠ a) : ∃ M', zV d n_Mo_chooses [.ref 146, .int (nI a), .int (nI b)] M = some (none, M') ∧ fPc sd M M' ∧ zI M' 146 = zI M 146 ∧ zI M' 173 a = nI 1 ∧ (∀ j, j ≠ a → zI M' 173 j = zI M 173 j) ∧ Qst sd (m ++ [(a, orQ t x)]) M' := by
  cases t with
  | none =>
    rw [show oL a none = [] from rfl, List.append_nil] at h
    obtain ⟨e, q⟩ := m_join0 (y0 := n_Mo_chooses) (d := d) (by omega) hs ha hb h173 h hm (Or.inr rfl)
    exact ⟨_, e, tkM_f, rfl, tkM_t.2.2.2.2.2.2.2, fun j hj => (tkM_o hj).1, q⟩
  | some y =>
    rw [List.append_assoc] at h
    obtain ⟨M', e, f1, f2, f3, q⟩ := m_chooses hd hs ha hb hab h173 h hm
    exact ⟨M', e, f1, f3, by rw [f2]; exact h173, fun j _ => by rw [f2], q⟩
/-! the reference reads numbers -/
theorem m_num_b {d f : Nat} {M : zM} {x y : Int32} (hd : 2 ≤ d) (hK : zK M 146 = (11, 52)) (h18 : zI M 146 18 = nI f) (hf : 0 < f) (hf2 : f < 100) : zV d n_Mo_readNumber [.ref 146, .int x, .int y] M = some (some (.int (nI 0)), M) := by
  obtain ⟨d, rfl, hd1⟩ := zdep hd
  have e3 := m_reads_b (d := d) (by omega) hK h18 hf hf2
  rw [ze_Mo_readNumber]
  unfold zx_Mo_readNumber
  simp only [zg_Mo_readNumber_25]
  unfold zx_Mo_readNumber_25
  simp (disch := omega) only [il, nI_add, nI_mul, nI_sub, nI_div, nI_rem, nI_N, i32_lt, i32_le, nI_toInt, nI_subI, nI_clamp, zinT, zifT, iteT, iteF, zQ, zS, zkc, zI_sI, zL_sL, zI_wI, zL_wL, Nat.reduceEqDiff, Nat.reduceAdd, Nat.reduceMul, Nat.reduceLT, Nat.reduceLeDiff, reduceIte, eq_self, and_self, true_and, and_true, false_and, and_false, true_or, or_true, or_false, false_or, not_true_eq_false, not_false_eq_true, zarr, ne_eq, hK, h18, e3]
theorem m_num {d L w N i lo : Nat} {β : Nat → Nat} {pt : Nat → Int64} {M : zM} (hd : 3 ≤ d) (hk : tkOk (tok β N) N) (hE : EM L w N β pt M) (hm : mTok (tok β N i) M) (h3 : (tok β N i).1 ≠ 3) (hi : i ≤ N) (hlo : lo ≤ 9) : ∃ M' v, zV d n_Mo_readNumber [.ref 146, .int (nI lo), .int (nI 9)] M = some (some (.int (nI v)), M') ∧ fMo M M' ∧ v ≤ 9 ∧ ((∃ e, MF e M' ∧ ∀ (f : Nat → Nat → Rs Pc), sNum (tok β N) lo i f = .inl e) ∨ (mTok (tok β N (tok β N i).2.2.2) M' ∧ (tok β N (tok β N i).2.2.2).1 ≠ 3 ∧ (tok β N i).2.2.2 ≤ N ∧ lo ≤ v ∧ ∀ (f : Nat → Nat → Rs Pc), sNum (tok β N) lo i f = f v (tok β N i).2.2.2)) := by
  obtain ⟨d, rfl, hd1⟩ := zdep hd
  have hK : zK M 146 = (11, 52) := by rw [hE.1.2.1]; rfl
  obtain ⟨c18, c15, c16⟩ := mTok_ok hm h3
  rw [ze_Mo_readNumber]
  unfold zx_Mo_readNumber
  by_cases h2 : (tok β N i).1 = 2
  · have c16' : zI M 146 16 = nI 2 := by rw [c16, h2]; rfl
    have c17 : zI M 146 17 = nI (tok β N i).2.1 := hm.2.2.2.2.2 h2
    have hv := (hk i hi).2.2.2.2.1 h2
    have er := m_requires_t (d := d) (x := 2) (M := M) (by omega)
    by_cases hr : (tok β N i).2.1 < lo ∨ 9 < (tok β N i).2.1
    · have e1 := m_requires_f (d := d) (x := 3) (M := M) (by omega) hK c18
      have e2 := m_reads_b (d := d) (f := 3) (M := zsI (zsI M 146 18 (nI 3)) 146 19 (zI M 146 15)) (by omega) hK rfl (by omega) (by omega)
      refine ⟨_, 0, ?_, (fMo_s M (j := 18) (by omega) (nI 3)).trans (fMo_s _ (j := 19) (by omega) (zI M 146 15)), by omega, Or.inl ⟨(3, plc (tok β N) i), ⟨(show 0 < 3 by decide), (show 3 < 10 by decide), rfl, c15⟩, fun f => ?_⟩⟩
      · simp only [zg_Mo_readNumber_25]
        unfold zx_Mo_readNumber_25
        clear hE hm hk
        generalize (tok β N i).2.1 = V at *
        simp (disch := omega) only [il, nI_add, nI_mul, nI_sub, nI_div, nI_rem, nI_N, i32_lt, i32_le, nI_toInt, nI_subI, nI_clamp, zinT, zifT, iteT, iteF, zQ, zS, zkc, zI_sI, zL_sL, zI_wI, zL_wL, Nat.reduceEqDiff, Nat.reduceAdd, Nat.reduceMul, Nat.reduceLT, Nat.reduceLeDiff, reduceIte, eq_self, and_self, true_and, and_true, false_and, and_false, true_or, or_true, or_false, false_or, not_true_eq_false, not_false_eq_true, zarr, ne_eq, hK, c18, c16', c17, er, mo_in (show 1 ≤ d by omega), i64_toInt, zlit64, e1, e2]
      · unfold sNum
        rw [if_pos h2, if_pos hr]
    · have e1 := m_requires_t (d := d) (x := 3) (M := M) (by omega)
      obtain ⟨M1, e2, f1, -, -, hm1⟩ := m_adv (d := d) (D := 0) (by omega) hE hk hm h3 hi
      refine ⟨M1, (tok β N i).2.1, ?_, f1, by omega, ?_⟩
      · simp only [zg_Mo_readNumber_25]
        unfold zx_Mo_readNumber_25
        clear hE hm hk hm1 f1
        generalize (tok β N i).2.1 = V at *
        simp (disch := omega) only [il, nI_add, nI_mul, nI_sub, nI_div, nI_rem, nI_N, i32_lt, i32_le, nI_toInt, nI_subI, nI_clamp, zinT, zifT, iteT, iteF, zQ, zS, zkc, zI_sI, zL_sL, zI_wI, zL_wL, Nat.reduceEqDiff, Nat.reduceAdd, Nat.reduceMul, Nat.reduceLT, Nat.reduceLeDiff, reduceIte, eq_self, and_self, true_and, and_true, false_and, and_false, true_or, or_true, or_false, false_or, not_true_eq_false, not_false_eq_true, zarr, ne_eq, hK, c18, c16', c17, er, mo_in (show 1 ≤ d by omega), i64_toInt, zlit64, e1, e2]
      · by_cases hb : (tok β N (tok β N i).2.2.2).1 = 3
        · obtain ⟨b1, b2⟩ := mTok_bad hm1 hb
          refine Or.inl ⟨(1, (tok β N (tok β N i).2.2.2).2.2.1), ⟨Nat.zero_lt_one, (show 1 < 10 by decide), b1, b2⟩, fun f => ?_⟩
          unfold sNum
          rw [if_pos h2, if_neg hr, nxt_t hb]
        · refine Or.inr ⟨hm1, hb, (hk i hi).1, by omega, fun f => ?_⟩
          unfold sNum
          rw [if_pos h2, if_neg hr, nxt_f hb]
  · have n16 : ¬ zI M 146 16 = nI 2 := by
      rw [c16]
      refine nI_ne (by split <;> omega) (by omega) ?_
      split <;> omega
    have e1 := m_requires_f (d := d) (x := 2) (M := M) (by omega) hK c18
    have e2 := m_reads_b (d := d) (f := 2) (M := zsI (zsI M 146 18 (nI 2)) 146 19 (zI M 146 15)) (by omega) hK rfl (by omega) (by omega)
    refine ⟨_, 0, ?_, (fMo_s M (j := 18) (by omega) (nI 2)).trans (fMo_s _ (j := 19) (by omega) (zI M 146 15)), by omega, Or.inl ⟨(2, plc (tok β N) i), ⟨Nat.zero_lt_two, (show 2 < 10 by decide), rfl, c15⟩, fun f => ?_⟩⟩
    · simp only [zg_Mo_readNumber_25]
      unfold zx_Mo_readNumber_25
      clear hE hm hk
      simp (disch := omega) only [il, nI_add, nI_mul, nI_sub, nI_div, nI_rem, nI_N, i32_lt, i32_le, nI_toInt, nI_subI, nI_clamp, zinT, zifT, iteT, iteF, zQ, zS, zkc, zI_sI, zL_sL, zI_wI, zL_wL, Nat.reduceEqDiff, Nat.reduceAdd, Nat.reduceMul, Nat.reduceLT, Nat.reduceLeDiff, reduceIte, eq_self, and_self, true_and, and_true, false_and, and_false, true_or, or_true, or_false, false_or, not_true_eq_false, not_false_eq_true, zarr, ne_eq, hK, c18, n16, e1, e2]
    · unfold sNum
      rw [if_neg h2]
