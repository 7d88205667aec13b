/-! the class reads one side of a promise -/
def fSd (s : Nat) (M M' : zM) : Prop := zN M' = zN M ∧ zK M' = zK M ∧ (∀ a i, ¬ (a = 8 ∧ i = 6) → zR M' a i = zR M a i) ∧ (∀ b, b ≠ 4 → b ≠ 6 → b ≠ 8 → b ≠ 11 → b ≠ 12 → b ≠ 13 → b ≠ s → zI M' b = zI M b) ∧ zI M' 4 1 = zI M 4 1 ∧ ∀ b, b ≠ 7 → b ≠ 9 → b ≠ 10 → b ≠ s → b ≠ s + 1 → b ≠ s + 2 → b ≠ s + 3 → zL M' b = zL M b
theorem fBu.sd {s : Nat} {M M' : zM} (h : fBu s M M') : fSd s M M' := ⟨h.1, h.2.1, fun a i _ => by rw [h.2.2.1], h.2.2.2.1, h.2.2.2.2.1, h.2.2.2.2.2⟩
theorem fSd.trans {s : Nat} {M M1 M2 : zM} (h : fSd s M M1) (g : fSd s M1 M2) : fSd s M M2 := by
  obtain ⟨a1, a2, a3, a4, a5, a6⟩ := h
  obtain ⟨c1, c2, c3, c4, c5, c6⟩ := g
  exact ⟨c1.trans a1, c2.trans a2, fun a i h => (c3 a i h).trans (a3 a i h), fun b h1 h2 h3 h4 h5 h6 h7 => (c4 b h1 h2 h3 h4 h5 h6 h7).trans (a4 b h1 h2 h3 h4 h5 h6 h7), c5.trans a5, fun b h1 h2 h3 h4 h5 h6 h7 => (c6 b h1 h2 h3 h4 h5 h6 h7).trans (a6 b h1 h2 h3 h4 h5 h6 h7)⟩
theorem EC_sd {L w N s : Nat} {β : Nat → Nat} {pt : Nat → Int64} {M M' : zM} (hs : 26 ≤ s) (h : EC L w N β pt M) (f : fSd s M M') : EC L w N β pt M' := by
  obtain ⟨h1, h2, h3⟩ := h
  refine ⟨zSh_made h1 f.1 f.2.1 f.2.2.1, ?_, by rw [f.2.2.2.2.2 0 (by omega) (by omega) (by omega) (by omega) (by omega) (by omega) (by omega)]; exact h3⟩
  unfold tapeC
  rw [f.2.2.2.2.1, f.2.2.2.1 5 (by omega) (by omega) (by omega) (by omega) (by omega) (by omega) (by omega)]
  exact h2
theorem tape_I {N : Nat} {β : Nat → Nat} {M M' : zM} (h : tapeC N β M) (h4 : zI M' 4 = zI M 4) (h5 : zI M' 5 = zI M 5) : tapeC N β M' := by
  unfold tapeC
  rw [h4, h5]
  exact h
/-- a side has been read -/
def SdOk (s : Nat) (x : Pc) (M : zM) : Prop := wfp x ∧ zI M s 8 = nI (min 1000 (pF x)) ∧ zI M s 10 = nI (if pN x ≤ 40 then 0 else 1) ∧ (pN x ≤ 40 → pF x ≠ 0 → SeqC (sqP x) M s ∧ ∀ e t, (pC x)[e]? = some t → ∀ q, q < 4 → zL M (s + 3) (4 * e + q) = t q)
theorem SdOk_fr {s : Nat} {x : Pc} {M M' : zM} (h : SdOk s x M) (h0 : zI M' s = zI M s) (h1 : ∀ b, s ≤ b → b ≤ s + 3 → zL M' b = zL M b) : SdOk s x M' := by
  obtain ⟨a1, a2, a3, a4⟩ := h
  refine ⟨a1, by rw [h0]; exact a2, by rw [h0]; exact a3, fun b1 b2 => ⟨SeqC_fr (a4 b1 b2).1 h0 h1, ?_⟩⟩
  rw [h1 (s + 3) (by omega) (by omega)]
  exact (a4 b1 b2).2
theorem re_side {d L w N i s : Nat} {β : Nat → Nat} {pt : Nat → Int64} {M : zM} (hd : 43 ≤ d) (hk : tkOk (tok β N) N) (hE : EC L w N β pt M) (hq : zSeq M s) (hs26 : 26 ≤ s) (hc : cTok (tok β N i) M) (h3 : (tok β N i).1 ≠ 3) (hi : i ≤ N) (hD : zI M 6 1 = nI 0) : ∃ M1 M2 b, zV d n_Bu_begin [.ref 8, .ref s] M = some (none, M1) ∧ zV d n_Re_readChoice [.ref 3, .int (nI 0)] M1 = some (some (.int b), M2) ∧ EC L w N β pt M1 ∧ EC L w N β pt M2 ∧ fSd s M M2 ∧ ((b = nI 0 ∧ ∃ e, sSq (tok β N) pt 8 i = .inl e ∧ 0 < e.1 ∧ e.1 < 10 ∧ zI M2 4 6 = nI e.1 ∧ zI M2 4 7 = nI e.2) ∨ (b = nI 1 ∧ ∃ M3, zV d n_Bu_finish [.ref 8] M2 = some (none, M3) ∧ EC L w N β pt M3 ∧ fSd s M M3 ∧ ((∃ e, sSq (tok β N) pt 8 i = .inl e ∧ 0 < e.1 ∧ e.1 < 10 ∧ zI M3 4 6 = nI e.1 ∧ zI M3 4 7 = nI e.2 ∧ zI M3 4 3 = nI 3) ∨ (∃ x j, sSq (tok β N) pt 8 i = .inr (x, j) ∧ j ≤ N ∧ cTok (tok β N j) M3 ∧ (tok β N j).1 ≠ 3 ∧ zI M3 6 1 = nI 0 ∧ SdOk s x M3)))) := by
  obtain ⟨M1, e1, a1, a2, a3, a4, a5, a6⟩ := bu_begin (d := d) (by omega) hE.1 hq hs26
  have hE1 : EC L w N β pt M1 := ⟨zSh_made hE.1 a1 a2 a3, tape_I hE.2.1 (a4 4 (by omega) (by omega)) (a4 5 (by omega) (by omega)), by rw [a5]; exact hE.2.2⟩
  have hq1 := zSeq_made hq hs26 a2 a3
  have f1 : fSd s M M1 := ⟨a1, a2, a3, fun b _ _ h3 _ _ _ h7 => a4 b h3 h7, by rw [a4 4 (by omega) (by omega)], fun b _ _ _ _ _ _ _ => by rw [a5]⟩
  obtain ⟨M2, b, e2, ho⟩ := re_seq_all (L := L) (w := w) (N := N) (β := β) (pt := pt) hk hs26 8 0 (by omega) d i [] M1 (by omega) hE1 hq1 (cTok_I hc (a4 4 (by omega) (by omega))) h3 hi (by rw [a4 6 (by omega) (by omega)]; exact hD) a6 (by show 0 + 19 ≤ 19; omega)
  cases hrr : sSq (tok β N) pt 8 i with
  | inl e =>
    rw [hrr] at ho
    obtain ⟨o1, o2, o3, o4, o5, o6⟩ := ho
    have hE2 := EC_bu hs26 hE1 o1
    have f2 : fSd s M M2 := f1.trans o1.sd
    rcases o6 with rfl | ⟨rfl, o7, o8, x, o9⟩
    · exact ⟨M1, M2, nI 0, e1, e2, hE1, hE2, f2, Or.inl ⟨rfl, e, rfl, o2, o3, o4, o5⟩⟩
    · obtain ⟨M3, e3, g1, g2, g3, g4⟩ := bu_finish (d := d) (by omega) hE2.1 (zSeq_fr hq1 o1.2.1 o1.2.2.1) hs26 o9
      exact ⟨M1, M2, nI 1, e1, e2, hE1, hE2, f2, Or.inr ⟨rfl, M3, e3, EC_bu hs26 hE2 g1, f2.trans g1.sd, Or.inl ⟨e, rfl, o2, o3, by rw [g2]; exact o4, by rw [g2]; exact o5, by rw [g2]; exact o7⟩⟩⟩
  | inr z =>
    rw [hrr] at ho
    obtain ⟨o1, o2, o3, o4, o5, o6, o7⟩ := ho
    have hE2 := EC_bu hs26 hE1 o1
    have f2 : fSd s M M2 := f1.trans o1.sd
    obtain ⟨M3, e3, g1, g2, g3, g4⟩ := bu_finish (d := d) (by omega) hE2.1 (zSeq_fr hq1 o1.2.1 o1.2.2.1) hs26 o7
    exact ⟨M1, M2, b, e1, e2, hE1, hE2, f2, Or.inr ⟨o2, M3, e3, EC_bu hs26 hE2 g1, f2.trans g1.sd, Or.inr ⟨z.1, z.2, rfl, o3, cTok_I o4 g2, o5, by rw [g3]; exact o6, g4⟩⟩⟩
/-! what a text says: promises -/
abbrev Pr : Type := Pc × Pc × Nat × Option T4
def sPe (X : Nat → Tk) (a b : Pc) (ki : Nat) (o : Option T4) (j : Nat) : Rs Pr :=
  if (X j).1 = 59 then (if pF a = 0 ∨ pF b = 0 then .inl (5, plc X j) else if pN a ≤ 40 ∧ pN b ≤ 40 then nxt X j (fun k => .inr ((a, b, ki, o), k)) else .inl (6, plc X j)) else .inl (2, plc X j)
def sPr2 (X : Nat → Tk) (pt : Nat → Int64) (a : Pc) (ki : Nat) (j : Nat) : Rs Pr :=
  nxt X j (fun j1 => rb (sSq X pt 8 j1) (fun b j2 => rb (sOf X pt j2) (fun o j3 => sPe X a b ki o j3)))
def sPr (X : Nat → Tk) (pt : Nat → Int64) (i : Nat) : Rs Pr :=
  rb (sSq X pt 8 i) (fun a j => if (X j).1 = 61 then sPr2 X pt a 0 j else if (X j).1 = 62 then sPr2 X pt a 1 j else .inl (2, plc X j))
/-- the class's pledge at g says y -/
def PrC (y : Pr) (M : zM) (g : Nat) : Prop := (pN y.1 ≤ 40 ∧ pN y.2.1 ≤ 40 ∧ pF y.1 ≠ 0 ∧ pF y.2.1 ≠ 0) ∧ SdOk (g + 1) y.1 M ∧ SdOk (g + 5) y.2.1 M ∧ y.2.2.1 < 2 ∧ zI M g 4 = nI y.2.2.1 ∧ zI M g 3 = nI (oN y.2.2.2) ∧ ∀ t, y.2.2.2 = some t → ∀ q, q < 4 → zL M (g + 9) q = t q
def fPg (g : Nat) (M M' : zM) : Prop := zN M' = zN M ∧ zK M' = zK M ∧ (∀ a i, ¬ (a = 8 ∧ i = 6) → zR M' a i = zR M a i) ∧ (∀ b, b ≠ 4 → b ≠ 6 → b ≠ 8 → b ≠ 11 → b ≠ 12 → b ≠ 13 → (b < g ∨ g + 9 < b) → zI M' b = zI M b) ∧ zI M' 4 1 = zI M 4 1 ∧ ∀ b, b ≠ 7 → b ≠ 9 → b ≠ 10 → (b < g ∨ g + 9 < b) → zL M' b = zL M b
theorem fPg.trans {g : Nat} {M M1 M2 : zM} (h : fPg g M M1) (f : fPg g M1 M2) : fPg g M M2 := by
  obtain ⟨a1, a2, a3, a4, a5, a6⟩ := h
  obtain ⟨c1, c2, c3, c4, c5, c6⟩ := f
  exact ⟨c1.trans a1, c2.trans a2, fun a i h => (c3 a i h).trans (a3 a i h), fun b h1 h2 h3 h4 h5 h6 h7 => (c4 b h1 h2 h3 h4 h5 h6 h7).trans (a4 b h1 h2 h3 h4 h5 h6 h7), c5.trans a5, fun b h1 h2 h3 h4 => (c6 b h1 h2 h3 h4).trans (a6 b h1 h2 h3 h4)⟩
theorem fSd.pg {g s : Nat} {M M' : zM} (h : fSd s M M') (h1 : g ≤ s) (h2 : s + 3 ≤ g + 9) : fPg g M M' := ⟨h.1, h.2.1, h.2.2.1, fun b a1 a2 a3 a4 a5 a6 a7 => h.2.2.2.1 b a1 a2 a3 a4 a5 a6 (by omega), h.2.2.2.2.1, fun b a1 a2 a3 a4 => h.2.2.2.2.2 b a1 a2 a3 (by omega) (by omega) (by omega) (by omega)⟩
theorem fOf.pg {g : Nat} {M M' : zM} (h : fOf g M M') : fPg g M M' := ⟨h.1, h.2.1, fun a i _ => by rw [h.2.2.1], fun b a1 a2 _ _ _ _ a7 => h.2.2.2.1 b a1 a2 (by omega), h.2.2.2.2.1, fun b a1 _ _ a4 => h.2.2.2.2.2.2 b a1 (by omega)⟩
theorem fTa.pg {g : Nat} {M M' : zM} (h : fTa M M') : fPg g M M' := ⟨h.1, h.2.1, fun a i _ => by rw [h.2.2.1], fun b a1 _ _ _ _ _ _ => h.2.2.2.2.1 b a1, h.2.2.2.2.2, fun b _ _ _ _ => by rw [h.2.2.2.1]⟩
def OutP (X : Nat → Tk) (N g : Nat) (M M' : zM) (b : Int32) : Rs Pr → Prop
  | .inl e => fPg g M M' ∧ 0 < e.1 ∧ e.1 < 10 ∧ zI M' 4 6 = nI e.1 ∧ zI M' 4 7 = nI e.2 ∧ (b = nI 0 ∨ (b = nI 1 ∧ zI M' 4 3 = nI 3))
  | .inr x => fPg g M M' ∧ b = nI 1 ∧ x.2 ≤ N ∧ cTok (X x.2) M' ∧ (X x.2).1 ≠ 3 ∧ zI M' 6 1 = nI 0 ∧ PrC x.1 M' g
theorem OutP_pre {X : Nat → Tk} {N g : Nat} {M0 M M' : zM} {b : Int32} {r : Rs Pr} (hf : fPg g M0 M) (h : OutP X N g M M' b r) : OutP X N g M0 M' b r := by
  cases r with
  | inl e => exact ⟨hf.trans h.1, h.2⟩
  | inr x => exact ⟨hf.trans h.1, h.2⟩
/-- a refusal -/
theorem out_refP {d L w N i x g : Nat} {β : Nat → Nat} {pt : Nat → Int64} {M : zM} (hd : 1 ≤ d) (h : EC L w N β pt M) (hc : cTok (tok β N i) M) (h3 : (tok β N i).1 ≠ 3) (hx : 0 < x) (hx2 : x < 10) (hg : 26 ≤ g) : ∃ M', zV d n_Ta_refuse [.ref 4, .int (nI x)] M = some (some (.int (nI 0)), M') ∧ OutP (tok β N) N g M M' (nI 0) (.inl (x, plc (tok β N) i)) := by
  obtain ⟨M', e, o⟩ := out_ref (D := 0) hd h hc h3 hx hx2 (fCo_rfl 0 M)
  obtain ⟨o1, o2, o3, o4, o5, o6⟩ := o
  exact ⟨M', e, (o1.of hg).pg, o2, o3, o4, o5, Or.inl rfl⟩
theorem re_off_bad {d L w N g : Nat} {β : Nat → Nat} {pt : Nat → Int64} {M : zM} (hd : 1 ≤ d) (hE : EC L w N β pt M) (hg : zK M g = (2, 5)) (h3 : zI M 4 3 = nI 3) : zV d n_Re_readOff [.ref 3, .ref g] M = some (some (.int (nI 1)), zsI M g 3 (nI 0)) := by
  obtain ⟨d, rfl, hd1⟩ := zdep hd
  obtain ⟨k3, k4, k6, r0, r1⟩ := c_k4 hE
  have i3 : zI (zsI M g 3 (nI 0)) g 3 = nI 0 := by rw [zI_sI, if_pos ⟨rfl, rfl⟩]
  rw [ze_Re_readOff]
  unfold zx_Re_readOff
  clear hE
  simp (disch := omega) only [il, nI_add, nI_mul, nI_sub, nI_div, nI_rem, nI_N, i32_lt, i32_le, nI_toInt, nI_subI, nI_clamp, zinT, zifT, iteT, iteF, zQ, zS, zkc, zI_sI, zL_sL, zI_wI, zL_wL, Nat.reduceEqDiff, Nat.reduceAdd, Nat.reduceMul, Nat.reduceLT, Nat.reduceLeDiff, reduceIte, eq_self, and_self, true_and, and_true, false_and, and_false, true_or, or_true, or_false, false_or, not_true_eq_false, not_false_eq_true, zarr, ne_eq, k3, k4, r0, h3, hg, i3]
