/-! the reference reads a condition: & and | -/
def AlM (L w N : Nat) (β : Nat → Nat) (pt : Nat → Int64) (d wh l n : Nat) (o : Option T4) (M0 M' : zM) (z : zO) : Rs T4 → Prop
  | .inl e => fMc l M0 M' ∧ zK M' 146 = (11, 52) ∧ MF e M' ∧ z = some (none, M')
  | .inr x => fMc l M0 M' ∧ zK M' 146 = (11, 52) ∧ MG L w N β pt l n x.2 (o, some x.1, false) M' ∧ (tok β N x.2).1 ≠ 38 ∧ z = c32 d wh M'
theorem AlM_pre {L w N d wh l n : Nat} {β : Nat → Nat} {pt : Nat → Int64} {o : Option T4} {M0 M M' : zM} {z : zO} {r : Rs T4} (f : fMc l M0 M) (h : AlM L w N β pt d wh l n o M M' z r) : AlM L w N β pt d wh l n o M0 M' z r := by
  cases r with
  | inl e => exact ⟨f.trans h.1 (Nat.le_refl _), h.2⟩
  | inr x => exact ⟨f.trans h.1 (Nat.le_refl _), h.2⟩
theorem m_allL {L w N d wh n l : Nat} {β : Nat → Nat} {pt : Nat → Int64} {R : Option (Nat → Rs T4)} {o : Option T4} (hN : N ≤ 200) (hd : 3 ≤ d) (hk : tkOk (tok β N) N) (hw : wh < 2) (hn : n ≤ 8) (hl : l ≤ n) (hin : l ≠ 0 ∨ wh = 1) (hM : ∀ r, R = some r → Mono N r) (hR : (n = 8 ∧ R = none) ∨ (n < 8 ∧ ∃ r, R = some r ∧ RA L w N β pt d wh (n + 1) r)) : ∀ f t i M, 200 ≤ f + i → MG L w N β pt l n i (o, some t, false) M → ∃ M', AlM L w N β pt d wh l n o M M' (c32 d wh M) (sAlL (tok β N) pt R f t i) := by
  intro f
  induction f with
  | zero =>
    intro t i M hf h
    have hi : i = N := by have := h.2.2.2.1; omega
    refine ⟨M, fMc_rfl l M, by rw [h.1.1.2.1]; rfl, h, ?_, rfl⟩
    show (tok β N i).1 ≠ 38
    rw [hi, tok_end]; decide
  | succ f ih =>
    intro t i M hf h
    have hi := h.2.2.2.1
    by_cases hop : (tok β N i).1 = 38
    · have es : sAlL (tok β N) pt R (f + 1) t i = nxt (tok β N) i (fun j => rb (sNeg (tok β N) pt R 200 false j) (fun u k => sAlL (tok β N) pt R f (anT t u) k)) := if_pos hop
      rw [es]
      obtain ⟨M1, f1, k1, hc⟩ := m_c_and (d := d) (by omega) hk (by omega) hw h hin hop
      have hadv := (hk i hi).2.2.1 (by omega)
      rcases hc with ⟨hb, hf1, e1⟩ | ⟨hb, hg, e1⟩
      · rw [nxt_t hb]
        exact ⟨M1, f1, k1, hf1, e1⟩
      · rw [nxt_f hb]
        obtain ⟨M2, ho⟩ := m_neg hN hd hk hw hn hR 200 false l _ M1 o (some t) (by omega) hl hg
        have e1' : c32 d wh M = opF d wh M1 := e1
        rw [e1']
        cases hrr : sNeg (tok β N) pt R 200 false (tok β N i).2.2.2 with
        | inl e =>
          rw [hrr] at ho
          exact ⟨M2, f1.trans ho.1 (Nat.le_refl _), ho.2⟩
        | inr x =>
          rw [hrr] at ho
          obtain ⟨o1, o2, o3, o4⟩ := ho
          have hmo := sNeg_mono hk hM 200 false _ x.1 x.2 (hk i hi).1 hrr
          obtain ⟨M3, ho3⟩ := ih (anT t x.1) x.2 M2 (by omega) o3
          refine ⟨M3, ?_⟩
          rw [o4]
          exact AlM_pre (f1.trans o1 (Nat.le_refl _)) ho3
    · have es : sAlL (tok β N) pt R (f + 1) t i = .inr (t, i) := if_neg hop
      rw [es]
      exact ⟨M, fMc_rfl l M, by rw [h.1.1.2.1]; rfl, h, hop, rfl⟩
theorem m_all {L w N d wh n l i : Nat} {β : Nat → Nat} {pt : Nat → Int64} {R : Option (Nat → Rs T4)} {o : Option T4} {M : zM} (hN : N ≤ 200) (hd : 3 ≤ d) (hk : tkOk (tok β N) N) (hw : wh < 2) (hn : n ≤ 8) (hl : l ≤ n) (hin : l ≠ 0 ∨ wh = 1) (hM : ∀ r, R = some r → Mono N r) (hR : (n = 8 ∧ R = none) ∨ (n < 8 ∧ ∃ r, R = some r ∧ RA L w N β pt d wh (n + 1) r)) (h : MG L w N β pt l n i (o, none, false) M) : ∃ M', AlM L w N β pt d wh l n o M M' (opF d wh M) (sAl (tok β N) pt R i) := by
  obtain ⟨M1, ho⟩ := m_neg hN hd hk hw hn hR 200 false l i M o none (by omega) hl h
  unfold sAl
  cases hrr : sNeg (tok β N) pt R 200 false i with
  | inl e =>
    rw [hrr] at ho
    exact ⟨M1, ho⟩
  | inr x =>
    rw [hrr] at ho
    obtain ⟨o1, o2, o3, o4⟩ := ho
    obtain ⟨M2, ho2⟩ := m_allL hN hd hk hw hn hl hin hM hR 200 x.1 x.2 M1 (by omega) o3
    refine ⟨M2, ?_⟩
    rw [o4]
    exact AlM_pre o1 ho2
theorem AnM_pre {L w N d wh l n : Nat} {β : Nat → Nat} {pt : Nat → Int64} {M0 M M' : zM} {z : zO} {r : Rs T4} (f : fMc l M0 M) (h : AnM L w N β pt d wh l n M M' z r) : AnM L w N β pt d wh l n M0 M' z r := by
  cases r with
  | inl e => exact ⟨f.trans h.1 (Nat.le_refl _), h.2⟩
  | inr x => exact ⟨f.trans h.1 (Nat.le_refl _), h.2⟩
theorem m_anyL {L w N d wh n l : Nat} {β : Nat → Nat} {pt : Nat → Int64} {R : Option (Nat → Rs T4)} (hN : N ≤ 200) (hd : 3 ≤ d) (hk : tkOk (tok β N) N) (hw : wh < 2) (hn : n ≤ 8) (hl : l ≤ n) (hin : l ≠ 0 ∨ wh = 1) (hM : ∀ r, R = some r → Mono N r) (hR : (n = 8 ∧ R = none) ∨ (n < 8 ∧ ∃ r, R = some r ∧ RA L w N β pt d wh (n + 1) r)) : ∀ f o t i M, 200 ≤ f + i → MG L w N β pt l n i (o, some t, false) M → (tok β N i).1 ≠ 38 → ∃ M', AnM L w N β pt d wh l n M M' (c32 d wh M) (sAnL (tok β N) pt R f (orO o t) i) := by
  intro f
  induction f with
  | zero =>
    intro o t i M hf h h38
    have hi : i = N := by have := h.2.2.2.1; omega
    refine ⟨M, fMc_rfl l M, by rw [h.1.1.2.1]; rfl, ⟨o, t, rfl, h⟩, h38, ?_, rfl⟩
    show (tok β N i).1 ≠ 124
    rw [hi, tok_end]; decide
  | succ f ih =>
    intro o t i M hf h h38
    have hi := h.2.2.2.1
    by_cases hop : (tok β N i).1 = 124
    · have es : sAnL (tok β N) pt R (f + 1) (orO o t) i = nxt (tok β N) i (fun j => rb (sAl (tok β N) pt R j) (fun u k => sAnL (tok β N) pt R f (orT (orO o t) u) k)) := if_pos hop
      rw [es]
      obtain ⟨M1, f1, k1, hc⟩ := m_c_or (d := d) (by omega) hk (by omega) hw h hin hop
      have hadv := (hk i hi).2.2.1 (by omega)
      rcases hc with ⟨hb, hf1, e1⟩ | ⟨hb, hg, e1⟩
      · rw [nxt_t hb]
        exact ⟨M1, f1, k1, hf1, e1⟩
      · rw [nxt_f hb]
        obtain ⟨M2, ho⟩ := m_all hN hd hk hw hn hl hin hM hR hg
        have e1' : c32 d wh M = opF d wh M1 := e1
        rw [e1']
        cases hrr : sAl (tok β N) pt R (tok β N i).2.2.2 with
        | inl e =>
          rw [hrr] at ho
          exact ⟨M2, f1.trans ho.1 (Nat.le_refl _), ho.2⟩
        | inr x =>
          rw [hrr] at ho
          obtain ⟨o1, o2, o3, o5, o4⟩ := ho
          have hmo := sAl_mono hk hM _ x.1 x.2 (hk i hi).1 hrr
          obtain ⟨M3, ho3⟩ := ih (some (orO o t)) x.1 x.2 M2 (by omega) o3 o5
          refine ⟨M3, ?_⟩
          rw [o4]
          exact AnM_pre (f1.trans o1 (Nat.le_refl _)) ho3
    · have es : sAnL (tok β N) pt R (f + 1) (orO o t) i = .inr (orO o t, i) := if_neg hop
      rw [es]
      exact ⟨M, fMc_rfl l M, by rw [h.1.1.2.1]; rfl, ⟨o, t, rfl, h⟩, h38, hop, rfl⟩
theorem m_any {L w N d wh n l i : Nat} {β : Nat → Nat} {pt : Nat → Int64} {R : Option (Nat → Rs T4)} {M : zM} (hN : N ≤ 200) (hd : 3 ≤ d) (hk : tkOk (tok β N) N) (hw : wh < 2) (hn : n ≤ 8) (hl : l ≤ n) (hin : l ≠ 0 ∨ wh = 1) (hM : ∀ r, R = some r → Mono N r) (hR : (n = 8 ∧ R = none) ∨ (n < 8 ∧ ∃ r, R = some r ∧ RA L w N β pt d wh (n + 1) r)) (h : MG L w N β pt l n i (none, none, false) M) : ∃ M', AnM L w N β pt d wh l n M M' (opF d wh M) (sAnB (tok β N) pt R i) := by
  obtain ⟨M1, ho⟩ := m_all hN hd hk hw hn hl hin hM hR h
  unfold sAnB
  cases hrr : sAl (tok β N) pt R i with
  | inl e =>
    rw [hrr] at ho
    exact ⟨M1, ho⟩
  | inr x =>
    rw [hrr] at ho
    obtain ⟨o1, o2, o3, o5, o4⟩ := ho
    obtain ⟨M2, ho2⟩ := m_anyL hN hd hk hw hn hl hin hM hR 200 none x.1 x.2 M1 (by omega) o3 o5
    refine ⟨M2, ?_⟩
    rw [o4]
    exact AnM_pre o1 ho2
/-- at every depth -/
theorem m_RA {L w N d wh : Nat} {β : Nat → Nat} {pt : Nat → Int64} (hN : N ≤ 200) (hd : 3 ≤ d) (hk : tkOk (tok β N) N) (hw : wh < 2) : ∀ k n, n + k = 8 → RA L w N β pt d wh n (sAn (tok β N) pt k) ∧ ((n = 8 ∧ rK (tok β N) pt k = none) ∨ (n < 8 ∧ ∃ r, rK (tok β N) pt k = some r ∧ RA L w N β pt d wh (n + 1) r)) := by
  intro k
  induction k with
  | zero =>
    intro n hn
    have hR : (n = 8 ∧ rK (tok β N) pt 0 = none) ∨ (n < 8 ∧ ∃ r, rK (tok β N) pt 0 = some r ∧ RA L w N β pt d wh (n + 1) r) := Or.inl ⟨by omega, rfl⟩
    refine ⟨fun l i M hl hln h => ?_, hR⟩
    rw [sAn_eq]
    exact m_any hN hd hk hw (by omega) hln (Or.inl hl) (rK_mono hk 0) hR h
  | succ k ih =>
    intro n hn
    have hR : (n = 8 ∧ rK (tok β N) pt (k + 1) = none) ∨ (n < 8 ∧ ∃ r, rK (tok β N) pt (k + 1) = some r ∧ RA L w N β pt d wh (n + 1) r) := Or.inr ⟨by omega, _, rfl, (ih (n + 1) (by omega)).1⟩
    refine ⟨fun l i M hl hln h => ?_, hR⟩
    rw [sAn_eq]
    exact m_any hN hd hk hw (by omega) hln (Or.inl hl) (rK_mono hk (k + 1)) hR h
