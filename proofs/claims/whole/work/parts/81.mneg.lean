/-! the reference reads a condition: an operand -/
theorem tok_end {β : Nat → Nat} {N : Nat} : (tok β N N).1 = 0 := by
  unfold tok
  rw [Nat.sub_self]
  unfold skp tkAt
  rw [if_pos (Nat.le_refl N)]
noncomputable def c32 (d wh : Nat) (M : zM) : zO := zG (d + 1) n_Mo_readCondition 32 [some (.ref 146), some (.int (nI wh)), none, some (.int (nI 1)), none] [] M
/-- an operand was read: a fault, or its table joined to the ands -/
def OpM (L w N : Nat) (β : Nat → Nat) (pt : Nat → Int64) (d wh l n : Nat) (o a : Option T4) (M0 M' : zM) (z : zO) : Rs T4 → Prop
  | .inl e => fMc l M0 M' ∧ zK M' 146 = (11, 52) ∧ MF e M' ∧ z = some (none, M')
  | .inr x => fMc l M0 M' ∧ zK M' 146 = (11, 52) ∧ MG L w N β pt l n x.2 (o, some (anO a x.1), false) M' ∧ z = c32 d wh M'
/-- an X was read: a fault, or it stands in ors and ands -/
def AnM (L w N : Nat) (β : Nat → Nat) (pt : Nat → Int64) (d wh l n : Nat) (M0 M' : zM) (z : zO) : Rs T4 → Prop
  | .inl e => fMc l M0 M' ∧ zK M' 146 = (11, 52) ∧ MF e M' ∧ z = some (none, M')
  | .inr x => fMc l M0 M' ∧ zK M' 146 = (11, 52) ∧ (∃ o t, orO o t = x.1 ∧ MG L w N β pt l n x.2 (o, some t, false) M') ∧ (tok β N x.2).1 ≠ 38 ∧ (tok β N x.2).1 ≠ 124 ∧ z = c32 d wh M'
def RA (L w N : Nat) (β : Nat → Nat) (pt : Nat → Int64) (d wh n : Nat) (r : Nat → Rs T4) : Prop := ∀ l i M, l ≠ 0 → l ≤ n → MG L w N β pt l n i (none, none, false) M → ∃ M', AnM L w N β pt d wh l n M M' (opF d wh M) (r i)
theorem opF_eq {d wh : Nat} {M M' : zM} (h : zG d n_Mo_readOperand 2 [some (.ref 146), some (.int (nI 1))] [] M = zG d n_Mo_readOperand 2 [some (.ref 146), some (.int (nI 1))] [] M') : opF d wh M = opF d wh M' := by
  unfold opF
  rw [h]
theorem opF_none {d wh : Nat} {M M' : zM} (h : zG d n_Mo_readOperand 2 [some (.ref 146), some (.int (nI 1))] [] M = some (none, M')) : opF d wh M = c32 d wh M' := by
  unfold opF c32
  rw [h, zbV_S]
theorem c32_MF {d wh : Nat} {M : zM} {e : Nat × Nat} (hK : zK M 146 = (11, 52)) (h : MF e M) (hw : wh < 2) : c32 d wh M = some (none, M) := by
  obtain ⟨h1, h2, h3, h4⟩ := h
  exact m_c32_bad (by omega) hK h3 h1 (by omega) hw (by omega)
theorem m_plain {L w N d wh n l i : Nat} {β : Nat → Nat} {pt : Nat → Int64} {R : Option (Nat → Rs T4)} {M : zM} {o a : Option T4} {g : Bool} (hd : 3 ≤ d) (hk : tkOk (tok β N) N) (hw : wh < 2) (hl : l ≤ n) (hn : n ≤ 8) (hR : (n = 8 ∧ R = none) ∨ (n < 8 ∧ ∃ r, R = some r ∧ RA L w N β pt d wh (n + 1) r)) (h : MG L w N β pt l n i (o, a, g) M) (h33 : (tok β N i).1 ≠ 33) : ∃ M', OpM L w N β pt d wh l n o a M M' (opF d wh M) (rb (sPl (tok β N) pt R i) (fun t j => .inr (if g = true then ngt t else t, j))) := by
  unfold sPl
  by_cases h1 : (tok β N i).1 = 1
  · rw [if_pos h1]
    obtain ⟨M', e1, f1, k1, hc⟩ := m_op_wire (d := d) (by omega) hk (by omega) h h1
    refine ⟨M', ?_⟩
    rcases hc with ⟨hb, hf⟩ | ⟨hb, hg⟩
    · rw [nxt_t hb]
      exact ⟨f1, k1, hf, (opF_none e1).trans (c32_MF k1 hf hw)⟩
    · rw [nxt_f hb]
      exact ⟨f1, k1, hg, opF_none e1⟩
  · rw [if_neg h1]
    by_cases h40 : (tok β N i).1 = 40
    · rw [if_pos h40]
      rcases hR with ⟨rfl, rfl⟩ | ⟨hn8, r, rfl, hr⟩
      · obtain ⟨M', e1, f1, k1, hf⟩ := m_op_par8 (d := d) hd hk (by omega) h h40 rfl
        exact ⟨M', f1, k1, hf, (opF_none e1).trans (c32_MF k1 hf hw)⟩
      · obtain ⟨M1, f1, k1, hc⟩ := m_op_par (d := d) hd hk (by omega) h h40 hn8
        show ∃ M', OpM L w N β pt d wh l n o a M M' (opF d wh M) (rb (nxt (tok β N) i (fun j => rb (r j) (fun t j' => if (tok β N j').1 = 41 then nxt (tok β N) j' (fun k => .inr (t, k)) else .inl (2, plc (tok β N) j')))) (fun t j => .inr (if g = true then ngt t else t, j)))
        rcases hc with ⟨hb, hf, e1⟩ | ⟨hb, hg, e1⟩
        · rw [nxt_t hb]
          exact ⟨M1, fMc_le f1 (by omega), k1, hf, (opF_none e1).trans (c32_MF k1 hf hw)⟩
        · rw [nxt_f hb, opF_eq e1]
          have hv1 : lvl M1 l (o, a, g) := lvl_fMc h.2.2.2.2.2.2 f1 (by omega)
          obtain ⟨M2, ho⟩ := hr (l + 1) _ M1 (by omega) (by omega) hg
          cases hrr : r (tok β N i).2.2.2 with
          | inl e =>
            rw [hrr] at ho
            obtain ⟨o1, o2, o3, o4⟩ := ho
            exact ⟨M2, fMc_le (f1.trans o1 (Nat.le_refl _)) (by omega), o2, o3, o4⟩
          | inr x =>
            rw [hrr] at ho
            obtain ⟨o1, o2, ⟨o', t', ox, og⟩, n38, n124, o4⟩ := ho
            have f2 := f1.trans o1 (Nat.le_refl _)
            have hv2 : lvl M2 l (o, a, g) := lvl_fMc hv1 o1 (by omega)
            show ∃ M', OpM L w N β pt d wh l n o a M M' (opF d wh M1) (rb (if (tok β N x.2).1 = 41 then nxt (tok β N) x.2 (fun k => .inr (x.1, k)) else .inl (2, plc (tok β N) x.2)) (fun t j => .inr (if g = true then ngt t else t, j)))
            rw [o4]
            by_cases h41 : (tok β N x.2).1 = 41
            · rw [if_pos h41]
              obtain ⟨M3, f3, k3, hc3⟩ := m_c_close (d := d + 1) (by omega) hk (by omega) hw og hv2 hn8 h41
              refine ⟨M3, ?_⟩
              rcases hc3 with ⟨hb3, hf3, e3⟩ | ⟨hb3, hg3, e3⟩
              · rw [nxt_t hb3]
                exact ⟨(fMc_le f2 (by omega)).trans f3 (Nat.le_refl _), k3, hf3, e3⟩
              · rw [nxt_f hb3]
                rw [ox] at hg3
                exact ⟨(fMc_le f2 (by omega)).trans f3 (Nat.le_refl _), k3, hg3, e3⟩
            · rw [if_neg h41]
              obtain ⟨M3, e3, f3, k3, hf3, -⟩ := m_c22_0 (d := d + 1) (wh := wh) (by omega) (by omega) og
              have e4 : c32 d wh M2 = some (none, M3) := by
                unfold c32
                rw [m_c32_0 (by omega) hk (by omega) og (Or.inr h41), m_c140_no (by omega) hk (by omega) hw og (Or.inr ⟨n38, n124⟩), e3]
              exact ⟨M3, (fMc_le f2 (by omega)).trans (fMc_le f3 (by omega)) (Nat.le_refl _), k3, hf3 (by omega), e4⟩
    · rw [if_neg h40]
      obtain ⟨M', e1, f1, k1, hf⟩ := m_op_other (d := d) (by omega) hk h h33 h40 h1
      exact ⟨M', f1, k1, hf, (opF_none e1).trans (c32_MF k1 hf hw)⟩
theorem m_neg {L w N d wh n : Nat} {β : Nat → Nat} {pt : Nat → Int64} {R : Option (Nat → Rs T4)} (hN : N ≤ 200) (hd : 3 ≤ d) (hk : tkOk (tok β N) N) (hw : wh < 2) (hn : n ≤ 8) (hR : (n = 8 ∧ R = none) ∨ (n < 8 ∧ ∃ r, R = some r ∧ RA L w N β pt d wh (n + 1) r)) : ∀ f g l i M o a, 200 ≤ f + i → l ≤ n → MG L w N β pt l n i (o, a, g) M → ∃ M', OpM L w N β pt d wh l n o a M M' (opF d wh M) (sNeg (tok β N) pt R f g i) := by
  intro f
  induction f with
  | zero =>
    intro g l i M o a hf hl h
    have hi : i = N := by have := h.2.2.2.1; omega
    have h33 : (tok β N i).1 ≠ 33 := by rw [hi, tok_end]; decide
    exact m_plain hd hk hw hl hn hR h h33
  | succ f ih =>
    intro g l i M o a hf hl h
    by_cases h33 : (tok β N i).1 = 33
    · have es : sNeg (tok β N) pt R (f + 1) g i = nxt (tok β N) i (fun j => sNeg (tok β N) pt R f (!g) j) := if_pos h33
      rw [es]
      obtain ⟨M1, e1, f1, k1, hc⟩ := m_op_not (d := d) (by omega) hk (by omega) h h33
      have hadv := (hk i h.2.2.2.1).2.2.1 (by omega)
      rw [opF_eq e1]
      rcases hc with ⟨hb, hf1⟩ | ⟨hb, hg⟩
      · rw [nxt_t hb]
        exact ⟨M1, f1, k1, hf1, opF_bad (by omega) k1 hf1 hw⟩
      · rw [nxt_f hb]
        obtain ⟨M2, ho⟩ := ih (!g) l _ M1 o a (by omega) hl hg
        refine ⟨M2, ?_⟩
        cases hrr : sNeg (tok β N) pt R f (!g) (tok β N i).2.2.2 with
        | inl e =>
          rw [hrr] at ho
          exact ⟨f1.trans ho.1 (Nat.le_refl _), ho.2⟩
        | inr x =>
          rw [hrr] at ho
          exact ⟨f1.trans ho.1 (Nat.le_refl _), ho.2⟩
    · have es : sNeg (tok β N) pt R (f + 1) g i = rb (sPl (tok β N) pt R i) (fun t j => .inr (if g = true then ngt t else t, j)) := if_neg h33
      rw [es]
      exact m_plain hd hk hw hl hn hR h h33
