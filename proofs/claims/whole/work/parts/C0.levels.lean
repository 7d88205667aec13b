/-! sequences move on; the reference reads them at every depth -/
theorem sC_mono {X : Nat → Tk} {N : Nat} {pt : Nat → Int64} (hk : tkOk X N) (k : Nat) : Mono N (sC X pt k) := sNeg_mono hk (rK_mono hk k) 200 false
theorem sPt_mono {X : Nat → Tk} {N : Nat} {R : Option (Nat → Rs Pc)} {C : Nat → Rs T4} (hk : tkOk X N) (hC : Mono N C) (hR : ∀ r, R = some r → Mono N r) : Mono N (sPt X R C) := by
  intro i v j hi h
  have hki := hk i hi
  unfold sPt at h
  by_cases h1 : (X i).1 = 123
  · rw [if_pos h1] at h
    cases R with
    | none => exact absurd h (by simp)
    | some r =>
      obtain ⟨t, j', e1, e2⟩ := rb_inr (nxt_inr h)
      have g1 := hki.2.2.1 (by omega)
      obtain ⟨g2, g3⟩ := hR r rfl _ _ _ hki.1 e1
      by_cases h41 : (X j').1 = 125
      · rw [if_pos h41] at e2
        have e : (X j').2.2.2 = j := congrArg Prod.snd (Sum.inr.inj (nxt_inr e2))
        have g4 := (hk j' g3).2.1
        have g5 := (hk j' g3).1
        omega
      · rw [if_neg h41] at e2; exact absurd e2 (by simp)
  · rw [if_neg h1] at h
    obtain ⟨t, j', e1, e2⟩ := rb_inr h
    have e : j' = j := congrArg Prod.snd (Sum.inr.inj e2)
    subst e
    exact hC i t j' hi e1
theorem sNum_inr {X : Nat → Tk} {lo i : Nat} {f : Nat → Nat → Rs Pc} {y : Pc × Nat} (h : sNum X lo i f = .inr y) : ∃ v, f v (X i).2.2.2 = .inr y := by
  unfold sNum at h
  by_cases h2 : (X i).1 = 2
  · rw [if_pos h2] at h
    by_cases hr : (X i).2.1 < lo ∨ 9 < (X i).2.1
    · rw [if_pos hr] at h; exact absurd h (by simp)
    · rw [if_neg hr] at h
      exact ⟨_, nxt_inr h⟩
  · rw [if_neg h2] at h; exact absurd h (by simp)
theorem sRpB_mono {X : Nat → Tk} {N : Nat} (hk : tkOk X N) {x v : Pc} {i j : Nat} (hi : i ≤ N) (h : sRpB X x i = .inr (v, j)) : i ≤ j ∧ j ≤ N := by
  unfold sRpB at h
  by_cases h1 : (X i).1 = 42
  · rw [if_pos h1] at h
    obtain ⟨v1, h2⟩ := sNum_inr (nxt_inr h)
    obtain ⟨v2, h3⟩ := sNum_inr h2
    have e : (X (X (X i).2.2.2).2.2.2).2.2.2 = j := congrArg Prod.snd (Sum.inr.inj h3)
    have g1 := hk i hi
    have g2 := hk _ g1.1
    have g3 := hk _ g2.1
    omega
  · rw [if_neg h1] at h
    have e : i = j := congrArg Prod.snd (Sum.inr.inj h)
    omega
theorem sRp_mono {X : Nat → Tk} {N : Nat} {R : Option (Nat → Rs Pc)} {C : Nat → Rs T4} (hk : tkOk X N) (hC : Mono N C) (hR : ∀ r, R = some r → Mono N r) : Mono N (sRp X R C) := by
  intro i v j hi h
  obtain ⟨t, j', e1, e2⟩ := rb_inr h
  obtain ⟨g2, g3⟩ := sPt_mono hk hC hR i t j' hi e1
  have := sRpB_mono hk g3 e2
  omega
theorem sChL_mono {X : Nat → Tk} {N : Nat} {R : Option (Nat → Rs Pc)} {C : Nat → Rs T4} (hk : tkOk X N) (hC : Mono N C) (hR : ∀ r, R = some r → Mono N r) : ∀ f t i v j, i ≤ N → sChL X R C f t i = .inr (v, j) → i ≤ j ∧ j ≤ N := by
  intro f
  induction f with
  | zero =>
    intro t i v j hi h
    have e : i = j := congrArg Prod.snd (Sum.inr.inj h)
    omega
  | succ f ih =>
    intro t i v j hi h
    unfold sChL at h
    by_cases hop : (X i).1 = 44
    · rw [if_pos hop] at h
      obtain ⟨u, k, e1, e2⟩ := rb_inr (nxt_inr h)
      have g1 := (hk i hi).2.1
      obtain ⟨g2, g3⟩ := sRp_mono hk hC hR _ _ _ (hk i hi).1 e1
      have := ih _ _ _ _ g3 e2
      omega
    · rw [if_neg hop] at h
      have e : i = j := congrArg Prod.snd (Sum.inr.inj h)
      omega
theorem sCh_mono {X : Nat → Tk} {N : Nat} {R : Option (Nat → Rs Pc)} {C : Nat → Rs T4} (hk : tkOk X N) (hC : Mono N C) (hR : ∀ r, R = some r → Mono N r) : Mono N (sCh X R C) := by
  intro i v j hi h
  obtain ⟨t, j', e1, e2⟩ := rb_inr h
  obtain ⟨g2, g3⟩ := sRp_mono hk hC hR _ _ _ hi e1
  have := sChL_mono hk hC hR 200 t j' v j g3 e2
  omega
theorem sSqL_mono {X : Nat → Tk} {N : Nat} {R : Option (Nat → Rs Pc)} {C : Nat → Rs T4} (hk : tkOk X N) (hC : Mono N C) (hR : ∀ r, R = some r → Mono N r) : ∀ f t i v j, i ≤ N → sSqL X R C f t i = .inr (v, j) → i ≤ j ∧ j ≤ N := by
  intro f
  induction f with
  | zero =>
    intro t i v j hi h
    have e : i = j := congrArg Prod.snd (Sum.inr.inj h)
    omega
  | succ f ih =>
    intro t i v j hi h
    unfold sSqL at h
    by_cases hop : (X i).1 = 47
    · rw [if_pos hop] at h
      obtain ⟨u, k, e1, e2⟩ := rb_inr (nxt_inr h)
      have g1 := (hk i hi).2.1
      obtain ⟨g2, g3⟩ := sCh_mono hk hC hR _ _ _ (hk i hi).1 e1
      have := ih _ _ _ _ g3 e2
      omega
    · rw [if_neg hop] at h
      have e : i = j := congrArg Prod.snd (Sum.inr.inj h)
      omega
theorem sSqB_mono {X : Nat → Tk} {N : Nat} {R : Option (Nat → Rs Pc)} {C : Nat → Rs T4} (hk : tkOk X N) (hC : Mono N C) (hR : ∀ r, R = some r → Mono N r) : Mono N (sSqB X R C) := by
  intro i v j hi h
  obtain ⟨t, j', e1, e2⟩ := rb_inr h
  obtain ⟨g2, g3⟩ := sCh_mono hk hC hR _ _ _ hi e1
  have := sSqL_mono hk hC hR 200 t j' v j g3 e2
  omega
theorem sSq_mono {X : Nat → Tk} {N : Nat} {pt : Nat → Int64} (hk : tkOk X N) : ∀ k, Mono N (sSq X pt k)
  | 0 => sSqB_mono hk (sC_mono hk 0) (fun r h => absurd h (by simp))
  | k + 1 => sSqB_mono hk (sC_mono hk (k + 1)) (fun r h => by
    have : sSq X pt k = r := Option.some.inj h
    rw [← this]
    exact sSq_mono hk k)
theorem qK_mono {X : Nat → Tk} {N : Nat} {pt : Nat → Int64} (hk : tkOk X N) : ∀ k r, qK X pt k = some r → Mono N r
  | 0, r, h => absurd h (by unfold qK; simp)
  | k + 1, r, h => by
    have : sSq X pt k = r := Option.some.inj h
    rw [← this]
    exact sSq_mono hk k
/-- results: a part; a part with its times; a chain; a choice -/
def XP (L w N : Nat) (β : Nat → Nat) (pt : Nat → Int64) (d sd l n : Nat) (m : IP) (o t : Option Pc) (M0 M' : zM) (z : zO) : Rs Pc → Prop
  | .inl e => fSe sd l M0 M' ∧ zK M' 146 = (11, 52) ∧ MF e M' ∧ z = some (none, M')
  | .inr x => fSe sd l M0 M' ∧ zK M' 146 = (11, 52) ∧ SG L w N β pt sd l n x.2 m o t (some x.1) M' ∧ z = edF d sd M'
def XR (L w N : Nat) (β : Nat → Nat) (pt : Nat → Int64) (d sd l n : Nat) (m : IP) (o t : Option Pc) (M0 M' : zM) (z : zO) : Rs Pc → Prop
  | .inl e => fSe sd l M0 M' ∧ zK M' 146 = (11, 52) ∧ MF e M' ∧ z = some (none, M')
  | .inr x => fSe sd l M0 M' ∧ zK M' 146 = (11, 52) ∧ SG L w N β pt sd l n x.2 m o (some (chQ t x.1)) none M' ∧ z = e2F d sd M'
def XC (L w N : Nat) (β : Nat → Nat) (pt : Nat → Int64) (d sd l n : Nat) (m : IP) (o : Option Pc) (M0 M' : zM) (z : zO) : Rs Pc → Prop
  | .inl e => fSe sd l M0 M' ∧ zK M' 146 = (11, 52) ∧ MF e M' ∧ z = some (none, M')
  | .inr x => fSe sd l M0 M' ∧ zK M' 146 = (11, 52) ∧ SG L w N β pt sd l n x.2 m o (some x.1) none M' ∧ (tok β N x.2).1 ≠ 44 ∧ z = e2F d sd M'
def XS (L w N : Nat) (β : Nat → Nat) (pt : Nat → Int64) (d sd l n : Nat) (m : IP) (M0 M' : zM) (z : zO) : Rs Pc → Prop
  | .inl e => fSe sd l M0 M' ∧ zK M' 146 = (11, 52) ∧ MF e M' ∧ z = some (none, M')
  | .inr x => fSe sd l M0 M' ∧ zK M' 146 = (11, 52) ∧ (∃ o t, x.1 = orQ o t ∧ SG L w N β pt sd l n x.2 m o (some t) none M') ∧ (tok β N x.2).1 ≠ 44 ∧ (tok β N x.2).1 ≠ 47 ∧ z = e2F d sd M'
theorem XC_pre {L w N d sd l n : Nat} {β : Nat → Nat} {pt : Nat → Int64} {m : IP} {o : Option Pc} {M0 M M' : zM} {z : zO} {r : Rs Pc} (f : fSe sd l M0 M) (h : XC L w N β pt d sd l n m o M M' z r) : XC L w N β pt d sd l n m o M0 M' z r := by
  cases r with
  | inl e => exact ⟨f.trans h.1 (Nat.le_refl _), h.2⟩
  | inr x => exact ⟨f.trans h.1 (Nat.le_refl _), h.2⟩
theorem XS_pre {L w N d sd l n : Nat} {β : Nat → Nat} {pt : Nat → Int64} {m : IP} {M0 M M' : zM} {z : zO} {r : Rs Pc} (f : fSe sd l M0 M) (h : XS L w N β pt d sd l n m M M' z r) : XS L w N β pt d sd l n m M0 M' z r := by
  cases r with
  | inl e => exact ⟨f.trans h.1 (Nat.le_refl _), h.2⟩
  | inr x => exact ⟨f.trans h.1 (Nat.le_refl _), h.2⟩
/-- a sequence within { is read as r says -/
def RS (L w N : Nat) (β : Nat → Nat) (pt : Nat → Int64) (d sd n : Nat) (r : Nat → Rs Pc) : Prop := ∀ l i m M, 1 ≤ l → l ≤ n → SG L w N β pt sd l n i m none none none M → ∃ M', XS L w N β pt d sd l n m M M' (bgF d sd M) (r i)
theorem x_part {L w N d sd l n k i : Nat} {β : Nat → Nat} {pt : Nat → Int64} {m : IP} {o t : Option Pc} {R : Option (Nat → Rs Pc)} {M : zM} (hN : N ≤ 200) (hd : 5 ≤ d) (hk : tkOk (tok β N) N) (hsd : sd < 8) (hn : n + k = 8) (hl : l ≤ n) (hM : ∀ r, R = some r → Mono N r) (hR : (n = 8 ∧ R = none) ∨ (n < 8 ∧ ∃ r, R = some r ∧ RS L w N β pt d sd (n + 1) r)) (h : SG L w N β pt sd l n i m o t none M) : ∃ M', XP L w N β pt d sd l n m o t M M' (bgF d sd M) (sPt (tok β N) R (sC (tok β N) pt k) i) := by
  have hi := h.2.2.2.1
  unfold sPt
  by_cases h123 : (tok β N i).1 = 123
  · rw [if_pos h123]
    rcases hR with ⟨rfl, rfl⟩ | ⟨hn8, r, rfl, hr⟩
    · obtain ⟨M1, e1, f1, k1, hf⟩ := bg_brace8 (d := d) (by omega) hk (by omega) h h123 rfl
      exact ⟨M1, f1, k1, hf, e1⟩
    · obtain ⟨M1, f1, k1, hc⟩ := bg_brace (d := d) (by omega) hk (by omega) h h123 hn8
      show ∃ M', XP L w N β pt d sd l n m o t M M' (bgF d sd M) (nxt (tok β N) i (fun j => rb (r j) (fun x j' => if (tok β N j').1 = 125 then nxt (tok β N) j' (fun k => .inr (x, k)) else .inl (2, plc (tok β N) j'))))
      rcases hc with ⟨hb, hf, e1⟩ | ⟨hb, f1', hg, e1⟩
      · rw [nxt_t hb]
        exact ⟨M1, f1, k1, hf, e1⟩
      · rw [nxt_f hb, e1]
        obtain ⟨M2, ho⟩ := hr (l + 1) _ _ M1 (by omega) (by omega) hg
        cases hrr : r (tok β N i).2.2.2 with
        | inl e =>
          rw [hrr] at ho
          exact ⟨M2, f1.trans ho.1 (by omega), ho.2⟩
        | inr x =>
          rw [hrr] at ho
          obtain ⟨o1, o2, ⟨oo, to, ox, hg2⟩, n44, n47, o3⟩ := ho
          have ff : fSe sd (l + 1) M M2 := f1'.trans o1 (Nat.le_refl _)
          have h1 : zI M2 173 (1 + l) = nI (oN o) := by rw [ff.2.2.2.2.2.2.2.2 _ (by omega)]; exact h.2.2.2.2.2.2.1
          have h11 : zI M2 173 (11 + l) = nI (oN t) := by rw [ff.2.2.2.2.2.2.2.2 _ (by omega)]; exact h.2.2.2.2.2.2.2.1
          have hmix := h.2.2.2.2.2.2.2.2.1
          show ∃ M', XP L w N β pt d sd l n m o t M M' (bgF d sd M1) (if (tok β N x.2).1 = 125 then nxt (tok β N) x.2 (fun k => .inr (x.1, k)) else .inl (2, plc (tok β N) x.2))
          rw [o3]
          by_cases h125 : (tok β N x.2).1 = 125
          · rw [if_pos h125]
            obtain ⟨M3, f3, k3, hc3⟩ := e2_close (d := d) (by omega) hk hsd (by omega) hn8 hmix h1 h11 hg2 h125
            have fA : fSe sd l M M3 := ((fSq_rfl sd l M).trans ff (by omega)).trans f3 (Nat.le_refl _)
            rcases hc3 with ⟨hb3, hf3, e3⟩ | ⟨hb3, hg3, e3⟩
            · rw [nxt_t hb3]
              exact ⟨M3, fA, k3, hf3, e3⟩
            · rw [nxt_f hb3]
              refine ⟨M3, fA, k3, ?_, e3⟩
              show SG L w N β pt sd l n _ m o t (some x.1) M3
              rw [ox]
              exact hg3
          · rw [if_neg h125]
            obtain ⟨M3, e3, f3, k3, hf3⟩ := s86_deep (d := d + 1) (by omega) hg2 (by omega) (by omega)
            refine ⟨M3, ((fSq_rfl sd l M).trans ff (by omega)).trans f3 (by omega), k3, hf3, ?_⟩
            rw [e2_out (by omega) hk (by omega) hg2 (Or.inr h125), aft_stop (by omega) hk hg2 n44 n47]
            exact e3
  · rw [if_neg h123]
    obtain ⟨M1, f1, k1, hc⟩ := bg_cond (d := d) hN hd hk hsd (by omega) hn h h123
    rcases hc with ⟨e, he, hf, e1⟩ | ⟨u, j, he, hg, e1⟩
    · rw [he]
      exact ⟨M1, f1, k1, hf, e1⟩
    · rw [he]
      exact ⟨M1, f1, k1, hg, e1⟩
theorem x_rep {L w N d sd l n k i : Nat} {β : Nat → Nat} {pt : Nat → Int64} {m : IP} {o t : Option Pc} {R : Option (Nat → Rs Pc)} {M : zM} (hN : N ≤ 200) (hd : 5 ≤ d) (hk : tkOk (tok β N) N) (hsd : sd < 8) (hn : n + k = 8) (hl : l ≤ n) (hM : ∀ r, R = some r → Mono N r) (hR : (n = 8 ∧ R = none) ∨ (n < 8 ∧ ∃ r, R = some r ∧ RS L w N β pt d sd (n + 1) r)) (h : SG L w N β pt sd l n i m o t none M) : ∃ M', XR L w N β pt d sd l n m o t M M' (bgF d sd M) (sRp (tok β N) R (sC (tok β N) pt k) i) := by
  obtain ⟨M1, ho⟩ := x_part hN hd hk hsd hn hl hM hR h
  unfold sRp
  cases hrr : sPt (tok β N) R (sC (tok β N) pt k) i with
  | inl e =>
    rw [hrr] at ho
    exact ⟨M1, ho⟩
  | inr x =>
    rw [hrr] at ho
    obtain ⟨o1, o2, o3, o4⟩ := ho
    obtain ⟨M2, f2, k2, hc⟩ := ed_times (d := d) (by omega) hk hsd (by omega) o3
    show ∃ M', XR L w N β pt d sd l n m o t M M' (bgF d sd M) (sRpB (tok β N) x.1 x.2)
    rw [o4]
    rcases hc with ⟨e, he, hf, e1⟩ | ⟨y, j, he, hg, e1⟩
    · rw [he]
      exact ⟨M2, o1.trans f2 (Nat.le_refl _), k2, hf, e1⟩
    · rw [he]
      exact ⟨M2, o1.trans f2 (Nat.le_refl _), k2, hg, e1⟩
theorem x_chL {L w N d sd l n k : Nat} {β : Nat → Nat} {pt : Nat → Int64} {m : IP} {o : Option Pc} {R : Option (Nat → Rs Pc)} (hN : N ≤ 200) (hd : 5 ≤ d) (hk : tkOk (tok β N) N) (hsd : sd < 8) (hn : n + k = 8) (hl : l ≤ n) (hM : ∀ r, R = some r → Mono N r) (hR : (n = 8 ∧ R = none) ∨ (n < 8 ∧ ∃ r, R = some r ∧ RS L w N β pt d sd (n + 1) r)) : ∀ f t i M, 200 ≤ f + i → SG L w N β pt sd l n i m o (some t) none M → ∃ M', XC L w N β pt d sd l n m o M M' (e2F d sd M) (sChL (tok β N) R (sC (tok β N) pt k) f t i) := by
  intro f
  induction f with
  | zero =>
    intro t i M hf h
    have hi : i = N := by have := h.2.2.2.1; omega
    refine ⟨M, fSq_rfl sd l M, by rw [h.1.1.2.1]; rfl, h, ?_, rfl⟩
    show (tok β N i).1 ≠ 44
    rw [hi, tok_end]; decide
  | succ f ih =>
    intro t i M hf h
    have hi := h.2.2.2.1
    by_cases hop : (tok β N i).1 = 44
    · have es : sChL (tok β N) R (sC (tok β N) pt k) (f + 1) t i = nxt (tok β N) i (fun j => rb (sRp (tok β N) R (sC (tok β N) pt k) j) (fun y k' => sChL (tok β N) R (sC (tok β N) pt k) f (chP t y) k')) := if_pos hop
      rw [es, e2_out (by omega) hk (by omega) h (Or.inr (by omega))]
      obtain ⟨M1, f1, k1, hc⟩ := aft_comma (d := d) (by omega) hk h hop
      have hadv := (hk i hi).2.2.1 (by omega)
      rcases hc with ⟨hb, hf1, e1⟩ | ⟨hb, hg, e1⟩
      · rw [nxt_t hb]
        exact ⟨M1, f1, k1, hf1, e1⟩
      · rw [nxt_f hb, e1]
        obtain ⟨M2, ho⟩ := x_rep hN hd hk hsd hn hl hM hR hg
        cases hrr : sRp (tok β N) R (sC (tok β N) pt k) (tok β N i).2.2.2 with
        | inl e =>
          rw [hrr] at ho
          exact ⟨M2, f1.trans ho.1 (Nat.le_refl _), ho.2⟩
        | inr x =>
          rw [hrr] at ho
          obtain ⟨o1, o2, o3, o4⟩ := ho
          have hmo := sRp_mono hk (sC_mono hk k) hM _ x.1 x.2 (hk i hi).1 hrr
          obtain ⟨M3, ho3⟩ := ih (chP t x.1) x.2 M2 (by omega) o3
          refine ⟨M3, ?_⟩
          rw [o4]
          exact XC_pre (f1.trans o1 (Nat.le_refl _)) ho3
    · have es : sChL (tok β N) R (sC (tok β N) pt k) (f + 1) t i = .inr (t, i) := if_neg hop
      rw [es]
      exact ⟨M, fSq_rfl sd l M, by rw [h.1.1.2.1]; rfl, h, hop, rfl⟩
theorem x_ch {L w N d sd l n k i : Nat} {β : Nat → Nat} {pt : Nat → Int64} {m : IP} {o : Option Pc} {R : Option (Nat → Rs Pc)} {M : zM} (hN : N ≤ 200) (hd : 5 ≤ d) (hk : tkOk (tok β N) N) (hsd : sd < 8) (hn : n + k = 8) (hl : l ≤ n) (hM : ∀ r, R = some r → Mono N r) (hR : (n = 8 ∧ R = none) ∨ (n < 8 ∧ ∃ r, R = some r ∧ RS L w N β pt d sd (n + 1) r)) (h : SG L w N β pt sd l n i m o none none M) : ∃ M', XC L w N β pt d sd l n m o M M' (bgF d sd M) (sCh (tok β N) R (sC (tok β N) pt k) i) := by
  obtain ⟨M1, ho⟩ := x_rep hN hd hk hsd hn hl hM hR h
  unfold sCh
  cases hrr : sRp (tok β N) R (sC (tok β N) pt k) i with
  | inl e =>
    rw [hrr] at ho
    exact ⟨M1, ho⟩
  | inr x =>
    rw [hrr] at ho
    obtain ⟨o1, o2, o3, o4⟩ := ho
    obtain ⟨M2, ho2⟩ := x_chL hN hd hk hsd hn hl hM hR 200 x.1 x.2 M1 (by omega) o3
    refine ⟨M2, ?_⟩
    rw [o4]
    exact XC_pre o1 ho2
theorem x_sqL {L w N d sd l n k : Nat} {β : Nat → Nat} {pt : Nat → Int64} {m : IP} {R : Option (Nat → Rs Pc)} (hN : N ≤ 200) (hd : 5 ≤ d) (hk : tkOk (tok β N) N) (hsd : sd < 8) (hn : n + k = 8) (hl : l ≤ n) (hM : ∀ r, R = some r → Mono N r) (hR : (n = 8 ∧ R = none) ∨ (n < 8 ∧ ∃ r, R = some r ∧ RS L w N β pt d sd (n + 1) r)) : ∀ f o t i M, 200 ≤ f + i → SG L w N β pt sd l n i m o (some t) none M → (tok β N i).1 ≠ 44 → ∃ M', XS L w N β pt d sd l n m M M' (e2F d sd M) (sSqL (tok β N) R (sC (tok β N) pt k) f (orQ o t) i) := by
  intro f
  induction f with
  | zero =>
    intro o t i M hf h h44
    have hi : i = N := by have := h.2.2.2.1; omega
    refine ⟨M, fSq_rfl sd l M, by rw [h.1.1.2.1]; rfl, ⟨o, t, rfl, h⟩, h44, ?_, rfl⟩
    show (tok β N i).1 ≠ 47
    rw [hi, tok_end]; decide
  | succ f ih =>
    intro o t i M hf h h44
    have hi := h.2.2.2.1
    by_cases hop : (tok β N i).1 = 47
    · have es : sSqL (tok β N) R (sC (tok β N) pt k) (f + 1) (orQ o t) i = nxt (tok β N) i (fun j => rb (sCh (tok β N) R (sC (tok β N) pt k) j) (fun y k' => sSqL (tok β N) R (sC (tok β N) pt k) f (orP (orQ o t) y) k')) := if_pos hop
      rw [es, e2_out (by omega) hk (by omega) h (Or.inr (by omega))]
      obtain ⟨M1, f1, k1, hc⟩ := aft_slash (d := d) (by omega) hk hsd (by omega) h hop
      have hadv := (hk i hi).2.2.1 (by omega)
      rcases hc with ⟨hb, hf1, e1⟩ | ⟨hb, hg, e1⟩
      · rw [nxt_t hb]
        exact ⟨M1, f1, k1, hf1, e1⟩
      · rw [nxt_f hb, e1]
        obtain ⟨M2, ho⟩ := x_ch hN hd hk hsd hn hl hM hR hg
        cases hrr : sCh (tok β N) R (sC (tok β N) pt k) (tok β N i).2.2.2 with
        | inl e =>
          rw [hrr] at ho
          exact ⟨M2, f1.trans ho.1 (Nat.le_refl _), ho.2⟩
        | inr x =>
          rw [hrr] at ho
          obtain ⟨o1, o2, o3, o5, o4⟩ := ho
          have hmo := sCh_mono hk (sC_mono hk k) hM _ x.1 x.2 (hk i hi).1 hrr
          obtain ⟨M3, ho3⟩ := ih (some (orQ o t)) x.1 x.2 M2 (by omega) o3 o5
          refine ⟨M3, ?_⟩
          rw [o4]
          exact XS_pre (f1.trans o1 (Nat.le_refl _)) ho3
    · have es : sSqL (tok β N) R (sC (tok β N) pt k) (f + 1) (orQ o t) i = .inr (orQ o t, i) := if_neg hop
      rw [es]
      exact ⟨M, fSq_rfl sd l M, by rw [h.1.1.2.1]; rfl, ⟨o, t, rfl, h⟩, h44, hop, rfl⟩
theorem x_sq {L w N d sd l n k i : Nat} {β : Nat → Nat} {pt : Nat → Int64} {m : IP} {R : Option (Nat → Rs Pc)} {M : zM} (hN : N ≤ 200) (hd : 5 ≤ d) (hk : tkOk (tok β N) N) (hsd : sd < 8) (hn : n + k = 8) (hl : l ≤ n) (hM : ∀ r, R = some r → Mono N r) (hR : (n = 8 ∧ R = none) ∨ (n < 8 ∧ ∃ r, R = some r ∧ RS L w N β pt d sd (n + 1) r)) (h : SG L w N β pt sd l n i m none none none M) : ∃ M', XS L w N β pt d sd l n m M M' (bgF d sd M) (sSqB (tok β N) R (sC (tok β N) pt k) i) := by
  obtain ⟨M1, ho⟩ := x_ch hN hd hk hsd hn hl hM hR h
  unfold sSqB
  cases hrr : sCh (tok β N) R (sC (tok β N) pt k) i with
  | inl e =>
    rw [hrr] at ho
    exact ⟨M1, ho⟩
  | inr x =>
    rw [hrr] at ho
    obtain ⟨o1, o2, o3, o5, o4⟩ := ho
    obtain ⟨M2, ho2⟩ := x_sqL hN hd hk hsd hn hl hM hR 200 none x.1 x.2 M1 (by omega) o3 o5
    refine ⟨M2, ?_⟩
    rw [o4]
    exact XS_pre o1 ho2
/-- at every depth -/
theorem x_RS {L w N d sd : Nat} {β : Nat → Nat} {pt : Nat → Int64} (hN : N ≤ 200) (hd : 5 ≤ d) (hk : tkOk (tok β N) N) (hsd : sd < 8) : ∀ k n, n + k = 8 → RS L w N β pt d sd n (sSq (tok β N) pt k) ∧ ((n = 8 ∧ qK (tok β N) pt k = none) ∨ (n < 8 ∧ ∃ r, qK (tok β N) pt k = some r ∧ RS L w N β pt d sd (n + 1) r)) := by
  intro k
  induction k with
  | zero =>
    intro n hn
    have hR : (n = 8 ∧ qK (tok β N) pt 0 = none) ∨ (n < 8 ∧ ∃ r, qK (tok β N) pt 0 = some r ∧ RS L w N β pt d sd (n + 1) r) := Or.inl ⟨by omega, rfl⟩
    refine ⟨fun l i m M hl hln h => ?_, hR⟩
    rw [sSq_eq]
    exact x_sq hN hd hk hsd hn hln (qK_mono hk 0) hR h
  | succ k ih =>
    intro n hn
    have hR : (n = 8 ∧ qK (tok β N) pt (k + 1) = none) ∨ (n < 8 ∧ ∃ r, qK (tok β N) pt (k + 1) = some r ∧ RS L w N β pt d sd (n + 1) r) := Or.inr ⟨by omega, _, rfl, (ih (n + 1) (by omega)).1⟩
    refine ⟨fun l i m M hl hln h => ?_, hR⟩
    rw [sSq_eq]
    exact x_sq hN hd hk hsd hn hln (qK_mono hk (k + 1)) hR h
/-- the whole side -/
theorem x_side {L w N d sd i : Nat} {β : Nat → Nat} {pt : Nat → Int64} {M : zM} (hN : N ≤ 200) (hd : 5 ≤ d) (hk : tkOk (tok β N) N) (hsd : sd < 8) (h : SG L w N β pt sd 0 0 i [] none none none M) : ∃ M', XS L w N β pt d sd 0 0 [] M M' (bgF d sd M) (sSq (tok β N) pt 8 i) := by
  rw [sSq_eq]
  exact x_sq hN hd hk hsd (by omega) (Nat.le_refl 0) (qK_mono hk 8) (x_RS hN hd hk hsd 8 0 (by omega)).2 h
