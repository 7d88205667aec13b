/-! the class reads a promise, from = or > on -/
theorem fSd_h {g j : Nat} {M : zM} (hg : 26 ≤ g) (x : Int32) : fSd g M (zsI M g j x) := ⟨rfl, rfl, fun _ _ _ => rfl, fun b _ _ _ _ _ _ h => zI_ne h, by rw [zI_ne (by omega)], fun _ _ _ _ _ _ _ _ => rfl⟩
set_option maxHeartbeats 4000000 in
theorem re_p79 {d L w N j g ki : Nat} {β : Nat → Nat} {pt : Nat → Int64} {M : zM} {a : Pc} (hd : 43 ≤ d) (hk : tkOk (tok β N) N) (hE : EC L w N β pt M) (hg : zPle M g) (hg26 : 26 ≤ g) (hc : cTok (tok β N j) M) (h3 : (tok β N j).1 ≠ 3) (hj : j ≤ N) (hD : zI M 6 1 = nI 0) (ha : SdOk (g + 1) a M) (hki : ki < 2) : ∃ M' b, zG d n_Re_readPromise 79 [some (.ref 3), some (.ref g)] [.int (nI ki), .ref g] M = some (some (.int b), M') ∧ OutP (tok β N) N g M M' b (sPr2 (tok β N) pt a ki j) := by
  have hg0 := hg
  obtain ⟨g1, g2, g3, g4, g5, g6, g7⟩ := hg
  have hkj := hk j hj
  have f0 : fSd g M (zsI M g 4 (nI ki)) := fSd_h hg26 (nI ki)
  have hE0 := EC_sd hg26 hE f0
  have hc0 : cTok (tok β N j) (zsI M g 4 (nI ki)) := cTok_I hc (zI_ne (by omega))
  have i4 : zI (zsI M g 4 (nI ki)) g 4 = nI ki := by rw [zI_sI, if_pos ⟨rfl, rfl⟩]
  have hD0 : zI (zsI M g 4 (nI ki)) 6 1 = nI 0 := by rw [zI_ne (by omega)]; exact hD
  have ha0 : SdOk (g + 1) a (zsI M g 4 (nI ki)) := SdOk_fr ha (zI_ne (by omega)) (fun _ _ _ => rfl)
  obtain ⟨k30, k40, k60, r00, r10⟩ := c_k4 hE0
  obtain ⟨M1, e1, f1, hc1⟩ := c_adv (d := d) (by omega) hE0 hk hc0 h3 hj
  have hE1 := EC_fr hE0 (f1.co (D := 0))
  obtain ⟨k31, k41, k61, r01, r11⟩ := c_k4 hE1
  obtain ⟨k81, r21⟩ := c_k8 hE1
  have hg1 : zPle M1 g := zPle_fr hg0 f1.2.1 f1.2.2.1
  have I1 := f1.2.2.2.2.1
  have L1 := f1.2.2.2.1
  have ff1 : fPg g M M1 := (f0.pg (g := g) (Nat.le_refl g) (by omega)).trans f1.pg
  have base : zG d n_Re_readPromise 79 [some (.ref 3), some (.ref g)] [.int (nI ki), .ref g] M = (zbV (zV d n_Bu_begin [.ref 8, .ref (g + 5)] M1) fun M3 => zif ((zK M3 3).1 = 3) (zbI (zV d n_Re_readChoice [.ref 3, .int (0 : Int32)] M3) fun u1 M4 => if u1 ≠ 0 then (zif ((zK M4 3).1 = 3) (zoR (zR M4 3 2) fun q4 => zif ((zK M4 q4).1 = 1) (zbV (zV d n_Bu_finish [.ref q4] M4) fun M5 => zif ((zK M5 3).1 = 3) (zbI (zV d n_Re_readOff [.ref 3, .ref g] M5) fun u2 M6 => if u2 ≠ 0 then pEnd d g M6 else zif ((0 : Int32) = 0 ∨ (0 : Int32) = 1) (some (some (.int (0 : Int32)), M6)))))) else zif ((0 : Int32) = 0 ∨ (0 : Int32) = 1) (some (some (.int (0 : Int32)), M4)))) := by
    rw [zg_Re_readPromise_79]
    unfold zx_Re_readPromise_79
    rw [zif_t (by rw [g1]), zbm_S, zif_t (by rw [k30]), r00, zoR_S, zif_t (by rw [k40]), e1, zbV_S, zif_t (by rw [k31]), r21, zoR_S, zif_t (by rw [hg1.1]), hg1.2.2.2.1, zoR_S, zif_t (by rw [k81])]
    rfl
  rw [base]
  clear base
  unfold sPr2
  by_cases hb : (tok β N (tok β N j).2.2.2).1 = 3
  · rw [nxt_t hb]
    obtain ⟨b1, b2, b3⟩ := cTok_bad hc1 hb
    obtain ⟨M2, e2, a1, a2, a3, a4, a5, a6⟩ := bu_begin (d := d) (by omega) hE1.1 hg1.2.2.2.2.2.2 (by omega)
    have f2 : fSd (g + 5) M1 M2 := ⟨a1, a2, a3, fun b _ _ h3 _ _ _ h7 => a4 b h3 h7, by rw [a4 4 (by omega) (by omega)], fun b _ _ _ _ _ _ _ => by rw [a5]⟩
    have hE2 := EC_sd (by omega) hE1 f2
    have i24 : zI M2 4 = zI M1 4 := a4 4 (by omega) (by omega)
    have e3 := re_choice_bad (d := d) (n := 0) (by omega) hE2 (by rw [i24]; exact b1) (by rw [i24]; exact b2) (by omega) (by omega)
    refine ⟨M2, nI 0, ?_, ff1.trans (f2.pg (by omega) (by omega)), Nat.zero_lt_one, (show 1 < 10 by decide), by rw [i24]; exact b2, by rw [i24]; exact b3, Or.inl rfl⟩
    rw [e2, zbV_S, zif_t (by rw [(c_k4 hE2).1]), show (0 : Int32) = nI 0 from rfl, e3, zbI_S, if_neg (by decide), zif_t (by decide)]
  · rw [nxt_f hb]
    obtain ⟨M2, M3, b, e2, e3, hE2, hE3, f3, hcase⟩ := re_side (d := d) (s := g + 5) hd hk hE1 hg1.2.2.2.2.2.2 (by omega) hc1 hb hkj.1 (by rw [I1 6 (by omega)]; exact hD0)
    rw [e2, zbV_S, zif_t (by rw [(c_k4 hE2).1]), show (0 : Int32) = nI 0 from rfl, e3, zbI_S]
    rcases hcase with ⟨rfl, e, s1, s2, s3, s4, s5⟩ | ⟨rfl, M4, e4, hE4, f4, hcase⟩
    · rw [s1]
      refine ⟨M3, nI 0, ?_, ff1.trans (f3.pg (by omega) (by omega)), s2, s3, s4, s5, Or.inl rfl⟩
      rw [if_neg (by decide), zif_t (by decide)]
    · have hg4 : zPle M4 g := zPle_made hg1 hg26 f4.2.1 f4.2.2.1
      have ff4 : fPg g M M4 := ff1.trans (f4.pg (by omega) (by omega))
      rw [if_pos (by decide), zif_t (by rw [(c_k4 hE3).1]), (c_k8 hE3).2, zoR_S, zif_t (by rw [(c_k8 hE3).1]), e4, zbV_S, zif_t (by rw [(c_k4 hE4).1])]
      rcases hcase with ⟨e, s1, s2, s3, s4, s5, s6⟩ | ⟨x, j2, s1, s2, s3, s4, s5, s6⟩
      · rw [s1, re_off_bad (by omega) hE4 hg4.1 s6, zbI_S, if_pos (by decide)]
        have fh := fSd_h (M := M4) (j := 3) hg26 (nI 0)
        have hE5 := EC_sd hg26 hE4 fh
        have i54 : zI (zsI M4 g 3 (nI 0)) 4 = zI M4 4 := zI_ne (by omega)
        refine ⟨_, nI 0, pEnd_bad (by omega) hE5 (by rw [i54]; exact s6) (by rw [i54]; exact s4) s2 (by omega), ff4.trans (fh.pg (Nat.le_refl g) (by omega)), s2, s3, by rw [i54]; exact s4, by rw [i54]; exact s5, Or.inl rfl⟩
      · rw [s1]
        have ha4 : SdOk (g + 1) a M4 := SdOk_fr (SdOk_fr ha0 (I1 _ (by omega)) (fun z _ _ => by rw [L1])) (f4.2.2.2.1 _ (by omega) (by omega) (by omega) (by omega) (by omega) (by omega) (by omega)) (fun z h1 h2 => f4.2.2.2.2.2 z (by omega) (by omega) (by omega) (by omega) (by omega) (by omega) (by omega))
        have i44 : zI M4 g 4 = nI ki := by rw [f4.2.2.2.1 g (by omega) (by omega) (by omega) (by omega) (by omega) (by omega) (by omega), I1 g (by omega)]; exact i4
        obtain ⟨M5, b5, e5, ho⟩ := re_off (d := d) (by omega) hk hE4 hg4 hg26 s3 s4 s2 s5
        rw [e5, zbI_S]
        show ∃ M' b, _ ∧ OutP (tok β N) N g M M' b (rb (sOf (tok β N) pt j2) (fun o j3 => sPe (tok β N) a x ki o j3))
        cases hrr : sOf (tok β N) pt j2 with
        | inl e =>
          rw [hrr] at ho
          obtain ⟨o1, o2, o3, o4, o5, o6⟩ := ho
          have hE5 := EC_of hg26 hE4 o1
          refine ⟨M5, nI 0, ?_, ff4.trans o1.pg, o2, o3, o4, o5, Or.inl rfl⟩
          rcases o6 with rfl | ⟨rfl, o7⟩
          · rw [if_neg (by decide), zif_t (by decide)]
          · rw [if_pos (by decide)]
            exact pEnd_bad (by omega) hE5 o7 o4 o2 (by omega)
        | inr z =>
          rw [hrr] at ho
          obtain ⟨o1, o2, o3, o4, o5, o6, o7, o8⟩ := ho
          subst o2
          have hE5 := EC_of hg26 hE4 o1
          obtain ⟨M6, b6, e6, hp⟩ := re_pe (d := d) (a := a) (b := x) (o := z.1) (ki := ki) (by omega) hk hE5 (zPle_fr hg4 o1.2.1 o1.2.2.1) hg26 o4 o5 o3 o6 (SdOk_fr ha4 (o1.2.2.2.1 _ (by omega) (by omega) (by omega)) (fun y h1 h2 => o1.2.2.2.2.2.2 y (by omega) (by omega))) (SdOk_fr s6 (o1.2.2.2.1 _ (by omega) (by omega) (by omega)) (fun y h1 h2 => o1.2.2.2.2.2.2 y (by omega) (by omega))) hki (by rw [o1.2.2.2.2.2.1 4 (by omega)]; exact i44) o7 o8
          exact ⟨M6, b6, by rw [if_pos (by decide)]; exact e6, OutP_pre (ff4.trans o1.pg) hp⟩
