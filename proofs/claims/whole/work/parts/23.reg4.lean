def zx_La_law (E : zE0) (K : zKt) (a0 : Nat) (M : zM) : zO :=
  zbm (znew M 10 12) fun M1 =>
  zbV (E n_PT_init [.ref (zN M)] M1) fun M2 =>
  zbm (znew M2 11 52) fun M3 =>
  zbV (E n_Mo_init [.ref (zN M2)] M3) fun M4 =>
  K 18 [some (.ref a0), some (.ref (zN M)), some (.ref (zN M2)), some (.int (0 : Int32))] [] M4
set_option maxRecDepth 20000 in
theorem ze_La_law (d : Nat) (a0 : Nat) (M : zM) : zV (d + 1) n_La_law [.ref a0] M = zx_La_law (zV d) (zG d n_La_law) a0 M := by
  refine (zE_sg (m := zm_La_law) rfl 400 _ rfl M).trans ?_
  show zw true zm_La_law (zV d) (zG d n_La_law) 400 0 [some (.ref a0), none, none, none] [] M = _
  unfold zx_La_law
  refine zw_new (p := 3) (Or.inl rfl) rfl rfl (fun M1 => ?_)
  refine zw_dup_ref (p := 4) (Or.inr rfl) rfl rfl ?_
  refine zw_specialV (p := 7) (as := [.ref (zN M)]) (rest := [.ref (zN M)]) (Or.inr rfl) rfl rfl rfl rfl rfl rfl (fun M2 => ?_)
  refine zw_astore_n (p := 8) (l2 := [some (.ref a0), some (.ref (zN M)), none, none]) (Or.inr rfl) rfl rfl rfl rfl ?_
  refine zw_new (p := 11) (Or.inr rfl) rfl rfl (fun M3 => ?_)
  refine zw_dup_ref (p := 12) (Or.inr rfl) rfl rfl ?_
  refine zw_specialV (p := 15) (as := [.ref (zN M2)]) (rest := [.ref (zN M2)]) (Or.inr rfl) rfl rfl rfl rfl rfl rfl (fun M4 => ?_)
  refine zw_astore_n (p := 16) (l2 := [some (.ref a0), some (.ref (zN M)), some (.ref (zN M2)), none]) (Or.inr rfl) rfl rfl rfl rfl ?_
  refine zw_iconst (p := 17) (x := (0 : Int32)) (Or.inr rfl) rfl rfl rfl ?_
  refine zw_istore_n (p := 18) (l2 := [some (.ref a0), some (.ref (zN M)), some (.ref (zN M2)), some (.int (0 : Int32))]) (Or.inr rfl) rfl rfl rfl rfl ?_
  exact zw_end rfl rfl
def zx_La_law_18 (E : zE0) (K : zKt) (a0 : Nat) (a1 : Nat) (a2 : Nat) (x3 : Int32) (M : zM) : zO :=
  zif (20 ≤ (zK M a0).1) (if ((Int32.ofNat (zK M a0).2) - (5 : Int32)) < x3 then (zif ((1 : Int32) = 0 ∨ (1 : Int32) = 1) (some (some (.int (1 : Int32)), M)))
  else zif (((zK M a0).1 = 20 ∨ (zK M a0).1 = 24) ∧ zin x3 (zK M a0).2 = true)
  (if ((zI M a0 (Int32.toNatClampNeg x3)) &&& (31 : Int32)) = (0 : Int32) then (zif (((zK M a0).1 = 20 ∨ (zK M a0).1 = 24) ∧ zin (x3 + (1 : Int32)) (zK M a0).2 = true)
    (zif ((zK M a1).1 = 10)
    (zbI (E n_PT_feed [.ref a1, .int (zI M a0 (Int32.toNatClampNeg (x3 + (1 : Int32))))] M) fun u1 M1 =>
    zif (((zK M1 a0).1 = 20 ∨ (zK M1 a0).1 = 24) ∧ zin (x3 + (1 : Int32)) (zK M1 a0).2 = true)
    (zif ((zK M1 a2).1 = 11)
    (zbI (E n_Mo_feed [.ref a2, .int (zI M1 a0 (Int32.toNatClampNeg (x3 + (1 : Int32))))] M1) fun u2 M2 =>
    if u1 = u2 then (zbi (x3 + (5 : Int32)) fun u3 =>
      K 18 [some (.ref a0), some (.ref a1), some (.ref a2), some (.int u3)] [] M2)
    else zif ((0 : Int32) = 0 ∨ (0 : Int32) = 1) (some (some (.int (0 : Int32)), M2)))))))
  else if ((zI M a0 (Int32.toNatClampNeg x3)) &&& (31 : Int32)) = (1 : Int32) then (zif (((zK M a0).1 = 20 ∨ (zK M a0).1 = 24) ∧ zin (x3 + (1 : Int32)) (zK M a0).2 = true)
    (zif ((zK M a1).1 = 10)
    (zbI (E n_PT_end [.ref a1, .int (zI M a0 (Int32.toNatClampNeg (x3 + (1 : Int32))))] M) fun u4 M3 =>
    zif (((zK M3 a0).1 = 20 ∨ (zK M3 a0).1 = 24) ∧ zin (x3 + (1 : Int32)) (zK M3 a0).2 = true)
    (zif ((zK M3 a2).1 = 11)
    (zbI (E n_Mo_end [.ref a2, .int (zI M3 a0 (Int32.toNatClampNeg (x3 + (1 : Int32))))] M3) fun u5 M4 =>
    if u4 = u5 then (zbi (x3 + (5 : Int32)) fun u6 =>
      K 18 [some (.ref a0), some (.ref a1), some (.ref a2), some (.int u6)] [] M4)
    else zif ((0 : Int32) = 0 ∨ (0 : Int32) = 1) (some (some (.int (0 : Int32)), M4)))))))
  else if ((zI M a0 (Int32.toNatClampNeg x3)) &&& (31 : Int32)) = (2 : Int32) then (zif ((zK M a1).1 = 10)
    (zbI (E n_PT_text [.ref a1] M) fun u7 M5 =>
    zif ((zK M5 a2).1 = 11)
    (zbI (E n_Mo_text [.ref a2] M5) fun u8 M6 =>
    if u7 = u8 then (zbi (x3 + (5 : Int32)) fun u9 =>
      K 18 [some (.ref a0), some (.ref a1), some (.ref a2), some (.int u9)] [] M6)
    else zif ((0 : Int32) = 0 ∨ (0 : Int32) = 1) (some (some (.int (0 : Int32)), M6)))))
  else if ((zI M a0 (Int32.toNatClampNeg x3)) &&& (31 : Int32)) = (3 : Int32) then (zif ((zK M a1).1 = 10)
    (zbI (E n_PT_fault [.ref a1] M) fun u10 M7 =>
    zif ((zK M7 a2).1 = 11)
    (zbI (E n_Mo_fault [.ref a2] M7) fun u11 M8 =>
    if u10 = u11 then (zbi (x3 + (5 : Int32)) fun u12 =>
      K 18 [some (.ref a0), some (.ref a1), some (.ref a2), some (.int u12)] [] M8)
    else zif ((0 : Int32) = 0 ∨ (0 : Int32) = 1) (some (some (.int (0 : Int32)), M8)))))
  else if ((zI M a0 (Int32.toNatClampNeg x3)) &&& (31 : Int32)) = (4 : Int32) then (zif (((zK M a0).1 = 20 ∨ (zK M a0).1 = 24) ∧ zin (x3 + (1 : Int32)) (zK M a0).2 = true)
    (zif ((zK M a1).1 = 10)
    (zbI (E n_PT_rule [.ref a1, .int (zI M a0 (Int32.toNatClampNeg (x3 + (1 : Int32))))] M) fun u13 M9 =>
    zif (((zK M9 a0).1 = 20 ∨ (zK M9 a0).1 = 24) ∧ zin (x3 + (1 : Int32)) (zK M9 a0).2 = true)
    (zif ((zK M9 a2).1 = 11)
    (zbI (E n_Mo_rule [.ref a2, .int (zI M9 a0 (Int32.toNatClampNeg (x3 + (1 : Int32))))] M9) fun u14 M10 =>
    if u13 = u14 then (zbi (x3 + (5 : Int32)) fun u15 =>
      K 18 [some (.ref a0), some (.ref a1), some (.ref a2), some (.int u15)] [] M10)
    else zif ((0 : Int32) = 0 ∨ (0 : Int32) = 1) (some (some (.int (0 : Int32)), M10)))))))
  else if ((zI M a0 (Int32.toNatClampNeg x3)) &&& (31 : Int32)) = (5 : Int32) then (zif (((zK M a0).1 = 20 ∨ (zK M a0).1 = 24) ∧ zin (x3 + (1 : Int32)) (zK M a0).2 = true)
    (zif (((zK M a0).1 = 20 ∨ (zK M a0).1 = 24) ∧ zin (x3 + (2 : Int32)) (zK M a0).2 = true)
    (zif ((zK M a1).1 = 10)
    (zbI (E n_PT_promise [.ref a1, .int (zI M a0 (Int32.toNatClampNeg (x3 + (1 : Int32)))), .int (zI M a0 (Int32.toNatClampNeg (x3 + (2 : Int32))))] M) fun u16 M11 =>
    zif (((zK M11 a0).1 = 20 ∨ (zK M11 a0).1 = 24) ∧ zin (x3 + (1 : Int32)) (zK M11 a0).2 = true)
    (zif (((zK M11 a0).1 = 20 ∨ (zK M11 a0).1 = 24) ∧ zin (x3 + (2 : Int32)) (zK M11 a0).2 = true)
    (zif ((zK M11 a2).1 = 11)
    (zbI (E n_Mo_promise [.ref a2, .int (zI M11 a0 (Int32.toNatClampNeg (x3 + (1 : Int32)))), .int (zI M11 a0 (Int32.toNatClampNeg (x3 + (2 : Int32))))] M11) fun u17 M12 =>
    if u16 = u17 then (zbi (x3 + (5 : Int32)) fun u18 =>
      K 18 [some (.ref a0), some (.ref a1), some (.ref a2), some (.int u18)] [] M12)
    else zif ((0 : Int32) = 0 ∨ (0 : Int32) = 1) (some (some (.int (0 : Int32)), M12)))))))))
  else if ((zI M a0 (Int32.toNatClampNeg x3)) &&& (31 : Int32)) = (6 : Int32) then (zif (((zK M a0).1 = 20 ∨ (zK M a0).1 = 24) ∧ zin (x3 + (1 : Int32)) (zK M a0).2 = true)
    (zif (((zK M a0).1 = 20 ∨ (zK M a0).1 = 24) ∧ zin (x3 + (2 : Int32)) (zK M a0).2 = true)
    (zif (((zK M a0).1 = 20 ∨ (zK M a0).1 = 24) ∧ zin (x3 + (3 : Int32)) (zK M a0).2 = true)
    (zif (((zK M a0).1 = 20 ∨ (zK M a0).1 = 24) ∧ zin (x3 + (4 : Int32)) (zK M a0).2 = true)
    (zif ((zK M a1).1 = 10)
    (zbI (E n_PT_fulfils [.ref a1, .int (zI M a0 (Int32.toNatClampNeg (x3 + (1 : Int32)))), .int (zI M a0 (Int32.toNatClampNeg (x3 + (2 : Int32)))), .int (zI M a0 (Int32.toNatClampNeg (x3 + (3 : Int32)))), .int (zI M a0 (Int32.toNatClampNeg (x3 + (4 : Int32))))] M) fun u19 M13 =>
    zif (((zK M13 a0).1 = 20 ∨ (zK M13 a0).1 = 24) ∧ zin (x3 + (1 : Int32)) (zK M13 a0).2 = true)
    (zif (((zK M13 a0).1 = 20 ∨ (zK M13 a0).1 = 24) ∧ zin (x3 + (2 : Int32)) (zK M13 a0).2 = true)
    (zif (((zK M13 a0).1 = 20 ∨ (zK M13 a0).1 = 24) ∧ zin (x3 + (3 : Int32)) (zK M13 a0).2 = true)
    (zif (((zK M13 a0).1 = 20 ∨ (zK M13 a0).1 = 24) ∧ zin (x3 + (4 : Int32)) (zK M13 a0).2 = true)
    (zif ((zK M13 a2).1 = 11)
    (zbI (E n_Mo_fulfils [.ref a2, .int (zI M13 a0 (Int32.toNatClampNeg (x3 + (1 : Int32)))), .int (zI M13 a0 (Int32.toNatClampNeg (x3 + (2 : Int32)))), .int (zI M13 a0 (Int32.toNatClampNeg (x3 + (3 : Int32)))), .int (zI M13 a0 (Int32.toNatClampNeg (x3 + (4 : Int32))))] M13) fun u20 M14 =>
    if u19 = u20 then (zbi (x3 + (5 : Int32)) fun u21 =>
      K 18 [some (.ref a0), some (.ref a1), some (.ref a2), some (.int u21)] [] M14)
    else zif ((0 : Int32) = 0 ∨ (0 : Int32) = 1) (some (some (.int (0 : Int32)), M14)))))))))))))
  else if ((zI M a0 (Int32.toNatClampNeg x3)) &&& (31 : Int32)) = (7 : Int32) then (zif (((zK M a0).1 = 20 ∨ (zK M a0).1 = 24) ∧ zin (x3 + (1 : Int32)) (zK M a0).2 = true)
    (zif (((zK M a0).1 = 20 ∨ (zK M a0).1 = 24) ∧ zin (x3 + (2 : Int32)) (zK M a0).2 = true)
    (zif (((zK M a0).1 = 20 ∨ (zK M a0).1 = 24) ∧ zin (x3 + (3 : Int32)) (zK M a0).2 = true)
    (zif ((zK M a1).1 = 10)
    (zbI (E n_PT_fulfilled [.ref a1, .int (zI M a0 (Int32.toNatClampNeg (x3 + (1 : Int32)))), .int (zI M a0 (Int32.toNatClampNeg (x3 + (2 : Int32)))), .int (zI M a0 (Int32.toNatClampNeg (x3 + (3 : Int32))))] M) fun u22 M15 =>
    zif (((zK M15 a0).1 = 20 ∨ (zK M15 a0).1 = 24) ∧ zin (x3 + (1 : Int32)) (zK M15 a0).2 = true)
    (zif (((zK M15 a0).1 = 20 ∨ (zK M15 a0).1 = 24) ∧ zin (x3 + (2 : Int32)) (zK M15 a0).2 = true)
    (zif (((zK M15 a0).1 = 20 ∨ (zK M15 a0).1 = 24) ∧ zin (x3 + (3 : Int32)) (zK M15 a0).2 = true)
    (zif ((zK M15 a2).1 = 11)
    (zbI (E n_Mo_fulfilled [.ref a2, .int (zI M15 a0 (Int32.toNatClampNeg (x3 + (1 : Int32)))), .int (zI M15 a0 (Int32.toNatClampNeg (x3 + (2 : Int32)))), .int (zI M15 a0 (Int32.toNatClampNeg (x3 + (3 : Int32))))] M15) fun u23 M16 =>
    if u22 = u23 then (zbi (x3 + (5 : Int32)) fun u24 =>
      K 18 [some (.ref a0), some (.ref a1), some (.ref a2), some (.int u24)] [] M16)
    else zif ((0 : Int32) = 0 ∨ (0 : Int32) = 1) (some (some (.int (0 : Int32)), M16)))))))))))
  else if ((zI M a0 (Int32.toNatClampNeg x3)) &&& (31 : Int32)) = (8 : Int32) then (zif (((zK M a0).1 = 20 ∨ (zK M a0).1 = 24) ∧ zin (x3 + (1 : Int32)) (zK M a0).2 = true)
    (zif (((zK M a0).1 = 20 ∨ (zK M a0).1 = 24) ∧ zin (x3 + (2 : Int32)) (zK M a0).2 = true)
    (zif (((zK M a0).1 = 20 ∨ (zK M a0).1 = 24) ∧ zin (x3 + (3 : Int32)) (zK M a0).2 = true)
    (zif (((zK M a0).1 = 20 ∨ (zK M a0).1 = 24) ∧ zin (x3 + (4 : Int32)) (zK M a0).2 = true)
    (zif ((zK M a1).1 = 10)
    (zbI (E n_PT_matches [.ref a1, .int (zI M a0 (Int32.toNatClampNeg (x3 + (1 : Int32)))), .int (zI M a0 (Int32.toNatClampNeg (x3 + (2 : Int32)))), .int (zI M a0 (Int32.toNatClampNeg (x3 + (3 : Int32)))), .int (zI M a0 (Int32.toNatClampNeg (x3 + (4 : Int32))))] M) fun u25 M17 =>
    zif (((zK M17 a0).1 = 20 ∨ (zK M17 a0).1 = 24) ∧ zin (x3 + (1 : Int32)) (zK M17 a0).2 = true)
    (zif (((zK M17 a0).1 = 20 ∨ (zK M17 a0).1 = 24) ∧ zin (x3 + (2 : Int32)) (zK M17 a0).2 = true)
    (zif (((zK M17 a0).1 = 20 ∨ (zK M17 a0).1 = 24) ∧ zin (x3 + (3 : Int32)) (zK M17 a0).2 = true)
    (zif (((zK M17 a0).1 = 20 ∨ (zK M17 a0).1 = 24) ∧ zin (x3 + (4 : Int32)) (zK M17 a0).2 = true)
    (zif ((zK M17 a2).1 = 11)
    (zbI (E n_Mo_matches [.ref a2, .int (zI M17 a0 (Int32.toNatClampNeg (x3 + (1 : Int32)))), .int (zI M17 a0 (Int32.toNatClampNeg (x3 + (2 : Int32)))), .int (zI M17 a0 (Int32.toNatClampNeg (x3 + (3 : Int32)))), .int (zI M17 a0 (Int32.toNatClampNeg (x3 + (4 : Int32))))] M17) fun u26 M18 =>
    if u25 = u26 then (zbi (x3 + (5 : Int32)) fun u27 =>
      K 18 [some (.ref a0), some (.ref a1), some (.ref a2), some (.int u27)] [] M18)
    else zif ((0 : Int32) = 0 ∨ (0 : Int32) = 1) (some (some (.int (0 : Int32)), M18)))))))))))))
  else if ((zI M a0 (Int32.toNatClampNeg x3)) &&& (31 : Int32)) = (9 : Int32) then (zif (((zK M a0).1 = 20 ∨ (zK M a0).1 = 24) ∧ zin (x3 + (1 : Int32)) (zK M a0).2 = true)
    (zif (((zK M a0).1 = 20 ∨ (zK M a0).1 = 24) ∧ zin (x3 + (2 : Int32)) (zK M a0).2 = true)
    (zif (((zK M a0).1 = 20 ∨ (zK M a0).1 = 24) ∧ zin (x3 + (3 : Int32)) (zK M a0).2 = true)
    (zif ((zK M a1).1 = 10)
    (zbI (E n_PT_might [.ref a1, .int (zI M a0 (Int32.toNatClampNeg (x3 + (1 : Int32)))), .int (zI M a0 (Int32.toNatClampNeg (x3 + (2 : Int32)))), .int (zI M a0 (Int32.toNatClampNeg (x3 + (3 : Int32))))] M) fun u28 M19 =>
    zif (((zK M19 a0).1 = 20 ∨ (zK M19 a0).1 = 24) ∧ zin (x3 + (1 : Int32)) (zK M19 a0).2 = true)
    (zif (((zK M19 a0).1 = 20 ∨ (zK M19 a0).1 = 24) ∧ zin (x3 + (2 : Int32)) (zK M19 a0).2 = true)
    (zif (((zK M19 a0).1 = 20 ∨ (zK M19 a0).1 = 24) ∧ zin (x3 + (3 : Int32)) (zK M19 a0).2 = true)
    (zif ((zK M19 a2).1 = 11)
    (zbI (E n_Mo_might [.ref a2, .int (zI M19 a0 (Int32.toNatClampNeg (x3 + (1 : Int32)))), .int (zI M19 a0 (Int32.toNatClampNeg (x3 + (2 : Int32)))), .int (zI M19 a0 (Int32.toNatClampNeg (x3 + (3 : Int32))))] M19) fun u29 M20 =>
    if u28 = u29 then (zbi (x3 + (5 : Int32)) fun u30 =>
      K 18 [some (.ref a0), some (.ref a1), some (.ref a2), some (.int u30)] [] M20)
    else zif ((0 : Int32) = 0 ∨ (0 : Int32) = 1) (some (some (.int (0 : Int32)), M20)))))))))))
  else if ((zI M a0 (Int32.toNatClampNeg x3)) &&& (31 : Int32)) = (10 : Int32) then (zif (((zK M a0).1 = 20 ∨ (zK M a0).1 = 24) ∧ zin (x3 + (1 : Int32)) (zK M a0).2 = true)
    (zif ((zK M a1).1 = 10)
    (zbI (E n_PT_tick [.ref a1, .int (zI M a0 (Int32.toNatClampNeg (x3 + (1 : Int32))))] M) fun u31 M21 =>
    zif (((zK M21 a0).1 = 20 ∨ (zK M21 a0).1 = 24) ∧ zin (x3 + (1 : Int32)) (zK M21 a0).2 = true)
    (zif ((zK M21 a2).1 = 11)
    (zbI (E n_Mo_tick [.ref a2, .int (zI M21 a0 (Int32.toNatClampNeg (x3 + (1 : Int32))))] M21) fun u32 M22 =>
    if u31 = u32 then (zbi (x3 + (5 : Int32)) fun u33 =>
      K 18 [some (.ref a0), some (.ref a1), some (.ref a2), some (.int u33)] [] M22)
    else zif ((0 : Int32) = 0 ∨ (0 : Int32) = 1) (some (some (.int (0 : Int32)), M22)))))))
  else if ((zI M a0 (Int32.toNatClampNeg x3)) &&& (31 : Int32)) = (11 : Int32) then (zif (((zK M a0).1 = 20 ∨ (zK M a0).1 = 24) ∧ zin (x3 + (1 : Int32)) (zK M a0).2 = true)
    (zif ((zK M a1).1 = 10)
    (zbI (E n_PT_bits [.ref a1, .int (zI M a0 (Int32.toNatClampNeg (x3 + (1 : Int32))))] M) fun u34 M23 =>
    zif (((zK M23 a0).1 = 20 ∨ (zK M23 a0).1 = 24) ∧ zin (x3 + (1 : Int32)) (zK M23 a0).2 = true)
    (zif ((zK M23 a2).1 = 11)
    (zbI (E n_Mo_bits [.ref a2, .int (zI M23 a0 (Int32.toNatClampNeg (x3 + (1 : Int32))))] M23) fun u35 M24 =>
    if u34 = u35 then (zbi (x3 + (5 : Int32)) fun u36 =>
      K 18 [some (.ref a0), some (.ref a1), some (.ref a2), some (.int u36)] [] M24)
    else zif ((0 : Int32) = 0 ∨ (0 : Int32) = 1) (some (some (.int (0 : Int32)), M24)))))))
  else if ((zI M a0 (Int32.toNatClampNeg x3)) &&& (31 : Int32)) = (12 : Int32) then (zif (((zK M a0).1 = 20 ∨ (zK M a0).1 = 24) ∧ zin (x3 + (1 : Int32)) (zK M a0).2 = true)
    (zif (((zK M a0).1 = 20 ∨ (zK M a0).1 = 24) ∧ zin (x3 + (2 : Int32)) (zK M a0).2 = true)
    (zif ((zK M a1).1 = 10)
    (zbI (E n_PT_put [.ref a1, .int (zI M a0 (Int32.toNatClampNeg (x3 + (1 : Int32)))), .int (zI M a0 (Int32.toNatClampNeg (x3 + (2 : Int32))))] M) fun u37 M25 =>
    zif (((zK M25 a0).1 = 20 ∨ (zK M25 a0).1 = 24) ∧ zin (x3 + (1 : Int32)) (zK M25 a0).2 = true)
    (zif (((zK M25 a0).1 = 20 ∨ (zK M25 a0).1 = 24) ∧ zin (x3 + (2 : Int32)) (zK M25 a0).2 = true)
    (zif ((zK M25 a2).1 = 11)
    (zbI (E n_Mo_put [.ref a2, .int (zI M25 a0 (Int32.toNatClampNeg (x3 + (1 : Int32)))), .int (zI M25 a0 (Int32.toNatClampNeg (x3 + (2 : Int32))))] M25) fun u38 M26 =>
    if u37 = u38 then (zbi (x3 + (5 : Int32)) fun u39 =>
      K 18 [some (.ref a0), some (.ref a1), some (.ref a2), some (.int u39)] [] M26)
    else zif ((0 : Int32) = 0 ∨ (0 : Int32) = 1) (some (some (.int (0 : Int32)), M26)))))))))
  else if ((zI M a0 (Int32.toNatClampNeg x3)) &&& (31 : Int32)) = (13 : Int32) then (zif (((zK M a0).1 = 20 ∨ (zK M a0).1 = 24) ∧ zin (x3 + (1 : Int32)) (zK M a0).2 = true)
    (zif ((zK M a1).1 = 10)
    (zbI (E n_PT_keeps [.ref a1, .int (zI M a0 (Int32.toNatClampNeg (x3 + (1 : Int32))))] M) fun u40 M27 =>
    zif (((zK M27 a0).1 = 20 ∨ (zK M27 a0).1 = 24) ∧ zin (x3 + (1 : Int32)) (zK M27 a0).2 = true)
    (zif ((zK M27 a2).1 = 11)
    (zbI (E n_Mo_keeps [.ref a2, .int (zI M27 a0 (Int32.toNatClampNeg (x3 + (1 : Int32))))] M27) fun u41 M28 =>
    if u40 = u41 then (zbi (x3 + (5 : Int32)) fun u42 =>
      K 18 [some (.ref a0), some (.ref a1), some (.ref a2), some (.int u42)] [] M28)
    else zif ((0 : Int32) = 0 ∨ (0 : Int32) = 1) (some (some (.int (0 : Int32)), M28)))))))
  else if ((zI M a0 (Int32.toNatClampNeg x3)) &&& (31 : Int32)) = (14 : Int32) then (zif (((zK M a0).1 = 20 ∨ (zK M a0).1 = 24) ∧ zin (x3 + (1 : Int32)) (zK M a0).2 = true)
    (zif (((zK M a0).1 = 20 ∨ (zK M a0).1 = 24) ∧ zin (x3 + (2 : Int32)) (zK M a0).2 = true)
    (zif ((zK M a1).1 = 10)
    (zbI (E n_PT_draw [.ref a1, .int (zI M a0 (Int32.toNatClampNeg (x3 + (1 : Int32)))), .int (zI M a0 (Int32.toNatClampNeg (x3 + (2 : Int32))))] M) fun u43 M29 =>
    zif (((zK M29 a0).1 = 20 ∨ (zK M29 a0).1 = 24) ∧ zin (x3 + (1 : Int32)) (zK M29 a0).2 = true)
    (zif (((zK M29 a0).1 = 20 ∨ (zK M29 a0).1 = 24) ∧ zin (x3 + (2 : Int32)) (zK M29 a0).2 = true)
    (zif ((zK M29 a2).1 = 11)
    (zbI (E n_Mo_draw [.ref a2, .int (zI M29 a0 (Int32.toNatClampNeg (x3 + (1 : Int32)))), .int (zI M29 a0 (Int32.toNatClampNeg (x3 + (2 : Int32))))] M29) fun u44 M30 =>
    if u43 = u44 then (zbi (x3 + (5 : Int32)) fun u45 =>
      K 18 [some (.ref a0), some (.ref a1), some (.ref a2), some (.int u45)] [] M30)
    else zif ((0 : Int32) = 0 ∨ (0 : Int32) = 1) (some (some (.int (0 : Int32)), M30)))))))))
  else if ((zI M a0 (Int32.toNatClampNeg x3)) &&& (31 : Int32)) = (15 : Int32) then (zif (((zK M a0).1 = 20 ∨ (zK M a0).1 = 24) ∧ zin (x3 + (1 : Int32)) (zK M a0).2 = true)
    (zif (((zK M a0).1 = 20 ∨ (zK M a0).1 = 24) ∧ zin (x3 + (2 : Int32)) (zK M a0).2 = true)
    (zif ((zK M a1).1 = 10)
    (zbI (E n_PT_verdict [.ref a1, .int (zI M a0 (Int32.toNatClampNeg (x3 + (1 : Int32)))), .int (zI M a0 (Int32.toNatClampNeg (x3 + (2 : Int32))))] M) fun u46 M31 =>
    zif (((zK M31 a0).1 = 20 ∨ (zK M31 a0).1 = 24) ∧ zin (x3 + (1 : Int32)) (zK M31 a0).2 = true)
    (zif (((zK M31 a0).1 = 20 ∨ (zK M31 a0).1 = 24) ∧ zin (x3 + (2 : Int32)) (zK M31 a0).2 = true)
    (zif ((zK M31 a2).1 = 11)
    (zbI (E n_Mo_verdict [.ref a2, .int (zI M31 a0 (Int32.toNatClampNeg (x3 + (1 : Int32)))), .int (zI M31 a0 (Int32.toNatClampNeg (x3 + (2 : Int32))))] M31) fun u47 M32 =>
    if u46 = u47 then (zbi (x3 + (5 : Int32)) fun u48 =>
      K 18 [some (.ref a0), some (.ref a1), some (.ref a2), some (.int u48)] [] M32)
    else zif ((0 : Int32) = 0 ∨ (0 : Int32) = 1) (some (some (.int (0 : Int32)), M32)))))))))
  else if ((zI M a0 (Int32.toNatClampNeg x3)) &&& (31 : Int32)) = (16 : Int32) then (zif (((zK M a0).1 = 20 ∨ (zK M a0).1 = 24) ∧ zin (x3 + (1 : Int32)) (zK M a0).2 = true)
    (zif (((zK M a0).1 = 20 ∨ (zK M a0).1 = 24) ∧ zin (x3 + (2 : Int32)) (zK M a0).2 = true)
    (zif ((zK M a1).1 = 10)
    (zbI (E n_PT_decided [.ref a1, .int (zI M a0 (Int32.toNatClampNeg (x3 + (1 : Int32)))), .int (zI M a0 (Int32.toNatClampNeg (x3 + (2 : Int32))))] M) fun u49 M33 =>
    zif (((zK M33 a0).1 = 20 ∨ (zK M33 a0).1 = 24) ∧ zin (x3 + (1 : Int32)) (zK M33 a0).2 = true)
    (zif (((zK M33 a0).1 = 20 ∨ (zK M33 a0).1 = 24) ∧ zin (x3 + (2 : Int32)) (zK M33 a0).2 = true)
    (zif ((zK M33 a2).1 = 11)
    (zbI (E n_Mo_decided [.ref a2, .int (zI M33 a0 (Int32.toNatClampNeg (x3 + (1 : Int32)))), .int (zI M33 a0 (Int32.toNatClampNeg (x3 + (2 : Int32))))] M33) fun u50 M34 =>
    if u49 = u50 then (zbi (x3 + (5 : Int32)) fun u51 =>
      K 18 [some (.ref a0), some (.ref a1), some (.ref a2), some (.int u51)] [] M34)
    else zif ((0 : Int32) = 0 ∨ (0 : Int32) = 1) (some (some (.int (0 : Int32)), M34)))))))))
  else if ((zI M a0 (Int32.toNatClampNeg x3)) &&& (31 : Int32)) = (17 : Int32) then (zif (((zK M a0).1 = 20 ∨ (zK M a0).1 = 24) ∧ zin (x3 + (1 : Int32)) (zK M a0).2 = true)
    (zif (((zK M a0).1 = 20 ∨ (zK M a0).1 = 24) ∧ zin (x3 + (2 : Int32)) (zK M a0).2 = true)
    (zif ((zK M a1).1 = 10)
    (zbI (E n_PT_duties [.ref a1, .int (zI M a0 (Int32.toNatClampNeg (x3 + (1 : Int32)))), .int (zI M a0 (Int32.toNatClampNeg (x3 + (2 : Int32))))] M) fun u52 M35 =>
    zif (((zK M35 a0).1 = 20 ∨ (zK M35 a0).1 = 24) ∧ zin (x3 + (1 : Int32)) (zK M35 a0).2 = true)
    (zif (((zK M35 a0).1 = 20 ∨ (zK M35 a0).1 = 24) ∧ zin (x3 + (2 : Int32)) (zK M35 a0).2 = true)
    (zif ((zK M35 a2).1 = 11)
    (zbI (E n_Mo_duties [.ref a2, .int (zI M35 a0 (Int32.toNatClampNeg (x3 + (1 : Int32)))), .int (zI M35 a0 (Int32.toNatClampNeg (x3 + (2 : Int32))))] M35) fun u53 M36 =>
    if u52 = u53 then (zbi (x3 + (5 : Int32)) fun u54 =>
      K 18 [some (.ref a0), some (.ref a1), some (.ref a2), some (.int u54)] [] M36)
    else zif ((0 : Int32) = 0 ∨ (0 : Int32) = 1) (some (some (.int (0 : Int32)), M36)))))))))
  else if ((zI M a0 (Int32.toNatClampNeg x3)) &&& (31 : Int32)) = (18 : Int32) then (zif (((zK M a0).1 = 20 ∨ (zK M a0).1 = 24) ∧ zin (x3 + (1 : Int32)) (zK M a0).2 = true)
    (zif (((zK M a0).1 = 20 ∨ (zK M a0).1 = 24) ∧ zin (x3 + (2 : Int32)) (zK M a0).2 = true)
    (zif (((zK M a0).1 = 20 ∨ (zK M a0).1 = 24) ∧ zin (x3 + (3 : Int32)) (zK M a0).2 = true)
    (zif (((zK M a0).1 = 20 ∨ (zK M a0).1 = 24) ∧ zin (x3 + (4 : Int32)) (zK M a0).2 = true)
    (zif ((zK M a1).1 = 10)
    (zbI (E n_PT_duty [.ref a1, .int (zI M a0 (Int32.toNatClampNeg (x3 + (1 : Int32)))), .int (zI M a0 (Int32.toNatClampNeg (x3 + (2 : Int32)))), .int (zI M a0 (Int32.toNatClampNeg (x3 + (3 : Int32)))), .int (zI M a0 (Int32.toNatClampNeg (x3 + (4 : Int32))))] M) fun u55 M37 =>
    zif (((zK M37 a0).1 = 20 ∨ (zK M37 a0).1 = 24) ∧ zin (x3 + (1 : Int32)) (zK M37 a0).2 = true)
    (zif (((zK M37 a0).1 = 20 ∨ (zK M37 a0).1 = 24) ∧ zin (x3 + (2 : Int32)) (zK M37 a0).2 = true)
    (zif (((zK M37 a0).1 = 20 ∨ (zK M37 a0).1 = 24) ∧ zin (x3 + (3 : Int32)) (zK M37 a0).2 = true)
    (zif (((zK M37 a0).1 = 20 ∨ (zK M37 a0).1 = 24) ∧ zin (x3 + (4 : Int32)) (zK M37 a0).2 = true)
    (zif ((zK M37 a2).1 = 11)
    (zbI (E n_Mo_duty [.ref a2, .int (zI M37 a0 (Int32.toNatClampNeg (x3 + (1 : Int32)))), .int (zI M37 a0 (Int32.toNatClampNeg (x3 + (2 : Int32)))), .int (zI M37 a0 (Int32.toNatClampNeg (x3 + (3 : Int32)))), .int (zI M37 a0 (Int32.toNatClampNeg (x3 + (4 : Int32))))] M37) fun u56 M38 =>
    if u55 = u56 then (zbi (x3 + (5 : Int32)) fun u57 =>
      K 18 [some (.ref a0), some (.ref a1), some (.ref a2), some (.int u57)] [] M38)
    else zif ((0 : Int32) = 0 ∨ (0 : Int32) = 1) (some (some (.int (0 : Int32)), M38)))))))))))))
  else if ((zI M a0 (Int32.toNatClampNeg x3)) &&& (31 : Int32)) = (19 : Int32) then (zif (((zK M a0).1 = 20 ∨ (zK M a0).1 = 24) ∧ zin (x3 + (1 : Int32)) (zK M a0).2 = true)
    (zif (((zK M a0).1 = 20 ∨ (zK M a0).1 = 24) ∧ zin (x3 + (2 : Int32)) (zK M a0).2 = true)
    (zif ((zK M a1).1 = 10)
    (zbI (E n_PT_tries [.ref a1, .int (zI M a0 (Int32.toNatClampNeg (x3 + (1 : Int32)))), .int (zI M a0 (Int32.toNatClampNeg (x3 + (2 : Int32))))] M) fun u58 M39 =>
    zif (((zK M39 a0).1 = 20 ∨ (zK M39 a0).1 = 24) ∧ zin (x3 + (1 : Int32)) (zK M39 a0).2 = true)
    (zif (((zK M39 a0).1 = 20 ∨ (zK M39 a0).1 = 24) ∧ zin (x3 + (2 : Int32)) (zK M39 a0).2 = true)
    (zif ((zK M39 a2).1 = 11)
    (zbI (E n_Mo_tries [.ref a2, .int (zI M39 a0 (Int32.toNatClampNeg (x3 + (1 : Int32)))), .int (zI M39 a0 (Int32.toNatClampNeg (x3 + (2 : Int32))))] M39) fun u59 M40 =>
    if u58 = u59 then (zbi (x3 + (5 : Int32)) fun u60 =>
      K 18 [some (.ref a0), some (.ref a1), some (.ref a2), some (.int u60)] [] M40)
    else zif ((0 : Int32) = 0 ∨ (0 : Int32) = 1) (some (some (.int (0 : Int32)), M40)))))))))
  else if ((zI M a0 (Int32.toNatClampNeg x3)) &&& (31 : Int32)) = (20 : Int32) then (zif (((zK M a0).1 = 20 ∨ (zK M a0).1 = 24) ∧ zin (x3 + (1 : Int32)) (zK M a0).2 = true)
    (zif (((zK M a0).1 = 20 ∨ (zK M a0).1 = 24) ∧ zin (x3 + (2 : Int32)) (zK M a0).2 = true)
    (zif ((zK M a1).1 = 10)
    (zbI (E n_PT_first [.ref a1, .int (zI M a0 (Int32.toNatClampNeg (x3 + (1 : Int32)))), .int (zI M a0 (Int32.toNatClampNeg (x3 + (2 : Int32))))] M) fun u61 M41 =>
    zif (((zK M41 a0).1 = 20 ∨ (zK M41 a0).1 = 24) ∧ zin (x3 + (1 : Int32)) (zK M41 a0).2 = true)
    (zif (((zK M41 a0).1 = 20 ∨ (zK M41 a0).1 = 24) ∧ zin (x3 + (2 : Int32)) (zK M41 a0).2 = true)
    (zif ((zK M41 a2).1 = 11)
    (zbI (E n_Mo_first [.ref a2, .int (zI M41 a0 (Int32.toNatClampNeg (x3 + (1 : Int32)))), .int (zI M41 a0 (Int32.toNatClampNeg (x3 + (2 : Int32))))] M41) fun u62 M42 =>
    if u61 = u62 then (zbi (x3 + (5 : Int32)) fun u63 =>
      K 18 [some (.ref a0), some (.ref a1), some (.ref a2), some (.int u63)] [] M42)
    else zif ((0 : Int32) = 0 ∨ (0 : Int32) = 1) (some (some (.int (0 : Int32)), M42)))))))))
  else if ((zI M a0 (Int32.toNatClampNeg x3)) &&& (31 : Int32)) = (21 : Int32) then (zif (((zK M a0).1 = 20 ∨ (zK M a0).1 = 24) ∧ zin (x3 + (1 : Int32)) (zK M a0).2 = true)
    (zif ((zK M a1).1 = 10)
    (zbI (E n_PT_keep [.ref a1, .int (zI M a0 (Int32.toNatClampNeg (x3 + (1 : Int32))))] M) fun u64 M43 =>
    zif (((zK M43 a0).1 = 20 ∨ (zK M43 a0).1 = 24) ∧ zin (x3 + (1 : Int32)) (zK M43 a0).2 = true)
    (zif ((zK M43 a2).1 = 11)
    (zbI (E n_Mo_keep [.ref a2, .int (zI M43 a0 (Int32.toNatClampNeg (x3 + (1 : Int32))))] M43) fun u65 M44 =>
    if u64 = u65 then (zbi (x3 + (5 : Int32)) fun u66 =>
      K 18 [some (.ref a0), some (.ref a1), some (.ref a2), some (.int u66)] [] M44)
    else zif ((0 : Int32) = 0 ∨ (0 : Int32) = 1) (some (some (.int (0 : Int32)), M44)))))))
  else if ((zI M a0 (Int32.toNatClampNeg x3)) &&& (31 : Int32)) = (22 : Int32) then (zif (((zK M a0).1 = 20 ∨ (zK M a0).1 = 24) ∧ zin (x3 + (1 : Int32)) (zK M a0).2 = true)
    (zif ((zK M a1).1 = 10)
    (zbI (E n_PT_back [.ref a1, .int (zI M a0 (Int32.toNatClampNeg (x3 + (1 : Int32))))] M) fun u67 M45 =>
    zif (((zK M45 a0).1 = 20 ∨ (zK M45 a0).1 = 24) ∧ zin (x3 + (1 : Int32)) (zK M45 a0).2 = true)
    (zif ((zK M45 a2).1 = 11)
    (zbI (E n_Mo_back [.ref a2, .int (zI M45 a0 (Int32.toNatClampNeg (x3 + (1 : Int32))))] M45) fun u68 M46 =>
    if u67 = u68 then (zbi (x3 + (5 : Int32)) fun u69 =>
      K 18 [some (.ref a0), some (.ref a1), some (.ref a2), some (.int u69)] [] M46)
    else zif ((0 : Int32) = 0 ∨ (0 : Int32) = 1) (some (some (.int (0 : Int32)), M46)))))))
  else if ((zI M a0 (Int32.toNatClampNeg x3)) &&& (31 : Int32)) = (23 : Int32) then (zif (((zK M a0).1 = 20 ∨ (zK M a0).1 = 24) ∧ zin (x3 + (1 : Int32)) (zK M a0).2 = true)
    (zif (((zK M a0).1 = 20 ∨ (zK M a0).1 = 24) ∧ zin (x3 + (2 : Int32)) (zK M a0).2 = true)
    (zif (((zK M a0).1 = 20 ∨ (zK M a0).1 = 24) ∧ zin (x3 + (3 : Int32)) (zK M a0).2 = true)
    (zif ((zK M a1).1 = 10)
    (zbI (E n_PT_sheet [.ref a1, .int (zI M a0 (Int32.toNatClampNeg (x3 + (1 : Int32)))), .int (zI M a0 (Int32.toNatClampNeg (x3 + (2 : Int32)))), .int (zI M a0 (Int32.toNatClampNeg (x3 + (3 : Int32))))] M) fun u70 M47 =>
    zif (((zK M47 a0).1 = 20 ∨ (zK M47 a0).1 = 24) ∧ zin (x3 + (1 : Int32)) (zK M47 a0).2 = true)
    (zif (((zK M47 a0).1 = 20 ∨ (zK M47 a0).1 = 24) ∧ zin (x3 + (2 : Int32)) (zK M47 a0).2 = true)
    (zif (((zK M47 a0).1 = 20 ∨ (zK M47 a0).1 = 24) ∧ zin (x3 + (3 : Int32)) (zK M47 a0).2 = true)
    (zif ((zK M47 a2).1 = 11)
    (zbI (E n_Mo_sheet [.ref a2, .int (zI M47 a0 (Int32.toNatClampNeg (x3 + (1 : Int32)))), .int (zI M47 a0 (Int32.toNatClampNeg (x3 + (2 : Int32)))), .int (zI M47 a0 (Int32.toNatClampNeg (x3 + (3 : Int32))))] M47) fun u71 M48 =>
    if u70 = u71 then (zbi (x3 + (5 : Int32)) fun u72 =>
      K 18 [some (.ref a0), some (.ref a1), some (.ref a2), some (.int u72)] [] M48)
    else zif ((0 : Int32) = 0 ∨ (0 : Int32) = 1) (some (some (.int (0 : Int32)), M48)))))))))))
  else if ((zI M a0 (Int32.toNatClampNeg x3)) &&& (31 : Int32)) = (24 : Int32) then (zif (((zK M a0).1 = 20 ∨ (zK M a0).1 = 24) ∧ zin (x3 + (1 : Int32)) (zK M a0).2 = true)
    (zif (((zK M a0).1 = 20 ∨ (zK M a0).1 = 24) ∧ zin (x3 + (2 : Int32)) (zK M a0).2 = true)
    (zif (((zK M a0).1 = 20 ∨ (zK M a0).1 = 24) ∧ zin (x3 + (3 : Int32)) (zK M a0).2 = true)
    (zif ((zK M a1).1 = 10)
    (zbI (E n_PT_lay [.ref a1, .int (zI M a0 (Int32.toNatClampNeg (x3 + (1 : Int32)))), .int (zI M a0 (Int32.toNatClampNeg (x3 + (2 : Int32)))), .int (zI M a0 (Int32.toNatClampNeg (x3 + (3 : Int32))))] M) fun u73 M49 =>
    zif (((zK M49 a0).1 = 20 ∨ (zK M49 a0).1 = 24) ∧ zin (x3 + (1 : Int32)) (zK M49 a0).2 = true)
    (zif (((zK M49 a0).1 = 20 ∨ (zK M49 a0).1 = 24) ∧ zin (x3 + (2 : Int32)) (zK M49 a0).2 = true)
    (zif (((zK M49 a0).1 = 20 ∨ (zK M49 a0).1 = 24) ∧ zin (x3 + (3 : Int32)) (zK M49 a0).2 = true)
    (zif ((zK M49 a2).1 = 11)
    (zbI (E n_Mo_lay [.ref a2, .int (zI M49 a0 (Int32.toNatClampNeg (x3 + (1 : Int32)))), .int (zI M49 a0 (Int32.toNatClampNeg (x3 + (2 : Int32)))), .int (zI M49 a0 (Int32.toNatClampNeg (x3 + (3 : Int32))))] M49) fun u74 M50 =>
    if u73 = u74 then (zbi (x3 + (5 : Int32)) fun u75 =>
      K 18 [some (.ref a0), some (.ref a1), some (.ref a2), some (.int u75)] [] M50)
    else zif ((0 : Int32) = 0 ∨ (0 : Int32) = 1) (some (some (.int (0 : Int32)), M50)))))))))))
  else if ((zI M a0 (Int32.toNatClampNeg x3)) &&& (31 : Int32)) = (25 : Int32) then (zif (((zK M a0).1 = 20 ∨ (zK M a0).1 = 24) ∧ zin (x3 + (1 : Int32)) (zK M a0).2 = true)
    (zif (((zK M a0).1 = 20 ∨ (zK M a0).1 = 24) ∧ zin (x3 + (2 : Int32)) (zK M a0).2 = true)
    (zif (((zK M a0).1 = 20 ∨ (zK M a0).1 = 24) ∧ zin (x3 + (3 : Int32)) (zK M a0).2 = true)
    (zif (((zK M a0).1 = 20 ∨ (zK M a0).1 = 24) ∧ zin (x3 + (4 : Int32)) (zK M a0).2 = true)
    (zif ((zK M a1).1 = 10)
    (zbI (E n_PT_run [.ref a1, .int (zI M a0 (Int32.toNatClampNeg (x3 + (1 : Int32)))), .int (zI M a0 (Int32.toNatClampNeg (x3 + (2 : Int32)))), .int (zI M a0 (Int32.toNatClampNeg (x3 + (3 : Int32)))), .int (zI M a0 (Int32.toNatClampNeg (x3 + (4 : Int32))))] M) fun u76 M51 =>
    zif (((zK M51 a0).1 = 20 ∨ (zK M51 a0).1 = 24) ∧ zin (x3 + (1 : Int32)) (zK M51 a0).2 = true)
    (zif (((zK M51 a0).1 = 20 ∨ (zK M51 a0).1 = 24) ∧ zin (x3 + (2 : Int32)) (zK M51 a0).2 = true)
    (zif (((zK M51 a0).1 = 20 ∨ (zK M51 a0).1 = 24) ∧ zin (x3 + (3 : Int32)) (zK M51 a0).2 = true)
    (zif (((zK M51 a0).1 = 20 ∨ (zK M51 a0).1 = 24) ∧ zin (x3 + (4 : Int32)) (zK M51 a0).2 = true)
    (zif ((zK M51 a2).1 = 11)
    (zbI (E n_Mo_run [.ref a2, .int (zI M51 a0 (Int32.toNatClampNeg (x3 + (1 : Int32)))), .int (zI M51 a0 (Int32.toNatClampNeg (x3 + (2 : Int32)))), .int (zI M51 a0 (Int32.toNatClampNeg (x3 + (3 : Int32)))), .int (zI M51 a0 (Int32.toNatClampNeg (x3 + (4 : Int32))))] M51) fun u77 M52 =>
    if u76 = u77 then (zbi (x3 + (5 : Int32)) fun u78 =>
      K 18 [some (.ref a0), some (.ref a1), some (.ref a2), some (.int u78)] [] M52)
    else zif ((0 : Int32) = 0 ∨ (0 : Int32) = 1) (some (some (.int (0 : Int32)), M52)))))))))))))
  else if ((zI M a0 (Int32.toNatClampNeg x3)) &&& (31 : Int32)) = (26 : Int32) then (zif ((zK M a1).1 = 10)
    (zbI (E n_PT_torn [.ref a1] M) fun u79 M53 =>
    zif ((zK M53 a2).1 = 11)
    (zbI (E n_Mo_torn [.ref a2] M53) fun u80 M54 =>
    if u79 = u80 then (zbi (x3 + (5 : Int32)) fun u81 =>
      K 18 [some (.ref a0), some (.ref a1), some (.ref a2), some (.int u81)] [] M54)
    else zif ((0 : Int32) = 0 ∨ (0 : Int32) = 1) (some (some (.int (0 : Int32)), M54)))))
  else if ((zI M a0 (Int32.toNatClampNeg x3)) &&& (31 : Int32)) = (27 : Int32) then (zif (((zK M a0).1 = 20 ∨ (zK M a0).1 = 24) ∧ zin (x3 + (1 : Int32)) (zK M a0).2 = true)
    (zif ((zK M a1).1 = 10)
    (zbI (E n_PT_count [.ref a1, .int (zI M a0 (Int32.toNatClampNeg (x3 + (1 : Int32))))] M) fun u82 M55 =>
    zif (((zK M55 a0).1 = 20 ∨ (zK M55 a0).1 = 24) ∧ zin (x3 + (1 : Int32)) (zK M55 a0).2 = true)
    (zif ((zK M55 a2).1 = 11)
    (zbI (E n_Mo_count [.ref a2, .int (zI M55 a0 (Int32.toNatClampNeg (x3 + (1 : Int32))))] M55) fun u83 M56 =>
    if u82 = u83 then (zbi (x3 + (5 : Int32)) fun u84 =>
      K 18 [some (.ref a0), some (.ref a1), some (.ref a2), some (.int u84)] [] M56)
    else zif ((0 : Int32) = 0 ∨ (0 : Int32) = 1) (some (some (.int (0 : Int32)), M56)))))))
  else zbi (x3 + (5 : Int32)) fun u85 =>
  K 18 [some (.ref a0), some (.ref a1), some (.ref a2), some (.int u85)] [] M))
set_option maxRecDepth 20000 in
theorem zg_La_law_18 (d : Nat) (a0 : Nat) (a1 : Nat) (a2 : Nat) (x3 : Int32) (M : zM) : zG d n_La_law 18 [some (.ref a0), some (.ref a1), some (.ref a2), some (.int x3)] [] M = zx_La_law_18 (zV d) (zG d n_La_law) a0 a1 a2 x3 M := by
  refine (zG_sg (m := zm_La_law) rfl 400 _ _ _ M).trans ?_
  show zw true zm_La_law (zV d) (zG d n_La_law) 400 18 [some (.ref a0), some (.ref a1), some (.ref a2), some (.int x3)] [] M = _
  unfold zx_La_law_18
  refine zw_iload_n (p := 19) (Or.inl rfl) rfl rfl rfl ?_
  refine zw_aload_n (p := 20) (Or.inr rfl) rfl rfl rfl ?_
  refine zw_arraylength (p := 21) (Or.inr rfl) rfl rfl ?_
  refine zw_iconst (p := 22) (x := (5 : Int32)) (Or.inr rfl) rfl rfl rfl ?_
  refine zw_isub (p := 23) (Or.inr rfl) rfl rfl ?_
  refine zw_icmp_gt (t := 1060) (p := 26) (Or.inr rfl) rfl rfl rfl ?_ ?_
  · refine zw_iconst (p := 1061) (x := (1 : Int32)) (Or.inr rfl) rfl rfl rfl ?_
    exact zw_ireturn2 (Or.inr rfl) rfl rfl
  refine zw_aload_n (p := 27) (Or.inr rfl) rfl rfl rfl ?_
  refine zw_iload_n (p := 28) (Or.inr rfl) rfl rfl rfl ?_
  refine zw_iaload (p := 29) (Or.inr rfl) rfl rfl ?_
  refine zw_bipush (p := 31) (x := (31 : Int32)) (Or.inr rfl) rfl rfl rfl ?_
  refine zw_iand (p := 32) (Or.inr rfl) rfl rfl ?_
  refine zw_table (Or.inr rfl) rfl ?_
  refine zsw_c (lo2 := 1) rfl ?_ ?_
  · refine zw_aload_n (p := 161) (Or.inr rfl) rfl rfl rfl ?_
    refine zw_aload_n (p := 162) (Or.inr rfl) rfl rfl rfl ?_
    refine zw_iload_n (p := 163) (Or.inr rfl) rfl rfl rfl ?_
    refine zw_iconst (p := 164) (x := (1 : Int32)) (Or.inr rfl) rfl rfl rfl ?_
    refine zw_iadd (p := 165) (Or.inr rfl) rfl rfl ?_
    refine zw_iaload (p := 166) (Or.inr rfl) rfl rfl ?_
    refine zw_virtualI (p := 169) (as := [.ref a1, .int (zI M a0 (Int32.toNatClampNeg (x3 + (1 : Int32))))]) (rest := []) (Or.inr rfl) rfl rfl rfl rfl rfl rfl rfl (fun u1 M1 => ?_)
    refine zw_aload_n (p := 170) (Or.inr rfl) rfl rfl rfl ?_
    refine zw_aload_n (p := 171) (Or.inr rfl) rfl rfl rfl ?_
    refine zw_iload_n (p := 172) (Or.inr rfl) rfl rfl rfl ?_
    refine zw_iconst (p := 173) (x := (1 : Int32)) (Or.inr rfl) rfl rfl rfl ?_
    refine zw_iadd (p := 174) (Or.inr rfl) rfl rfl ?_
    refine zw_iaload (p := 175) (Or.inr rfl) rfl rfl ?_
    refine zw_virtualI (p := 178) (as := [.ref a2, .int (zI M1 a0 (Int32.toNatClampNeg (x3 + (1 : Int32))))]) (rest := [.int u1]) (Or.inr rfl) rfl rfl rfl rfl rfl rfl rfl (fun u2 M2 => ?_)
    refine zw_icmp_eq (t := 1054) (p := 181) (Or.inr rfl) rfl rfl rfl ?_ ?_
    · refine zw_iinc (p := 1057) (c := (5 : Int32)) (L2 := fun u3 => [some (.ref a0), some (.ref a1), some (.ref a2), some (.int u3)]) (Or.inr rfl) rfl rfl rfl rfl (fun _ => rfl) rfl (fun u3 => ?_)
      refine zw_goto (t := 18) (Or.inr rfl) rfl rfl ?_
      exact zw_end rfl rfl
    refine zw_iconst (p := 182) (x := (0 : Int32)) (Or.inr rfl) rfl rfl rfl ?_
    exact zw_ireturn2 (Or.inr rfl) rfl rfl
  refine zsw_c (lo2 := 2) rfl ?_ ?_
  · refine zw_aload_n (p := 184) (Or.inr rfl) rfl rfl rfl ?_
    refine zw_aload_n (p := 185) (Or.inr rfl) rfl rfl rfl ?_
    refine zw_iload_n (p := 186) (Or.inr rfl) rfl rfl rfl ?_
    refine zw_iconst (p := 187) (x := (1 : Int32)) (Or.inr rfl) rfl rfl rfl ?_
    refine zw_iadd (p := 188) (Or.inr rfl) rfl rfl ?_
    refine zw_iaload (p := 189) (Or.inr rfl) rfl rfl ?_
    refine zw_virtualI (p := 192) (as := [.ref a1, .int (zI M a0 (Int32.toNatClampNeg (x3 + (1 : Int32))))]) (rest := []) (Or.inr rfl) rfl rfl rfl rfl rfl rfl rfl (fun u4 M3 => ?_)
    refine zw_aload_n (p := 193) (Or.inr rfl) rfl rfl rfl ?_
    refine zw_aload_n (p := 194) (Or.inr rfl) rfl rfl rfl ?_
    refine zw_iload_n (p := 195) (Or.inr rfl) rfl rfl rfl ?_
    refine zw_iconst (p := 196) (x := (1 : Int32)) (Or.inr rfl) rfl rfl rfl ?_
    refine zw_iadd (p := 197) (Or.inr rfl) rfl rfl ?_
    refine zw_iaload (p := 198) (Or.inr rfl) rfl rfl ?_
    refine zw_virtualI (p := 201) (as := [.ref a2, .int (zI M3 a0 (Int32.toNatClampNeg (x3 + (1 : Int32))))]) (rest := [.int u4]) (Or.inr rfl) rfl rfl rfl rfl rfl rfl rfl (fun u5 M4 => ?_)
    refine zw_icmp_eq (t := 1054) (p := 204) (Or.inr rfl) rfl rfl rfl ?_ ?_
    · refine zw_iinc (p := 1057) (c := (5 : Int32)) (L2 := fun u6 => [some (.ref a0), some (.ref a1), some (.ref a2), some (.int u6)]) (Or.inr rfl) rfl rfl rfl rfl (fun _ => rfl) rfl (fun u6 => ?_)
      refine zw_goto (t := 18) (Or.inr rfl) rfl rfl ?_
      exact zw_end rfl rfl
    refine zw_iconst (p := 205) (x := (0 : Int32)) (Or.inr rfl) rfl rfl rfl ?_
    exact zw_ireturn2 (Or.inr rfl) rfl rfl
  refine zsw_c (lo2 := 3) rfl ?_ ?_
  · refine zw_aload_n (p := 207) (Or.inr rfl) rfl rfl rfl ?_
    refine zw_virtualI (p := 210) (as := [.ref a1]) (rest := []) (Or.inr rfl) rfl rfl rfl rfl rfl rfl rfl (fun u7 M5 => ?_)
    refine zw_aload_n (p := 211) (Or.inr rfl) rfl rfl rfl ?_
    refine zw_virtualI (p := 214) (as := [.ref a2]) (rest := [.int u7]) (Or.inr rfl) rfl rfl rfl rfl rfl rfl rfl (fun u8 M6 => ?_)
    refine zw_icmp_eq (t := 1054) (p := 217) (Or.inr rfl) rfl rfl rfl ?_ ?_
    · refine zw_iinc (p := 1057) (c := (5 : Int32)) (L2 := fun u9 => [some (.ref a0), some (.ref a1), some (.ref a2), some (.int u9)]) (Or.inr rfl) rfl rfl rfl rfl (fun _ => rfl) rfl (fun u9 => ?_)
      refine zw_goto (t := 18) (Or.inr rfl) rfl rfl ?_
      exact zw_end rfl rfl
    refine zw_iconst (p := 218) (x := (0 : Int32)) (Or.inr rfl) rfl rfl rfl ?_
    exact zw_ireturn2 (Or.inr rfl) rfl rfl
  refine zsw_c (lo2 := 4) rfl ?_ ?_
  · refine zw_aload_n (p := 220) (Or.inr rfl) rfl rfl rfl ?_
    refine zw_virtualI (p := 223) (as := [.ref a1]) (rest := []) (Or.inr rfl) rfl rfl rfl rfl rfl rfl rfl (fun u10 M7 => ?_)
    refine zw_aload_n (p := 224) (Or.inr rfl) rfl rfl rfl ?_
    refine zw_virtualI (p := 227) (as := [.ref a2]) (rest := [.int u10]) (Or.inr rfl) rfl rfl rfl rfl rfl rfl rfl (fun u11 M8 => ?_)
    refine zw_icmp_eq (t := 1054) (p := 230) (Or.inr rfl) rfl rfl rfl ?_ ?_
    · refine zw_iinc (p := 1057) (c := (5 : Int32)) (L2 := fun u12 => [some (.ref a0), some (.ref a1), some (.ref a2), some (.int u12)]) (Or.inr rfl) rfl rfl rfl rfl (fun _ => rfl) rfl (fun u12 => ?_)
      refine zw_goto (t := 18) (Or.inr rfl) rfl rfl ?_
      exact zw_end rfl rfl
    refine zw_iconst (p := 231) (x := (0 : Int32)) (Or.inr rfl) rfl rfl rfl ?_
    exact zw_ireturn2 (Or.inr rfl) rfl rfl
  refine zsw_c (lo2 := 5) rfl ?_ ?_
  · refine zw_aload_n (p := 233) (Or.inr rfl) rfl rfl rfl ?_
    refine zw_aload_n (p := 234) (Or.inr rfl) rfl rfl rfl ?_
    refine zw_iload_n (p := 235) (Or.inr rfl) rfl rfl rfl ?_
    refine zw_iconst (p := 236) (x := (1 : Int32)) (Or.inr rfl) rfl rfl rfl ?_
    refine zw_iadd (p := 237) (Or.inr rfl) rfl rfl ?_
    refine zw_iaload (p := 238) (Or.inr rfl) rfl rfl ?_
    refine zw_virtualI (p := 241) (as := [.ref a1, .int (zI M a0 (Int32.toNatClampNeg (x3 + (1 : Int32))))]) (rest := []) (Or.inr rfl) rfl rfl rfl rfl rfl rfl rfl (fun u13 M9 => ?_)
    refine zw_aload_n (p := 242) (Or.inr rfl) rfl rfl rfl ?_
    refine zw_aload_n (p := 243) (Or.inr rfl) rfl rfl rfl ?_
    refine zw_iload_n (p := 244) (Or.inr rfl) rfl rfl rfl ?_
    refine zw_iconst (p := 245) (x := (1 : Int32)) (Or.inr rfl) rfl rfl rfl ?_
    refine zw_iadd (p := 246) (Or.inr rfl) rfl rfl ?_
    refine zw_iaload (p := 247) (Or.inr rfl) rfl rfl ?_
    refine zw_virtualI (p := 250) (as := [.ref a2, .int (zI M9 a0 (Int32.toNatClampNeg (x3 + (1 : Int32))))]) (rest := [.int u13]) (Or.inr rfl) rfl rfl rfl rfl rfl rfl rfl (fun u14 M10 => ?_)
    refine zw_icmp_eq (t := 1054) (p := 253) (Or.inr rfl) rfl rfl rfl ?_ ?_
    · refine zw_iinc (p := 1057) (c := (5 : Int32)) (L2 := fun u15 => [some (.ref a0), some (.ref a1), some (.ref a2), some (.int u15)]) (Or.inr rfl) rfl rfl rfl rfl (fun _ => rfl) rfl (fun u15 => ?_)
      refine zw_goto (t := 18) (Or.inr rfl) rfl rfl ?_
      exact zw_end rfl rfl
    refine zw_iconst (p := 254) (x := (0 : Int32)) (Or.inr rfl) rfl rfl rfl ?_
    exact zw_ireturn2 (Or.inr rfl) rfl rfl
  refine zsw_c (lo2 := 6) rfl ?_ ?_
  · refine zw_aload_n (p := 256) (Or.inr rfl) rfl rfl rfl ?_
    refine zw_aload_n (p := 257) (Or.inr rfl) rfl rfl rfl ?_
    refine zw_iload_n (p := 258) (Or.inr rfl) rfl rfl rfl ?_
    refine zw_iconst (p := 259) (x := (1 : Int32)) (Or.inr rfl) rfl rfl rfl ?_
    refine zw_iadd (p := 260) (Or.inr rfl) rfl rfl ?_
    refine zw_iaload (p := 261) (Or.inr rfl) rfl rfl ?_
    refine zw_aload_n (p := 262) (Or.inr rfl) rfl rfl rfl ?_
    refine zw_iload_n (p := 263) (Or.inr rfl) rfl rfl rfl ?_
    refine zw_iconst (p := 264) (x := (2 : Int32)) (Or.inr rfl) rfl rfl rfl ?_
    refine zw_iadd (p := 265) (Or.inr rfl) rfl rfl ?_
    refine zw_iaload (p := 266) (Or.inr rfl) rfl rfl ?_
    refine zw_virtualI (p := 269) (as := [.ref a1, .int (zI M a0 (Int32.toNatClampNeg (x3 + (1 : Int32)))), .int (zI M a0 (Int32.toNatClampNeg (x3 + (2 : Int32))))]) (rest := []) (Or.inr rfl) rfl rfl rfl rfl rfl rfl rfl (fun u16 M11 => ?_)
    refine zw_aload_n (p := 270) (Or.inr rfl) rfl rfl rfl ?_
    refine zw_aload_n (p := 271) (Or.inr rfl) rfl rfl rfl ?_
    refine zw_iload_n (p := 272) (Or.inr rfl) rfl rfl rfl ?_
    refine zw_iconst (p := 273) (x := (1 : Int32)) (Or.inr rfl) rfl rfl rfl ?_
    refine zw_iadd (p := 274) (Or.inr rfl) rfl rfl ?_
    refine zw_iaload (p := 275) (Or.inr rfl) rfl rfl ?_
    refine zw_aload_n (p := 276) (Or.inr rfl) rfl rfl rfl ?_
    refine zw_iload_n (p := 277) (Or.inr rfl) rfl rfl rfl ?_
    refine zw_iconst (p := 278) (x := (2 : Int32)) (Or.inr rfl) rfl rfl rfl ?_
    refine zw_iadd (p := 279) (Or.inr rfl) rfl rfl ?_
    refine zw_iaload (p := 280) (Or.inr rfl) rfl rfl ?_
    refine zw_virtualI (p := 283) (as := [.ref a2, .int (zI M11 a0 (Int32.toNatClampNeg (x3 + (1 : Int32)))), .int (zI M11 a0 (Int32.toNatClampNeg (x3 + (2 : Int32))))]) (rest := [.int u16]) (Or.inr rfl) rfl rfl rfl rfl rfl rfl rfl (fun u17 M12 => ?_)
    refine zw_icmp_eq (t := 1054) (p := 286) (Or.inr rfl) rfl rfl rfl ?_ ?_
    · refine zw_iinc (p := 1057) (c := (5 : Int32)) (L2 := fun u18 => [some (.ref a0), some (.ref a1), some (.ref a2), some (.int u18)]) (Or.inr rfl) rfl rfl rfl rfl (fun _ => rfl) rfl (fun u18 => ?_)
      refine zw_goto (t := 18) (Or.inr rfl) rfl rfl ?_
      exact zw_end rfl rfl
    refine zw_iconst (p := 287) (x := (0 : Int32)) (Or.inr rfl) rfl rfl rfl ?_
    exact zw_ireturn2 (Or.inr rfl) rfl rfl
  refine zsw_c (lo2 := 7) rfl ?_ ?_
  · refine zw_aload_n (p := 289) (Or.inr rfl) rfl rfl rfl ?_
    refine zw_aload_n (p := 290) (Or.inr rfl) rfl rfl rfl ?_
    refine zw_iload_n (p := 291) (Or.inr rfl) rfl rfl rfl ?_
    refine zw_iconst (p := 292) (x := (1 : Int32)) (Or.inr rfl) rfl rfl rfl ?_
    refine zw_iadd (p := 293) (Or.inr rfl) rfl rfl ?_
    refine zw_iaload (p := 294) (Or.inr rfl) rfl rfl ?_
    refine zw_aload_n (p := 295) (Or.inr rfl) rfl rfl rfl ?_
    refine zw_iload_n (p := 296) (Or.inr rfl) rfl rfl rfl ?_
    refine zw_iconst (p := 297) (x := (2 : Int32)) (Or.inr rfl) rfl rfl rfl ?_
    refine zw_iadd (p := 298) (Or.inr rfl) rfl rfl ?_
    refine zw_iaload (p := 299) (Or.inr rfl) rfl rfl ?_
    refine zw_aload_n (p := 300) (Or.inr rfl) rfl rfl rfl ?_
    refine zw_iload_n (p := 301) (Or.inr rfl) rfl rfl rfl ?_
    refine zw_iconst (p := 302) (x := (3 : Int32)) (Or.inr rfl) rfl rfl rfl ?_
    refine zw_iadd (p := 303) (Or.inr rfl) rfl rfl ?_
    refine zw_iaload (p := 304) (Or.inr rfl) rfl rfl ?_
    refine zw_aload_n (p := 305) (Or.inr rfl) rfl rfl rfl ?_
    refine zw_iload_n (p := 306) (Or.inr rfl) rfl rfl rfl ?_
    refine zw_iconst (p := 307) (x := (4 : Int32)) (Or.inr rfl) rfl rfl rfl ?_
    refine zw_iadd (p := 308) (Or.inr rfl) rfl rfl ?_
    refine zw_iaload (p := 309) (Or.inr rfl) rfl rfl ?_
    refine zw_virtualI (p := 312) (as := [.ref a1, .int (zI M a0 (Int32.toNatClampNeg (x3 + (1 : Int32)))), .int (zI M a0 (Int32.toNatClampNeg (x3 + (2 : Int32)))), .int (zI M a0 (Int32.toNatClampNeg (x3 + (3 : Int32)))), .int (zI M a0 (Int32.toNatClampNeg (x3 + (4 : Int32))))]) (rest := []) (Or.inr rfl) rfl rfl rfl rfl rfl rfl rfl (fun u19 M13 => ?_)
    refine zw_aload_n (p := 313) (Or.inr rfl) rfl rfl rfl ?_
    refine zw_aload_n (p := 314) (Or.inr rfl) rfl rfl rfl ?_
    refine zw_iload_n (p := 315) (Or.inr rfl) rfl rfl rfl ?_
    refine zw_iconst (p := 316) (x := (1 : Int32)) (Or.inr rfl) rfl rfl rfl ?_
    refine zw_iadd (p := 317) (Or.inr rfl) rfl rfl ?_
    refine zw_iaload (p := 318) (Or.inr rfl) rfl rfl ?_
    refine zw_aload_n (p := 319) (Or.inr rfl) rfl rfl rfl ?_
    refine zw_iload_n (p := 320) (Or.inr rfl) rfl rfl rfl ?_
    refine zw_iconst (p := 321) (x := (2 : Int32)) (Or.inr rfl) rfl rfl rfl ?_
    refine zw_iadd (p := 322) (Or.inr rfl) rfl rfl ?_
    refine zw_iaload (p := 323) (Or.inr rfl) rfl rfl ?_
    refine zw_aload_n (p := 324) (Or.inr rfl) rfl rfl rfl ?_
    refine zw_iload_n (p := 325) (Or.inr rfl) rfl rfl rfl ?_
    refine zw_iconst (p := 326) (x := (3 : Int32)) (Or.inr rfl) rfl rfl rfl ?_
    refine zw_iadd (p := 327) (Or.inr rfl) rfl rfl ?_
    refine zw_iaload (p := 328) (Or.inr rfl) rfl rfl ?_
    refine zw_aload_n (p := 329) (Or.inr rfl) rfl rfl rfl ?_
    refine zw_iload_n (p := 330) (Or.inr rfl) rfl rfl rfl ?_
    refine zw_iconst (p := 331) (x := (4 : Int32)) (Or.inr rfl) rfl rfl rfl ?_
    refine zw_iadd (p := 332) (Or.inr rfl) rfl rfl ?_
    refine zw_iaload (p := 333) (Or.inr rfl) rfl rfl ?_
    refine zw_virtualI (p := 336) (as := [.ref a2, .int (zI M13 a0 (Int32.toNatClampNeg (x3 + (1 : Int32)))), .int (zI M13 a0 (Int32.toNatClampNeg (x3 + (2 : Int32)))), .int (zI M13 a0 (Int32.toNatClampNeg (x3 + (3 : Int32)))), .int (zI M13 a0 (Int32.toNatClampNeg (x3 + (4 : Int32))))]) (rest := [.int u19]) (Or.inr rfl) rfl rfl rfl rfl rfl rfl rfl (fun u20 M14 => ?_)
    refine zw_icmp_eq (t := 1054) (p := 339) (Or.inr rfl) rfl rfl rfl ?_ ?_
    · refine zw_iinc (p := 1057) (c := (5 : Int32)) (L2 := fun u21 => [some (.ref a0), some (.ref a1), some (.ref a2), some (.int u21)]) (Or.inr rfl) rfl rfl rfl rfl (fun _ => rfl) rfl (fun u21 => ?_)
      refine zw_goto (t := 18) (Or.inr rfl) rfl rfl ?_
      exact zw_end rfl rfl
    refine zw_iconst (p := 340) (x := (0 : Int32)) (Or.inr rfl) rfl rfl rfl ?_
    exact zw_ireturn2 (Or.inr rfl) rfl rfl
  refine zsw_c (lo2 := 8) rfl ?_ ?_
  · refine zw_aload_n (p := 342) (Or.inr rfl) rfl rfl rfl ?_
    refine zw_aload_n (p := 343) (Or.inr rfl) rfl rfl rfl ?_
    refine zw_iload_n (p := 344) (Or.inr rfl) rfl rfl rfl ?_
    refine zw_iconst (p := 345) (x := (1 : Int32)) (Or.inr rfl) rfl rfl rfl ?_
    refine zw_iadd (p := 346) (Or.inr rfl) rfl rfl ?_
    refine zw_iaload (p := 347) (Or.inr rfl) rfl rfl ?_
    refine zw_aload_n (p := 348) (Or.inr rfl) rfl rfl rfl ?_
    refine zw_iload_n (p := 349) (Or.inr rfl) rfl rfl rfl ?_
    refine zw_iconst (p := 350) (x := (2 : Int32)) (Or.inr rfl) rfl rfl rfl ?_
    refine zw_iadd (p := 351) (Or.inr rfl) rfl rfl ?_
    refine zw_iaload (p := 352) (Or.inr rfl) rfl rfl ?_
    refine zw_aload_n (p := 353) (Or.inr rfl) rfl rfl rfl ?_
    refine zw_iload_n (p := 354) (Or.inr rfl) rfl rfl rfl ?_
    refine zw_iconst (p := 355) (x := (3 : Int32)) (Or.inr rfl) rfl rfl rfl ?_
    refine zw_iadd (p := 356) (Or.inr rfl) rfl rfl ?_
    refine zw_iaload (p := 357) (Or.inr rfl) rfl rfl ?_
    refine zw_virtualI (p := 360) (as := [.ref a1, .int (zI M a0 (Int32.toNatClampNeg (x3 + (1 : Int32)))), .int (zI M a0 (Int32.toNatClampNeg (x3 + (2 : Int32)))), .int (zI M a0 (Int32.toNatClampNeg (x3 + (3 : Int32))))]) (rest := []) (Or.inr rfl) rfl rfl rfl rfl rfl rfl rfl (fun u22 M15 => ?_)
    refine zw_aload_n (p := 361) (Or.inr rfl) rfl rfl rfl ?_
    refine zw_aload_n (p := 362) (Or.inr rfl) rfl rfl rfl ?_
    refine zw_iload_n (p := 363) (Or.inr rfl) rfl rfl rfl ?_
    refine zw_iconst (p := 364) (x := (1 : Int32)) (Or.inr rfl) rfl rfl rfl ?_
    refine zw_iadd (p := 365) (Or.inr rfl) rfl rfl ?_
    refine zw_iaload (p := 366) (Or.inr rfl) rfl rfl ?_
    refine zw_aload_n (p := 367) (Or.inr rfl) rfl rfl rfl ?_
    refine zw_iload_n (p := 368) (Or.inr rfl) rfl rfl rfl ?_
    refine zw_iconst (p := 369) (x := (2 : Int32)) (Or.inr rfl) rfl rfl rfl ?_
    refine zw_iadd (p := 370) (Or.inr rfl) rfl rfl ?_
    refine zw_iaload (p := 371) (Or.inr rfl) rfl rfl ?_
    refine zw_aload_n (p := 372) (Or.inr rfl) rfl rfl rfl ?_
    refine zw_iload_n (p := 373) (Or.inr rfl) rfl rfl rfl ?_
    refine zw_iconst (p := 374) (x := (3 : Int32)) (Or.inr rfl) rfl rfl rfl ?_
    refine zw_iadd (p := 375) (Or.inr rfl) rfl rfl ?_
    refine zw_iaload (p := 376) (Or.inr rfl) rfl rfl ?_
    refine zw_virtualI (p := 379) (as := [.ref a2, .int (zI M15 a0 (Int32.toNatClampNeg (x3 + (1 : Int32)))), .int (zI M15 a0 (Int32.toNatClampNeg (x3 + (2 : Int32)))), .int (zI M15 a0 (Int32.toNatClampNeg (x3 + (3 : Int32))))]) (rest := [.int u22]) (Or.inr rfl) rfl rfl rfl rfl rfl rfl rfl (fun u23 M16 => ?_)
    refine zw_icmp_eq (t := 1054) (p := 382) (Or.inr rfl) rfl rfl rfl ?_ ?_
    · refine zw_iinc (p := 1057) (c := (5 : Int32)) (L2 := fun u24 => [some (.ref a0), some (.ref a1), some (.ref a2), some (.int u24)]) (Or.inr rfl) rfl rfl rfl rfl (fun _ => rfl) rfl (fun u24 => ?_)
      refine zw_goto (t := 18) (Or.inr rfl) rfl rfl ?_
      exact zw_end rfl rfl
    refine zw_iconst (p := 383) (x := (0 : Int32)) (Or.inr rfl) rfl rfl rfl ?_
    exact zw_ireturn2 (Or.inr rfl) rfl rfl
  refine zsw_c (lo2 := 9) rfl ?_ ?_
  · refine zw_aload_n (p := 385) (Or.inr rfl) rfl rfl rfl ?_
    refine zw_aload_n (p := 386) (Or.inr rfl) rfl rfl rfl ?_
    refine zw_iload_n (p := 387) (Or.inr rfl) rfl rfl rfl ?_
    refine zw_iconst (p := 388) (x := (1 : Int32)) (Or.inr rfl) rfl rfl rfl ?_
    refine zw_iadd (p := 389) (Or.inr rfl) rfl rfl ?_
    refine zw_iaload (p := 390) (Or.inr rfl) rfl rfl ?_
    refine zw_aload_n (p := 391) (Or.inr rfl) rfl rfl rfl ?_
    refine zw_iload_n (p := 392) (Or.inr rfl) rfl rfl rfl ?_
    refine zw_iconst (p := 393) (x := (2 : Int32)) (Or.inr rfl) rfl rfl rfl ?_
    refine zw_iadd (p := 394) (Or.inr rfl) rfl rfl ?_
    refine zw_iaload (p := 395) (Or.inr rfl) rfl rfl ?_
    refine zw_aload_n (p := 396) (Or.inr rfl) rfl rfl rfl ?_
    refine zw_iload_n (p := 397) (Or.inr rfl) rfl rfl rfl ?_
    refine zw_iconst (p := 398) (x := (3 : Int32)) (Or.inr rfl) rfl rfl rfl ?_
    refine zw_iadd (p := 399) (Or.inr rfl) rfl rfl ?_
    refine zw_iaload (p := 400) (Or.inr rfl) rfl rfl ?_
    refine zw_aload_n (p := 401) (Or.inr rfl) rfl rfl rfl ?_
    refine zw_iload_n (p := 402) (Or.inr rfl) rfl rfl rfl ?_
    refine zw_iconst (p := 403) (x := (4 : Int32)) (Or.inr rfl) rfl rfl rfl ?_
    refine zw_iadd (p := 404) (Or.inr rfl) rfl rfl ?_
    refine zw_iaload (p := 405) (Or.inr rfl) rfl rfl ?_
    refine zw_virtualI (p := 408) (as := [.ref a1, .int (zI M a0 (Int32.toNatClampNeg (x3 + (1 : Int32)))), .int (zI M a0 (Int32.toNatClampNeg (x3 + (2 : Int32)))), .int (zI M a0 (Int32.toNatClampNeg (x3 + (3 : Int32)))), .int (zI M a0 (Int32.toNatClampNeg (x3 + (4 : Int32))))]) (rest := []) (Or.inr rfl) rfl rfl rfl rfl rfl rfl rfl (fun u25 M17 => ?_)
    refine zw_aload_n (p := 409) (Or.inr rfl) rfl rfl rfl ?_
    refine zw_aload_n (p := 410) (Or.inr rfl) rfl rfl rfl ?_
    refine zw_iload_n (p := 411) (Or.inr rfl) rfl rfl rfl ?_
    refine zw_iconst (p := 412) (x := (1 : Int32)) (Or.inr rfl) rfl rfl rfl ?_
    refine zw_iadd (p := 413) (Or.inr rfl) rfl rfl ?_
    refine zw_iaload (p := 414) (Or.inr rfl) rfl rfl ?_
    refine zw_aload_n (p := 415) (Or.inr rfl) rfl rfl rfl ?_
    refine zw_iload_n (p := 416) (Or.inr rfl) rfl rfl rfl ?_
    refine zw_iconst (p := 417) (x := (2 : Int32)) (Or.inr rfl) rfl rfl rfl ?_
    refine zw_iadd (p := 418) (Or.inr rfl) rfl rfl ?_
    refine zw_iaload (p := 419) (Or.inr rfl) rfl rfl ?_
    refine zw_aload_n (p := 420) (Or.inr rfl) rfl rfl rfl ?_
    refine zw_iload_n (p := 421) (Or.inr rfl) rfl rfl rfl ?_
    refine zw_iconst (p := 422) (x := (3 : Int32)) (Or.inr rfl) rfl rfl rfl ?_
    refine zw_iadd (p := 423) (Or.inr rfl) rfl rfl ?_
    refine zw_iaload (p := 424) (Or.inr rfl) rfl rfl ?_
    refine zw_aload_n (p := 425) (Or.inr rfl) rfl rfl rfl ?_
    refine zw_iload_n (p := 426) (Or.inr rfl) rfl rfl rfl ?_
    refine zw_iconst (p := 427) (x := (4 : Int32)) (Or.inr rfl) rfl rfl rfl ?_
    refine zw_iadd (p := 428) (Or.inr rfl) rfl rfl ?_
    refine zw_iaload (p := 429) (Or.inr rfl) rfl rfl ?_
    refine zw_virtualI (p := 432) (as := [.ref a2, .int (zI M17 a0 (Int32.toNatClampNeg (x3 + (1 : Int32)))), .int (zI M17 a0 (Int32.toNatClampNeg (x3 + (2 : Int32)))), .int (zI M17 a0 (Int32.toNatClampNeg (x3 + (3 : Int32)))), .int (zI M17 a0 (Int32.toNatClampNeg (x3 + (4 : Int32))))]) (rest := [.int u25]) (Or.inr rfl) rfl rfl rfl rfl rfl rfl rfl (fun u26 M18 => ?_)
    refine zw_icmp_eq (t := 1054) (p := 435) (Or.inr rfl) rfl rfl rfl ?_ ?_
    · refine zw_iinc (p := 1057) (c := (5 : Int32)) (L2 := fun u27 => [some (.ref a0), some (.ref a1), some (.ref a2), some (.int u27)]) (Or.inr rfl) rfl rfl rfl rfl (fun _ => rfl) rfl (fun u27 => ?_)
      refine zw_goto (t := 18) (Or.inr rfl) rfl rfl ?_
      exact zw_end rfl rfl
    refine zw_iconst (p := 436) (x := (0 : Int32)) (Or.inr rfl) rfl rfl rfl ?_
    exact zw_ireturn2 (Or.inr rfl) rfl rfl
  refine zsw_c (lo2 := 10) rfl ?_ ?_
  · refine zw_aload_n (p := 438) (Or.inr rfl) rfl rfl rfl ?_
    refine zw_aload_n (p := 439) (Or.inr rfl) rfl rfl rfl ?_
    refine zw_iload_n (p := 440) (Or.inr rfl) rfl rfl rfl ?_
    refine zw_iconst (p := 441) (x := (1 : Int32)) (Or.inr rfl) rfl rfl rfl ?_
    refine zw_iadd (p := 442) (Or.inr rfl) rfl rfl ?_
    refine zw_iaload (p := 443) (Or.inr rfl) rfl rfl ?_
    refine zw_aload_n (p := 444) (Or.inr rfl) rfl rfl rfl ?_
    refine zw_iload_n (p := 445) (Or.inr rfl) rfl rfl rfl ?_
    refine zw_iconst (p := 446) (x := (2 : Int32)) (Or.inr rfl) rfl rfl rfl ?_
    refine zw_iadd (p := 447) (Or.inr rfl) rfl rfl ?_
    refine zw_iaload (p := 448) (Or.inr rfl) rfl rfl ?_
    refine zw_aload_n (p := 449) (Or.inr rfl) rfl rfl rfl ?_
    refine zw_iload_n (p := 450) (Or.inr rfl) rfl rfl rfl ?_
    refine zw_iconst (p := 451) (x := (3 : Int32)) (Or.inr rfl) rfl rfl rfl ?_
    refine zw_iadd (p := 452) (Or.inr rfl) rfl rfl ?_
    refine zw_iaload (p := 453) (Or.inr rfl) rfl rfl ?_
    refine zw_virtualI (p := 456) (as := [.ref a1, .int (zI M a0 (Int32.toNatClampNeg (x3 + (1 : Int32)))), .int (zI M a0 (Int32.toNatClampNeg (x3 + (2 : Int32)))), .int (zI M a0 (Int32.toNatClampNeg (x3 + (3 : Int32))))]) (rest := []) (Or.inr rfl) rfl rfl rfl rfl rfl rfl rfl (fun u28 M19 => ?_)
    refine zw_aload_n (p := 457) (Or.inr rfl) rfl rfl rfl ?_
    refine zw_aload_n (p := 458) (Or.inr rfl) rfl rfl rfl ?_
    refine zw_iload_n (p := 459) (Or.inr rfl) rfl rfl rfl ?_
    refine zw_iconst (p := 460) (x := (1 : Int32)) (Or.inr rfl) rfl rfl rfl ?_
    refine zw_iadd (p := 461) (Or.inr rfl) rfl rfl ?_
    refine zw_iaload (p := 462) (Or.inr rfl) rfl rfl ?_
    refine zw_aload_n (p := 463) (Or.inr rfl) rfl rfl rfl ?_
    refine zw_iload_n (p := 464) (Or.inr rfl) rfl rfl rfl ?_
    refine zw_iconst (p := 465) (x := (2 : Int32)) (Or.inr rfl) rfl rfl rfl ?_
    refine zw_iadd (p := 466) (Or.inr rfl) rfl rfl ?_
    refine zw_iaload (p := 467) (Or.inr rfl) rfl rfl ?_
    refine zw_aload_n (p := 468) (Or.inr rfl) rfl rfl rfl ?_
    refine zw_iload_n (p := 469) (Or.inr rfl) rfl rfl rfl ?_
    refine zw_iconst (p := 470) (x := (3 : Int32)) (Or.inr rfl) rfl rfl rfl ?_
    refine zw_iadd (p := 471) (Or.inr rfl) rfl rfl ?_
    refine zw_iaload (p := 472) (Or.inr rfl) rfl rfl ?_
    refine zw_virtualI (p := 475) (as := [.ref a2, .int (zI M19 a0 (Int32.toNatClampNeg (x3 + (1 : Int32)))), .int (zI M19 a0 (Int32.toNatClampNeg (x3 + (2 : Int32)))), .int (zI M19 a0 (Int32.toNatClampNeg (x3 + (3 : Int32))))]) (rest := [.int u28]) (Or.inr rfl) rfl rfl rfl rfl rfl rfl rfl (fun u29 M20 => ?_)
    refine zw_icmp_eq (t := 1054) (p := 478) (Or.inr rfl) rfl rfl rfl ?_ ?_
    · refine zw_iinc (p := 1057) (c := (5 : Int32)) (L2 := fun u30 => [some (.ref a0), some (.ref a1), some (.ref a2), some (.int u30)]) (Or.inr rfl) rfl rfl rfl rfl (fun _ => rfl) rfl (fun u30 => ?_)
      refine zw_goto (t := 18) (Or.inr rfl) rfl rfl ?_
      exact zw_end rfl rfl
    refine zw_iconst (p := 479) (x := (0 : Int32)) (Or.inr rfl) rfl rfl rfl ?_
    exact zw_ireturn2 (Or.inr rfl) rfl rfl
  refine zsw_c (lo2 := 11) rfl ?_ ?_
  · refine zw_aload_n (p := 481) (Or.inr rfl) rfl rfl rfl ?_
    refine zw_aload_n (p := 482) (Or.inr rfl) rfl rfl rfl ?_
    refine zw_iload_n (p := 483) (Or.inr rfl) rfl rfl rfl ?_
    refine zw_iconst (p := 484) (x := (1 : Int32)) (Or.inr rfl) rfl rfl rfl ?_
    refine zw_iadd (p := 485) (Or.inr rfl) rfl rfl ?_
    refine zw_iaload (p := 486) (Or.inr rfl) rfl rfl ?_
    refine zw_virtualI (p := 489) (as := [.ref a1, .int (zI M a0 (Int32.toNatClampNeg (x3 + (1 : Int32))))]) (rest := []) (Or.inr rfl) rfl rfl rfl rfl rfl rfl rfl (fun u31 M21 => ?_)
    refine zw_aload_n (p := 490) (Or.inr rfl) rfl rfl rfl ?_
    refine zw_aload_n (p := 491) (Or.inr rfl) rfl rfl rfl ?_
    refine zw_iload_n (p := 492) (Or.inr rfl) rfl rfl rfl ?_
    refine zw_iconst (p := 493) (x := (1 : Int32)) (Or.inr rfl) rfl rfl rfl ?_
    refine zw_iadd (p := 494) (Or.inr rfl) rfl rfl ?_
    refine zw_iaload (p := 495) (Or.inr rfl) rfl rfl ?_
    refine zw_virtualI (p := 498) (as := [.ref a2, .int (zI M21 a0 (Int32.toNatClampNeg (x3 + (1 : Int32))))]) (rest := [.int u31]) (Or.inr rfl) rfl rfl rfl rfl rfl rfl rfl (fun u32 M22 => ?_)
    refine zw_icmp_eq (t := 1054) (p := 501) (Or.inr rfl) rfl rfl rfl ?_ ?_
    · refine zw_iinc (p := 1057) (c := (5 : Int32)) (L2 := fun u33 => [some (.ref a0), some (.ref a1), some (.ref a2), some (.int u33)]) (Or.inr rfl) rfl rfl rfl rfl (fun _ => rfl) rfl (fun u33 => ?_)
      refine zw_goto (t := 18) (Or.inr rfl) rfl rfl ?_
      exact zw_end rfl rfl
    refine zw_iconst (p := 502) (x := (0 : Int32)) (Or.inr rfl) rfl rfl rfl ?_
    exact zw_ireturn2 (Or.inr rfl) rfl rfl
  refine zsw_c (lo2 := 12) rfl ?_ ?_
  · refine zw_aload_n (p := 504) (Or.inr rfl) rfl rfl rfl ?_
    refine zw_aload_n (p := 505) (Or.inr rfl) rfl rfl rfl ?_
    refine zw_iload_n (p := 506) (Or.inr rfl) rfl rfl rfl ?_
    refine zw_iconst (p := 507) (x := (1 : Int32)) (Or.inr rfl) rfl rfl rfl ?_
    refine zw_iadd (p := 508) (Or.inr rfl) rfl rfl ?_
    refine zw_iaload (p := 509) (Or.inr rfl) rfl rfl ?_
    refine zw_virtualI (p := 512) (as := [.ref a1, .int (zI M a0 (Int32.toNatClampNeg (x3 + (1 : Int32))))]) (rest := []) (Or.inr rfl) rfl rfl rfl rfl rfl rfl rfl (fun u34 M23 => ?_)
    refine zw_aload_n (p := 513) (Or.inr rfl) rfl rfl rfl ?_
    refine zw_aload_n (p := 514) (Or.inr rfl) rfl rfl rfl ?_
    refine zw_iload_n (p := 515) (Or.inr rfl) rfl rfl rfl ?_
    refine zw_iconst (p := 516) (x := (1 : Int32)) (Or.inr rfl) rfl rfl rfl ?_
    refine zw_iadd (p := 517) (Or.inr rfl) rfl rfl ?_
    refine zw_iaload (p := 518) (Or.inr rfl) rfl rfl ?_
    refine zw_virtualI (p := 521) (as := [.ref a2, .int (zI M23 a0 (Int32.toNatClampNeg (x3 + (1 : Int32))))]) (rest := [.int u34]) (Or.inr rfl) rfl rfl rfl rfl rfl rfl rfl (fun u35 M24 => ?_)
    refine zw_icmp_eq (t := 1054) (p := 524) (Or.inr rfl) rfl rfl rfl ?_ ?_
    · refine zw_iinc (p := 1057) (c := (5 : Int32)) (L2 := fun u36 => [some (.ref a0), some (.ref a1), some (.ref a2), some (.int u36)]) (Or.inr rfl) rfl rfl rfl rfl (fun _ => rfl) rfl (fun u36 => ?_)
      refine zw_goto (t := 18) (Or.inr rfl) rfl rfl ?_
      exact zw_end rfl rfl
    refine zw_iconst (p := 525) (x := (0 : Int32)) (Or.inr rfl) rfl rfl rfl ?_
    exact zw_ireturn2 (Or.inr rfl) rfl rfl
  refine zsw_c (lo2 := 13) rfl ?_ ?_
  · refine zw_aload_n (p := 527) (Or.inr rfl) rfl rfl rfl ?_
    refine zw_aload_n (p := 528) (Or.inr rfl) rfl rfl rfl ?_
    refine zw_iload_n (p := 529) (Or.inr rfl) rfl rfl rfl ?_
    refine zw_iconst (p := 530) (x := (1 : Int32)) (Or.inr rfl) rfl rfl rfl ?_
    refine zw_iadd (p := 531) (Or.inr rfl) rfl rfl ?_
    refine zw_iaload (p := 532) (Or.inr rfl) rfl rfl ?_
    refine zw_aload_n (p := 533) (Or.inr rfl) rfl rfl rfl ?_
    refine zw_iload_n (p := 534) (Or.inr rfl) rfl rfl rfl ?_
    refine zw_iconst (p := 535) (x := (2 : Int32)) (Or.inr rfl) rfl rfl rfl ?_
    refine zw_iadd (p := 536) (Or.inr rfl) rfl rfl ?_
    refine zw_iaload (p := 537) (Or.inr rfl) rfl rfl ?_
    refine zw_virtualI (p := 540) (as := [.ref a1, .int (zI M a0 (Int32.toNatClampNeg (x3 + (1 : Int32)))), .int (zI M a0 (Int32.toNatClampNeg (x3 + (2 : Int32))))]) (rest := []) (Or.inr rfl) rfl rfl rfl rfl rfl rfl rfl (fun u37 M25 => ?_)
    refine zw_aload_n (p := 541) (Or.inr rfl) rfl rfl rfl ?_
    refine zw_aload_n (p := 542) (Or.inr rfl) rfl rfl rfl ?_
    refine zw_iload_n (p := 543) (Or.inr rfl) rfl rfl rfl ?_
    refine zw_iconst (p := 544) (x := (1 : Int32)) (Or.inr rfl) rfl rfl rfl ?_
    refine zw_iadd (p := 545) (Or.inr rfl) rfl rfl ?_
    refine zw_iaload (p := 546) (Or.inr rfl) rfl rfl ?_
    refine zw_aload_n (p := 547) (Or.inr rfl) rfl rfl rfl ?_
    refine zw_iload_n (p := 548) (Or.inr rfl) rfl rfl rfl ?_
    refine zw_iconst (p := 549) (x := (2 : Int32)) (Or.inr rfl) rfl rfl rfl ?_
    refine zw_iadd (p := 550) (Or.inr rfl) rfl rfl ?_
    refine zw_iaload (p := 551) (Or.inr rfl) rfl rfl ?_
    refine zw_virtualI (p := 554) (as := [.ref a2, .int (zI M25 a0 (Int32.toNatClampNeg (x3 + (1 : Int32)))), .int (zI M25 a0 (Int32.toNatClampNeg (x3 + (2 : Int32))))]) (rest := [.int u37]) (Or.inr rfl) rfl rfl rfl rfl rfl rfl rfl (fun u38 M26 => ?_)
    refine zw_icmp_eq (t := 1054) (p := 557) (Or.inr rfl) rfl rfl rfl ?_ ?_
    · refine zw_iinc (p := 1057) (c := (5 : Int32)) (L2 := fun u39 => [some (.ref a0), some (.ref a1), some (.ref a2), some (.int u39)]) (Or.inr rfl) rfl rfl rfl rfl (fun _ => rfl) rfl (fun u39 => ?_)
      refine zw_goto (t := 18) (Or.inr rfl) rfl rfl ?_
      exact zw_end rfl rfl
    refine zw_iconst (p := 558) (x := (0 : Int32)) (Or.inr rfl) rfl rfl rfl ?_
    exact zw_ireturn2 (Or.inr rfl) rfl rfl
  refine zsw_c (lo2 := 14) rfl ?_ ?_
  · refine zw_aload_n (p := 560) (Or.inr rfl) rfl rfl rfl ?_
    refine zw_aload_n (p := 561) (Or.inr rfl) rfl rfl rfl ?_
    refine zw_iload_n (p := 562) (Or.inr rfl) rfl rfl rfl ?_
    refine zw_iconst (p := 563) (x := (1 : Int32)) (Or.inr rfl) rfl rfl rfl ?_
    refine zw_iadd (p := 564) (Or.inr rfl) rfl rfl ?_
    refine zw_iaload (p := 565) (Or.inr rfl) rfl rfl ?_
    refine zw_virtualI (p := 568) (as := [.ref a1, .int (zI M a0 (Int32.toNatClampNeg (x3 + (1 : Int32))))]) (rest := []) (Or.inr rfl) rfl rfl rfl rfl rfl rfl rfl (fun u40 M27 => ?_)
    refine zw_aload_n (p := 569) (Or.inr rfl) rfl rfl rfl ?_
    refine zw_aload_n (p := 570) (Or.inr rfl) rfl rfl rfl ?_
    refine zw_iload_n (p := 571) (Or.inr rfl) rfl rfl rfl ?_
    refine zw_iconst (p := 572) (x := (1 : Int32)) (Or.inr rfl) rfl rfl rfl ?_
    refine zw_iadd (p := 573) (Or.inr rfl) rfl rfl ?_
    refine zw_iaload (p := 574) (Or.inr rfl) rfl rfl ?_
    refine zw_virtualI (p := 577) (as := [.ref a2, .int (zI M27 a0 (Int32.toNatClampNeg (x3 + (1 : Int32))))]) (rest := [.int u40]) (Or.inr rfl) rfl rfl rfl rfl rfl rfl rfl (fun u41 M28 => ?_)
    refine zw_icmp_eq (t := 1054) (p := 580) (Or.inr rfl) rfl rfl rfl ?_ ?_
    · refine zw_iinc (p := 1057) (c := (5 : Int32)) (L2 := fun u42 => [some (.ref a0), some (.ref a1), some (.ref a2), some (.int u42)]) (Or.inr rfl) rfl rfl rfl rfl (fun _ => rfl) rfl (fun u42 => ?_)
      refine zw_goto (t := 18) (Or.inr rfl) rfl rfl ?_
      exact zw_end rfl rfl
    refine zw_iconst (p := 581) (x := (0 : Int32)) (Or.inr rfl) rfl rfl rfl ?_
    exact zw_ireturn2 (Or.inr rfl) rfl rfl
  refine zsw_c (lo2 := 15) rfl ?_ ?_
  · refine zw_aload_n (p := 583) (Or.inr rfl) rfl rfl rfl ?_
    refine zw_aload_n (p := 584) (Or.inr rfl) rfl rfl rfl ?_
    refine zw_iload_n (p := 585) (Or.inr rfl) rfl rfl rfl ?_
    refine zw_iconst (p := 586) (x := (1 : Int32)) (Or.inr rfl) rfl rfl rfl ?_
    refine zw_iadd (p := 587) (Or.inr rfl) rfl rfl ?_
    refine zw_iaload (p := 588) (Or.inr rfl) rfl rfl ?_
    refine zw_aload_n (p := 589) (Or.inr rfl) rfl rfl rfl ?_
    refine zw_iload_n (p := 590) (Or.inr rfl) rfl rfl rfl ?_
    refine zw_iconst (p := 591) (x := (2 : Int32)) (Or.inr rfl) rfl rfl rfl ?_
    refine zw_iadd (p := 592) (Or.inr rfl) rfl rfl ?_
    refine zw_iaload (p := 593) (Or.inr rfl) rfl rfl ?_
    refine zw_virtualI (p := 596) (as := [.ref a1, .int (zI M a0 (Int32.toNatClampNeg (x3 + (1 : Int32)))), .int (zI M a0 (Int32.toNatClampNeg (x3 + (2 : Int32))))]) (rest := []) (Or.inr rfl) rfl rfl rfl rfl rfl rfl rfl (fun u43 M29 => ?_)
    refine zw_aload_n (p := 597) (Or.inr rfl) rfl rfl rfl ?_
    refine zw_aload_n (p := 598) (Or.inr rfl) rfl rfl rfl ?_
    refine zw_iload_n (p := 599) (Or.inr rfl) rfl rfl rfl ?_
    refine zw_iconst (p := 600) (x := (1 : Int32)) (Or.inr rfl) rfl rfl rfl ?_
    refine zw_iadd (p := 601) (Or.inr rfl) rfl rfl ?_
    refine zw_iaload (p := 602) (Or.inr rfl) rfl rfl ?_
    refine zw_aload_n (p := 603) (Or.inr rfl) rfl rfl rfl ?_
    refine zw_iload_n (p := 604) (Or.inr rfl) rfl rfl rfl ?_
    refine zw_iconst (p := 605) (x := (2 : Int32)) (Or.inr rfl) rfl rfl rfl ?_
    refine zw_iadd (p := 606) (Or.inr rfl) rfl rfl ?_
    refine zw_iaload (p := 607) (Or.inr rfl) rfl rfl ?_
    refine zw_virtualI (p := 610) (as := [.ref a2, .int (zI M29 a0 (Int32.toNatClampNeg (x3 + (1 : Int32)))), .int (zI M29 a0 (Int32.toNatClampNeg (x3 + (2 : Int32))))]) (rest := [.int u43]) (Or.inr rfl) rfl rfl rfl rfl rfl rfl rfl (fun u44 M30 => ?_)
    refine zw_icmp_eq (t := 1054) (p := 613) (Or.inr rfl) rfl rfl rfl ?_ ?_
    · refine zw_iinc (p := 1057) (c := (5 : Int32)) (L2 := fun u45 => [some (.ref a0), some (.ref a1), some (.ref a2), some (.int u45)]) (Or.inr rfl) rfl rfl rfl rfl (fun _ => rfl) rfl (fun u45 => ?_)
      refine zw_goto (t := 18) (Or.inr rfl) rfl rfl ?_
      exact zw_end rfl rfl
    refine zw_iconst (p := 614) (x := (0 : Int32)) (Or.inr rfl) rfl rfl rfl ?_
    exact zw_ireturn2 (Or.inr rfl) rfl rfl
  refine zsw_c (lo2 := 16) rfl ?_ ?_
  · refine zw_aload_n (p := 616) (Or.inr rfl) rfl rfl rfl ?_
    refine zw_aload_n (p := 617) (Or.inr rfl) rfl rfl rfl ?_
    refine zw_iload_n (p := 618) (Or.inr rfl) rfl rfl rfl ?_
    refine zw_iconst (p := 619) (x := (1 : Int32)) (Or.inr rfl) rfl rfl rfl ?_
    refine zw_iadd (p := 620) (Or.inr rfl) rfl rfl ?_
    refine zw_iaload (p := 621) (Or.inr rfl) rfl rfl ?_
    refine zw_aload_n (p := 622) (Or.inr rfl) rfl rfl rfl ?_
    refine zw_iload_n (p := 623) (Or.inr rfl) rfl rfl rfl ?_
    refine zw_iconst (p := 624) (x := (2 : Int32)) (Or.inr rfl) rfl rfl rfl ?_
    refine zw_iadd (p := 625) (Or.inr rfl) rfl rfl ?_
    refine zw_iaload (p := 626) (Or.inr rfl) rfl rfl ?_
    refine zw_virtualI (p := 629) (as := [.ref a1, .int (zI M a0 (Int32.toNatClampNeg (x3 + (1 : Int32)))), .int (zI M a0 (Int32.toNatClampNeg (x3 + (2 : Int32))))]) (rest := []) (Or.inr rfl) rfl rfl rfl rfl rfl rfl rfl (fun u46 M31 => ?_)
    refine zw_aload_n (p := 630) (Or.inr rfl) rfl rfl rfl ?_
    refine zw_aload_n (p := 631) (Or.inr rfl) rfl rfl rfl ?_
    refine zw_iload_n (p := 632) (Or.inr rfl) rfl rfl rfl ?_
    refine zw_iconst (p := 633) (x := (1 : Int32)) (Or.inr rfl) rfl rfl rfl ?_
    refine zw_iadd (p := 634) (Or.inr rfl) rfl rfl ?_
    refine zw_iaload (p := 635) (Or.inr rfl) rfl rfl ?_
    refine zw_aload_n (p := 636) (Or.inr rfl) rfl rfl rfl ?_
    refine zw_iload_n (p := 637) (Or.inr rfl) rfl rfl rfl ?_
    refine zw_iconst (p := 638) (x := (2 : Int32)) (Or.inr rfl) rfl rfl rfl ?_
    refine zw_iadd (p := 639) (Or.inr rfl) rfl rfl ?_
    refine zw_iaload (p := 640) (Or.inr rfl) rfl rfl ?_
    refine zw_virtualI (p := 643) (as := [.ref a2, .int (zI M31 a0 (Int32.toNatClampNeg (x3 + (1 : Int32)))), .int (zI M31 a0 (Int32.toNatClampNeg (x3 + (2 : Int32))))]) (rest := [.int u46]) (Or.inr rfl) rfl rfl rfl rfl rfl rfl rfl (fun u47 M32 => ?_)
    refine zw_icmp_eq (t := 1054) (p := 646) (Or.inr rfl) rfl rfl rfl ?_ ?_
    · refine zw_iinc (p := 1057) (c := (5 : Int32)) (L2 := fun u48 => [some (.ref a0), some (.ref a1), some (.ref a2), some (.int u48)]) (Or.inr rfl) rfl rfl rfl rfl (fun _ => rfl) rfl (fun u48 => ?_)
      refine zw_goto (t := 18) (Or.inr rfl) rfl rfl ?_
      exact zw_end rfl rfl
    refine zw_iconst (p := 647) (x := (0 : Int32)) (Or.inr rfl) rfl rfl rfl ?_
    exact zw_ireturn2 (Or.inr rfl) rfl rfl
  refine zsw_c (lo2 := 17) rfl ?_ ?_
  · refine zw_aload_n (p := 649) (Or.inr rfl) rfl rfl rfl ?_
    refine zw_aload_n (p := 650) (Or.inr rfl) rfl rfl rfl ?_
    refine zw_iload_n (p := 651) (Or.inr rfl) rfl rfl rfl ?_
    refine zw_iconst (p := 652) (x := (1 : Int32)) (Or.inr rfl) rfl rfl rfl ?_
    refine zw_iadd (p := 653) (Or.inr rfl) rfl rfl ?_
    refine zw_iaload (p := 654) (Or.inr rfl) rfl rfl ?_
    refine zw_aload_n (p := 655) (Or.inr rfl) rfl rfl rfl ?_
    refine zw_iload_n (p := 656) (Or.inr rfl) rfl rfl rfl ?_
    refine zw_iconst (p := 657) (x := (2 : Int32)) (Or.inr rfl) rfl rfl rfl ?_
    refine zw_iadd (p := 658) (Or.inr rfl) rfl rfl ?_
    refine zw_iaload (p := 659) (Or.inr rfl) rfl rfl ?_
    refine zw_virtualI (p := 662) (as := [.ref a1, .int (zI M a0 (Int32.toNatClampNeg (x3 + (1 : Int32)))), .int (zI M a0 (Int32.toNatClampNeg (x3 + (2 : Int32))))]) (rest := []) (Or.inr rfl) rfl rfl rfl rfl rfl rfl rfl (fun u49 M33 => ?_)
    refine zw_aload_n (p := 663) (Or.inr rfl) rfl rfl rfl ?_
    refine zw_aload_n (p := 664) (Or.inr rfl) rfl rfl rfl ?_
    refine zw_iload_n (p := 665) (Or.inr rfl) rfl rfl rfl ?_
    refine zw_iconst (p := 666) (x := (1 : Int32)) (Or.inr rfl) rfl rfl rfl ?_
    refine zw_iadd (p := 667) (Or.inr rfl) rfl rfl ?_
    refine zw_iaload (p := 668) (Or.inr rfl) rfl rfl ?_
    refine zw_aload_n (p := 669) (Or.inr rfl) rfl rfl rfl ?_
    refine zw_iload_n (p := 670) (Or.inr rfl) rfl rfl rfl ?_
    refine zw_iconst (p := 671) (x := (2 : Int32)) (Or.inr rfl) rfl rfl rfl ?_
    refine zw_iadd (p := 672) (Or.inr rfl) rfl rfl ?_
    refine zw_iaload (p := 673) (Or.inr rfl) rfl rfl ?_
    refine zw_virtualI (p := 676) (as := [.ref a2, .int (zI M33 a0 (Int32.toNatClampNeg (x3 + (1 : Int32)))), .int (zI M33 a0 (Int32.toNatClampNeg (x3 + (2 : Int32))))]) (rest := [.int u49]) (Or.inr rfl) rfl rfl rfl rfl rfl rfl rfl (fun u50 M34 => ?_)
    refine zw_icmp_eq (t := 1054) (p := 679) (Or.inr rfl) rfl rfl rfl ?_ ?_
    · refine zw_iinc (p := 1057) (c := (5 : Int32)) (L2 := fun u51 => [some (.ref a0), some (.ref a1), some (.ref a2), some (.int u51)]) (Or.inr rfl) rfl rfl rfl rfl (fun _ => rfl) rfl (fun u51 => ?_)
      refine zw_goto (t := 18) (Or.inr rfl) rfl rfl ?_
      exact zw_end rfl rfl
    refine zw_iconst (p := 680) (x := (0 : Int32)) (Or.inr rfl) rfl rfl rfl ?_
    exact zw_ireturn2 (Or.inr rfl) rfl rfl
  refine zsw_c (lo2 := 18) rfl ?_ ?_
  · refine zw_aload_n (p := 682) (Or.inr rfl) rfl rfl rfl ?_
    refine zw_aload_n (p := 683) (Or.inr rfl) rfl rfl rfl ?_
    refine zw_iload_n (p := 684) (Or.inr rfl) rfl rfl rfl ?_
    refine zw_iconst (p := 685) (x := (1 : Int32)) (Or.inr rfl) rfl rfl rfl ?_
    refine zw_iadd (p := 686) (Or.inr rfl) rfl rfl ?_
    refine zw_iaload (p := 687) (Or.inr rfl) rfl rfl ?_
    refine zw_aload_n (p := 688) (Or.inr rfl) rfl rfl rfl ?_
    refine zw_iload_n (p := 689) (Or.inr rfl) rfl rfl rfl ?_
    refine zw_iconst (p := 690) (x := (2 : Int32)) (Or.inr rfl) rfl rfl rfl ?_
    refine zw_iadd (p := 691) (Or.inr rfl) rfl rfl ?_
    refine zw_iaload (p := 692) (Or.inr rfl) rfl rfl ?_
    refine zw_virtualI (p := 695) (as := [.ref a1, .int (zI M a0 (Int32.toNatClampNeg (x3 + (1 : Int32)))), .int (zI M a0 (Int32.toNatClampNeg (x3 + (2 : Int32))))]) (rest := []) (Or.inr rfl) rfl rfl rfl rfl rfl rfl rfl (fun u52 M35 => ?_)
    refine zw_aload_n (p := 696) (Or.inr rfl) rfl rfl rfl ?_
    refine zw_aload_n (p := 697) (Or.inr rfl) rfl rfl rfl ?_
    refine zw_iload_n (p := 698) (Or.inr rfl) rfl rfl rfl ?_
    refine zw_iconst (p := 699) (x := (1 : Int32)) (Or.inr rfl) rfl rfl rfl ?_
    refine zw_iadd (p := 700) (Or.inr rfl) rfl rfl ?_
    refine zw_iaload (p := 701) (Or.inr rfl) rfl rfl ?_
    refine zw_aload_n (p := 702) (Or.inr rfl) rfl rfl rfl ?_
    refine zw_iload_n (p := 703) (Or.inr rfl) rfl rfl rfl ?_
    refine zw_iconst (p := 704) (x := (2 : Int32)) (Or.inr rfl) rfl rfl rfl ?_
    refine zw_iadd (p := 705) (Or.inr rfl) rfl rfl ?_
    refine zw_iaload (p := 706) (Or.inr rfl) rfl rfl ?_
    refine zw_virtualI (p := 709) (as := [.ref a2, .int (zI M35 a0 (Int32.toNatClampNeg (x3 + (1 : Int32)))), .int (zI M35 a0 (Int32.toNatClampNeg (x3 + (2 : Int32))))]) (rest := [.int u52]) (Or.inr rfl) rfl rfl rfl rfl rfl rfl rfl (fun u53 M36 => ?_)
    refine zw_icmp_eq (t := 1054) (p := 712) (Or.inr rfl) rfl rfl rfl ?_ ?_
    · refine zw_iinc (p := 1057) (c := (5 : Int32)) (L2 := fun u54 => [some (.ref a0), some (.ref a1), some (.ref a2), some (.int u54)]) (Or.inr rfl) rfl rfl rfl rfl (fun _ => rfl) rfl (fun u54 => ?_)
      refine zw_goto (t := 18) (Or.inr rfl) rfl rfl ?_
      exact zw_end rfl rfl
    refine zw_iconst (p := 713) (x := (0 : Int32)) (Or.inr rfl) rfl rfl rfl ?_
    exact zw_ireturn2 (Or.inr rfl) rfl rfl
  refine zsw_c (lo2 := 19) rfl ?_ ?_
  · refine zw_aload_n (p := 715) (Or.inr rfl) rfl rfl rfl ?_
    refine zw_aload_n (p := 716) (Or.inr rfl) rfl rfl rfl ?_
    refine zw_iload_n (p := 717) (Or.inr rfl) rfl rfl rfl ?_
    refine zw_iconst (p := 718) (x := (1 : Int32)) (Or.inr rfl) rfl rfl rfl ?_
    refine zw_iadd (p := 719) (Or.inr rfl) rfl rfl ?_
    refine zw_iaload (p := 720) (Or.inr rfl) rfl rfl ?_
    refine zw_aload_n (p := 721) (Or.inr rfl) rfl rfl rfl ?_
    refine zw_iload_n (p := 722) (Or.inr rfl) rfl rfl rfl ?_
    refine zw_iconst (p := 723) (x := (2 : Int32)) (Or.inr rfl) rfl rfl rfl ?_
    refine zw_iadd (p := 724) (Or.inr rfl) rfl rfl ?_
    refine zw_iaload (p := 725) (Or.inr rfl) rfl rfl ?_
    refine zw_aload_n (p := 726) (Or.inr rfl) rfl rfl rfl ?_
    refine zw_iload_n (p := 727) (Or.inr rfl) rfl rfl rfl ?_
    refine zw_iconst (p := 728) (x := (3 : Int32)) (Or.inr rfl) rfl rfl rfl ?_
    refine zw_iadd (p := 729) (Or.inr rfl) rfl rfl ?_
    refine zw_iaload (p := 730) (Or.inr rfl) rfl rfl ?_
    refine zw_aload_n (p := 731) (Or.inr rfl) rfl rfl rfl ?_
    refine zw_iload_n (p := 732) (Or.inr rfl) rfl rfl rfl ?_
    refine zw_iconst (p := 733) (x := (4 : Int32)) (Or.inr rfl) rfl rfl rfl ?_
    refine zw_iadd (p := 734) (Or.inr rfl) rfl rfl ?_
    refine zw_iaload (p := 735) (Or.inr rfl) rfl rfl ?_
    refine zw_virtualI (p := 738) (as := [.ref a1, .int (zI M a0 (Int32.toNatClampNeg (x3 + (1 : Int32)))), .int (zI M a0 (Int32.toNatClampNeg (x3 + (2 : Int32)))), .int (zI M a0 (Int32.toNatClampNeg (x3 + (3 : Int32)))), .int (zI M a0 (Int32.toNatClampNeg (x3 + (4 : Int32))))]) (rest := []) (Or.inr rfl) rfl rfl rfl rfl rfl rfl rfl (fun u55 M37 => ?_)
    refine zw_aload_n (p := 739) (Or.inr rfl) rfl rfl rfl ?_
    refine zw_aload_n (p := 740) (Or.inr rfl) rfl rfl rfl ?_
    refine zw_iload_n (p := 741) (Or.inr rfl) rfl rfl rfl ?_
    refine zw_iconst (p := 742) (x := (1 : Int32)) (Or.inr rfl) rfl rfl rfl ?_
    refine zw_iadd (p := 743) (Or.inr rfl) rfl rfl ?_
    refine zw_iaload (p := 744) (Or.inr rfl) rfl rfl ?_
    refine zw_aload_n (p := 745) (Or.inr rfl) rfl rfl rfl ?_
    refine zw_iload_n (p := 746) (Or.inr rfl) rfl rfl rfl ?_
    refine zw_iconst (p := 747) (x := (2 : Int32)) (Or.inr rfl) rfl rfl rfl ?_
    refine zw_iadd (p := 748) (Or.inr rfl) rfl rfl ?_
    refine zw_iaload (p := 749) (Or.inr rfl) rfl rfl ?_
    refine zw_aload_n (p := 750) (Or.inr rfl) rfl rfl rfl ?_
    refine zw_iload_n (p := 751) (Or.inr rfl) rfl rfl rfl ?_
    refine zw_iconst (p := 752) (x := (3 : Int32)) (Or.inr rfl) rfl rfl rfl ?_
    refine zw_iadd (p := 753) (Or.inr rfl) rfl rfl ?_
    refine zw_iaload (p := 754) (Or.inr rfl) rfl rfl ?_
    refine zw_aload_n (p := 755) (Or.inr rfl) rfl rfl rfl ?_
    refine zw_iload_n (p := 756) (Or.inr rfl) rfl rfl rfl ?_
    refine zw_iconst (p := 757) (x := (4 : Int32)) (Or.inr rfl) rfl rfl rfl ?_
    refine zw_iadd (p := 758) (Or.inr rfl) rfl rfl ?_
    refine zw_iaload (p := 759) (Or.inr rfl) rfl rfl ?_
    refine zw_virtualI (p := 762) (as := [.ref a2, .int (zI M37 a0 (Int32.toNatClampNeg (x3 + (1 : Int32)))), .int (zI M37 a0 (Int32.toNatClampNeg (x3 + (2 : Int32)))), .int (zI M37 a0 (Int32.toNatClampNeg (x3 + (3 : Int32)))), .int (zI M37 a0 (Int32.toNatClampNeg (x3 + (4 : Int32))))]) (rest := [.int u55]) (Or.inr rfl) rfl rfl rfl rfl rfl rfl rfl (fun u56 M38 => ?_)
    refine zw_icmp_eq (t := 1054) (p := 765) (Or.inr rfl) rfl rfl rfl ?_ ?_
    · refine zw_iinc (p := 1057) (c := (5 : Int32)) (L2 := fun u57 => [some (.ref a0), some (.ref a1), some (.ref a2), some (.int u57)]) (Or.inr rfl) rfl rfl rfl rfl (fun _ => rfl) rfl (fun u57 => ?_)
      refine zw_goto (t := 18) (Or.inr rfl) rfl rfl ?_
      exact zw_end rfl rfl
    refine zw_iconst (p := 766) (x := (0 : Int32)) (Or.inr rfl) rfl rfl rfl ?_
    exact zw_ireturn2 (Or.inr rfl) rfl rfl
  refine zsw_c (lo2 := 20) rfl ?_ ?_
  · refine zw_aload_n (p := 768) (Or.inr rfl) rfl rfl rfl ?_
    refine zw_aload_n (p := 769) (Or.inr rfl) rfl rfl rfl ?_
    refine zw_iload_n (p := 770) (Or.inr rfl) rfl rfl rfl ?_
    refine zw_iconst (p := 771) (x := (1 : Int32)) (Or.inr rfl) rfl rfl rfl ?_
    refine zw_iadd (p := 772) (Or.inr rfl) rfl rfl ?_
    refine zw_iaload (p := 773) (Or.inr rfl) rfl rfl ?_
    refine zw_aload_n (p := 774) (Or.inr rfl) rfl rfl rfl ?_
    refine zw_iload_n (p := 775) (Or.inr rfl) rfl rfl rfl ?_
    refine zw_iconst (p := 776) (x := (2 : Int32)) (Or.inr rfl) rfl rfl rfl ?_
    refine zw_iadd (p := 777) (Or.inr rfl) rfl rfl ?_
    refine zw_iaload (p := 778) (Or.inr rfl) rfl rfl ?_
    refine zw_virtualI (p := 781) (as := [.ref a1, .int (zI M a0 (Int32.toNatClampNeg (x3 + (1 : Int32)))), .int (zI M a0 (Int32.toNatClampNeg (x3 + (2 : Int32))))]) (rest := []) (Or.inr rfl) rfl rfl rfl rfl rfl rfl rfl (fun u58 M39 => ?_)
    refine zw_aload_n (p := 782) (Or.inr rfl) rfl rfl rfl ?_
    refine zw_aload_n (p := 783) (Or.inr rfl) rfl rfl rfl ?_
    refine zw_iload_n (p := 784) (Or.inr rfl) rfl rfl rfl ?_
    refine zw_iconst (p := 785) (x := (1 : Int32)) (Or.inr rfl) rfl rfl rfl ?_
    refine zw_iadd (p := 786) (Or.inr rfl) rfl rfl ?_
    refine zw_iaload (p := 787) (Or.inr rfl) rfl rfl ?_
    refine zw_aload_n (p := 788) (Or.inr rfl) rfl rfl rfl ?_
    refine zw_iload_n (p := 789) (Or.inr rfl) rfl rfl rfl ?_
    refine zw_iconst (p := 790) (x := (2 : Int32)) (Or.inr rfl) rfl rfl rfl ?_
    refine zw_iadd (p := 791) (Or.inr rfl) rfl rfl ?_
    refine zw_iaload (p := 792) (Or.inr rfl) rfl rfl ?_
    refine zw_virtualI (p := 795) (as := [.ref a2, .int (zI M39 a0 (Int32.toNatClampNeg (x3 + (1 : Int32)))), .int (zI M39 a0 (Int32.toNatClampNeg (x3 + (2 : Int32))))]) (rest := [.int u58]) (Or.inr rfl) rfl rfl rfl rfl rfl rfl rfl (fun u59 M40 => ?_)
    refine zw_icmp_eq (t := 1054) (p := 798) (Or.inr rfl) rfl rfl rfl ?_ ?_
    · refine zw_iinc (p := 1057) (c := (5 : Int32)) (L2 := fun u60 => [some (.ref a0), some (.ref a1), some (.ref a2), some (.int u60)]) (Or.inr rfl) rfl rfl rfl rfl (fun _ => rfl) rfl (fun u60 => ?_)
      refine zw_goto (t := 18) (Or.inr rfl) rfl rfl ?_
      exact zw_end rfl rfl
    refine zw_iconst (p := 799) (x := (0 : Int32)) (Or.inr rfl) rfl rfl rfl ?_
    exact zw_ireturn2 (Or.inr rfl) rfl rfl
  refine zsw_c (lo2 := 21) rfl ?_ ?_
  · refine zw_aload_n (p := 801) (Or.inr rfl) rfl rfl rfl ?_
    refine zw_aload_n (p := 802) (Or.inr rfl) rfl rfl rfl ?_
    refine zw_iload_n (p := 803) (Or.inr rfl) rfl rfl rfl ?_
    refine zw_iconst (p := 804) (x := (1 : Int32)) (Or.inr rfl) rfl rfl rfl ?_
    refine zw_iadd (p := 805) (Or.inr rfl) rfl rfl ?_
    refine zw_iaload (p := 806) (Or.inr rfl) rfl rfl ?_
    refine zw_aload_n (p := 807) (Or.inr rfl) rfl rfl rfl ?_
    refine zw_iload_n (p := 808) (Or.inr rfl) rfl rfl rfl ?_
    refine zw_iconst (p := 809) (x := (2 : Int32)) (Or.inr rfl) rfl rfl rfl ?_
    refine zw_iadd (p := 810) (Or.inr rfl) rfl rfl ?_
    refine zw_iaload (p := 811) (Or.inr rfl) rfl rfl ?_
    refine zw_virtualI (p := 814) (as := [.ref a1, .int (zI M a0 (Int32.toNatClampNeg (x3 + (1 : Int32)))), .int (zI M a0 (Int32.toNatClampNeg (x3 + (2 : Int32))))]) (rest := []) (Or.inr rfl) rfl rfl rfl rfl rfl rfl rfl (fun u61 M41 => ?_)
    refine zw_aload_n (p := 815) (Or.inr rfl) rfl rfl rfl ?_
    refine zw_aload_n (p := 816) (Or.inr rfl) rfl rfl rfl ?_
    refine zw_iload_n (p := 817) (Or.inr rfl) rfl rfl rfl ?_
    refine zw_iconst (p := 818) (x := (1 : Int32)) (Or.inr rfl) rfl rfl rfl ?_
    refine zw_iadd (p := 819) (Or.inr rfl) rfl rfl ?_
    refine zw_iaload (p := 820) (Or.inr rfl) rfl rfl ?_
    refine zw_aload_n (p := 821) (Or.inr rfl) rfl rfl rfl ?_
    refine zw_iload_n (p := 822) (Or.inr rfl) rfl rfl rfl ?_
    refine zw_iconst (p := 823) (x := (2 : Int32)) (Or.inr rfl) rfl rfl rfl ?_
    refine zw_iadd (p := 824) (Or.inr rfl) rfl rfl ?_
    refine zw_iaload (p := 825) (Or.inr rfl) rfl rfl ?_
    refine zw_virtualI (p := 828) (as := [.ref a2, .int (zI M41 a0 (Int32.toNatClampNeg (x3 + (1 : Int32)))), .int (zI M41 a0 (Int32.toNatClampNeg (x3 + (2 : Int32))))]) (rest := [.int u61]) (Or.inr rfl) rfl rfl rfl rfl rfl rfl rfl (fun u62 M42 => ?_)
    refine zw_icmp_eq (t := 1054) (p := 831) (Or.inr rfl) rfl rfl rfl ?_ ?_
    · refine zw_iinc (p := 1057) (c := (5 : Int32)) (L2 := fun u63 => [some (.ref a0), some (.ref a1), some (.ref a2), some (.int u63)]) (Or.inr rfl) rfl rfl rfl rfl (fun _ => rfl) rfl (fun u63 => ?_)
      refine zw_goto (t := 18) (Or.inr rfl) rfl rfl ?_
      exact zw_end rfl rfl
    refine zw_iconst (p := 832) (x := (0 : Int32)) (Or.inr rfl) rfl rfl rfl ?_
    exact zw_ireturn2 (Or.inr rfl) rfl rfl
  refine zsw_c (lo2 := 22) rfl ?_ ?_
  · refine zw_aload_n (p := 834) (Or.inr rfl) rfl rfl rfl ?_
    refine zw_aload_n (p := 835) (Or.inr rfl) rfl rfl rfl ?_
    refine zw_iload_n (p := 836) (Or.inr rfl) rfl rfl rfl ?_
    refine zw_iconst (p := 837) (x := (1 : Int32)) (Or.inr rfl) rfl rfl rfl ?_
    refine zw_iadd (p := 838) (Or.inr rfl) rfl rfl ?_
    refine zw_iaload (p := 839) (Or.inr rfl) rfl rfl ?_
    refine zw_virtualI (p := 842) (as := [.ref a1, .int (zI M a0 (Int32.toNatClampNeg (x3 + (1 : Int32))))]) (rest := []) (Or.inr rfl) rfl rfl rfl rfl rfl rfl rfl (fun u64 M43 => ?_)
    refine zw_aload_n (p := 843) (Or.inr rfl) rfl rfl rfl ?_
    refine zw_aload_n (p := 844) (Or.inr rfl) rfl rfl rfl ?_
    refine zw_iload_n (p := 845) (Or.inr rfl) rfl rfl rfl ?_
    refine zw_iconst (p := 846) (x := (1 : Int32)) (Or.inr rfl) rfl rfl rfl ?_
    refine zw_iadd (p := 847) (Or.inr rfl) rfl rfl ?_
    refine zw_iaload (p := 848) (Or.inr rfl) rfl rfl ?_
    refine zw_virtualI (p := 851) (as := [.ref a2, .int (zI M43 a0 (Int32.toNatClampNeg (x3 + (1 : Int32))))]) (rest := [.int u64]) (Or.inr rfl) rfl rfl rfl rfl rfl rfl rfl (fun u65 M44 => ?_)
    refine zw_icmp_eq (t := 1054) (p := 854) (Or.inr rfl) rfl rfl rfl ?_ ?_
    · refine zw_iinc (p := 1057) (c := (5 : Int32)) (L2 := fun u66 => [some (.ref a0), some (.ref a1), some (.ref a2), some (.int u66)]) (Or.inr rfl) rfl rfl rfl rfl (fun _ => rfl) rfl (fun u66 => ?_)
      refine zw_goto (t := 18) (Or.inr rfl) rfl rfl ?_
      exact zw_end rfl rfl
    refine zw_iconst (p := 855) (x := (0 : Int32)) (Or.inr rfl) rfl rfl rfl ?_
    exact zw_ireturn2 (Or.inr rfl) rfl rfl
  refine zsw_c (lo2 := 23) rfl ?_ ?_
  · refine zw_aload_n (p := 857) (Or.inr rfl) rfl rfl rfl ?_
    refine zw_aload_n (p := 858) (Or.inr rfl) rfl rfl rfl ?_
    refine zw_iload_n (p := 859) (Or.inr rfl) rfl rfl rfl ?_
    refine zw_iconst (p := 860) (x := (1 : Int32)) (Or.inr rfl) rfl rfl rfl ?_
    refine zw_iadd (p := 861) (Or.inr rfl) rfl rfl ?_
    refine zw_iaload (p := 862) (Or.inr rfl) rfl rfl ?_
    refine zw_virtualI (p := 865) (as := [.ref a1, .int (zI M a0 (Int32.toNatClampNeg (x3 + (1 : Int32))))]) (rest := []) (Or.inr rfl) rfl rfl rfl rfl rfl rfl rfl (fun u67 M45 => ?_)
    refine zw_aload_n (p := 866) (Or.inr rfl) rfl rfl rfl ?_
    refine zw_aload_n (p := 867) (Or.inr rfl) rfl rfl rfl ?_
    refine zw_iload_n (p := 868) (Or.inr rfl) rfl rfl rfl ?_
    refine zw_iconst (p := 869) (x := (1 : Int32)) (Or.inr rfl) rfl rfl rfl ?_
    refine zw_iadd (p := 870) (Or.inr rfl) rfl rfl ?_
    refine zw_iaload (p := 871) (Or.inr rfl) rfl rfl ?_
    refine zw_virtualI (p := 874) (as := [.ref a2, .int (zI M45 a0 (Int32.toNatClampNeg (x3 + (1 : Int32))))]) (rest := [.int u67]) (Or.inr rfl) rfl rfl rfl rfl rfl rfl rfl (fun u68 M46 => ?_)
    refine zw_icmp_eq (t := 1054) (p := 877) (Or.inr rfl) rfl rfl rfl ?_ ?_
    · refine zw_iinc (p := 1057) (c := (5 : Int32)) (L2 := fun u69 => [some (.ref a0), some (.ref a1), some (.ref a2), some (.int u69)]) (Or.inr rfl) rfl rfl rfl rfl (fun _ => rfl) rfl (fun u69 => ?_)
      refine zw_goto (t := 18) (Or.inr rfl) rfl rfl ?_
      exact zw_end rfl rfl
    refine zw_iconst (p := 878) (x := (0 : Int32)) (Or.inr rfl) rfl rfl rfl ?_
    exact zw_ireturn2 (Or.inr rfl) rfl rfl
  refine zsw_c (lo2 := 24) rfl ?_ ?_
  · refine zw_aload_n (p := 880) (Or.inr rfl) rfl rfl rfl ?_
    refine zw_aload_n (p := 881) (Or.inr rfl) rfl rfl rfl ?_
    refine zw_iload_n (p := 882) (Or.inr rfl) rfl rfl rfl ?_
    refine zw_iconst (p := 883) (x := (1 : Int32)) (Or.inr rfl) rfl rfl rfl ?_
    refine zw_iadd (p := 884) (Or.inr rfl) rfl rfl ?_
    refine zw_iaload (p := 885) (Or.inr rfl) rfl rfl ?_
    refine zw_aload_n (p := 886) (Or.inr rfl) rfl rfl rfl ?_
    refine zw_iload_n (p := 887) (Or.inr rfl) rfl rfl rfl ?_
    refine zw_iconst (p := 888) (x := (2 : Int32)) (Or.inr rfl) rfl rfl rfl ?_
    refine zw_iadd (p := 889) (Or.inr rfl) rfl rfl ?_
    refine zw_iaload (p := 890) (Or.inr rfl) rfl rfl ?_
    refine zw_aload_n (p := 891) (Or.inr rfl) rfl rfl rfl ?_
    refine zw_iload_n (p := 892) (Or.inr rfl) rfl rfl rfl ?_
    refine zw_iconst (p := 893) (x := (3 : Int32)) (Or.inr rfl) rfl rfl rfl ?_
    refine zw_iadd (p := 894) (Or.inr rfl) rfl rfl ?_
    refine zw_iaload (p := 895) (Or.inr rfl) rfl rfl ?_
    refine zw_virtualI (p := 898) (as := [.ref a1, .int (zI M a0 (Int32.toNatClampNeg (x3 + (1 : Int32)))), .int (zI M a0 (Int32.toNatClampNeg (x3 + (2 : Int32)))), .int (zI M a0 (Int32.toNatClampNeg (x3 + (3 : Int32))))]) (rest := []) (Or.inr rfl) rfl rfl rfl rfl rfl rfl rfl (fun u70 M47 => ?_)
    refine zw_aload_n (p := 899) (Or.inr rfl) rfl rfl rfl ?_
    refine zw_aload_n (p := 900) (Or.inr rfl) rfl rfl rfl ?_
    refine zw_iload_n (p := 901) (Or.inr rfl) rfl rfl rfl ?_
    refine zw_iconst (p := 902) (x := (1 : Int32)) (Or.inr rfl) rfl rfl rfl ?_
    refine zw_iadd (p := 903) (Or.inr rfl) rfl rfl ?_
    refine zw_iaload (p := 904) (Or.inr rfl) rfl rfl ?_
    refine zw_aload_n (p := 905) (Or.inr rfl) rfl rfl rfl ?_
    refine zw_iload_n (p := 906) (Or.inr rfl) rfl rfl rfl ?_
    refine zw_iconst (p := 907) (x := (2 : Int32)) (Or.inr rfl) rfl rfl rfl ?_
    refine zw_iadd (p := 908) (Or.inr rfl) rfl rfl ?_
    refine zw_iaload (p := 909) (Or.inr rfl) rfl rfl ?_
    refine zw_aload_n (p := 910) (Or.inr rfl) rfl rfl rfl ?_
    refine zw_iload_n (p := 911) (Or.inr rfl) rfl rfl rfl ?_
    refine zw_iconst (p := 912) (x := (3 : Int32)) (Or.inr rfl) rfl rfl rfl ?_
    refine zw_iadd (p := 913) (Or.inr rfl) rfl rfl ?_
    refine zw_iaload (p := 914) (Or.inr rfl) rfl rfl ?_
    refine zw_virtualI (p := 917) (as := [.ref a2, .int (zI M47 a0 (Int32.toNatClampNeg (x3 + (1 : Int32)))), .int (zI M47 a0 (Int32.toNatClampNeg (x3 + (2 : Int32)))), .int (zI M47 a0 (Int32.toNatClampNeg (x3 + (3 : Int32))))]) (rest := [.int u70]) (Or.inr rfl) rfl rfl rfl rfl rfl rfl rfl (fun u71 M48 => ?_)
    refine zw_icmp_eq (t := 1054) (p := 920) (Or.inr rfl) rfl rfl rfl ?_ ?_
    · refine zw_iinc (p := 1057) (c := (5 : Int32)) (L2 := fun u72 => [some (.ref a0), some (.ref a1), some (.ref a2), some (.int u72)]) (Or.inr rfl) rfl rfl rfl rfl (fun _ => rfl) rfl (fun u72 => ?_)
      refine zw_goto (t := 18) (Or.inr rfl) rfl rfl ?_
      exact zw_end rfl rfl
    refine zw_iconst (p := 921) (x := (0 : Int32)) (Or.inr rfl) rfl rfl rfl ?_
    exact zw_ireturn2 (Or.inr rfl) rfl rfl
  refine zsw_c (lo2 := 25) rfl ?_ ?_
  · refine zw_aload_n (p := 923) (Or.inr rfl) rfl rfl rfl ?_
    refine zw_aload_n (p := 924) (Or.inr rfl) rfl rfl rfl ?_
    refine zw_iload_n (p := 925) (Or.inr rfl) rfl rfl rfl ?_
    refine zw_iconst (p := 926) (x := (1 : Int32)) (Or.inr rfl) rfl rfl rfl ?_
    refine zw_iadd (p := 927) (Or.inr rfl) rfl rfl ?_
    refine zw_iaload (p := 928) (Or.inr rfl) rfl rfl ?_
    refine zw_aload_n (p := 929) (Or.inr rfl) rfl rfl rfl ?_
    refine zw_iload_n (p := 930) (Or.inr rfl) rfl rfl rfl ?_
    refine zw_iconst (p := 931) (x := (2 : Int32)) (Or.inr rfl) rfl rfl rfl ?_
    refine zw_iadd (p := 932) (Or.inr rfl) rfl rfl ?_
    refine zw_iaload (p := 933) (Or.inr rfl) rfl rfl ?_
    refine zw_aload_n (p := 934) (Or.inr rfl) rfl rfl rfl ?_
    refine zw_iload_n (p := 935) (Or.inr rfl) rfl rfl rfl ?_
    refine zw_iconst (p := 936) (x := (3 : Int32)) (Or.inr rfl) rfl rfl rfl ?_
    refine zw_iadd (p := 937) (Or.inr rfl) rfl rfl ?_
    refine zw_iaload (p := 938) (Or.inr rfl) rfl rfl ?_
    refine zw_virtualI (p := 941) (as := [.ref a1, .int (zI M a0 (Int32.toNatClampNeg (x3 + (1 : Int32)))), .int (zI M a0 (Int32.toNatClampNeg (x3 + (2 : Int32)))), .int (zI M a0 (Int32.toNatClampNeg (x3 + (3 : Int32))))]) (rest := []) (Or.inr rfl) rfl rfl rfl rfl rfl rfl rfl (fun u73 M49 => ?_)
    refine zw_aload_n (p := 942) (Or.inr rfl) rfl rfl rfl ?_
    refine zw_aload_n (p := 943) (Or.inr rfl) rfl rfl rfl ?_
    refine zw_iload_n (p := 944) (Or.inr rfl) rfl rfl rfl ?_
    refine zw_iconst (p := 945) (x := (1 : Int32)) (Or.inr rfl) rfl rfl rfl ?_
    refine zw_iadd (p := 946) (Or.inr rfl) rfl rfl ?_
    refine zw_iaload (p := 947) (Or.inr rfl) rfl rfl ?_
    refine zw_aload_n (p := 948) (Or.inr rfl) rfl rfl rfl ?_
    refine zw_iload_n (p := 949) (Or.inr rfl) rfl rfl rfl ?_
    refine zw_iconst (p := 950) (x := (2 : Int32)) (Or.inr rfl) rfl rfl rfl ?_
    refine zw_iadd (p := 951) (Or.inr rfl) rfl rfl ?_
    refine zw_iaload (p := 952) (Or.inr rfl) rfl rfl ?_
    refine zw_aload_n (p := 953) (Or.inr rfl) rfl rfl rfl ?_
    refine zw_iload_n (p := 954) (Or.inr rfl) rfl rfl rfl ?_
    refine zw_iconst (p := 955) (x := (3 : Int32)) (Or.inr rfl) rfl rfl rfl ?_
    refine zw_iadd (p := 956) (Or.inr rfl) rfl rfl ?_
    refine zw_iaload (p := 957) (Or.inr rfl) rfl rfl ?_
    refine zw_virtualI (p := 960) (as := [.ref a2, .int (zI M49 a0 (Int32.toNatClampNeg (x3 + (1 : Int32)))), .int (zI M49 a0 (Int32.toNatClampNeg (x3 + (2 : Int32)))), .int (zI M49 a0 (Int32.toNatClampNeg (x3 + (3 : Int32))))]) (rest := [.int u73]) (Or.inr rfl) rfl rfl rfl rfl rfl rfl rfl (fun u74 M50 => ?_)
    refine zw_icmp_eq (t := 1054) (p := 963) (Or.inr rfl) rfl rfl rfl ?_ ?_
    · refine zw_iinc (p := 1057) (c := (5 : Int32)) (L2 := fun u75 => [some (.ref a0), some (.ref a1), some (.ref a2), some (.int u75)]) (Or.inr rfl) rfl rfl rfl rfl (fun _ => rfl) rfl (fun u75 => ?_)
      refine zw_goto (t := 18) (Or.inr rfl) rfl rfl ?_
      exact zw_end rfl rfl
    refine zw_iconst (p := 964) (x := (0 : Int32)) (Or.inr rfl) rfl rfl rfl ?_
    exact zw_ireturn2 (Or.inr rfl) rfl rfl
  refine zsw_c (lo2 := 26) rfl ?_ ?_
  · refine zw_aload_n (p := 966) (Or.inr rfl) rfl rfl rfl ?_
    refine zw_aload_n (p := 967) (Or.inr rfl) rfl rfl rfl ?_
    refine zw_iload_n (p := 968) (Or.inr rfl) rfl rfl rfl ?_
    refine zw_iconst (p := 969) (x := (1 : Int32)) (Or.inr rfl) rfl rfl rfl ?_
    refine zw_iadd (p := 970) (Or.inr rfl) rfl rfl ?_
    refine zw_iaload (p := 971) (Or.inr rfl) rfl rfl ?_
    refine zw_aload_n (p := 972) (Or.inr rfl) rfl rfl rfl ?_
    refine zw_iload_n (p := 973) (Or.inr rfl) rfl rfl rfl ?_
    refine zw_iconst (p := 974) (x := (2 : Int32)) (Or.inr rfl) rfl rfl rfl ?_
    refine zw_iadd (p := 975) (Or.inr rfl) rfl rfl ?_
    refine zw_iaload (p := 976) (Or.inr rfl) rfl rfl ?_
    refine zw_aload_n (p := 977) (Or.inr rfl) rfl rfl rfl ?_
    refine zw_iload_n (p := 978) (Or.inr rfl) rfl rfl rfl ?_
    refine zw_iconst (p := 979) (x := (3 : Int32)) (Or.inr rfl) rfl rfl rfl ?_
    refine zw_iadd (p := 980) (Or.inr rfl) rfl rfl ?_
    refine zw_iaload (p := 981) (Or.inr rfl) rfl rfl ?_
    refine zw_aload_n (p := 982) (Or.inr rfl) rfl rfl rfl ?_
    refine zw_iload_n (p := 983) (Or.inr rfl) rfl rfl rfl ?_
    refine zw_iconst (p := 984) (x := (4 : Int32)) (Or.inr rfl) rfl rfl rfl ?_
    refine zw_iadd (p := 985) (Or.inr rfl) rfl rfl ?_
    refine zw_iaload (p := 986) (Or.inr rfl) rfl rfl ?_
    refine zw_virtualI (p := 989) (as := [.ref a1, .int (zI M a0 (Int32.toNatClampNeg (x3 + (1 : Int32)))), .int (zI M a0 (Int32.toNatClampNeg (x3 + (2 : Int32)))), .int (zI M a0 (Int32.toNatClampNeg (x3 + (3 : Int32)))), .int (zI M a0 (Int32.toNatClampNeg (x3 + (4 : Int32))))]) (rest := []) (Or.inr rfl) rfl rfl rfl rfl rfl rfl rfl (fun u76 M51 => ?_)
    refine zw_aload_n (p := 990) (Or.inr rfl) rfl rfl rfl ?_
    refine zw_aload_n (p := 991) (Or.inr rfl) rfl rfl rfl ?_
    refine zw_iload_n (p := 992) (Or.inr rfl) rfl rfl rfl ?_
    refine zw_iconst (p := 993) (x := (1 : Int32)) (Or.inr rfl) rfl rfl rfl ?_
    refine zw_iadd (p := 994) (Or.inr rfl) rfl rfl ?_
    refine zw_iaload (p := 995) (Or.inr rfl) rfl rfl ?_
    refine zw_aload_n (p := 996) (Or.inr rfl) rfl rfl rfl ?_
    refine zw_iload_n (p := 997) (Or.inr rfl) rfl rfl rfl ?_
    refine zw_iconst (p := 998) (x := (2 : Int32)) (Or.inr rfl) rfl rfl rfl ?_
    refine zw_iadd (p := 999) (Or.inr rfl) rfl rfl ?_
    refine zw_iaload (p := 1000) (Or.inr rfl) rfl rfl ?_
    refine zw_aload_n (p := 1001) (Or.inr rfl) rfl rfl rfl ?_
    refine zw_iload_n (p := 1002) (Or.inr rfl) rfl rfl rfl ?_
    refine zw_iconst (p := 1003) (x := (3 : Int32)) (Or.inr rfl) rfl rfl rfl ?_
    refine zw_iadd (p := 1004) (Or.inr rfl) rfl rfl ?_
    refine zw_iaload (p := 1005) (Or.inr rfl) rfl rfl ?_
    refine zw_aload_n (p := 1006) (Or.inr rfl) rfl rfl rfl ?_
    refine zw_iload_n (p := 1007) (Or.inr rfl) rfl rfl rfl ?_
    refine zw_iconst (p := 1008) (x := (4 : Int32)) (Or.inr rfl) rfl rfl rfl ?_
    refine zw_iadd (p := 1009) (Or.inr rfl) rfl rfl ?_
    refine zw_iaload (p := 1010) (Or.inr rfl) rfl rfl ?_
    refine zw_virtualI (p := 1013) (as := [.ref a2, .int (zI M51 a0 (Int32.toNatClampNeg (x3 + (1 : Int32)))), .int (zI M51 a0 (Int32.toNatClampNeg (x3 + (2 : Int32)))), .int (zI M51 a0 (Int32.toNatClampNeg (x3 + (3 : Int32)))), .int (zI M51 a0 (Int32.toNatClampNeg (x3 + (4 : Int32))))]) (rest := [.int u76]) (Or.inr rfl) rfl rfl rfl rfl rfl rfl rfl (fun u77 M52 => ?_)
    refine zw_icmp_eq (t := 1054) (p := 1016) (Or.inr rfl) rfl rfl rfl ?_ ?_
    · refine zw_iinc (p := 1057) (c := (5 : Int32)) (L2 := fun u78 => [some (.ref a0), some (.ref a1), some (.ref a2), some (.int u78)]) (Or.inr rfl) rfl rfl rfl rfl (fun _ => rfl) rfl (fun u78 => ?_)
      refine zw_goto (t := 18) (Or.inr rfl) rfl rfl ?_
      exact zw_end rfl rfl
    refine zw_iconst (p := 1017) (x := (0 : Int32)) (Or.inr rfl) rfl rfl rfl ?_
    exact zw_ireturn2 (Or.inr rfl) rfl rfl
  refine zsw_c (lo2 := 27) rfl ?_ ?_
  · refine zw_aload_n (p := 1019) (Or.inr rfl) rfl rfl rfl ?_
    refine zw_virtualI (p := 1022) (as := [.ref a1]) (rest := []) (Or.inr rfl) rfl rfl rfl rfl rfl rfl rfl (fun u79 M53 => ?_)
    refine zw_aload_n (p := 1023) (Or.inr rfl) rfl rfl rfl ?_
    refine zw_virtualI (p := 1026) (as := [.ref a2]) (rest := [.int u79]) (Or.inr rfl) rfl rfl rfl rfl rfl rfl rfl (fun u80 M54 => ?_)
    refine zw_icmp_eq (t := 1054) (p := 1029) (Or.inr rfl) rfl rfl rfl ?_ ?_
    · refine zw_iinc (p := 1057) (c := (5 : Int32)) (L2 := fun u81 => [some (.ref a0), some (.ref a1), some (.ref a2), some (.int u81)]) (Or.inr rfl) rfl rfl rfl rfl (fun _ => rfl) rfl (fun u81 => ?_)
      refine zw_goto (t := 18) (Or.inr rfl) rfl rfl ?_
      exact zw_end rfl rfl
    refine zw_iconst (p := 1030) (x := (0 : Int32)) (Or.inr rfl) rfl rfl rfl ?_
    exact zw_ireturn2 (Or.inr rfl) rfl rfl
  refine zsw_c (lo2 := 28) rfl ?_ ?_
  · refine zw_aload_n (p := 1032) (Or.inr rfl) rfl rfl rfl ?_
    refine zw_aload_n (p := 1033) (Or.inr rfl) rfl rfl rfl ?_
    refine zw_iload_n (p := 1034) (Or.inr rfl) rfl rfl rfl ?_
    refine zw_iconst (p := 1035) (x := (1 : Int32)) (Or.inr rfl) rfl rfl rfl ?_
    refine zw_iadd (p := 1036) (Or.inr rfl) rfl rfl ?_
    refine zw_iaload (p := 1037) (Or.inr rfl) rfl rfl ?_
    refine zw_virtualI (p := 1040) (as := [.ref a1, .int (zI M a0 (Int32.toNatClampNeg (x3 + (1 : Int32))))]) (rest := []) (Or.inr rfl) rfl rfl rfl rfl rfl rfl rfl (fun u82 M55 => ?_)
    refine zw_aload_n (p := 1041) (Or.inr rfl) rfl rfl rfl ?_
    refine zw_aload_n (p := 1042) (Or.inr rfl) rfl rfl rfl ?_
    refine zw_iload_n (p := 1043) (Or.inr rfl) rfl rfl rfl ?_
    refine zw_iconst (p := 1044) (x := (1 : Int32)) (Or.inr rfl) rfl rfl rfl ?_
    refine zw_iadd (p := 1045) (Or.inr rfl) rfl rfl ?_
    refine zw_iaload (p := 1046) (Or.inr rfl) rfl rfl ?_
    refine zw_virtualI (p := 1049) (as := [.ref a2, .int (zI M55 a0 (Int32.toNatClampNeg (x3 + (1 : Int32))))]) (rest := [.int u82]) (Or.inr rfl) rfl rfl rfl rfl rfl rfl rfl (fun u83 M56 => ?_)
    refine zw_icmp_eq (t := 1054) (p := 1052) (Or.inr rfl) rfl rfl rfl ?_ ?_
    · refine zw_iinc (p := 1057) (c := (5 : Int32)) (L2 := fun u84 => [some (.ref a0), some (.ref a1), some (.ref a2), some (.int u84)]) (Or.inr rfl) rfl rfl rfl rfl (fun _ => rfl) rfl (fun u84 => ?_)
      refine zw_goto (t := 18) (Or.inr rfl) rfl rfl ?_
      exact zw_end rfl rfl
    refine zw_iconst (p := 1053) (x := (0 : Int32)) (Or.inr rfl) rfl rfl rfl ?_
    exact zw_ireturn2 (Or.inr rfl) rfl rfl
  refine zsw_n ?_
  refine zw_iinc (p := 1057) (c := (5 : Int32)) (L2 := fun u85 => [some (.ref a0), some (.ref a1), some (.ref a2), some (.int u85)]) (Or.inr rfl) rfl rfl rfl rfl (fun _ => rfl) rfl (fun u85 => ?_)
  refine zw_goto (t := 18) (Or.inr rfl) rfl rfl ?_
  exact zw_end rfl rfl
