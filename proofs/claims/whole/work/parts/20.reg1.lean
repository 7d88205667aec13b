def zx_Bu_begin (E : zE0) (K : zKt) (a0 : Nat) (a1 : Nat) (M : zM) : zO :=
  zif ((zK M a0).1 = 1)
  (zbm (zsR M a0 6 (some a1)) fun M1 =>
  zif ((zK M1 a0).1 = 1)
  (zoR (zR M1 a0 6) fun q1 =>
  zif ((zK M1 q1).1 = 4)
  (zbV (E n_Se_clear [.ref q1] M1) fun M2 =>
  zif ((zK M2 a0).1 = 1)
  (zbm (zsI M2 a0 5 (0 : Int32)) fun M3 =>
  some (none, M3)))))
set_option maxRecDepth 20000 in
theorem ze_Bu_begin (d : Nat) (a0 : Nat) (a1 : Nat) (M : zM) : zV (d + 1) n_Bu_begin [.ref a0, .ref a1] M = zx_Bu_begin (zV d) (zG d n_Bu_begin) a0 a1 M := by
  refine (zE_sg (m := zm_Bu_begin) rfl 400 _ rfl M).trans ?_
  show zw true zm_Bu_begin (zV d) (zG d n_Bu_begin) 400 0 [some (.ref a0), some (.ref a1)] [] M = _
  unfold zx_Bu_begin
  refine zw_aload_n (p := 1) (Or.inl rfl) rfl rfl rfl ?_
  refine zw_aload_n (p := 2) (Or.inr rfl) rfl rfl rfl ?_
  refine zw_put_ref (p := 5) (Or.inr rfl) rfl rfl (fun M1 => ?_)
  refine zw_aload_n (p := 6) (Or.inr rfl) rfl rfl rfl ?_
  refine zw_get_ref (p := 9) (Or.inr rfl) rfl rfl (fun q1 => ?_)
  refine zw_virtualV (p := 12) (as := [.ref q1]) (rest := []) (Or.inr rfl) rfl rfl rfl rfl rfl rfl rfl (fun M2 => ?_)
  refine zw_aload_n (p := 13) (Or.inr rfl) rfl rfl rfl ?_
  refine zw_iconst (p := 14) (x := (0 : Int32)) (Or.inr rfl) rfl rfl rfl ?_
  refine zw_put_int (p := 17) (Or.inr rfl) rfl rfl (fun M3 => ?_)
  exact zw_return (Or.inr rfl) rfl rfl
def zx_Bu_condition (E : zE0) (K : zKt) (a0 : Nat) (a1 : Nat) (M : zM) : zO :=
  zif ((zK M a0).1 = 1)
  (zoR (zR M a0 6) fun q1 =>
  zif ((zK M q1).1 = 4)
  (zbL (E n_Se_addCondition [.ref q1, .ref a1] M) fun w1 M1 =>
  zif ((zK M1 a0).1 = 1)
  (if (19 : Int32) ≤ (zI M1 a0 5) then (some (none, M1))
  else zif ((zK M1 a0).1 = 1)
  (zoR (zR M1 a0 0) fun q2 =>
  zif ((zK M1 a0).1 = 1)
  (zif ((zK M1 q2).1 = 23 ∧ zin (zI M1 a0 5) (zK M1 q2).2 = true)
  (zbm (zsL M1 q2 (Int32.toNatClampNeg (zI M1 a0 5)) w1) fun M2 =>
  zif ((zK M2 a0).1 = 1)
  (zoR (zR M2 a0 1) fun q3 =>
  zif ((zK M2 a0).1 = 1)
  (zif ((zK M2 q3).1 = 23 ∧ zin (zI M2 a0 5) (zK M2 q3).2 = true)
  (zbm (zsL M2 q3 (Int32.toNatClampNeg (zI M2 a0 5)) w1) fun M3 =>
  zif ((zK M3 a0).1 = 1)
  (zoR (zR M3 a0 2) fun q4 =>
  zif ((zK M3 a0).1 = 1)
  (zif ((zK M3 a0).1 = 1)
  (zoR (zR M3 a0 6) fun q5 =>
  zif ((zK M3 q5).1 = 4)
  (zif ((zK M3 q4).1 = 20 ∧ zin (zI M3 a0 5) (zK M3 q4).2 = true)
  (zbm (zsI M3 q4 (Int32.toNatClampNeg (zI M3 a0 5)) (zI M3 q5 7)) fun M4 =>
  zif ((zK M4 a0).1 = 1)
  (zoR (zR M4 a0 3) fun q6 =>
  zif ((zK M4 a0).1 = 1)
  (zif ((zK M4 q6).1 = 20 ∧ zin (zI M4 a0 5) (zK M4 q6).2 = true)
  (zbm (zsI M4 q6 (Int32.toNatClampNeg (zI M4 a0 5)) (1 : Int32)) fun M5 =>
  zif ((zK M5 a0).1 = 1)
  (zoR (zR M5 a0 4) fun q7 =>
  zif ((zK M5 a0).1 = 1)
  (zif ((zK M5 q7).1 = 20 ∧ zin (zI M5 a0 5) (zK M5 q7).2 = true)
  (zbm (zsI M5 q7 (Int32.toNatClampNeg (zI M5 a0 5)) (1 : Int32)) fun M6 =>
  zif ((zK M6 a0).1 = 1)
  (zif ((zK M6 a0).1 = 1)
  (zbm (zsI M6 a0 5 ((zI M6 a0 5) + (1 : Int32))) fun M7 =>
  some (none, M7)))))))))))))))))))))))
set_option maxRecDepth 20000 in
theorem ze_Bu_condition (d : Nat) (a0 : Nat) (a1 : Nat) (M : zM) : zV (d + 1) n_Bu_condition [.ref a0, .ref a1] M = zx_Bu_condition (zV d) (zG d n_Bu_condition) a0 a1 M := by
  refine (zE_sg (m := zm_Bu_condition) rfl 400 _ rfl M).trans ?_
  show zw true zm_Bu_condition (zV d) (zG d n_Bu_condition) 400 0 [some (.ref a0), some (.ref a1), none, none] [] M = _
  unfold zx_Bu_condition
  refine zw_aload_n (p := 1) (Or.inl rfl) rfl rfl rfl ?_
  refine zw_get_ref (p := 4) (Or.inr rfl) rfl rfl (fun q1 => ?_)
  refine zw_aload_n (p := 5) (Or.inr rfl) rfl rfl rfl ?_
  refine zw_virtualL (p := 8) (as := [.ref q1, .ref a1]) (rest := []) (Or.inr rfl) rfl rfl rfl rfl rfl rfl rfl (fun w1 M1 => ?_)
  refine zw_lstore_n (p := 9) (l2 := [some (.ref a0), some (.ref a1), some (.long w1), none]) (Or.inr rfl) rfl rfl rfl rfl ?_
  refine zw_aload_n (p := 10) (Or.inr rfl) rfl rfl rfl ?_
  refine zw_get_int (p := 13) (Or.inr rfl) rfl rfl ?_
  refine zw_bipush (p := 15) (x := (19 : Int32)) (Or.inr rfl) rfl rfl rfl ?_
  refine zw_icmp_ge (t := 84) (p := 18) (Or.inr rfl) rfl rfl rfl ?_ ?_
  · exact zw_return (Or.inr rfl) rfl rfl
  refine zw_aload_n (p := 19) (Or.inr rfl) rfl rfl rfl ?_
  refine zw_get_ref (p := 22) (Or.inr rfl) rfl rfl (fun q2 => ?_)
  refine zw_aload_n (p := 23) (Or.inr rfl) rfl rfl rfl ?_
  refine zw_get_int (p := 26) (Or.inr rfl) rfl rfl ?_
  refine zw_lload_n (p := 27) (Or.inr rfl) rfl rfl rfl ?_
  refine zw_lastore (p := 28) (Or.inr rfl) rfl rfl (fun M2 => ?_)
  refine zw_aload_n (p := 29) (Or.inr rfl) rfl rfl rfl ?_
  refine zw_get_ref (p := 32) (Or.inr rfl) rfl rfl (fun q3 => ?_)
  refine zw_aload_n (p := 33) (Or.inr rfl) rfl rfl rfl ?_
  refine zw_get_int (p := 36) (Or.inr rfl) rfl rfl ?_
  refine zw_lload_n (p := 37) (Or.inr rfl) rfl rfl rfl ?_
  refine zw_lastore (p := 38) (Or.inr rfl) rfl rfl (fun M3 => ?_)
  refine zw_aload_n (p := 39) (Or.inr rfl) rfl rfl rfl ?_
  refine zw_get_ref (p := 42) (Or.inr rfl) rfl rfl (fun q4 => ?_)
  refine zw_aload_n (p := 43) (Or.inr rfl) rfl rfl rfl ?_
  refine zw_get_int (p := 46) (Or.inr rfl) rfl rfl ?_
  refine zw_aload_n (p := 47) (Or.inr rfl) rfl rfl rfl ?_
  refine zw_get_ref (p := 50) (Or.inr rfl) rfl rfl (fun q5 => ?_)
  refine zw_get_int (p := 53) (Or.inr rfl) rfl rfl ?_
  refine zw_iastore (p := 54) (Or.inr rfl) rfl rfl (fun M4 => ?_)
  refine zw_aload_n (p := 55) (Or.inr rfl) rfl rfl rfl ?_
  refine zw_get_ref (p := 58) (Or.inr rfl) rfl rfl (fun q6 => ?_)
  refine zw_aload_n (p := 59) (Or.inr rfl) rfl rfl rfl ?_
  refine zw_get_int (p := 62) (Or.inr rfl) rfl rfl ?_
  refine zw_iconst (p := 63) (x := (1 : Int32)) (Or.inr rfl) rfl rfl rfl ?_
  refine zw_iastore (p := 64) (Or.inr rfl) rfl rfl (fun M5 => ?_)
  refine zw_aload_n (p := 65) (Or.inr rfl) rfl rfl rfl ?_
  refine zw_get_ref (p := 68) (Or.inr rfl) rfl rfl (fun q7 => ?_)
  refine zw_aload_n (p := 69) (Or.inr rfl) rfl rfl rfl ?_
  refine zw_get_int (p := 72) (Or.inr rfl) rfl rfl ?_
  refine zw_iconst (p := 73) (x := (1 : Int32)) (Or.inr rfl) rfl rfl rfl ?_
  refine zw_iastore (p := 74) (Or.inr rfl) rfl rfl (fun M6 => ?_)
  refine zw_aload_n (p := 75) (Or.inr rfl) rfl rfl rfl ?_
  refine zw_dup_ref (p := 76) (Or.inr rfl) rfl rfl ?_
  refine zw_get_int (p := 79) (Or.inr rfl) rfl rfl ?_
  refine zw_iconst (p := 80) (x := (1 : Int32)) (Or.inr rfl) rfl rfl rfl ?_
  refine zw_iadd (p := 81) (Or.inr rfl) rfl rfl ?_
  refine zw_put_int (p := 84) (Or.inr rfl) rfl rfl (fun M7 => ?_)
  exact zw_return (Or.inr rfl) rfl rfl
def zx_Bu_chainTwo (E : zE0) (K : zKt) (a0 : Nat) (M : zM) : zO :=
  zif ((zK M a0).1 = 1)
  (if (2 : Int32) ≤ (zI M a0 5) then (zif ((zK M a0).1 = 1)
    (zif ((zK M a0).1 = 1)
    (zbm (zsI M a0 5 ((zI M a0 5) - (1 : Int32))) fun M1 =>
    zif ((zK M1 a0).1 = 1)
    (zbi ((zI M1 a0 5) - (1 : Int32)) fun u1 =>
    zif ((zK M1 a0).1 = 1)
    (zoR (zR M1 a0 6) fun q1 =>
    zif ((zK M1 a0).1 = 1)
    (zoR (zR M1 a0 1) fun q2 =>
    zif (((zK M1 q2).1 = 23 ∨ (zK M1 q2).1 = 25) ∧ zin u1 (zK M1 q2).2 = true)
    (zif ((zK M1 a0).1 = 1)
    (zoR (zR M1 a0 0) fun q3 =>
    zif ((zK M1 a0).1 = 1)
    (zif (((zK M1 q3).1 = 23 ∨ (zK M1 q3).1 = 25) ∧ zin (zI M1 a0 5) (zK M1 q3).2 = true)
    (zif ((zK M1 q1).1 = 4)
    (zbV (E n_Se_link [.ref q1, .long (zL M1 q2 (Int32.toNatClampNeg u1)), .long (zL M1 q3 (Int32.toNatClampNeg (zI M1 a0 5)))] M1) fun M2 =>
    zif ((zK M2 a0).1 = 1)
    (zoR (zR M2 a0 3) fun q4 =>
    zif (((zK M2 q4).1 = 20 ∨ (zK M2 q4).1 = 24) ∧ zin u1 (zK M2 q4).2 = true)
    (if (zI M2 q4 (Int32.toNatClampNeg u1)) ≠ 0 then (K 75 [some (.ref a0), some (.int u1)] [] M2)
    else zif ((zK M2 a0).1 = 1)
    (zoR (zR M2 a0 0) fun q5 =>
    zif (((zK M2 q5).1 = 23 ∨ (zK M2 q5).1 = 25) ∧ zin u1 (zK M2 q5).2 = true)
    (zif ((zK M2 a0).1 = 1)
    (zoR (zR M2 a0 0) fun q6 =>
    zif ((zK M2 a0).1 = 1)
    (zif (((zK M2 q6).1 = 23 ∨ (zK M2 q6).1 = 25) ∧ zin (zI M2 a0 5) (zK M2 q6).2 = true)
    (zif ((zK M2 q5).1 = 23 ∧ zin u1 (zK M2 q5).2 = true)
    (zbm (zsL M2 q5 (Int32.toNatClampNeg u1) ((zL M2 q5 (Int32.toNatClampNeg u1)) ||| (zL M2 q6 (Int32.toNatClampNeg (zI M2 a0 5))))) fun M3 =>
    K 75 [some (.ref a0), some (.int u1)] [] M3)))))))))))))))))))
  else some (none, M))
set_option maxRecDepth 20000 in
theorem ze_Bu_chainTwo (d : Nat) (a0 : Nat) (M : zM) : zV (d + 1) n_Bu_chainTwo [.ref a0] M = zx_Bu_chainTwo (zV d) (zG d n_Bu_chainTwo) a0 M := by
  refine (zE_sg (m := zm_Bu_chainTwo) rfl 400 _ rfl M).trans ?_
  show zw true zm_Bu_chainTwo (zV d) (zG d n_Bu_chainTwo) 400 0 [some (.ref a0), none] [] M = _
  unfold zx_Bu_chainTwo
  refine zw_aload_n (p := 1) (Or.inl rfl) rfl rfl rfl ?_
  refine zw_get_int (p := 4) (Or.inr rfl) rfl rfl ?_
  refine zw_iconst (p := 5) (x := (2 : Int32)) (Or.inr rfl) rfl rfl rfl ?_
  refine zw_icmp_ge (t := 9) (p := 8) (Or.inr rfl) rfl rfl rfl ?_ ?_
  · refine zw_aload_n (p := 10) (Or.inr rfl) rfl rfl rfl ?_
    refine zw_dup_ref (p := 11) (Or.inr rfl) rfl rfl ?_
    refine zw_get_int (p := 14) (Or.inr rfl) rfl rfl ?_
    refine zw_iconst (p := 15) (x := (1 : Int32)) (Or.inr rfl) rfl rfl rfl ?_
    refine zw_isub (p := 16) (Or.inr rfl) rfl rfl ?_
    refine zw_put_int (p := 19) (Or.inr rfl) rfl rfl (fun M1 => ?_)
    refine zw_aload_n (p := 20) (Or.inr rfl) rfl rfl rfl ?_
    refine zw_get_int (p := 23) (Or.inr rfl) rfl rfl ?_
    refine zw_iconst (p := 24) (x := (1 : Int32)) (Or.inr rfl) rfl rfl rfl ?_
    refine zw_isub (p := 25) (Or.inr rfl) rfl rfl ?_
    refine zw_istore_nN (p := 26) (L2 := fun u1 => [some (.ref a0), some (.int u1)]) (Or.inr rfl) rfl rfl (fun _ => rfl) rfl (fun u1 => ?_)
    refine zw_aload_n (p := 27) (Or.inr rfl) rfl rfl rfl ?_
    refine zw_get_ref (p := 30) (Or.inr rfl) rfl rfl (fun q1 => ?_)
    refine zw_aload_n (p := 31) (Or.inr rfl) rfl rfl rfl ?_
    refine zw_get_ref (p := 34) (Or.inr rfl) rfl rfl (fun q2 => ?_)
    refine zw_iload_n (p := 35) (Or.inr rfl) rfl rfl rfl ?_
    refine zw_laload (p := 36) (Or.inr rfl) rfl rfl ?_
    refine zw_aload_n (p := 37) (Or.inr rfl) rfl rfl rfl ?_
    refine zw_get_ref (p := 40) (Or.inr rfl) rfl rfl (fun q3 => ?_)
    refine zw_aload_n (p := 41) (Or.inr rfl) rfl rfl rfl ?_
    refine zw_get_int (p := 44) (Or.inr rfl) rfl rfl ?_
    refine zw_laload (p := 45) (Or.inr rfl) rfl rfl ?_
    refine zw_virtualV (p := 48) (as := [.ref q1, .long (zL M1 q2 (Int32.toNatClampNeg u1)), .long (zL M1 q3 (Int32.toNatClampNeg (zI M1 a0 5)))]) (rest := []) (Or.inr rfl) rfl rfl rfl rfl rfl rfl rfl (fun M2 => ?_)
    refine zw_aload_n (p := 49) (Or.inr rfl) rfl rfl rfl ?_
    refine zw_get_ref (p := 52) (Or.inr rfl) rfl rfl (fun q4 => ?_)
    refine zw_iload_n (p := 53) (Or.inr rfl) rfl rfl rfl ?_
    refine zw_iaload (p := 54) (Or.inr rfl) rfl rfl ?_
    refine zw_if_ne (t := 75) (p := 57) (Or.inr rfl) rfl rfl rfl ?_ ?_
    · exact zw_end rfl rfl
    refine zw_aload_n (p := 58) (Or.inr rfl) rfl rfl rfl ?_
    refine zw_get_ref (p := 61) (Or.inr rfl) rfl rfl (fun q5 => ?_)
    refine zw_iload_n (p := 62) (Or.inr rfl) rfl rfl rfl ?_
    refine zw_dup2_ir (p := 63) (Or.inr rfl) rfl rfl ?_
    refine zw_laload (p := 64) (Or.inr rfl) rfl rfl ?_
    refine zw_aload_n (p := 65) (Or.inr rfl) rfl rfl rfl ?_
    refine zw_get_ref (p := 68) (Or.inr rfl) rfl rfl (fun q6 => ?_)
    refine zw_aload_n (p := 69) (Or.inr rfl) rfl rfl rfl ?_
    refine zw_get_int (p := 72) (Or.inr rfl) rfl rfl ?_
    refine zw_laload (p := 73) (Or.inr rfl) rfl rfl ?_
    refine zw_lor (p := 74) (Or.inr rfl) rfl rfl ?_
    refine zw_lastore (p := 75) (Or.inr rfl) rfl rfl (fun M3 => ?_)
    exact zw_end rfl rfl
  exact zw_return (Or.inr rfl) rfl rfl
def zx_Bu_chainTwo_75 (E : zE0) (K : zKt) (a0 : Nat) (x1 : Int32) (M : zM) : zO :=
  zif ((zK M a0).1 = 1)
  (zoR (zR M a0 1) fun q1 =>
  zif ((zK M a0).1 = 1)
  (zoR (zR M a0 3) fun q2 =>
  zif ((zK M a0).1 = 1)
  (zif (((zK M q2).1 = 20 ∨ (zK M q2).1 = 24) ∧ zin (zI M a0 5) (zK M q2).2 = true)
  (if (zI M q2 (Int32.toNatClampNeg (zI M a0 5))) ≠ 0 then (zif ((zK M a0).1 = 1)
    (zoR (zR M a0 1) fun q3 =>
    zif ((zK M a0).1 = 1)
    (zif (((zK M q3).1 = 23 ∨ (zK M q3).1 = 25) ∧ zin (zI M a0 5) (zK M q3).2 = true)
    (K 120 [some (.ref a0), some (.int x1)] [.long (zL M q3 (Int32.toNatClampNeg (zI M a0 5))), .int x1, .ref q1] M))))
  else zif ((zK M a0).1 = 1)
  (zoR (zR M a0 1) fun q4 =>
  zif (((zK M q4).1 = 23 ∨ (zK M q4).1 = 25) ∧ zin x1 (zK M q4).2 = true)
  (zif ((zK M a0).1 = 1)
  (zoR (zR M a0 1) fun q5 =>
  zif ((zK M a0).1 = 1)
  (zif (((zK M q5).1 = 23 ∨ (zK M q5).1 = 25) ∧ zin (zI M a0 5) (zK M q5).2 = true)
  (K 120 [some (.ref a0), some (.int x1)] [.long ((zL M q4 (Int32.toNatClampNeg x1)) ||| (zL M q5 (Int32.toNatClampNeg (zI M a0 5)))), .int x1, .ref q1] M)))))))))
set_option maxRecDepth 20000 in
theorem zg_Bu_chainTwo_75 (d : Nat) (a0 : Nat) (x1 : Int32) (M : zM) : zG d n_Bu_chainTwo 75 [some (.ref a0), some (.int x1)] [] M = zx_Bu_chainTwo_75 (zV d) (zG d n_Bu_chainTwo) a0 x1 M := by
  refine (zG_sg (m := zm_Bu_chainTwo) rfl 400 _ _ _ M).trans ?_
  show zw true zm_Bu_chainTwo (zV d) (zG d n_Bu_chainTwo) 400 75 [some (.ref a0), some (.int x1)] [] M = _
  unfold zx_Bu_chainTwo_75
  refine zw_aload_n (p := 76) (Or.inl rfl) rfl rfl rfl ?_
  refine zw_get_ref (p := 79) (Or.inr rfl) rfl rfl (fun q1 => ?_)
  refine zw_iload_n (p := 80) (Or.inr rfl) rfl rfl rfl ?_
  refine zw_aload_n (p := 81) (Or.inr rfl) rfl rfl rfl ?_
  refine zw_get_ref (p := 84) (Or.inr rfl) rfl rfl (fun q2 => ?_)
  refine zw_aload_n (p := 85) (Or.inr rfl) rfl rfl rfl ?_
  refine zw_get_int (p := 88) (Or.inr rfl) rfl rfl ?_
  refine zw_iaload (p := 89) (Or.inr rfl) rfl rfl ?_
  refine zw_if_ne (t := 111) (p := 92) (Or.inr rfl) rfl rfl rfl ?_ ?_
  · refine zw_aload_n (p := 112) (Or.inr rfl) rfl rfl rfl ?_
    refine zw_get_ref (p := 115) (Or.inr rfl) rfl rfl (fun q3 => ?_)
    refine zw_aload_n (p := 116) (Or.inr rfl) rfl rfl rfl ?_
    refine zw_get_int (p := 119) (Or.inr rfl) rfl rfl ?_
    refine zw_laload (p := 120) (Or.inr rfl) rfl rfl ?_
    exact zw_end rfl rfl
  refine zw_aload_n (p := 93) (Or.inr rfl) rfl rfl rfl ?_
  refine zw_get_ref (p := 96) (Or.inr rfl) rfl rfl (fun q4 => ?_)
  refine zw_iload_n (p := 97) (Or.inr rfl) rfl rfl rfl ?_
  refine zw_laload (p := 98) (Or.inr rfl) rfl rfl ?_
  refine zw_aload_n (p := 99) (Or.inr rfl) rfl rfl rfl ?_
  refine zw_get_ref (p := 102) (Or.inr rfl) rfl rfl (fun q5 => ?_)
  refine zw_aload_n (p := 103) (Or.inr rfl) rfl rfl rfl ?_
  refine zw_get_int (p := 106) (Or.inr rfl) rfl rfl ?_
  refine zw_laload (p := 107) (Or.inr rfl) rfl rfl ?_
  refine zw_lor (p := 108) (Or.inr rfl) rfl rfl ?_
  refine zw_goto (t := 120) (Or.inr rfl) rfl rfl ?_
  exact zw_end rfl rfl
def zx_Bu_chainTwo_120 (E : zE0) (K : zKt) (a0 : Nat) (x1 : Int32) (s0 : Int64) (s1 : Int32) (s2 : Nat) (M : zM) : zO :=
  zif ((zK M s2).1 = 23 ∧ zin s1 (zK M s2).2 = true)
  (zbm (zsL M s2 (Int32.toNatClampNeg s1) s0) fun M1 =>
  zif ((zK M1 a0).1 = 1)
  (zoR (zR M1 a0 3) fun q1 =>
  zif ((zK M1 a0).1 = 1)
  (zoR (zR M1 a0 3) fun q2 =>
  zif (((zK M1 q2).1 = 20 ∨ (zK M1 q2).1 = 24) ∧ zin x1 (zK M1 q2).2 = true)
  (zif ((zK M1 a0).1 = 1)
  (zoR (zR M1 a0 3) fun q3 =>
  zif ((zK M1 a0).1 = 1)
  (zif (((zK M1 q3).1 = 20 ∨ (zK M1 q3).1 = 24) ∧ zin (zI M1 a0 5) (zK M1 q3).2 = true)
  (zif ((zK M1 q1).1 = 20 ∧ zin x1 (zK M1 q1).2 = true)
  (zbm (zsI M1 q1 (Int32.toNatClampNeg x1) (if ((zI M1 q2 (Int32.toNatClampNeg x1)) + (zI M1 q3 (Int32.toNatClampNeg (zI M1 a0 5)))) < (1000 : Int32) then ((zI M1 q2 (Int32.toNatClampNeg x1)) + (zI M1 q3 (Int32.toNatClampNeg (zI M1 a0 5)))) else (1000 : Int32))) fun M2 =>
  zif ((zK M2 a0).1 = 1)
  (zoR (zR M2 a0 4) fun q4 =>
  zif ((zK M2 a0).1 = 1)
  (zoR (zR M2 a0 4) fun q5 =>
  zif (((zK M2 q5).1 = 20 ∨ (zK M2 q5).1 = 24) ∧ zin x1 (zK M2 q5).2 = true)
  (zif ((zK M2 a0).1 = 1)
  (zoR (zR M2 a0 4) fun q6 =>
  zif ((zK M2 a0).1 = 1)
  (zif (((zK M2 q6).1 = 20 ∨ (zK M2 q6).1 = 24) ∧ zin (zI M2 a0 5) (zK M2 q6).2 = true)
  (zif ((zK M2 q4).1 = 20 ∧ zin x1 (zK M2 q4).2 = true)
  (zbm (zsI M2 q4 (Int32.toNatClampNeg x1) (if ((zI M2 q5 (Int32.toNatClampNeg x1)) + (zI M2 q6 (Int32.toNatClampNeg (zI M2 a0 5)))) < (1000 : Int32) then ((zI M2 q5 (Int32.toNatClampNeg x1)) + (zI M2 q6 (Int32.toNatClampNeg (zI M2 a0 5)))) else (1000 : Int32))) fun M3 =>
  some (none, M3))))))))))))))))
set_option maxRecDepth 20000 in
theorem zg_Bu_chainTwo_120 (d : Nat) (a0 : Nat) (x1 : Int32) (s0 : Int64) (s1 : Int32) (s2 : Nat) (M : zM) : zG d n_Bu_chainTwo 120 [some (.ref a0), some (.int x1)] [.long s0, .int s1, .ref s2] M = zx_Bu_chainTwo_120 (zV d) (zG d n_Bu_chainTwo) a0 x1 s0 s1 s2 M := by
  refine (zG_sg (m := zm_Bu_chainTwo) rfl 400 _ _ _ M).trans ?_
  show zw true zm_Bu_chainTwo (zV d) (zG d n_Bu_chainTwo) 400 120 [some (.ref a0), some (.int x1)] [.long s0, .int s1, .ref s2] M = _
  unfold zx_Bu_chainTwo_120
  refine zw_lastore (p := 121) (Or.inl rfl) rfl rfl (fun M1 => ?_)
  refine zw_aload_n (p := 122) (Or.inr rfl) rfl rfl rfl ?_
  refine zw_get_ref (p := 125) (Or.inr rfl) rfl rfl (fun q1 => ?_)
  refine zw_iload_n (p := 126) (Or.inr rfl) rfl rfl rfl ?_
  refine zw_sipush (p := 129) (x := (1000 : Int32)) (Or.inr rfl) rfl rfl rfl ?_
  refine zw_aload_n (p := 130) (Or.inr rfl) rfl rfl rfl ?_
  refine zw_get_ref (p := 133) (Or.inr rfl) rfl rfl (fun q2 => ?_)
  refine zw_iload_n (p := 134) (Or.inr rfl) rfl rfl rfl ?_
  refine zw_iaload (p := 135) (Or.inr rfl) rfl rfl ?_
  refine zw_aload_n (p := 136) (Or.inr rfl) rfl rfl rfl ?_
  refine zw_get_ref (p := 139) (Or.inr rfl) rfl rfl (fun q3 => ?_)
  refine zw_aload_n (p := 140) (Or.inr rfl) rfl rfl rfl ?_
  refine zw_get_int (p := 143) (Or.inr rfl) rfl rfl ?_
  refine zw_iaload (p := 144) (Or.inr rfl) rfl rfl ?_
  refine zw_iadd (p := 145) (Or.inr rfl) rfl rfl ?_
  refine zw_min (p := 148) (Or.inr rfl) rfl rfl rfl ?_
  refine zw_iastore (p := 149) (Or.inr rfl) rfl rfl (fun M2 => ?_)
  refine zw_aload_n (p := 150) (Or.inr rfl) rfl rfl rfl ?_
  refine zw_get_ref (p := 153) (Or.inr rfl) rfl rfl (fun q4 => ?_)
  refine zw_iload_n (p := 154) (Or.inr rfl) rfl rfl rfl ?_
  refine zw_sipush (p := 157) (x := (1000 : Int32)) (Or.inr rfl) rfl rfl rfl ?_
  refine zw_aload_n (p := 158) (Or.inr rfl) rfl rfl rfl ?_
  refine zw_get_ref (p := 161) (Or.inr rfl) rfl rfl (fun q5 => ?_)
  refine zw_iload_n (p := 162) (Or.inr rfl) rfl rfl rfl ?_
  refine zw_iaload (p := 163) (Or.inr rfl) rfl rfl ?_
  refine zw_aload_n (p := 164) (Or.inr rfl) rfl rfl rfl ?_
  refine zw_get_ref (p := 167) (Or.inr rfl) rfl rfl (fun q6 => ?_)
  refine zw_aload_n (p := 168) (Or.inr rfl) rfl rfl rfl ?_
  refine zw_get_int (p := 171) (Or.inr rfl) rfl rfl ?_
  refine zw_iaload (p := 172) (Or.inr rfl) rfl rfl ?_
  refine zw_iadd (p := 173) (Or.inr rfl) rfl rfl ?_
  refine zw_min (p := 176) (Or.inr rfl) rfl rfl rfl ?_
  refine zw_iastore (p := 177) (Or.inr rfl) rfl rfl (fun M3 => ?_)
  exact zw_return (Or.inr rfl) rfl rfl
def zx_Bu_chooseOfTwo (E : zE0) (K : zKt) (a0 : Nat) (M : zM) : zO :=
  zif ((zK M a0).1 = 1)
  (if (2 : Int32) ≤ (zI M a0 5) then (zif ((zK M a0).1 = 1)
    (zif ((zK M a0).1 = 1)
    (zbm (zsI M a0 5 ((zI M a0 5) - (1 : Int32))) fun M1 =>
    zif ((zK M1 a0).1 = 1)
    (zbi ((zI M1 a0 5) - (1 : Int32)) fun u1 =>
    zif ((zK M1 a0).1 = 1)
    (zoR (zR M1 a0 0) fun q1 =>
    zif (((zK M1 q1).1 = 23 ∨ (zK M1 q1).1 = 25) ∧ zin u1 (zK M1 q1).2 = true)
    (zif ((zK M1 a0).1 = 1)
    (zoR (zR M1 a0 0) fun q2 =>
    zif ((zK M1 a0).1 = 1)
    (zif (((zK M1 q2).1 = 23 ∨ (zK M1 q2).1 = 25) ∧ zin (zI M1 a0 5) (zK M1 q2).2 = true)
    (zif ((zK M1 q1).1 = 23 ∧ zin u1 (zK M1 q1).2 = true)
    (zbm (zsL M1 q1 (Int32.toNatClampNeg u1) ((zL M1 q1 (Int32.toNatClampNeg u1)) ||| (zL M1 q2 (Int32.toNatClampNeg (zI M1 a0 5))))) fun M2 =>
    zif ((zK M2 a0).1 = 1)
    (zoR (zR M2 a0 1) fun q3 =>
    zif (((zK M2 q3).1 = 23 ∨ (zK M2 q3).1 = 25) ∧ zin u1 (zK M2 q3).2 = true)
    (zif ((zK M2 a0).1 = 1)
    (zoR (zR M2 a0 1) fun q4 =>
    zif ((zK M2 a0).1 = 1)
    (zif (((zK M2 q4).1 = 23 ∨ (zK M2 q4).1 = 25) ∧ zin (zI M2 a0 5) (zK M2 q4).2 = true)
    (zif ((zK M2 q3).1 = 23 ∧ zin u1 (zK M2 q3).2 = true)
    (zbm (zsL M2 q3 (Int32.toNatClampNeg u1) ((zL M2 q3 (Int32.toNatClampNeg u1)) ||| (zL M2 q4 (Int32.toNatClampNeg (zI M2 a0 5))))) fun M3 =>
    zif ((zK M3 a0).1 = 1)
    (zoR (zR M3 a0 3) fun q5 =>
    zif ((zK M3 a0).1 = 1)
    (zoR (zR M3 a0 3) fun q6 =>
    zif (((zK M3 q6).1 = 20 ∨ (zK M3 q6).1 = 24) ∧ zin u1 (zK M3 q6).2 = true)
    (zif ((zK M3 a0).1 = 1)
    (zoR (zR M3 a0 3) fun q7 =>
    zif ((zK M3 a0).1 = 1)
    (zif (((zK M3 q7).1 = 20 ∨ (zK M3 q7).1 = 24) ∧ zin (zI M3 a0 5) (zK M3 q7).2 = true)
    (zif ((zK M3 q5).1 = 20 ∧ zin u1 (zK M3 q5).2 = true)
    (zbm (zsI M3 q5 (Int32.toNatClampNeg u1) (if (zI M3 q7 (Int32.toNatClampNeg (zI M3 a0 5))) < (zI M3 q6 (Int32.toNatClampNeg u1)) then (zI M3 q7 (Int32.toNatClampNeg (zI M3 a0 5))) else (zI M3 q6 (Int32.toNatClampNeg u1)))) fun M4 =>
    zif ((zK M4 a0).1 = 1)
    (zoR (zR M4 a0 4) fun q8 =>
    zif ((zK M4 a0).1 = 1)
    (zoR (zR M4 a0 4) fun q9 =>
    zif (((zK M4 q9).1 = 20 ∨ (zK M4 q9).1 = 24) ∧ zin u1 (zK M4 q9).2 = true)
    (zif ((zK M4 a0).1 = 1)
    (zoR (zR M4 a0 4) fun q10 =>
    zif ((zK M4 a0).1 = 1)
    (zif (((zK M4 q10).1 = 20 ∨ (zK M4 q10).1 = 24) ∧ zin (zI M4 a0 5) (zK M4 q10).2 = true)
    (zif ((zK M4 q8).1 = 20 ∧ zin u1 (zK M4 q8).2 = true)
    (zbm (zsI M4 q8 (Int32.toNatClampNeg u1) (if (zI M4 q9 (Int32.toNatClampNeg u1)) < (zI M4 q10 (Int32.toNatClampNeg (zI M4 a0 5))) then (zI M4 q10 (Int32.toNatClampNeg (zI M4 a0 5))) else (zI M4 q9 (Int32.toNatClampNeg u1)))) fun M5 =>
    some (none, M5)))))))))))))))))))))))))))))))
  else some (none, M))
set_option maxRecDepth 20000 in
theorem ze_Bu_chooseOfTwo (d : Nat) (a0 : Nat) (M : zM) : zV (d + 1) n_Bu_chooseOfTwo [.ref a0] M = zx_Bu_chooseOfTwo (zV d) (zG d n_Bu_chooseOfTwo) a0 M := by
  refine (zE_sg (m := zm_Bu_chooseOfTwo) rfl 400 _ rfl M).trans ?_
  show zw true zm_Bu_chooseOfTwo (zV d) (zG d n_Bu_chooseOfTwo) 400 0 [some (.ref a0), none] [] M = _
  unfold zx_Bu_chooseOfTwo
  refine zw_aload_n (p := 1) (Or.inl rfl) rfl rfl rfl ?_
  refine zw_get_int (p := 4) (Or.inr rfl) rfl rfl ?_
  refine zw_iconst (p := 5) (x := (2 : Int32)) (Or.inr rfl) rfl rfl rfl ?_
  refine zw_icmp_ge (t := 9) (p := 8) (Or.inr rfl) rfl rfl rfl ?_ ?_
  · refine zw_aload_n (p := 10) (Or.inr rfl) rfl rfl rfl ?_
    refine zw_dup_ref (p := 11) (Or.inr rfl) rfl rfl ?_
    refine zw_get_int (p := 14) (Or.inr rfl) rfl rfl ?_
    refine zw_iconst (p := 15) (x := (1 : Int32)) (Or.inr rfl) rfl rfl rfl ?_
    refine zw_isub (p := 16) (Or.inr rfl) rfl rfl ?_
    refine zw_put_int (p := 19) (Or.inr rfl) rfl rfl (fun M1 => ?_)
    refine zw_aload_n (p := 20) (Or.inr rfl) rfl rfl rfl ?_
    refine zw_get_int (p := 23) (Or.inr rfl) rfl rfl ?_
    refine zw_iconst (p := 24) (x := (1 : Int32)) (Or.inr rfl) rfl rfl rfl ?_
    refine zw_isub (p := 25) (Or.inr rfl) rfl rfl ?_
    refine zw_istore_nN (p := 26) (L2 := fun u1 => [some (.ref a0), some (.int u1)]) (Or.inr rfl) rfl rfl (fun _ => rfl) rfl (fun u1 => ?_)
    refine zw_aload_n (p := 27) (Or.inr rfl) rfl rfl rfl ?_
    refine zw_get_ref (p := 30) (Or.inr rfl) rfl rfl (fun q1 => ?_)
    refine zw_iload_n (p := 31) (Or.inr rfl) rfl rfl rfl ?_
    refine zw_dup2_ir (p := 32) (Or.inr rfl) rfl rfl ?_
    refine zw_laload (p := 33) (Or.inr rfl) rfl rfl ?_
    refine zw_aload_n (p := 34) (Or.inr rfl) rfl rfl rfl ?_
    refine zw_get_ref (p := 37) (Or.inr rfl) rfl rfl (fun q2 => ?_)
    refine zw_aload_n (p := 38) (Or.inr rfl) rfl rfl rfl ?_
    refine zw_get_int (p := 41) (Or.inr rfl) rfl rfl ?_
    refine zw_laload (p := 42) (Or.inr rfl) rfl rfl ?_
    refine zw_lor (p := 43) (Or.inr rfl) rfl rfl ?_
    refine zw_lastore (p := 44) (Or.inr rfl) rfl rfl (fun M2 => ?_)
    refine zw_aload_n (p := 45) (Or.inr rfl) rfl rfl rfl ?_
    refine zw_get_ref (p := 48) (Or.inr rfl) rfl rfl (fun q3 => ?_)
    refine zw_iload_n (p := 49) (Or.inr rfl) rfl rfl rfl ?_
    refine zw_dup2_ir (p := 50) (Or.inr rfl) rfl rfl ?_
    refine zw_laload (p := 51) (Or.inr rfl) rfl rfl ?_
    refine zw_aload_n (p := 52) (Or.inr rfl) rfl rfl rfl ?_
    refine zw_get_ref (p := 55) (Or.inr rfl) rfl rfl (fun q4 => ?_)
    refine zw_aload_n (p := 56) (Or.inr rfl) rfl rfl rfl ?_
    refine zw_get_int (p := 59) (Or.inr rfl) rfl rfl ?_
    refine zw_laload (p := 60) (Or.inr rfl) rfl rfl ?_
    refine zw_lor (p := 61) (Or.inr rfl) rfl rfl ?_
    refine zw_lastore (p := 62) (Or.inr rfl) rfl rfl (fun M3 => ?_)
    refine zw_aload_n (p := 63) (Or.inr rfl) rfl rfl rfl ?_
    refine zw_get_ref (p := 66) (Or.inr rfl) rfl rfl (fun q5 => ?_)
    refine zw_iload_n (p := 67) (Or.inr rfl) rfl rfl rfl ?_
    refine zw_aload_n (p := 68) (Or.inr rfl) rfl rfl rfl ?_
    refine zw_get_ref (p := 71) (Or.inr rfl) rfl rfl (fun q6 => ?_)
    refine zw_iload_n (p := 72) (Or.inr rfl) rfl rfl rfl ?_
    refine zw_iaload (p := 73) (Or.inr rfl) rfl rfl ?_
    refine zw_aload_n (p := 74) (Or.inr rfl) rfl rfl rfl ?_
    refine zw_get_ref (p := 77) (Or.inr rfl) rfl rfl (fun q7 => ?_)
    refine zw_aload_n (p := 78) (Or.inr rfl) rfl rfl rfl ?_
    refine zw_get_int (p := 81) (Or.inr rfl) rfl rfl ?_
    refine zw_iaload (p := 82) (Or.inr rfl) rfl rfl ?_
    refine zw_min (p := 85) (Or.inr rfl) rfl rfl rfl ?_
    refine zw_iastore (p := 86) (Or.inr rfl) rfl rfl (fun M4 => ?_)
    refine zw_aload_n (p := 87) (Or.inr rfl) rfl rfl rfl ?_
    refine zw_get_ref (p := 90) (Or.inr rfl) rfl rfl (fun q8 => ?_)
    refine zw_iload_n (p := 91) (Or.inr rfl) rfl rfl rfl ?_
    refine zw_aload_n (p := 92) (Or.inr rfl) rfl rfl rfl ?_
    refine zw_get_ref (p := 95) (Or.inr rfl) rfl rfl (fun q9 => ?_)
    refine zw_iload_n (p := 96) (Or.inr rfl) rfl rfl rfl ?_
    refine zw_iaload (p := 97) (Or.inr rfl) rfl rfl ?_
    refine zw_aload_n (p := 98) (Or.inr rfl) rfl rfl rfl ?_
    refine zw_get_ref (p := 101) (Or.inr rfl) rfl rfl (fun q10 => ?_)
    refine zw_aload_n (p := 102) (Or.inr rfl) rfl rfl rfl ?_
    refine zw_get_int (p := 105) (Or.inr rfl) rfl rfl ?_
    refine zw_iaload (p := 106) (Or.inr rfl) rfl rfl ?_
    refine zw_max (p := 109) (Or.inr rfl) rfl rfl rfl ?_
    refine zw_iastore (p := 110) (Or.inr rfl) rfl rfl (fun M5 => ?_)
    exact zw_return (Or.inr rfl) rfl rfl
  exact zw_return (Or.inr rfl) rfl rfl
def zx_Bu_repeat (E : zE0) (K : zKt) (a0 : Nat) (x1 : Int32) (x2 : Int32) (M : zM) : zO :=
  zif ((zK M a0).1 = 1)
  (if (1 : Int32) ≤ (zI M a0 5) then (zif ((zK M a0).1 = 1)
    (zbi ((zI M a0 5) - (1 : Int32)) fun u1 =>
    zif ((zK M a0).1 = 1)
    (zoR (zR M a0 6) fun q1 =>
    zif ((zK M q1).1 = 4)
    (zif ((zK M a0).1 = 1)
    (zoR (zR M a0 2) fun q2 =>
    zif (((zK M q2).1 = 20 ∨ (zK M q2).1 = 24) ∧ zin u1 (zK M q2).2 = true)
    (zbi (((zI M q1 7) - (zI M q2 (Int32.toNatClampNeg u1))) + (1 : Int32)) fun u2 =>
    zif ((zK M a0).1 = 1)
    (zoR (zR M a0 6) fun q3 =>
    zif ((zK M q3).1 = 4)
    (if (zI M q3 10) ≠ 0 then (zif ((zK M a0).1 = 1)
      (zoR (zR M a0 6) fun q4 =>
      zif ((zK M q4).1 = 4)
      (if (zI M q4 10) ≠ 0 then (K 77 [some (.ref a0), some (.int x1), some (.int x2), some (.int u1), none] [] M)
      else zif ((zK M a0).1 = 1)
      (zbV (E n_Bu_chainCopies [.ref a0, .int u1, .int u2, .int x1, .int x2] M) fun M1 =>
      K 77 [some (.ref a0), some (.int x1), some (.int x2), some (.int u1), none] [] M1))))
    else zif ((zK M a0).1 = 1)
    (zoR (zR M a0 6) fun q5 =>
    zif ((zK M a0).1 = 1)
    (zoR (zR M a0 2) fun q6 =>
    zif (((zK M q6).1 = 20 ∨ (zK M q6).1 = 24) ∧ zin u1 (zK M q6).2 = true)
    (zif ((zK M q5).1 = 4)
    (zbV (E n_Se_copyBlock [.ref q5, .int (zI M q6 (Int32.toNatClampNeg u1)), .int x2] M) fun M2 =>
    zif ((zK M2 a0).1 = 1)
    (zoR (zR M2 a0 6) fun q7 =>
    zif ((zK M2 q7).1 = 4)
    (if (zI M2 q7 10) ≠ 0 then (K 77 [some (.ref a0), some (.int x1), some (.int x2), some (.int u1), none] [] M2)
    else zif ((zK M2 a0).1 = 1)
    (zbV (E n_Bu_chainCopies [.ref a0, .int u1, .int u2, .int x1, .int x2] M2) fun M3 =>
    K 77 [some (.ref a0), some (.int x1), some (.int x2), some (.int u1), none] [] M3)))))))))))))))
  else some (none, M))
set_option maxRecDepth 20000 in
theorem ze_Bu_repeat (d : Nat) (a0 : Nat) (x1 : Int32) (x2 : Int32) (M : zM) : zV (d + 1) n_Bu_repeat [.ref a0, .int x1, .int x2] M = zx_Bu_repeat (zV d) (zG d n_Bu_repeat) a0 x1 x2 M := by
  refine (zE_sg (m := zm_Bu_repeat) rfl 400 _ rfl M).trans ?_
  show zw true zm_Bu_repeat (zV d) (zG d n_Bu_repeat) 400 0 [some (.ref a0), some (.int x1), some (.int x2), none, none] [] M = _
  unfold zx_Bu_repeat
  refine zw_aload_n (p := 1) (Or.inl rfl) rfl rfl rfl ?_
  refine zw_get_int (p := 4) (Or.inr rfl) rfl rfl ?_
  refine zw_iconst (p := 5) (x := (1 : Int32)) (Or.inr rfl) rfl rfl rfl ?_
  refine zw_icmp_ge (t := 9) (p := 8) (Or.inr rfl) rfl rfl rfl ?_ ?_
  · refine zw_aload_n (p := 10) (Or.inr rfl) rfl rfl rfl ?_
    refine zw_get_int (p := 13) (Or.inr rfl) rfl rfl ?_
    refine zw_iconst (p := 14) (x := (1 : Int32)) (Or.inr rfl) rfl rfl rfl ?_
    refine zw_isub (p := 15) (Or.inr rfl) rfl rfl ?_
    refine zw_istore_nN (p := 16) (L2 := fun u1 => [some (.ref a0), some (.int x1), some (.int x2), some (.int u1), none]) (Or.inr rfl) rfl rfl (fun _ => rfl) rfl (fun u1 => ?_)
    refine zw_aload_n (p := 17) (Or.inr rfl) rfl rfl rfl ?_
    refine zw_get_ref (p := 20) (Or.inr rfl) rfl rfl (fun q1 => ?_)
    refine zw_get_int (p := 23) (Or.inr rfl) rfl rfl ?_
    refine zw_aload_n (p := 24) (Or.inr rfl) rfl rfl rfl ?_
    refine zw_get_ref (p := 27) (Or.inr rfl) rfl rfl (fun q2 => ?_)
    refine zw_iload_n (p := 28) (Or.inr rfl) rfl rfl rfl ?_
    refine zw_iaload (p := 29) (Or.inr rfl) rfl rfl ?_
    refine zw_isub (p := 30) (Or.inr rfl) rfl rfl ?_
    refine zw_iconst (p := 31) (x := (1 : Int32)) (Or.inr rfl) rfl rfl rfl ?_
    refine zw_iadd (p := 32) (Or.inr rfl) rfl rfl ?_
    refine zw_istoreN (p := 34) (L2 := fun u2 => [some (.ref a0), some (.int x1), some (.int x2), some (.int u1), some (.int u2)]) (Or.inr rfl) rfl rfl (fun _ => rfl) rfl (fun u2 => ?_)
    refine zw_aload_n (p := 35) (Or.inr rfl) rfl rfl rfl ?_
    refine zw_get_ref (p := 38) (Or.inr rfl) rfl rfl (fun q3 => ?_)
    refine zw_get_int (p := 41) (Or.inr rfl) rfl rfl ?_
    refine zw_if_ne (t := 58) (p := 44) (Or.inr rfl) rfl rfl rfl ?_ ?_
    · refine zw_aload_n (p := 59) (Or.inr rfl) rfl rfl rfl ?_
      refine zw_get_ref (p := 62) (Or.inr rfl) rfl rfl (fun q4 => ?_)
      refine zw_get_int (p := 65) (Or.inr rfl) rfl rfl ?_
      refine zw_if_ne (t := 77) (p := 68) (Or.inr rfl) rfl rfl rfl ?_ ?_
      · exact zw_end rfl rfl
      refine zw_aload_n (p := 69) (Or.inr rfl) rfl rfl rfl ?_
      refine zw_iload_n (p := 70) (Or.inr rfl) rfl rfl rfl ?_
      refine zw_iload (p := 72) (Or.inr rfl) rfl rfl rfl ?_
      refine zw_iload_n (p := 73) (Or.inr rfl) rfl rfl rfl ?_
      refine zw_iload_n (p := 74) (Or.inr rfl) rfl rfl rfl ?_
      refine zw_virtualV (p := 77) (as := [.ref a0, .int u1, .int u2, .int x1, .int x2]) (rest := []) (Or.inr rfl) rfl rfl rfl rfl rfl rfl rfl (fun M1 => ?_)
      exact zw_end rfl rfl
    refine zw_aload_n (p := 45) (Or.inr rfl) rfl rfl rfl ?_
    refine zw_get_ref (p := 48) (Or.inr rfl) rfl rfl (fun q5 => ?_)
    refine zw_aload_n (p := 49) (Or.inr rfl) rfl rfl rfl ?_
    refine zw_get_ref (p := 52) (Or.inr rfl) rfl rfl (fun q6 => ?_)
    refine zw_iload_n (p := 53) (Or.inr rfl) rfl rfl rfl ?_
    refine zw_iaload (p := 54) (Or.inr rfl) rfl rfl ?_
    refine zw_iload_n (p := 55) (Or.inr rfl) rfl rfl rfl ?_
    refine zw_virtualV (p := 58) (as := [.ref q5, .int (zI M q6 (Int32.toNatClampNeg u1)), .int x2]) (rest := []) (Or.inr rfl) rfl rfl rfl rfl rfl rfl rfl (fun M2 => ?_)
    refine zw_aload_n (p := 59) (Or.inr rfl) rfl rfl rfl ?_
    refine zw_get_ref (p := 62) (Or.inr rfl) rfl rfl (fun q7 => ?_)
    refine zw_get_int (p := 65) (Or.inr rfl) rfl rfl ?_
    refine zw_if_ne (t := 77) (p := 68) (Or.inr rfl) rfl rfl rfl ?_ ?_
    · exact zw_end rfl rfl
    refine zw_aload_n (p := 69) (Or.inr rfl) rfl rfl rfl ?_
    refine zw_iload_n (p := 70) (Or.inr rfl) rfl rfl rfl ?_
    refine zw_iload (p := 72) (Or.inr rfl) rfl rfl rfl ?_
    refine zw_iload_n (p := 73) (Or.inr rfl) rfl rfl rfl ?_
    refine zw_iload_n (p := 74) (Or.inr rfl) rfl rfl rfl ?_
    refine zw_virtualV (p := 77) (as := [.ref a0, .int u1, .int u2, .int x1, .int x2]) (rest := []) (Or.inr rfl) rfl rfl rfl rfl rfl rfl rfl (fun M3 => ?_)
    exact zw_end rfl rfl
  exact zw_return (Or.inr rfl) rfl rfl
def zx_Bu_repeat_77 (E : zE0) (K : zKt) (a0 : Nat) (x1 : Int32) (x2 : Int32) (x3 : Int32) (M : zM) : zO :=
  zif ((zK M a0).1 = 1)
  (zoR (zR M a0 3) fun q1 =>
  zif ((zK M a0).1 = 1)
  (zoR (zR M a0 3) fun q2 =>
  zif (((zK M q2).1 = 20 ∨ (zK M q2).1 = 24) ∧ zin x3 (zK M q2).2 = true)
  (zif ((zK M q1).1 = 20 ∧ zin x3 (zK M q1).2 = true)
  (zbm (zsI M q1 (Int32.toNatClampNeg x3) (if ((zI M q2 (Int32.toNatClampNeg x3)) * x1) < (1000 : Int32) then ((zI M q2 (Int32.toNatClampNeg x3)) * x1) else (1000 : Int32))) fun M1 =>
  zif ((zK M1 a0).1 = 1)
  (zoR (zR M1 a0 4) fun q3 =>
  zif ((zK M1 a0).1 = 1)
  (zoR (zR M1 a0 4) fun q4 =>
  zif (((zK M1 q4).1 = 20 ∨ (zK M1 q4).1 = 24) ∧ zin x3 (zK M1 q4).2 = true)
  (zif ((zK M1 q3).1 = 20 ∧ zin x3 (zK M1 q3).2 = true)
  (zbm (zsI M1 q3 (Int32.toNatClampNeg x3) (if ((zI M1 q4 (Int32.toNatClampNeg x3)) * x2) < (1000 : Int32) then ((zI M1 q4 (Int32.toNatClampNeg x3)) * x2) else (1000 : Int32))) fun M2 =>
  some (none, M2)))))))))
set_option maxRecDepth 20000 in
theorem zg_Bu_repeat_77 (d : Nat) (a0 : Nat) (x1 : Int32) (x2 : Int32) (x3 : Int32) (M : zM) : zG d n_Bu_repeat 77 [some (.ref a0), some (.int x1), some (.int x2), some (.int x3), none] [] M = zx_Bu_repeat_77 (zV d) (zG d n_Bu_repeat) a0 x1 x2 x3 M := by
  refine (zG_sg (m := zm_Bu_repeat) rfl 400 _ _ _ M).trans ?_
  show zw true zm_Bu_repeat (zV d) (zG d n_Bu_repeat) 400 77 [some (.ref a0), some (.int x1), some (.int x2), some (.int x3), none] [] M = _
  unfold zx_Bu_repeat_77
  refine zw_aload_n (p := 78) (Or.inl rfl) rfl rfl rfl ?_
  refine zw_get_ref (p := 81) (Or.inr rfl) rfl rfl (fun q1 => ?_)
  refine zw_iload_n (p := 82) (Or.inr rfl) rfl rfl rfl ?_
  refine zw_sipush (p := 85) (x := (1000 : Int32)) (Or.inr rfl) rfl rfl rfl ?_
  refine zw_aload_n (p := 86) (Or.inr rfl) rfl rfl rfl ?_
  refine zw_get_ref (p := 89) (Or.inr rfl) rfl rfl (fun q2 => ?_)
  refine zw_iload_n (p := 90) (Or.inr rfl) rfl rfl rfl ?_
  refine zw_iaload (p := 91) (Or.inr rfl) rfl rfl ?_
  refine zw_iload_n (p := 92) (Or.inr rfl) rfl rfl rfl ?_
  refine zw_imul (p := 93) (Or.inr rfl) rfl rfl ?_
  refine zw_min (p := 96) (Or.inr rfl) rfl rfl rfl ?_
  refine zw_iastore (p := 97) (Or.inr rfl) rfl rfl (fun M1 => ?_)
  refine zw_aload_n (p := 98) (Or.inr rfl) rfl rfl rfl ?_
  refine zw_get_ref (p := 101) (Or.inr rfl) rfl rfl (fun q3 => ?_)
  refine zw_iload_n (p := 102) (Or.inr rfl) rfl rfl rfl ?_
  refine zw_sipush (p := 105) (x := (1000 : Int32)) (Or.inr rfl) rfl rfl rfl ?_
  refine zw_aload_n (p := 106) (Or.inr rfl) rfl rfl rfl ?_
  refine zw_get_ref (p := 109) (Or.inr rfl) rfl rfl (fun q4 => ?_)
  refine zw_iload_n (p := 110) (Or.inr rfl) rfl rfl rfl ?_
  refine zw_iaload (p := 111) (Or.inr rfl) rfl rfl ?_
  refine zw_iload_n (p := 112) (Or.inr rfl) rfl rfl rfl ?_
  refine zw_imul (p := 113) (Or.inr rfl) rfl rfl ?_
  refine zw_min (p := 116) (Or.inr rfl) rfl rfl rfl ?_
  refine zw_iastore (p := 117) (Or.inr rfl) rfl rfl (fun M2 => ?_)
  exact zw_return (Or.inr rfl) rfl rfl
def zx_Bu_chainCopies (E : zE0) (K : zKt) (a0 : Nat) (x1 : Int32) (x2 : Int32) (x3 : Int32) (x4 : Int32) (M : zM) : zO :=
  zif ((zK M a0).1 = 1)
  (zoR (zR M a0 0) fun q1 =>
  zif (((zK M q1).1 = 23 ∨ (zK M q1).1 = 25) ∧ zin x1 (zK M q1).2 = true)
  (zbl (zL M q1 (Int32.toNatClampNeg x1)) fun w1 =>
  zif ((zK M a0).1 = 1)
  (zoR (zR M a0 1) fun q2 =>
  zif (((zK M q2).1 = 23 ∨ (zK M q2).1 = 25) ∧ zin x1 (zK M q2).2 = true)
  (zbl (zL M q2 (Int32.toNatClampNeg x1)) fun w2 =>
  zif ((zK M a0).1 = 1)
  (zoR (zR M a0 3) fun q3 =>
  zif (((zK M q3).1 = 20 ∨ (zK M q3).1 = 24) ∧ zin x1 (zK M q3).2 = true)
  (if (zI M q3 (Int32.toNatClampNeg x1)) ≠ 0 then (zbi (if (1 : Int32) < x3 then x3 else (1 : Int32)) fun u1 =>
    zif ((zK M a0).1 = 1)
    (zoR (zR M a0 1) fun q4 =>
    zif ((zK M q4).1 = 23 ∧ zin x1 (zK M q4).2 = true)
    (zbm (zsL M q4 (Int32.toNatClampNeg x1) (0 : Int64)) fun M1 =>
    K 46 [some (.ref a0), some (.int x1), some (.int x2), none, some (.int x4), some (.long w1), none, some (.long w2), none, some (.int u1), some (.int (0 : Int32)), none] [] M1)))
  else zif ((zK M a0).1 = 1)
  (zoR (zR M a0 1) fun q5 =>
  zif ((zK M q5).1 = 23 ∧ zin x1 (zK M q5).2 = true)
  (zbm (zsL M q5 (Int32.toNatClampNeg x1) (0 : Int64)) fun M2 =>
  K 46 [some (.ref a0), some (.int x1), some (.int x2), none, some (.int x4), some (.long w1), none, some (.long w2), none, some (.int (1 : Int32)), some (.int (0 : Int32)), none] [] M2))))))))
set_option maxRecDepth 20000 in
theorem ze_Bu_chainCopies (d : Nat) (a0 : Nat) (x1 : Int32) (x2 : Int32) (x3 : Int32) (x4 : Int32) (M : zM) : zV (d + 1) n_Bu_chainCopies [.ref a0, .int x1, .int x2, .int x3, .int x4] M = zx_Bu_chainCopies (zV d) (zG d n_Bu_chainCopies) a0 x1 x2 x3 x4 M := by
  refine (zE_sg (m := zm_Bu_chainCopies) rfl 400 _ rfl M).trans ?_
  show zw true zm_Bu_chainCopies (zV d) (zG d n_Bu_chainCopies) 400 0 [some (.ref a0), some (.int x1), some (.int x2), some (.int x3), some (.int x4), none, none, none, none, none, none, none] [] M = _
  unfold zx_Bu_chainCopies
  refine zw_aload_n (p := 1) (Or.inl rfl) rfl rfl rfl ?_
  refine zw_get_ref (p := 4) (Or.inr rfl) rfl rfl (fun q1 => ?_)
  refine zw_iload_n (p := 5) (Or.inr rfl) rfl rfl rfl ?_
  refine zw_laload (p := 6) (Or.inr rfl) rfl rfl ?_
  refine zw_lstoreN (p := 8) (L2 := fun w1 => [some (.ref a0), some (.int x1), some (.int x2), some (.int x3), some (.int x4), some (.long w1), none, none, none, none, none, none]) (Or.inr rfl) rfl rfl (fun _ => rfl) rfl (fun w1 => ?_)
  refine zw_aload_n (p := 9) (Or.inr rfl) rfl rfl rfl ?_
  refine zw_get_ref (p := 12) (Or.inr rfl) rfl rfl (fun q2 => ?_)
  refine zw_iload_n (p := 13) (Or.inr rfl) rfl rfl rfl ?_
  refine zw_laload (p := 14) (Or.inr rfl) rfl rfl ?_
  refine zw_lstoreN (p := 16) (L2 := fun w2 => [some (.ref a0), some (.int x1), some (.int x2), some (.int x3), some (.int x4), some (.long w1), none, some (.long w2), none, none, none, none]) (Or.inr rfl) rfl rfl (fun _ => rfl) rfl (fun w2 => ?_)
  refine zw_aload_n (p := 17) (Or.inr rfl) rfl rfl rfl ?_
  refine zw_get_ref (p := 20) (Or.inr rfl) rfl rfl (fun q3 => ?_)
  refine zw_iload_n (p := 21) (Or.inr rfl) rfl rfl rfl ?_
  refine zw_iaload (p := 22) (Or.inr rfl) rfl rfl ?_
  refine zw_if_ne (t := 29) (p := 25) (Or.inr rfl) rfl rfl rfl ?_ ?_
  · refine zw_iconst (p := 30) (x := (1 : Int32)) (Or.inr rfl) rfl rfl rfl ?_
    refine zw_iload_n (p := 31) (Or.inr rfl) rfl rfl rfl ?_
    refine zw_max (p := 34) (Or.inr rfl) rfl rfl rfl ?_
    refine zw_istoreN (p := 36) (L2 := fun u1 => [some (.ref a0), some (.int x1), some (.int x2), some (.int x3), some (.int x4), some (.long w1), none, some (.long w2), none, some (.int u1), none, none]) (Or.inr rfl) rfl rfl (fun _ => rfl) rfl (fun u1 => ?_)
    refine zw_aload_n (p := 37) (Or.inr rfl) rfl rfl rfl ?_
    refine zw_get_ref (p := 40) (Or.inr rfl) rfl rfl (fun q4 => ?_)
    refine zw_iload_n (p := 41) (Or.inr rfl) rfl rfl rfl ?_
    refine zw_lconst (p := 42) (x := (0 : Int64)) (Or.inr rfl) rfl rfl rfl ?_
    refine zw_lastore (p := 43) (Or.inr rfl) rfl rfl (fun M1 => ?_)
    refine zw_iconst (p := 44) (x := (0 : Int32)) (Or.inr rfl) rfl rfl rfl ?_
    refine zw_istore (p := 46) (l2 := [some (.ref a0), some (.int x1), some (.int x2), some (.int x3), some (.int x4), some (.long w1), none, some (.long w2), none, some (.int u1), some (.int (0 : Int32)), none]) (Or.inr rfl) rfl rfl rfl rfl ?_
    exact zw_end rfl rfl
  refine zw_iconst (p := 26) (x := (1 : Int32)) (Or.inr rfl) rfl rfl rfl ?_
  refine zw_goto (t := 34) (Or.inr rfl) rfl rfl ?_
  refine zw_istore (p := 36) (l2 := [some (.ref a0), some (.int x1), some (.int x2), some (.int x3), some (.int x4), some (.long w1), none, some (.long w2), none, some (.int (1 : Int32)), none, none]) (Or.inr rfl) rfl rfl rfl rfl ?_
  refine zw_aload_n (p := 37) (Or.inr rfl) rfl rfl rfl ?_
  refine zw_get_ref (p := 40) (Or.inr rfl) rfl rfl (fun q5 => ?_)
  refine zw_iload_n (p := 41) (Or.inr rfl) rfl rfl rfl ?_
  refine zw_lconst (p := 42) (x := (0 : Int64)) (Or.inr rfl) rfl rfl rfl ?_
  refine zw_lastore (p := 43) (Or.inr rfl) rfl rfl (fun M2 => ?_)
  refine zw_iconst (p := 44) (x := (0 : Int32)) (Or.inr rfl) rfl rfl rfl ?_
  refine zw_istore (p := 46) (l2 := [some (.ref a0), some (.int x1), some (.int x2), some (.int x3), some (.int x4), some (.long w1), none, some (.long w2), none, some (.int (1 : Int32)), some (.int (0 : Int32)), none]) (Or.inr rfl) rfl rfl rfl rfl ?_
  exact zw_end rfl rfl
def zx_Bu_chainCopies_46 (E : zE0) (K : zKt) (a0 : Nat) (x1 : Int32) (x2 : Int32) (x4 : Int32) (l5 : Int64) (l7 : Int64) (x9 : Int32) (x10 : Int32) (M : zM) : zO :=
  if x4 ≤ x10 then (some (none, M))
  else zbi (x10 * x2) fun u1 =>
  if x10 ≤ 0 then (if x10 < (x9 - (1 : Int32)) then (zbi (x10 + (1 : Int32)) fun u2 =>
      K 46 [some (.ref a0), some (.int x1), some (.int x2), none, some (.int x4), some (.long l5), none, some (.long l7), none, some (.int x9), some (.int u2), none] [] M)
    else zif ((zK M a0).1 = 1)
    (zoR (zR M a0 1) fun q1 =>
    zif (((zK M q1).1 = 23 ∨ (zK M q1).1 = 25) ∧ zin x1 (zK M q1).2 = true)
    (zif ((zK M q1).1 = 23 ∧ zin x1 (zK M q1).2 = true)
    (zbm (zsL M q1 (Int32.toNatClampNeg x1) ((zL M q1 (Int32.toNatClampNeg x1)) ||| (l7 <<< (Int32.toInt64 u1 &&& 63)))) fun M1 =>
    zbi (x10 + (1 : Int32)) fun u3 =>
    K 46 [some (.ref a0), some (.int x1), some (.int x2), none, some (.int x4), some (.long l5), none, some (.long l7), none, some (.int x9), some (.int u3), none] [] M1))))
  else zif ((zK M a0).1 = 1)
  (zoR (zR M a0 6) fun q2 =>
  zif ((zK M q2).1 = 4)
  (zbV (E n_Se_link [.ref q2, .long (l7 <<< (Int32.toInt64 (u1 - x2) &&& 63)), .long (l5 <<< (Int32.toInt64 u1 &&& 63))] M) fun M2 =>
  if x10 < (x9 - (1 : Int32)) then (zbi (x10 + (1 : Int32)) fun u4 =>
    K 46 [some (.ref a0), some (.int x1), some (.int x2), none, some (.int x4), some (.long l5), none, some (.long l7), none, some (.int x9), some (.int u4), none] [] M2)
  else zif ((zK M2 a0).1 = 1)
  (zoR (zR M2 a0 1) fun q3 =>
  zif (((zK M2 q3).1 = 23 ∨ (zK M2 q3).1 = 25) ∧ zin x1 (zK M2 q3).2 = true)
  (zif ((zK M2 q3).1 = 23 ∧ zin x1 (zK M2 q3).2 = true)
  (zbm (zsL M2 q3 (Int32.toNatClampNeg x1) ((zL M2 q3 (Int32.toNatClampNeg x1)) ||| (l7 <<< (Int32.toInt64 u1 &&& 63)))) fun M3 =>
  zbi (x10 + (1 : Int32)) fun u5 =>
  K 46 [some (.ref a0), some (.int x1), some (.int x2), none, some (.int x4), some (.long l5), none, some (.long l7), none, some (.int x9), some (.int u5), none] [] M3)))))
set_option maxRecDepth 20000 in
theorem zg_Bu_chainCopies_46 (d : Nat) (a0 : Nat) (x1 : Int32) (x2 : Int32) (x4 : Int32) (l5 : Int64) (l7 : Int64) (x9 : Int32) (x10 : Int32) (M : zM) : zG d n_Bu_chainCopies 46 [some (.ref a0), some (.int x1), some (.int x2), none, some (.int x4), some (.long l5), none, some (.long l7), none, some (.int x9), some (.int x10), none] [] M = zx_Bu_chainCopies_46 (zV d) (zG d n_Bu_chainCopies) a0 x1 x2 x4 l5 l7 x9 x10 M := by
  refine (zG_sg (m := zm_Bu_chainCopies) rfl 400 _ _ _ M).trans ?_
  show zw true zm_Bu_chainCopies (zV d) (zG d n_Bu_chainCopies) 400 46 [some (.ref a0), some (.int x1), some (.int x2), none, some (.int x4), some (.long l5), none, some (.long l7), none, some (.int x9), some (.int x10), none] [] M = _
  unfold zx_Bu_chainCopies_46
  refine zw_iload (p := 48) (Or.inl rfl) rfl rfl rfl ?_
  refine zw_iload (p := 50) (Or.inr rfl) rfl rfl rfl ?_
  refine zw_icmp_ge (t := 112) (p := 53) (Or.inr rfl) rfl rfl rfl ?_ ?_
  · exact zw_return (Or.inr rfl) rfl rfl
  refine zw_iload (p := 55) (Or.inr rfl) rfl rfl rfl ?_
  refine zw_iload_n (p := 56) (Or.inr rfl) rfl rfl rfl ?_
  refine zw_imul (p := 57) (Or.inr rfl) rfl rfl ?_
  refine zw_istoreN (p := 59) (L2 := fun u1 => [some (.ref a0), some (.int x1), some (.int x2), none, some (.int x4), some (.long l5), none, some (.long l7), none, some (.int x9), some (.int x10), some (.int u1)]) (Or.inr rfl) rfl rfl (fun _ => rfl) rfl (fun u1 => ?_)
  refine zw_iload (p := 61) (Or.inr rfl) rfl rfl rfl ?_
  refine zw_if_le (t := 83) (p := 64) (Or.inr rfl) rfl rfl rfl ?_ ?_
  · refine zw_iload (p := 85) (Or.inr rfl) rfl rfl rfl ?_
    refine zw_iload (p := 87) (Or.inr rfl) rfl rfl rfl ?_
    refine zw_iconst (p := 88) (x := (1 : Int32)) (Or.inr rfl) rfl rfl rfl ?_
    refine zw_isub (p := 89) (Or.inr rfl) rfl rfl ?_
    refine zw_icmp_lt (t := 106) (p := 92) (Or.inr rfl) rfl rfl rfl ?_ ?_
    · refine zw_iinc (p := 109) (c := (1 : Int32)) (L2 := fun u2 => [some (.ref a0), some (.int x1), some (.int x2), none, some (.int x4), some (.long l5), none, some (.long l7), none, some (.int x9), some (.int u2), some (.int u1)]) (Or.inr rfl) rfl rfl rfl rfl (fun _ => rfl) rfl (fun u2 => ?_)
      refine zw_goto (t := 46) (Or.inr rfl) rfl rfl ?_
      exact zw_end rfl rfl
    refine zw_aload_n (p := 93) (Or.inr rfl) rfl rfl rfl ?_
    refine zw_get_ref (p := 96) (Or.inr rfl) rfl rfl (fun q1 => ?_)
    refine zw_iload_n (p := 97) (Or.inr rfl) rfl rfl rfl ?_
    refine zw_dup2_ir (p := 98) (Or.inr rfl) rfl rfl ?_
    refine zw_laload (p := 99) (Or.inr rfl) rfl rfl ?_
    refine zw_lload (p := 101) (Or.inr rfl) rfl rfl rfl ?_
    refine zw_iload (p := 103) (Or.inr rfl) rfl rfl rfl ?_
    refine zw_lshl (p := 104) (Or.inr rfl) rfl rfl ?_
    refine zw_lor (p := 105) (Or.inr rfl) rfl rfl ?_
    refine zw_lastore (p := 106) (Or.inr rfl) rfl rfl (fun M1 => ?_)
    refine zw_iinc (p := 109) (c := (1 : Int32)) (L2 := fun u3 => [some (.ref a0), some (.int x1), some (.int x2), none, some (.int x4), some (.long l5), none, some (.long l7), none, some (.int x9), some (.int u3), some (.int u1)]) (Or.inr rfl) rfl rfl rfl rfl (fun _ => rfl) rfl (fun u3 => ?_)
    refine zw_goto (t := 46) (Or.inr rfl) rfl rfl ?_
    exact zw_end rfl rfl
  refine zw_aload_n (p := 65) (Or.inr rfl) rfl rfl rfl ?_
  refine zw_get_ref (p := 68) (Or.inr rfl) rfl rfl (fun q2 => ?_)
  refine zw_lload (p := 70) (Or.inr rfl) rfl rfl rfl ?_
  refine zw_iload (p := 72) (Or.inr rfl) rfl rfl rfl ?_
  refine zw_iload_n (p := 73) (Or.inr rfl) rfl rfl rfl ?_
  refine zw_isub (p := 74) (Or.inr rfl) rfl rfl ?_
  refine zw_lshl (p := 75) (Or.inr rfl) rfl rfl ?_
  refine zw_lload (p := 77) (Or.inr rfl) rfl rfl rfl ?_
  refine zw_iload (p := 79) (Or.inr rfl) rfl rfl rfl ?_
  refine zw_lshl (p := 80) (Or.inr rfl) rfl rfl ?_
  refine zw_virtualV (p := 83) (as := [.ref q2, .long (l7 <<< (Int32.toInt64 (u1 - x2) &&& 63)), .long (l5 <<< (Int32.toInt64 u1 &&& 63))]) (rest := []) (Or.inr rfl) rfl rfl rfl rfl rfl rfl rfl (fun M2 => ?_)
  refine zw_iload (p := 85) (Or.inr rfl) rfl rfl rfl ?_
  refine zw_iload (p := 87) (Or.inr rfl) rfl rfl rfl ?_
  refine zw_iconst (p := 88) (x := (1 : Int32)) (Or.inr rfl) rfl rfl rfl ?_
  refine zw_isub (p := 89) (Or.inr rfl) rfl rfl ?_
  refine zw_icmp_lt (t := 106) (p := 92) (Or.inr rfl) rfl rfl rfl ?_ ?_
  · refine zw_iinc (p := 109) (c := (1 : Int32)) (L2 := fun u4 => [some (.ref a0), some (.int x1), some (.int x2), none, some (.int x4), some (.long l5), none, some (.long l7), none, some (.int x9), some (.int u4), some (.int u1)]) (Or.inr rfl) rfl rfl rfl rfl (fun _ => rfl) rfl (fun u4 => ?_)
    refine zw_goto (t := 46) (Or.inr rfl) rfl rfl ?_
    exact zw_end rfl rfl
  refine zw_aload_n (p := 93) (Or.inr rfl) rfl rfl rfl ?_
  refine zw_get_ref (p := 96) (Or.inr rfl) rfl rfl (fun q3 => ?_)
  refine zw_iload_n (p := 97) (Or.inr rfl) rfl rfl rfl ?_
  refine zw_dup2_ir (p := 98) (Or.inr rfl) rfl rfl ?_
  refine zw_laload (p := 99) (Or.inr rfl) rfl rfl ?_
  refine zw_lload (p := 101) (Or.inr rfl) rfl rfl rfl ?_
  refine zw_iload (p := 103) (Or.inr rfl) rfl rfl rfl ?_
  refine zw_lshl (p := 104) (Or.inr rfl) rfl rfl ?_
  refine zw_lor (p := 105) (Or.inr rfl) rfl rfl ?_
  refine zw_lastore (p := 106) (Or.inr rfl) rfl rfl (fun M3 => ?_)
  refine zw_iinc (p := 109) (c := (1 : Int32)) (L2 := fun u5 => [some (.ref a0), some (.int x1), some (.int x2), none, some (.int x4), some (.long l5), none, some (.long l7), none, some (.int x9), some (.int u5), some (.int u1)]) (Or.inr rfl) rfl rfl rfl rfl (fun _ => rfl) rfl (fun u5 => ?_)
  refine zw_goto (t := 46) (Or.inr rfl) rfl rfl ?_
  exact zw_end rfl rfl
def zx_Bu_finish (E : zE0) (K : zKt) (a0 : Nat) (M : zM) : zO :=
  zif ((zK M a0).1 = 1)
  (if (1 : Int32) ≤ (zI M a0 5) then (zif ((zK M a0).1 = 1)
    (zoR (zR M a0 6) fun q1 =>
    zif ((zK M q1).1 = 4)
    (zoR (zR M q1 0) fun q2 =>
    zif ((zK M a0).1 = 1)
    (zoR (zR M a0 0) fun q3 =>
    zif (((zK M q3).1 = 23 ∨ (zK M q3).1 = 25) ∧ zin (0 : Int32) (zK M q3).2 = true)
    (zif ((zK M q2).1 = 23 ∧ zin (0 : Int32) (zK M q2).2 = true)
    (zbm (zsL M q2 (Int32.toNatClampNeg (0 : Int32)) (zL M q3 (Int32.toNatClampNeg (0 : Int32)))) fun M1 =>
    zif ((zK M1 a0).1 = 1)
    (zoR (zR M1 a0 6) fun q4 =>
    zif ((zK M1 a0).1 = 1)
    (zoR (zR M1 a0 1) fun q5 =>
    zif (((zK M1 q5).1 = 23 ∨ (zK M1 q5).1 = 25) ∧ zin (0 : Int32) (zK M1 q5).2 = true)
    (zif ((zK M1 q4).1 = 4)
    (zbm (zsL M1 q4 3 (zL M1 q5 (Int32.toNatClampNeg (0 : Int32)))) fun M2 =>
    zif ((zK M2 a0).1 = 1)
    (zoR (zR M2 a0 6) fun q6 =>
    zif ((zK M2 a0).1 = 1)
    (zoR (zR M2 a0 3) fun q7 =>
    zif (((zK M2 q7).1 = 20 ∨ (zK M2 q7).1 = 24) ∧ zin (0 : Int32) (zK M2 q7).2 = true)
    (zif ((zK M2 q6).1 = 4)
    (zbm (zsI M2 q6 8 (zI M2 q7 (Int32.toNatClampNeg (0 : Int32)))) fun M3 =>
    zif ((zK M3 a0).1 = 1)
    (zoR (zR M3 a0 6) fun q8 =>
    zif ((zK M3 a0).1 = 1)
    (zoR (zR M3 a0 4) fun q9 =>
    zif (((zK M3 q9).1 = 20 ∨ (zK M3 q9).1 = 24) ∧ zin (0 : Int32) (zK M3 q9).2 = true)
    (zif ((zK M3 q8).1 = 4)
    (zbm (zsI M3 q8 9 (zI M3 q9 (Int32.toNatClampNeg (0 : Int32)))) fun M4 =>
    zif ((zK M4 a0).1 = 1)
    (zoR (zR M4 a0 6) fun q10 =>
    zif ((zK M4 q10).1 = 4)
    (if (zI M4 q10 10) ≠ 0 then (some (none, M4))
    else zif ((zK M4 a0).1 = 1)
    (zoR (zR M4 a0 6) fun q11 =>
    zif ((zK M4 q11).1 = 4)
    (zbV (E n_Se_findUseful [.ref q11] M4) fun M5 =>
    some (none, M5)))))))))))))))))))))))
  else some (none, M))
set_option maxRecDepth 20000 in
theorem ze_Bu_finish (d : Nat) (a0 : Nat) (M : zM) : zV (d + 1) n_Bu_finish [.ref a0] M = zx_Bu_finish (zV d) (zG d n_Bu_finish) a0 M := by
  refine (zE_sg (m := zm_Bu_finish) rfl 400 _ rfl M).trans ?_
  show zw true zm_Bu_finish (zV d) (zG d n_Bu_finish) 400 0 [some (.ref a0)] [] M = _
  unfold zx_Bu_finish
  refine zw_aload_n (p := 1) (Or.inl rfl) rfl rfl rfl ?_
  refine zw_get_int (p := 4) (Or.inr rfl) rfl rfl ?_
  refine zw_iconst (p := 5) (x := (1 : Int32)) (Or.inr rfl) rfl rfl rfl ?_
  refine zw_icmp_ge (t := 9) (p := 8) (Or.inr rfl) rfl rfl rfl ?_ ?_
  · refine zw_aload_n (p := 10) (Or.inr rfl) rfl rfl rfl ?_
    refine zw_get_ref (p := 13) (Or.inr rfl) rfl rfl (fun q1 => ?_)
    refine zw_get_ref (p := 16) (Or.inr rfl) rfl rfl (fun q2 => ?_)
    refine zw_iconst (p := 17) (x := (0 : Int32)) (Or.inr rfl) rfl rfl rfl ?_
    refine zw_aload_n (p := 18) (Or.inr rfl) rfl rfl rfl ?_
    refine zw_get_ref (p := 21) (Or.inr rfl) rfl rfl (fun q3 => ?_)
    refine zw_iconst (p := 22) (x := (0 : Int32)) (Or.inr rfl) rfl rfl rfl ?_
    refine zw_laload (p := 23) (Or.inr rfl) rfl rfl ?_
    refine zw_lastore (p := 24) (Or.inr rfl) rfl rfl (fun M1 => ?_)
    refine zw_aload_n (p := 25) (Or.inr rfl) rfl rfl rfl ?_
    refine zw_get_ref (p := 28) (Or.inr rfl) rfl rfl (fun q4 => ?_)
    refine zw_aload_n (p := 29) (Or.inr rfl) rfl rfl rfl ?_
    refine zw_get_ref (p := 32) (Or.inr rfl) rfl rfl (fun q5 => ?_)
    refine zw_iconst (p := 33) (x := (0 : Int32)) (Or.inr rfl) rfl rfl rfl ?_
    refine zw_laload (p := 34) (Or.inr rfl) rfl rfl ?_
    refine zw_put_long (p := 37) (Or.inr rfl) rfl rfl (fun M2 => ?_)
    refine zw_aload_n (p := 38) (Or.inr rfl) rfl rfl rfl ?_
    refine zw_get_ref (p := 41) (Or.inr rfl) rfl rfl (fun q6 => ?_)
    refine zw_aload_n (p := 42) (Or.inr rfl) rfl rfl rfl ?_
    refine zw_get_ref (p := 45) (Or.inr rfl) rfl rfl (fun q7 => ?_)
    refine zw_iconst (p := 46) (x := (0 : Int32)) (Or.inr rfl) rfl rfl rfl ?_
    refine zw_iaload (p := 47) (Or.inr rfl) rfl rfl ?_
    refine zw_put_int (p := 50) (Or.inr rfl) rfl rfl (fun M3 => ?_)
    refine zw_aload_n (p := 51) (Or.inr rfl) rfl rfl rfl ?_
    refine zw_get_ref (p := 54) (Or.inr rfl) rfl rfl (fun q8 => ?_)
    refine zw_aload_n (p := 55) (Or.inr rfl) rfl rfl rfl ?_
    refine zw_get_ref (p := 58) (Or.inr rfl) rfl rfl (fun q9 => ?_)
    refine zw_iconst (p := 59) (x := (0 : Int32)) (Or.inr rfl) rfl rfl rfl ?_
    refine zw_iaload (p := 60) (Or.inr rfl) rfl rfl ?_
    refine zw_put_int (p := 63) (Or.inr rfl) rfl rfl (fun M4 => ?_)
    refine zw_aload_n (p := 64) (Or.inr rfl) rfl rfl rfl ?_
    refine zw_get_ref (p := 67) (Or.inr rfl) rfl rfl (fun q10 => ?_)
    refine zw_get_int (p := 70) (Or.inr rfl) rfl rfl ?_
    refine zw_if_ne (t := 80) (p := 73) (Or.inr rfl) rfl rfl rfl ?_ ?_
    · exact zw_return (Or.inr rfl) rfl rfl
    refine zw_aload_n (p := 74) (Or.inr rfl) rfl rfl rfl ?_
    refine zw_get_ref (p := 77) (Or.inr rfl) rfl rfl (fun q11 => ?_)
    refine zw_virtualV (p := 80) (as := [.ref q11]) (rest := []) (Or.inr rfl) rfl rfl rfl rfl rfl rfl rfl (fun M5 => ?_)
    exact zw_return (Or.inr rfl) rfl rfl
  exact zw_return (Or.inr rfl) rfl rfl
def zx_Pl_sideOf (E : zE0) (K : zKt) (a0 : Nat) (x1 : Int32) (M : zM) : zO :=
  if x1 ≠ 0 then (zif ((zK M a0).1 = 2)
    (zoR (zR M a0 1) fun q1 =>
    some (some (.ref q1), M)))
  else zif ((zK M a0).1 = 2)
  (zoR (zR M a0 0) fun q2 =>
  some (some (.ref q2), M))
set_option maxRecDepth 20000 in
theorem ze_Pl_sideOf (d : Nat) (a0 : Nat) (x1 : Int32) (M : zM) : zV (d + 1) n_Pl_sideOf [.ref a0, .int x1] M = zx_Pl_sideOf (zV d) (zG d n_Pl_sideOf) a0 x1 M := by
  refine (zE_sg (m := zm_Pl_sideOf) rfl 400 _ rfl M).trans ?_
  show zw true zm_Pl_sideOf (zV d) (zG d n_Pl_sideOf) 400 0 [some (.ref a0), some (.int x1)] [] M = _
  unfold zx_Pl_sideOf
  refine zw_iload_n (p := 1) (Or.inl rfl) rfl rfl rfl ?_
  refine zw_if_ne (t := 11) (p := 4) (Or.inr rfl) rfl rfl rfl ?_ ?_
  · refine zw_aload_n (p := 12) (Or.inr rfl) rfl rfl rfl ?_
    refine zw_get_ref (p := 15) (Or.inr rfl) rfl rfl (fun q1 => ?_)
    exact zw_areturn (Or.inr rfl) rfl rfl
  refine zw_aload_n (p := 5) (Or.inr rfl) rfl rfl rfl ?_
  refine zw_get_ref (p := 8) (Or.inr rfl) rfl rfl (fun q2 => ?_)
  refine zw_goto (t := 15) (Or.inr rfl) rfl rfl ?_
  exact zw_areturn (Or.inr rfl) rfl rfl
def zx_Pl_isPutOffBy (E : zE0) (K : zKt) (a0 : Nat) (x1 : Int32) (M : zM) : zO :=
  zif ((zK M a0).1 = 2)
  (if (zI M a0 3) = 0 then (zif ((0 : Int32) = 0 ∨ (0 : Int32) = 1) (some (some (.int (0 : Int32)), M)))
  else zif ((zK M a0).1 = 2)
  (zoR (zR M a0 2) fun q1 =>
  zbI (E n_PT_isFulfilled [.ref q1, .int (0 : Int32), .int x1] M) fun u1 M1 =>
  if u1 = 0 then (zif ((0 : Int32) = 0 ∨ (0 : Int32) = 1) (some (some (.int (0 : Int32)), M1)))
  else zif ((1 : Int32) = 0 ∨ (1 : Int32) = 1) (some (some (.int (1 : Int32)), M1))))
set_option maxRecDepth 20000 in
theorem ze_Pl_isPutOffBy (d : Nat) (a0 : Nat) (x1 : Int32) (M : zM) : zV (d + 1) n_Pl_isPutOffBy [.ref a0, .int x1] M = zx_Pl_isPutOffBy (zV d) (zG d n_Pl_isPutOffBy) a0 x1 M := by
  refine (zE_sg (m := zm_Pl_isPutOffBy) rfl 400 _ rfl M).trans ?_
  show zw true zm_Pl_isPutOffBy (zV d) (zG d n_Pl_isPutOffBy) 400 0 [some (.ref a0), some (.int x1)] [] M = _
  unfold zx_Pl_isPutOffBy
  refine zw_aload_n (p := 1) (Or.inl rfl) rfl rfl rfl ?_
  refine zw_get_int (p := 4) (Or.inr rfl) rfl rfl ?_
  refine zw_if_eq (t := 23) (p := 7) (Or.inr rfl) rfl rfl rfl ?_ ?_
  · refine zw_iconst (p := 24) (x := (0 : Int32)) (Or.inr rfl) rfl rfl rfl ?_
    exact zw_ireturn2 (Or.inr rfl) rfl rfl
  refine zw_aload_n (p := 8) (Or.inr rfl) rfl rfl rfl ?_
  refine zw_get_ref (p := 11) (Or.inr rfl) rfl rfl (fun q1 => ?_)
  refine zw_iconst (p := 12) (x := (0 : Int32)) (Or.inr rfl) rfl rfl rfl ?_
  refine zw_iload_n (p := 13) (Or.inr rfl) rfl rfl rfl ?_
  refine zw_staticI (p := 16) (as := [.ref q1, .int (0 : Int32), .int x1]) (rest := []) (Or.inr rfl) rfl rfl rfl rfl rfl rfl (fun u1 M1 => ?_)
  refine zw_if_eq (t := 23) (p := 19) (Or.inr rfl) rfl rfl rfl ?_ ?_
  · refine zw_iconst (p := 24) (x := (0 : Int32)) (Or.inr rfl) rfl rfl rfl ?_
    exact zw_ireturn2 (Or.inr rfl) rfl rfl
  refine zw_iconst (p := 20) (x := (1 : Int32)) (Or.inr rfl) rfl rfl rfl ?_
  refine zw_goto (t := 24) (Or.inr rfl) rfl rfl ?_
  exact zw_ireturn2 (Or.inr rfl) rfl rfl
def zx_Re_readAll (E : zE0) (K : zKt) (a0 : Nat) (a1 : Nat) (M : zM) : zO :=
  zif ((zK M a0).1 = 3)
  (zoR (zR M a0 0) fun q1 =>
  zif ((zK M q1).1 = 6)
  (zbV (E n_Ta_begin [.ref q1] M) fun M1 =>
  zif ((zK M1 a0).1 = 3)
  (zoR (zR M1 a0 1) fun q2 =>
  zif ((zK M1 q2).1 = 8)
  (zbV (E n_TS_clear [.ref q2] M1) fun M2 =>
  K 16 [some (.ref a0), some (.ref a1), some (.int (0 : Int32))] [] M2))))
set_option maxRecDepth 20000 in
theorem ze_Re_readAll (d : Nat) (a0 : Nat) (a1 : Nat) (M : zM) : zV (d + 1) n_Re_readAll [.ref a0, .ref a1] M = zx_Re_readAll (zV d) (zG d n_Re_readAll) a0 a1 M := by
  refine (zE_sg (m := zm_Re_readAll) rfl 400 _ rfl M).trans ?_
  show zw true zm_Re_readAll (zV d) (zG d n_Re_readAll) 400 0 [some (.ref a0), some (.ref a1), none] [] M = _
  unfold zx_Re_readAll
  refine zw_aload_n (p := 1) (Or.inl rfl) rfl rfl rfl ?_
  refine zw_get_ref (p := 4) (Or.inr rfl) rfl rfl (fun q1 => ?_)
  refine zw_virtualV (p := 7) (as := [.ref q1]) (rest := []) (Or.inr rfl) rfl rfl rfl rfl rfl rfl rfl (fun M1 => ?_)
  refine zw_aload_n (p := 8) (Or.inr rfl) rfl rfl rfl ?_
  refine zw_get_ref (p := 11) (Or.inr rfl) rfl rfl (fun q2 => ?_)
  refine zw_virtualV (p := 14) (as := [.ref q2]) (rest := []) (Or.inr rfl) rfl rfl rfl rfl rfl rfl rfl (fun M2 => ?_)
  refine zw_iconst (p := 15) (x := (0 : Int32)) (Or.inr rfl) rfl rfl rfl ?_
  refine zw_istore_n (p := 16) (l2 := [some (.ref a0), some (.ref a1), some (.int (0 : Int32))]) (Or.inr rfl) rfl rfl rfl rfl ?_
  exact zw_end rfl rfl
def zx_Re_readAll_16 (E : zE0) (K : zKt) (a0 : Nat) (a1 : Nat) (x2 : Int32) (M : zM) : zO :=
  if (4 : Int32) < x2 then (some (some (.int (-1 : Int32)), M))
  else zif ((zK M a0).1 = 3)
  (zoR (zR M a0 0) fun q1 =>
  zif ((zK M q1).1 = 6)
  (if (zI M q1 3) ≠ 0 then (zif ((zK M a0).1 = 3)
    (zoR (zR M a0 0) fun q2 =>
    zif ((zK M q2).1 = 6)
    (zbI (E n_Ta_beginsSequence [.ref q2] M) fun u1 M1 =>
    if u1 ≠ 0 then (zif (20 ≤ (zK M1 a1).1) (if x2 < (Int32.ofNat (zK M1 a1).2) then (zif (30 ≤ (zK M1 a1).1 ∧ zin x2 (zK M1 a1).2 = true)
        (zoR (zR M1 a1 (Int32.toNatClampNeg x2)) fun q3 =>
        zif ((zK M1 a0).1 = 3)
        (zbI (E n_Re_readPromise [.ref a0, .ref q3] M1) fun u2 M2 =>
        if u2 ≠ 0 then (zbi (x2 + (1 : Int32)) fun u3 =>
          K 16 [some (.ref a0), some (.ref a1), some (.int u3)] [] M2)
        else some (some (.int (-1 : Int32)), M2))))
      else zif ((zK M1 a0).1 = 3)
      (zoR (zR M1 a0 0) fun q4 =>
      zif ((zK M1 q4).1 = 6)
      (zbI (E n_Ta_refuse [.ref q4, .int (4 : Int32)] M1) fun u4 M3 =>
      some (some (.int (-1 : Int32)), M3)))))
    else zif ((zK M1 a0).1 = 3)
    (zoR (zR M1 a0 0) fun q5 =>
    zif ((zK M1 q5).1 = 6)
    (zbI (E n_Ta_refuse [.ref q5, .int (2 : Int32)] M1) fun u5 M4 =>
    some (some (.int (-1 : Int32)), M4))))))
  else some (some (.int x2), M)))
set_option maxRecDepth 20000 in
theorem zg_Re_readAll_16 (d : Nat) (a0 : Nat) (a1 : Nat) (x2 : Int32) (M : zM) : zG d n_Re_readAll 16 [some (.ref a0), some (.ref a1), some (.int x2)] [] M = zx_Re_readAll_16 (zV d) (zG d n_Re_readAll) a0 a1 x2 M := by
  refine (zG_sg (m := zm_Re_readAll) rfl 400 _ _ _ M).trans ?_
  show zw true zm_Re_readAll (zV d) (zG d n_Re_readAll) 400 16 [some (.ref a0), some (.ref a1), some (.int x2)] [] M = _
  unfold zx_Re_readAll_16
  refine zw_iload_n (p := 17) (Or.inl rfl) rfl rfl rfl ?_
  refine zw_iconst (p := 18) (x := (4 : Int32)) (Or.inr rfl) rfl rfl rfl ?_
  refine zw_icmp_gt (t := 89) (p := 21) (Or.inr rfl) rfl rfl rfl ?_ ?_
  · refine zw_iconst (p := 90) (x := (-1 : Int32)) (Or.inr rfl) rfl rfl rfl ?_
    exact zw_ireturn1 (Or.inr rfl) rfl rfl
  refine zw_aload_n (p := 22) (Or.inr rfl) rfl rfl rfl ?_
  refine zw_get_ref (p := 25) (Or.inr rfl) rfl rfl (fun q1 => ?_)
  refine zw_get_int (p := 28) (Or.inr rfl) rfl rfl ?_
  refine zw_if_ne (t := 33) (p := 31) (Or.inr rfl) rfl rfl rfl ?_ ?_
  · refine zw_aload_n (p := 34) (Or.inr rfl) rfl rfl rfl ?_
    refine zw_get_ref (p := 37) (Or.inr rfl) rfl rfl (fun q2 => ?_)
    refine zw_virtualI (p := 40) (as := [.ref q2]) (rest := []) (Or.inr rfl) rfl rfl rfl rfl rfl rfl rfl (fun u1 M1 => ?_)
    refine zw_if_ne (t := 54) (p := 43) (Or.inr rfl) rfl rfl rfl ?_ ?_
    · refine zw_iload_n (p := 55) (Or.inr rfl) rfl rfl rfl ?_
      refine zw_aload_n (p := 56) (Or.inr rfl) rfl rfl rfl ?_
      refine zw_arraylength (p := 57) (Or.inr rfl) rfl rfl ?_
      refine zw_icmp_lt (t := 71) (p := 60) (Or.inr rfl) rfl rfl rfl ?_ ?_
      · refine zw_aload_n (p := 72) (Or.inr rfl) rfl rfl rfl ?_
        refine zw_aload_n (p := 73) (Or.inr rfl) rfl rfl rfl ?_
        refine zw_iload_n (p := 74) (Or.inr rfl) rfl rfl rfl ?_
        refine zw_aaload (p := 75) (Or.inr rfl) rfl rfl (fun q3 => ?_)
        refine zw_virtualI (p := 78) (as := [.ref a0, .ref q3]) (rest := []) (Or.inr rfl) rfl rfl rfl rfl rfl rfl rfl (fun u2 M2 => ?_)
        refine zw_if_ne (t := 83) (p := 81) (Or.inr rfl) rfl rfl rfl ?_ ?_
        · refine zw_iinc (p := 86) (c := (1 : Int32)) (L2 := fun u3 => [some (.ref a0), some (.ref a1), some (.int u3)]) (Or.inr rfl) rfl rfl rfl rfl (fun _ => rfl) rfl (fun u3 => ?_)
          refine zw_goto (t := 16) (Or.inr rfl) rfl rfl ?_
          exact zw_end rfl rfl
        refine zw_iconst (p := 82) (x := (-1 : Int32)) (Or.inr rfl) rfl rfl rfl ?_
        exact zw_ireturn1 (Or.inr rfl) rfl rfl
      refine zw_aload_n (p := 61) (Or.inr rfl) rfl rfl rfl ?_
      refine zw_get_ref (p := 64) (Or.inr rfl) rfl rfl (fun q4 => ?_)
      refine zw_iconst (p := 65) (x := (4 : Int32)) (Or.inr rfl) rfl rfl rfl ?_
      refine zw_virtualI (p := 68) (as := [.ref q4, .int (4 : Int32)]) (rest := []) (Or.inr rfl) rfl rfl rfl rfl rfl rfl rfl (fun u4 M3 => ?_)
      refine zw_pop_int (p := 69) (Or.inr rfl) rfl rfl ?_
      refine zw_iconst (p := 70) (x := (-1 : Int32)) (Or.inr rfl) rfl rfl rfl ?_
      exact zw_ireturn1 (Or.inr rfl) rfl rfl
    refine zw_aload_n (p := 44) (Or.inr rfl) rfl rfl rfl ?_
    refine zw_get_ref (p := 47) (Or.inr rfl) rfl rfl (fun q5 => ?_)
    refine zw_iconst (p := 48) (x := (2 : Int32)) (Or.inr rfl) rfl rfl rfl ?_
    refine zw_virtualI (p := 51) (as := [.ref q5, .int (2 : Int32)]) (rest := []) (Or.inr rfl) rfl rfl rfl rfl rfl rfl rfl (fun u5 M4 => ?_)
    refine zw_pop_int (p := 52) (Or.inr rfl) rfl rfl ?_
    refine zw_iconst (p := 53) (x := (-1 : Int32)) (Or.inr rfl) rfl rfl rfl ?_
    exact zw_ireturn1 (Or.inr rfl) rfl rfl
  refine zw_iload_n (p := 32) (Or.inr rfl) rfl rfl rfl ?_
  exact zw_ireturn1 (Or.inr rfl) rfl rfl
def zx_Re_readPromise (E : zE0) (K : zKt) (a0 : Nat) (a1 : Nat) (M : zM) : zO :=
  zif ((zK M a0).1 = 3)
  (zoR (zR M a0 2) fun q1 =>
  zif ((zK M a1).1 = 2)
  (zoR (zR M a1 0) fun q2 =>
  zif ((zK M q1).1 = 1)
  (zbV (E n_Bu_begin [.ref q1, .ref q2] M) fun M1 =>
  zif ((zK M1 a0).1 = 3)
  (zbI (E n_Re_readChoice [.ref a0, .int (0 : Int32)] M1) fun u1 M2 =>
  if u1 ≠ 0 then (zif ((zK M2 a0).1 = 3)
    (zoR (zR M2 a0 2) fun q3 =>
    zif ((zK M2 q3).1 = 1)
    (zbV (E n_Bu_finish [.ref q3] M2) fun M3 =>
    zif ((zK M3 a0).1 = 3)
    (zoR (zR M3 a0 0) fun q4 =>
    zif ((zK M3 q4).1 = 6)
    (if (zI M3 q4 3) = (61 : Int32) then (zif ((zK M3 a0).1 = 3)
      (zoR (zR M3 a0 0) fun q5 =>
      zif ((zK M3 q5).1 = 6)
      (if (zI M3 q5 3) ≠ (62 : Int32) then (K 79 [some (.ref a0), some (.ref a1)] [.int (0 : Int32), .ref a1] M3)
      else K 79 [some (.ref a0), some (.ref a1)] [.int (1 : Int32), .ref a1] M3)))
    else zif ((zK M3 a0).1 = 3)
    (zoR (zR M3 a0 0) fun q6 =>
    zif ((zK M3 q6).1 = 6)
    (if (zI M3 q6 3) = (62 : Int32) then (zif ((zK M3 a0).1 = 3)
      (zoR (zR M3 a0 0) fun q7 =>
      zif ((zK M3 q7).1 = 6)
      (if (zI M3 q7 3) ≠ (62 : Int32) then (K 79 [some (.ref a0), some (.ref a1)] [.int (0 : Int32), .ref a1] M3)
      else K 79 [some (.ref a0), some (.ref a1)] [.int (1 : Int32), .ref a1] M3)))
    else zif ((zK M3 a0).1 = 3)
    (zoR (zR M3 a0 0) fun q8 =>
    zif ((zK M3 q8).1 = 6)
    (zbI (E n_Ta_refuse [.ref q8, .int (2 : Int32)] M3) fun u2 M4 =>
    zif (u2 = 0 ∨ u2 = 1) (some (some (.int u2), M4)))))))))))
  else zif ((0 : Int32) = 0 ∨ (0 : Int32) = 1) (some (some (.int (0 : Int32)), M2))))))
set_option maxRecDepth 20000 in
theorem ze_Re_readPromise (d : Nat) (a0 : Nat) (a1 : Nat) (M : zM) : zV (d + 1) n_Re_readPromise [.ref a0, .ref a1] M = zx_Re_readPromise (zV d) (zG d n_Re_readPromise) a0 a1 M := by
  refine (zE_sg (m := zm_Re_readPromise) rfl 400 _ rfl M).trans ?_
  show zw true zm_Re_readPromise (zV d) (zG d n_Re_readPromise) 400 0 [some (.ref a0), some (.ref a1)] [] M = _
  unfold zx_Re_readPromise
  refine zw_aload_n (p := 1) (Or.inl rfl) rfl rfl rfl ?_
  refine zw_get_ref (p := 4) (Or.inr rfl) rfl rfl (fun q1 => ?_)
  refine zw_aload_n (p := 5) (Or.inr rfl) rfl rfl rfl ?_
  refine zw_get_ref (p := 8) (Or.inr rfl) rfl rfl (fun q2 => ?_)
  refine zw_virtualV (p := 11) (as := [.ref q1, .ref q2]) (rest := []) (Or.inr rfl) rfl rfl rfl rfl rfl rfl rfl (fun M1 => ?_)
  refine zw_aload_n (p := 12) (Or.inr rfl) rfl rfl rfl ?_
  refine zw_iconst (p := 13) (x := (0 : Int32)) (Or.inr rfl) rfl rfl rfl ?_
  refine zw_virtualI (p := 16) (as := [.ref a0, .int (0 : Int32)]) (rest := []) (Or.inr rfl) rfl rfl rfl rfl rfl rfl rfl (fun u1 M2 => ?_)
  refine zw_if_ne (t := 21) (p := 19) (Or.inr rfl) rfl rfl rfl ?_ ?_
  · refine zw_aload_n (p := 22) (Or.inr rfl) rfl rfl rfl ?_
    refine zw_get_ref (p := 25) (Or.inr rfl) rfl rfl (fun q3 => ?_)
    refine zw_virtualV (p := 28) (as := [.ref q3]) (rest := []) (Or.inr rfl) rfl rfl rfl rfl rfl rfl rfl (fun M3 => ?_)
    refine zw_aload_n (p := 29) (Or.inr rfl) rfl rfl rfl ?_
    refine zw_get_ref (p := 32) (Or.inr rfl) rfl rfl (fun q4 => ?_)
    refine zw_get_int (p := 35) (Or.inr rfl) rfl rfl ?_
    refine zw_bipush (p := 37) (x := (61 : Int32)) (Or.inr rfl) rfl rfl rfl ?_
    refine zw_icmp_eq (t := 61) (p := 40) (Or.inr rfl) rfl rfl rfl ?_ ?_
    · refine zw_aload_n (p := 62) (Or.inr rfl) rfl rfl rfl ?_
      refine zw_aload_n (p := 63) (Or.inr rfl) rfl rfl rfl ?_
      refine zw_get_ref (p := 66) (Or.inr rfl) rfl rfl (fun q5 => ?_)
      refine zw_get_int (p := 69) (Or.inr rfl) rfl rfl ?_
      refine zw_bipush (p := 71) (x := (62 : Int32)) (Or.inr rfl) rfl rfl rfl ?_
      refine zw_icmp_ne (t := 78) (p := 74) (Or.inr rfl) rfl rfl rfl ?_ ?_
      · refine zw_iconst (p := 79) (x := (0 : Int32)) (Or.inr rfl) rfl rfl rfl ?_
        exact zw_end rfl rfl
      refine zw_iconst (p := 75) (x := (1 : Int32)) (Or.inr rfl) rfl rfl rfl ?_
      refine zw_goto (t := 79) (Or.inr rfl) rfl rfl ?_
      exact zw_end rfl rfl
    refine zw_aload_n (p := 41) (Or.inr rfl) rfl rfl rfl ?_
    refine zw_get_ref (p := 44) (Or.inr rfl) rfl rfl (fun q6 => ?_)
    refine zw_get_int (p := 47) (Or.inr rfl) rfl rfl ?_
    refine zw_bipush (p := 49) (x := (62 : Int32)) (Or.inr rfl) rfl rfl rfl ?_
    refine zw_icmp_eq (t := 61) (p := 52) (Or.inr rfl) rfl rfl rfl ?_ ?_
    · refine zw_aload_n (p := 62) (Or.inr rfl) rfl rfl rfl ?_
      refine zw_aload_n (p := 63) (Or.inr rfl) rfl rfl rfl ?_
      refine zw_get_ref (p := 66) (Or.inr rfl) rfl rfl (fun q7 => ?_)
      refine zw_get_int (p := 69) (Or.inr rfl) rfl rfl ?_
      refine zw_bipush (p := 71) (x := (62 : Int32)) (Or.inr rfl) rfl rfl rfl ?_
      refine zw_icmp_ne (t := 78) (p := 74) (Or.inr rfl) rfl rfl rfl ?_ ?_
      · refine zw_iconst (p := 79) (x := (0 : Int32)) (Or.inr rfl) rfl rfl rfl ?_
        exact zw_end rfl rfl
      refine zw_iconst (p := 75) (x := (1 : Int32)) (Or.inr rfl) rfl rfl rfl ?_
      refine zw_goto (t := 79) (Or.inr rfl) rfl rfl ?_
      exact zw_end rfl rfl
    refine zw_aload_n (p := 53) (Or.inr rfl) rfl rfl rfl ?_
    refine zw_get_ref (p := 56) (Or.inr rfl) rfl rfl (fun q8 => ?_)
    refine zw_iconst (p := 57) (x := (2 : Int32)) (Or.inr rfl) rfl rfl rfl ?_
    refine zw_virtualI (p := 60) (as := [.ref q8, .int (2 : Int32)]) (rest := []) (Or.inr rfl) rfl rfl rfl rfl rfl rfl rfl (fun u2 M4 => ?_)
    exact zw_ireturn2 (Or.inr rfl) rfl rfl
  refine zw_iconst (p := 20) (x := (0 : Int32)) (Or.inr rfl) rfl rfl rfl ?_
  exact zw_ireturn2 (Or.inr rfl) rfl rfl
def zx_Re_readPromise_79 (E : zE0) (K : zKt) (a0 : Nat) (a1 : Nat) (s0 : Int32) (s1 : Nat) (M : zM) : zO :=
  zif ((zK M s1).1 = 2)
  (zbm (zsI M s1 4 s0) fun M1 =>
  zif ((zK M1 a0).1 = 3)
  (zoR (zR M1 a0 0) fun q1 =>
  zif ((zK M1 q1).1 = 6)
  (zbV (E n_Ta_advance [.ref q1] M1) fun M2 =>
  zif ((zK M2 a0).1 = 3)
  (zoR (zR M2 a0 2) fun q2 =>
  zif ((zK M2 a1).1 = 2)
  (zoR (zR M2 a1 1) fun q3 =>
  zif ((zK M2 q2).1 = 1)
  (zbV (E n_Bu_begin [.ref q2, .ref q3] M2) fun M3 =>
  zif ((zK M3 a0).1 = 3)
  (zbI (E n_Re_readChoice [.ref a0, .int (0 : Int32)] M3) fun u1 M4 =>
  if u1 ≠ 0 then (zif ((zK M4 a0).1 = 3)
    (zoR (zR M4 a0 2) fun q4 =>
    zif ((zK M4 q4).1 = 1)
    (zbV (E n_Bu_finish [.ref q4] M4) fun M5 =>
    zif ((zK M5 a0).1 = 3)
    (zbI (E n_Re_readOff [.ref a0, .ref a1] M5) fun u2 M6 =>
    if u2 ≠ 0 then (zif ((zK M6 a0).1 = 3)
      (zoR (zR M6 a0 0) fun q5 =>
      zif ((zK M6 q5).1 = 6)
      (if (zI M6 q5 3) = (59 : Int32) then (zif ((zK M6 a1).1 = 2)
        (zoR (zR M6 a1 0) fun q6 =>
        zif ((zK M6 q6).1 = 4)
        (if (zI M6 q6 8) = 0 then (zif ((zK M6 a0).1 = 3)
          (zoR (zR M6 a0 0) fun q7 =>
          zif ((zK M6 q7).1 = 6)
          (zbI (E n_Ta_refuse [.ref q7, .int (5 : Int32)] M6) fun u3 M7 =>
          zif (u3 = 0 ∨ u3 = 1) (some (some (.int u3), M7)))))
        else zif ((zK M6 a1).1 = 2)
        (zoR (zR M6 a1 1) fun q8 =>
        zif ((zK M6 q8).1 = 4)
        (if (zI M6 q8 8) ≠ 0 then (zif ((zK M6 a1).1 = 2)
          (zoR (zR M6 a1 0) fun q9 =>
          zif ((zK M6 q9).1 = 4)
          (if (zI M6 q9 10) ≠ 0 then (zif ((zK M6 a0).1 = 3)
            (zoR (zR M6 a0 0) fun q10 =>
            zif ((zK M6 q10).1 = 6)
            (zbI (E n_Ta_refuse [.ref q10, .int (6 : Int32)] M6) fun u4 M8 =>
            zif (u4 = 0 ∨ u4 = 1) (some (some (.int u4), M8)))))
          else zif ((zK M6 a1).1 = 2)
          (zoR (zR M6 a1 1) fun q11 =>
          zif ((zK M6 q11).1 = 4)
          (if (zI M6 q11 10) = 0 then (zif ((zK M6 a0).1 = 3)
            (zoR (zR M6 a0 0) fun q12 =>
            zif ((zK M6 q12).1 = 6)
            (zbV (E n_Ta_advance [.ref q12] M6) fun M9 =>
            zif ((1 : Int32) = 0 ∨ (1 : Int32) = 1) (some (some (.int (1 : Int32)), M9)))))
          else zif ((zK M6 a0).1 = 3)
          (zoR (zR M6 a0 0) fun q13 =>
          zif ((zK M6 q13).1 = 6)
          (zbI (E n_Ta_refuse [.ref q13, .int (6 : Int32)] M6) fun u5 M10 =>
          zif (u5 = 0 ∨ u5 = 1) (some (some (.int u5), M10)))))))))
        else zif ((zK M6 a0).1 = 3)
        (zoR (zR M6 a0 0) fun q14 =>
        zif ((zK M6 q14).1 = 6)
        (zbI (E n_Ta_refuse [.ref q14, .int (5 : Int32)] M6) fun u6 M11 =>
        zif (u6 = 0 ∨ u6 = 1) (some (some (.int u6), M11)))))))))
      else zif ((zK M6 a0).1 = 3)
      (zoR (zR M6 a0 0) fun q15 =>
      zif ((zK M6 q15).1 = 6)
      (zbI (E n_Ta_refuse [.ref q15, .int (2 : Int32)] M6) fun u7 M12 =>
      zif (u7 = 0 ∨ u7 = 1) (some (some (.int u7), M12)))))))
    else zif ((0 : Int32) = 0 ∨ (0 : Int32) = 1) (some (some (.int (0 : Int32)), M6))))))
  else zif ((0 : Int32) = 0 ∨ (0 : Int32) = 1) (some (some (.int (0 : Int32)), M4)))))))))
set_option maxRecDepth 20000 in
theorem zg_Re_readPromise_79 (d : Nat) (a0 : Nat) (a1 : Nat) (s0 : Int32) (s1 : Nat) (M : zM) : zG d n_Re_readPromise 79 [some (.ref a0), some (.ref a1)] [.int s0, .ref s1] M = zx_Re_readPromise_79 (zV d) (zG d n_Re_readPromise) a0 a1 s0 s1 M := by
  refine (zG_sg (m := zm_Re_readPromise) rfl 400 _ _ _ M).trans ?_
  show zw true zm_Re_readPromise (zV d) (zG d n_Re_readPromise) 400 79 [some (.ref a0), some (.ref a1)] [.int s0, .ref s1] M = _
  unfold zx_Re_readPromise_79
  refine zw_put_int (p := 82) (Or.inl rfl) rfl rfl (fun M1 => ?_)
  refine zw_aload_n (p := 83) (Or.inr rfl) rfl rfl rfl ?_
  refine zw_get_ref (p := 86) (Or.inr rfl) rfl rfl (fun q1 => ?_)
  refine zw_virtualV (p := 89) (as := [.ref q1]) (rest := []) (Or.inr rfl) rfl rfl rfl rfl rfl rfl rfl (fun M2 => ?_)
  refine zw_aload_n (p := 90) (Or.inr rfl) rfl rfl rfl ?_
  refine zw_get_ref (p := 93) (Or.inr rfl) rfl rfl (fun q2 => ?_)
  refine zw_aload_n (p := 94) (Or.inr rfl) rfl rfl rfl ?_
  refine zw_get_ref (p := 97) (Or.inr rfl) rfl rfl (fun q3 => ?_)
  refine zw_virtualV (p := 100) (as := [.ref q2, .ref q3]) (rest := []) (Or.inr rfl) rfl rfl rfl rfl rfl rfl rfl (fun M3 => ?_)
  refine zw_aload_n (p := 101) (Or.inr rfl) rfl rfl rfl ?_
  refine zw_iconst (p := 102) (x := (0 : Int32)) (Or.inr rfl) rfl rfl rfl ?_
  refine zw_virtualI (p := 105) (as := [.ref a0, .int (0 : Int32)]) (rest := []) (Or.inr rfl) rfl rfl rfl rfl rfl rfl rfl (fun u1 M4 => ?_)
  refine zw_if_ne (t := 110) (p := 108) (Or.inr rfl) rfl rfl rfl ?_ ?_
  · refine zw_aload_n (p := 111) (Or.inr rfl) rfl rfl rfl ?_
    refine zw_get_ref (p := 114) (Or.inr rfl) rfl rfl (fun q4 => ?_)
    refine zw_virtualV (p := 117) (as := [.ref q4]) (rest := []) (Or.inr rfl) rfl rfl rfl rfl rfl rfl rfl (fun M5 => ?_)
    refine zw_aload_n (p := 118) (Or.inr rfl) rfl rfl rfl ?_
    refine zw_aload_n (p := 119) (Or.inr rfl) rfl rfl rfl ?_
    refine zw_virtualI (p := 122) (as := [.ref a0, .ref a1]) (rest := []) (Or.inr rfl) rfl rfl rfl rfl rfl rfl rfl (fun u2 M6 => ?_)
    refine zw_if_ne (t := 127) (p := 125) (Or.inr rfl) rfl rfl rfl ?_ ?_
    · refine zw_aload_n (p := 128) (Or.inr rfl) rfl rfl rfl ?_
      refine zw_get_ref (p := 131) (Or.inr rfl) rfl rfl (fun q5 => ?_)
      refine zw_get_int (p := 134) (Or.inr rfl) rfl rfl ?_
      refine zw_bipush (p := 136) (x := (59 : Int32)) (Or.inr rfl) rfl rfl rfl ?_
      refine zw_icmp_eq (t := 148) (p := 139) (Or.inr rfl) rfl rfl rfl ?_ ?_
      · refine zw_aload_n (p := 149) (Or.inr rfl) rfl rfl rfl ?_
        refine zw_get_ref (p := 152) (Or.inr rfl) rfl rfl (fun q6 => ?_)
        refine zw_get_int (p := 155) (Or.inr rfl) rfl rfl ?_
        refine zw_if_eq (t := 168) (p := 158) (Or.inr rfl) rfl rfl rfl ?_ ?_
        · refine zw_aload_n (p := 169) (Or.inr rfl) rfl rfl rfl ?_
          refine zw_get_ref (p := 172) (Or.inr rfl) rfl rfl (fun q7 => ?_)
          refine zw_iconst (p := 173) (x := (5 : Int32)) (Or.inr rfl) rfl rfl rfl ?_
          refine zw_virtualI (p := 176) (as := [.ref q7, .int (5 : Int32)]) (rest := []) (Or.inr rfl) rfl rfl rfl rfl rfl rfl rfl (fun u3 M7 => ?_)
          exact zw_ireturn2 (Or.inr rfl) rfl rfl
        refine zw_aload_n (p := 159) (Or.inr rfl) rfl rfl rfl ?_
        refine zw_get_ref (p := 162) (Or.inr rfl) rfl rfl (fun q8 => ?_)
        refine zw_get_int (p := 165) (Or.inr rfl) rfl rfl ?_
        refine zw_if_ne (t := 177) (p := 168) (Or.inr rfl) rfl rfl rfl ?_ ?_
        · refine zw_aload_n (p := 178) (Or.inr rfl) rfl rfl rfl ?_
          refine zw_get_ref (p := 181) (Or.inr rfl) rfl rfl (fun q9 => ?_)
          refine zw_get_int (p := 184) (Or.inr rfl) rfl rfl ?_
          refine zw_if_ne (t := 197) (p := 187) (Or.inr rfl) rfl rfl rfl ?_ ?_
          · refine zw_aload_n (p := 198) (Or.inr rfl) rfl rfl rfl ?_
            refine zw_get_ref (p := 201) (Or.inr rfl) rfl rfl (fun q10 => ?_)
            refine zw_bipush (p := 203) (x := (6 : Int32)) (Or.inr rfl) rfl rfl rfl ?_
            refine zw_virtualI (p := 206) (as := [.ref q10, .int (6 : Int32)]) (rest := []) (Or.inr rfl) rfl rfl rfl rfl rfl rfl rfl (fun u4 M8 => ?_)
            exact zw_ireturn2 (Or.inr rfl) rfl rfl
          refine zw_aload_n (p := 188) (Or.inr rfl) rfl rfl rfl ?_
          refine zw_get_ref (p := 191) (Or.inr rfl) rfl rfl (fun q11 => ?_)
          refine zw_get_int (p := 194) (Or.inr rfl) rfl rfl ?_
          refine zw_if_eq (t := 207) (p := 197) (Or.inr rfl) rfl rfl rfl ?_ ?_
          · refine zw_aload_n (p := 208) (Or.inr rfl) rfl rfl rfl ?_
            refine zw_get_ref (p := 211) (Or.inr rfl) rfl rfl (fun q12 => ?_)
            refine zw_virtualV (p := 214) (as := [.ref q12]) (rest := []) (Or.inr rfl) rfl rfl rfl rfl rfl rfl rfl (fun M9 => ?_)
            refine zw_iconst (p := 215) (x := (1 : Int32)) (Or.inr rfl) rfl rfl rfl ?_
            exact zw_ireturn2 (Or.inr rfl) rfl rfl
          refine zw_aload_n (p := 198) (Or.inr rfl) rfl rfl rfl ?_
          refine zw_get_ref (p := 201) (Or.inr rfl) rfl rfl (fun q13 => ?_)
          refine zw_bipush (p := 203) (x := (6 : Int32)) (Or.inr rfl) rfl rfl rfl ?_
          refine zw_virtualI (p := 206) (as := [.ref q13, .int (6 : Int32)]) (rest := []) (Or.inr rfl) rfl rfl rfl rfl rfl rfl rfl (fun u5 M10 => ?_)
          exact zw_ireturn2 (Or.inr rfl) rfl rfl
        refine zw_aload_n (p := 169) (Or.inr rfl) rfl rfl rfl ?_
        refine zw_get_ref (p := 172) (Or.inr rfl) rfl rfl (fun q14 => ?_)
        refine zw_iconst (p := 173) (x := (5 : Int32)) (Or.inr rfl) rfl rfl rfl ?_
        refine zw_virtualI (p := 176) (as := [.ref q14, .int (5 : Int32)]) (rest := []) (Or.inr rfl) rfl rfl rfl rfl rfl rfl rfl (fun u6 M11 => ?_)
        exact zw_ireturn2 (Or.inr rfl) rfl rfl
      refine zw_aload_n (p := 140) (Or.inr rfl) rfl rfl rfl ?_
      refine zw_get_ref (p := 143) (Or.inr rfl) rfl rfl (fun q15 => ?_)
      refine zw_iconst (p := 144) (x := (2 : Int32)) (Or.inr rfl) rfl rfl rfl ?_
      refine zw_virtualI (p := 147) (as := [.ref q15, .int (2 : Int32)]) (rest := []) (Or.inr rfl) rfl rfl rfl rfl rfl rfl rfl (fun u7 M12 => ?_)
      exact zw_ireturn2 (Or.inr rfl) rfl rfl
    refine zw_iconst (p := 126) (x := (0 : Int32)) (Or.inr rfl) rfl rfl rfl ?_
    exact zw_ireturn2 (Or.inr rfl) rfl rfl
  refine zw_iconst (p := 109) (x := (0 : Int32)) (Or.inr rfl) rfl rfl rfl ?_
  exact zw_ireturn2 (Or.inr rfl) rfl rfl
def zx_Re_readOff (E : zE0) (K : zKt) (a0 : Nat) (a1 : Nat) (M : zM) : zO :=
  zif ((zK M a0).1 = 3)
  (zoR (zR M a0 0) fun q1 =>
  zif ((zK M q1).1 = 6)
  (if (zI M q1 3) ≠ (126 : Int32) then (zif ((zK M a1).1 = 2 ∧ ((0 : Int32) = 0 ∨ (0 : Int32) = 1))
    (zbm (zsI M a1 3 (0 : Int32)) fun M1 =>
    zif ((zK M1 a1).1 = 2)
    (if (zI M1 a1 3) ≠ 0 then (zif ((zK M1 a0).1 = 3)
      (zoR (zR M1 a0 0) fun q2 =>
      zif ((zK M1 q2).1 = 6)
      (zbV (E n_Ta_advance [.ref q2] M1) fun M2 =>
      zif ((zK M2 a0).1 = 3)
      (zbI (E n_Re_readAnyOf [.ref a0, .int (0 : Int32)] M2) fun u1 M3 =>
      if u1 ≠ 0 then (zif ((zK M3 a0).1 = 3)
        (zoR (zR M3 a0 1) fun q3 =>
        zif ((zK M3 a1).1 = 2)
        (zoR (zR M3 a1 2) fun q4 =>
        zif ((zK M3 q3).1 = 8)
        (zbV (E n_TS_moveTop [.ref q3, .ref q4, .int (0 : Int32)] M3) fun M4 =>
        zif ((1 : Int32) = 0 ∨ (1 : Int32) = 1) (some (some (.int (1 : Int32)), M4))))))
      else zif ((0 : Int32) = 0 ∨ (0 : Int32) = 1) (some (some (.int (0 : Int32)), M3))))))
    else zif ((1 : Int32) = 0 ∨ (1 : Int32) = 1) (some (some (.int (1 : Int32)), M1)))))
  else zif ((zK M a1).1 = 2 ∧ ((1 : Int32) = 0 ∨ (1 : Int32) = 1))
  (zbm (zsI M a1 3 (1 : Int32)) fun M5 =>
  zif ((zK M5 a1).1 = 2)
  (if (zI M5 a1 3) ≠ 0 then (zif ((zK M5 a0).1 = 3)
    (zoR (zR M5 a0 0) fun q5 =>
    zif ((zK M5 q5).1 = 6)
    (zbV (E n_Ta_advance [.ref q5] M5) fun M6 =>
    zif ((zK M6 a0).1 = 3)
    (zbI (E n_Re_readAnyOf [.ref a0, .int (0 : Int32)] M6) fun u2 M7 =>
    if u2 ≠ 0 then (zif ((zK M7 a0).1 = 3)
      (zoR (zR M7 a0 1) fun q6 =>
      zif ((zK M7 a1).1 = 2)
      (zoR (zR M7 a1 2) fun q7 =>
      zif ((zK M7 q6).1 = 8)
      (zbV (E n_TS_moveTop [.ref q6, .ref q7, .int (0 : Int32)] M7) fun M8 =>
      zif ((1 : Int32) = 0 ∨ (1 : Int32) = 1) (some (some (.int (1 : Int32)), M8))))))
    else zif ((0 : Int32) = 0 ∨ (0 : Int32) = 1) (some (some (.int (0 : Int32)), M7))))))
  else zif ((1 : Int32) = 0 ∨ (1 : Int32) = 1) (some (some (.int (1 : Int32)), M5))))))
set_option maxRecDepth 20000 in
theorem ze_Re_readOff (d : Nat) (a0 : Nat) (a1 : Nat) (M : zM) : zV (d + 1) n_Re_readOff [.ref a0, .ref a1] M = zx_Re_readOff (zV d) (zG d n_Re_readOff) a0 a1 M := by
  refine (zE_sg (m := zm_Re_readOff) rfl 400 _ rfl M).trans ?_
  show zw true zm_Re_readOff (zV d) (zG d n_Re_readOff) 400 0 [some (.ref a0), some (.ref a1)] [] M = _
  unfold zx_Re_readOff
  refine zw_aload_n (p := 1) (Or.inl rfl) rfl rfl rfl ?_
  refine zw_aload_n (p := 2) (Or.inr rfl) rfl rfl rfl ?_
  refine zw_get_ref (p := 5) (Or.inr rfl) rfl rfl (fun q1 => ?_)
  refine zw_get_int (p := 8) (Or.inr rfl) rfl rfl ?_
  refine zw_bipush (p := 10) (x := (126 : Int32)) (Or.inr rfl) rfl rfl rfl ?_
  refine zw_icmp_ne (t := 17) (p := 13) (Or.inr rfl) rfl rfl rfl ?_ ?_
  · refine zw_iconst (p := 18) (x := (0 : Int32)) (Or.inr rfl) rfl rfl rfl ?_
    refine zw_put_boo (p := 21) (Or.inr rfl) rfl rfl (fun M1 => ?_)
    refine zw_aload_n (p := 22) (Or.inr rfl) rfl rfl rfl ?_
    refine zw_get_int (p := 25) (Or.inr rfl) rfl rfl ?_
    refine zw_if_ne (t := 30) (p := 28) (Or.inr rfl) rfl rfl rfl ?_ ?_
    · refine zw_aload_n (p := 31) (Or.inr rfl) rfl rfl rfl ?_
      refine zw_get_ref (p := 34) (Or.inr rfl) rfl rfl (fun q2 => ?_)
      refine zw_virtualV (p := 37) (as := [.ref q2]) (rest := []) (Or.inr rfl) rfl rfl rfl rfl rfl rfl rfl (fun M2 => ?_)
      refine zw_aload_n (p := 38) (Or.inr rfl) rfl rfl rfl ?_
      refine zw_iconst (p := 39) (x := (0 : Int32)) (Or.inr rfl) rfl rfl rfl ?_
      refine zw_virtualI (p := 42) (as := [.ref a0, .int (0 : Int32)]) (rest := []) (Or.inr rfl) rfl rfl rfl rfl rfl rfl rfl (fun u1 M3 => ?_)
      refine zw_if_ne (t := 47) (p := 45) (Or.inr rfl) rfl rfl rfl ?_ ?_
      · refine zw_aload_n (p := 48) (Or.inr rfl) rfl rfl rfl ?_
        refine zw_get_ref (p := 51) (Or.inr rfl) rfl rfl (fun q3 => ?_)
        refine zw_aload_n (p := 52) (Or.inr rfl) rfl rfl rfl ?_
        refine zw_get_ref (p := 55) (Or.inr rfl) rfl rfl (fun q4 => ?_)
        refine zw_iconst (p := 56) (x := (0 : Int32)) (Or.inr rfl) rfl rfl rfl ?_
        refine zw_virtualV (p := 59) (as := [.ref q3, .ref q4, .int (0 : Int32)]) (rest := []) (Or.inr rfl) rfl rfl rfl rfl rfl rfl rfl (fun M4 => ?_)
        refine zw_iconst (p := 60) (x := (1 : Int32)) (Or.inr rfl) rfl rfl rfl ?_
        exact zw_ireturn2 (Or.inr rfl) rfl rfl
      refine zw_iconst (p := 46) (x := (0 : Int32)) (Or.inr rfl) rfl rfl rfl ?_
      exact zw_ireturn2 (Or.inr rfl) rfl rfl
    refine zw_iconst (p := 29) (x := (1 : Int32)) (Or.inr rfl) rfl rfl rfl ?_
    exact zw_ireturn2 (Or.inr rfl) rfl rfl
  refine zw_iconst (p := 14) (x := (1 : Int32)) (Or.inr rfl) rfl rfl rfl ?_
  refine zw_goto (t := 18) (Or.inr rfl) rfl rfl ?_
  refine zw_put_boo (p := 21) (Or.inr rfl) rfl rfl (fun M5 => ?_)
  refine zw_aload_n (p := 22) (Or.inr rfl) rfl rfl rfl ?_
  refine zw_get_int (p := 25) (Or.inr rfl) rfl rfl ?_
  refine zw_if_ne (t := 30) (p := 28) (Or.inr rfl) rfl rfl rfl ?_ ?_
  · refine zw_aload_n (p := 31) (Or.inr rfl) rfl rfl rfl ?_
    refine zw_get_ref (p := 34) (Or.inr rfl) rfl rfl (fun q5 => ?_)
    refine zw_virtualV (p := 37) (as := [.ref q5]) (rest := []) (Or.inr rfl) rfl rfl rfl rfl rfl rfl rfl (fun M6 => ?_)
    refine zw_aload_n (p := 38) (Or.inr rfl) rfl rfl rfl ?_
    refine zw_iconst (p := 39) (x := (0 : Int32)) (Or.inr rfl) rfl rfl rfl ?_
    refine zw_virtualI (p := 42) (as := [.ref a0, .int (0 : Int32)]) (rest := []) (Or.inr rfl) rfl rfl rfl rfl rfl rfl rfl (fun u2 M7 => ?_)
    refine zw_if_ne (t := 47) (p := 45) (Or.inr rfl) rfl rfl rfl ?_ ?_
    · refine zw_aload_n (p := 48) (Or.inr rfl) rfl rfl rfl ?_
      refine zw_get_ref (p := 51) (Or.inr rfl) rfl rfl (fun q6 => ?_)
      refine zw_aload_n (p := 52) (Or.inr rfl) rfl rfl rfl ?_
      refine zw_get_ref (p := 55) (Or.inr rfl) rfl rfl (fun q7 => ?_)
      refine zw_iconst (p := 56) (x := (0 : Int32)) (Or.inr rfl) rfl rfl rfl ?_
      refine zw_virtualV (p := 59) (as := [.ref q6, .ref q7, .int (0 : Int32)]) (rest := []) (Or.inr rfl) rfl rfl rfl rfl rfl rfl rfl (fun M8 => ?_)
      refine zw_iconst (p := 60) (x := (1 : Int32)) (Or.inr rfl) rfl rfl rfl ?_
      exact zw_ireturn2 (Or.inr rfl) rfl rfl
    refine zw_iconst (p := 46) (x := (0 : Int32)) (Or.inr rfl) rfl rfl rfl ?_
    exact zw_ireturn2 (Or.inr rfl) rfl rfl
  refine zw_iconst (p := 29) (x := (1 : Int32)) (Or.inr rfl) rfl rfl rfl ?_
  exact zw_ireturn2 (Or.inr rfl) rfl rfl
def zx_Re_readChoice (E : zE0) (K : zKt) (a0 : Nat) (x1 : Int32) (M : zM) : zO :=
  zif ((zK M a0).1 = 3)
  (zbI (E n_Re_readChain [.ref a0, .int x1] M) fun u1 M1 =>
  if u1 ≠ 0 then (K 12 [some (.ref a0), some (.int x1), some (.int (0 : Int32))] [] M1)
  else zif ((0 : Int32) = 0 ∨ (0 : Int32) = 1) (some (some (.int (0 : Int32)), M1)))
set_option maxRecDepth 20000 in
theorem ze_Re_readChoice (d : Nat) (a0 : Nat) (x1 : Int32) (M : zM) : zV (d + 1) n_Re_readChoice [.ref a0, .int x1] M = zx_Re_readChoice (zV d) (zG d n_Re_readChoice) a0 x1 M := by
  refine (zE_sg (m := zm_Re_readChoice) rfl 400 _ rfl M).trans ?_
  show zw true zm_Re_readChoice (zV d) (zG d n_Re_readChoice) 400 0 [some (.ref a0), some (.int x1), none] [] M = _
  unfold zx_Re_readChoice
  refine zw_aload_n (p := 1) (Or.inl rfl) rfl rfl rfl ?_
  refine zw_iload_n (p := 2) (Or.inr rfl) rfl rfl rfl ?_
  refine zw_virtualI (p := 5) (as := [.ref a0, .int x1]) (rest := []) (Or.inr rfl) rfl rfl rfl rfl rfl rfl rfl (fun u1 M1 => ?_)
  refine zw_if_ne (t := 10) (p := 8) (Or.inr rfl) rfl rfl rfl ?_ ?_
  · refine zw_iconst (p := 11) (x := (0 : Int32)) (Or.inr rfl) rfl rfl rfl ?_
    refine zw_istore_n (p := 12) (l2 := [some (.ref a0), some (.int x1), some (.int (0 : Int32))]) (Or.inr rfl) rfl rfl rfl rfl ?_
    exact zw_end rfl rfl
  refine zw_iconst (p := 9) (x := (0 : Int32)) (Or.inr rfl) rfl rfl rfl ?_
  exact zw_ireturn2 (Or.inr rfl) rfl rfl
def zx_Re_readChoice_12 (E : zE0) (K : zKt) (a0 : Nat) (x1 : Int32) (x2 : Int32) (M : zM) : zO :=
  if (200 : Int32) ≤ x2 then (zif ((1 : Int32) = 0 ∨ (1 : Int32) = 1) (some (some (.int (1 : Int32)), M)))
  else zif ((zK M a0).1 = 3)
  (zoR (zR M a0 0) fun q1 =>
  zif ((zK M q1).1 = 6)
  (if (zI M q1 3) ≠ (47 : Int32) then (zif ((1 : Int32) = 0 ∨ (1 : Int32) = 1) (some (some (.int (1 : Int32)), M)))
  else zif ((zK M a0).1 = 3)
  (zoR (zR M a0 0) fun q2 =>
  zif ((zK M q2).1 = 6)
  (zbV (E n_Ta_advance [.ref q2] M) fun M1 =>
  zif ((zK M1 a0).1 = 3)
  (zbI (E n_Re_readChain [.ref a0, .int x1] M1) fun u1 M2 =>
  if u1 ≠ 0 then (zif ((zK M2 a0).1 = 3)
    (zoR (zR M2 a0 2) fun q3 =>
    zif ((zK M2 q3).1 = 1)
    (zbV (E n_Bu_chooseOfTwo [.ref q3] M2) fun M3 =>
    zbi (x2 + (1 : Int32)) fun u2 =>
    K 12 [some (.ref a0), some (.int x1), some (.int u2)] [] M3)))
  else zif ((0 : Int32) = 0 ∨ (0 : Int32) = 1) (some (some (.int (0 : Int32)), M2)))))))
set_option maxRecDepth 20000 in
theorem zg_Re_readChoice_12 (d : Nat) (a0 : Nat) (x1 : Int32) (x2 : Int32) (M : zM) : zG d n_Re_readChoice 12 [some (.ref a0), some (.int x1), some (.int x2)] [] M = zx_Re_readChoice_12 (zV d) (zG d n_Re_readChoice) a0 x1 x2 M := by
  refine (zG_sg (m := zm_Re_readChoice) rfl 400 _ _ _ M).trans ?_
  show zw true zm_Re_readChoice (zV d) (zG d n_Re_readChoice) 400 12 [some (.ref a0), some (.int x1), some (.int x2)] [] M = _
  unfold zx_Re_readChoice_12
  refine zw_iload_n (p := 13) (Or.inl rfl) rfl rfl rfl ?_
  refine zw_sipush (p := 16) (x := (200 : Int32)) (Or.inr rfl) rfl rfl rfl ?_
  refine zw_icmp_ge (t := 61) (p := 19) (Or.inr rfl) rfl rfl rfl ?_ ?_
  · refine zw_iconst (p := 62) (x := (1 : Int32)) (Or.inr rfl) rfl rfl rfl ?_
    exact zw_ireturn2 (Or.inr rfl) rfl rfl
  refine zw_aload_n (p := 20) (Or.inr rfl) rfl rfl rfl ?_
  refine zw_get_ref (p := 23) (Or.inr rfl) rfl rfl (fun q1 => ?_)
  refine zw_get_int (p := 26) (Or.inr rfl) rfl rfl ?_
  refine zw_bipush (p := 28) (x := (47 : Int32)) (Or.inr rfl) rfl rfl rfl ?_
  refine zw_icmp_ne (t := 61) (p := 31) (Or.inr rfl) rfl rfl rfl ?_ ?_
  · refine zw_iconst (p := 62) (x := (1 : Int32)) (Or.inr rfl) rfl rfl rfl ?_
    exact zw_ireturn2 (Or.inr rfl) rfl rfl
  refine zw_aload_n (p := 32) (Or.inr rfl) rfl rfl rfl ?_
  refine zw_get_ref (p := 35) (Or.inr rfl) rfl rfl (fun q2 => ?_)
  refine zw_virtualV (p := 38) (as := [.ref q2]) (rest := []) (Or.inr rfl) rfl rfl rfl rfl rfl rfl rfl (fun M1 => ?_)
  refine zw_aload_n (p := 39) (Or.inr rfl) rfl rfl rfl ?_
  refine zw_iload_n (p := 40) (Or.inr rfl) rfl rfl rfl ?_
  refine zw_virtualI (p := 43) (as := [.ref a0, .int x1]) (rest := []) (Or.inr rfl) rfl rfl rfl rfl rfl rfl rfl (fun u1 M2 => ?_)
  refine zw_if_ne (t := 48) (p := 46) (Or.inr rfl) rfl rfl rfl ?_ ?_
  · refine zw_aload_n (p := 49) (Or.inr rfl) rfl rfl rfl ?_
    refine zw_get_ref (p := 52) (Or.inr rfl) rfl rfl (fun q3 => ?_)
    refine zw_virtualV (p := 55) (as := [.ref q3]) (rest := []) (Or.inr rfl) rfl rfl rfl rfl rfl rfl rfl (fun M3 => ?_)
    refine zw_iinc (p := 58) (c := (1 : Int32)) (L2 := fun u2 => [some (.ref a0), some (.int x1), some (.int u2)]) (Or.inr rfl) rfl rfl rfl rfl (fun _ => rfl) rfl (fun u2 => ?_)
    refine zw_goto (t := 12) (Or.inr rfl) rfl rfl ?_
    exact zw_end rfl rfl
  refine zw_iconst (p := 47) (x := (0 : Int32)) (Or.inr rfl) rfl rfl rfl ?_
  exact zw_ireturn2 (Or.inr rfl) rfl rfl
def zx_Re_readChain (E : zE0) (K : zKt) (a0 : Nat) (x1 : Int32) (M : zM) : zO :=
  zif ((zK M a0).1 = 3)
  (zbI (E n_Re_readRepeated [.ref a0, .int x1] M) fun u1 M1 =>
  if u1 ≠ 0 then (K 12 [some (.ref a0), some (.int x1), some (.int (0 : Int32))] [] M1)
  else zif ((0 : Int32) = 0 ∨ (0 : Int32) = 1) (some (some (.int (0 : Int32)), M1)))
set_option maxRecDepth 20000 in
theorem ze_Re_readChain (d : Nat) (a0 : Nat) (x1 : Int32) (M : zM) : zV (d + 1) n_Re_readChain [.ref a0, .int x1] M = zx_Re_readChain (zV d) (zG d n_Re_readChain) a0 x1 M := by
  refine (zE_sg (m := zm_Re_readChain) rfl 400 _ rfl M).trans ?_
  show zw true zm_Re_readChain (zV d) (zG d n_Re_readChain) 400 0 [some (.ref a0), some (.int x1), none] [] M = _
  unfold zx_Re_readChain
  refine zw_aload_n (p := 1) (Or.inl rfl) rfl rfl rfl ?_
  refine zw_iload_n (p := 2) (Or.inr rfl) rfl rfl rfl ?_
  refine zw_virtualI (p := 5) (as := [.ref a0, .int x1]) (rest := []) (Or.inr rfl) rfl rfl rfl rfl rfl rfl rfl (fun u1 M1 => ?_)
  refine zw_if_ne (t := 10) (p := 8) (Or.inr rfl) rfl rfl rfl ?_ ?_
  · refine zw_iconst (p := 11) (x := (0 : Int32)) (Or.inr rfl) rfl rfl rfl ?_
    refine zw_istore_n (p := 12) (l2 := [some (.ref a0), some (.int x1), some (.int (0 : Int32))]) (Or.inr rfl) rfl rfl rfl rfl ?_
    exact zw_end rfl rfl
  refine zw_iconst (p := 9) (x := (0 : Int32)) (Or.inr rfl) rfl rfl rfl ?_
  exact zw_ireturn2 (Or.inr rfl) rfl rfl
def zx_Re_readChain_12 (E : zE0) (K : zKt) (a0 : Nat) (x1 : Int32) (x2 : Int32) (M : zM) : zO :=
  if (200 : Int32) ≤ x2 then (zif ((1 : Int32) = 0 ∨ (1 : Int32) = 1) (some (some (.int (1 : Int32)), M)))
  else zif ((zK M a0).1 = 3)
  (zoR (zR M a0 0) fun q1 =>
  zif ((zK M q1).1 = 6)
  (if (zI M q1 3) ≠ (44 : Int32) then (zif ((1 : Int32) = 0 ∨ (1 : Int32) = 1) (some (some (.int (1 : Int32)), M)))
  else zif ((zK M a0).1 = 3)
  (zoR (zR M a0 0) fun q2 =>
  zif ((zK M q2).1 = 6)
  (zbV (E n_Ta_advance [.ref q2] M) fun M1 =>
  zif ((zK M1 a0).1 = 3)
  (zbI (E n_Re_readRepeated [.ref a0, .int x1] M1) fun u1 M2 =>
  if u1 ≠ 0 then (zif ((zK M2 a0).1 = 3)
    (zoR (zR M2 a0 2) fun q3 =>
    zif ((zK M2 q3).1 = 1)
    (zbV (E n_Bu_chainTwo [.ref q3] M2) fun M3 =>
    zbi (x2 + (1 : Int32)) fun u2 =>
    K 12 [some (.ref a0), some (.int x1), some (.int u2)] [] M3)))
  else zif ((0 : Int32) = 0 ∨ (0 : Int32) = 1) (some (some (.int (0 : Int32)), M2)))))))
set_option maxRecDepth 20000 in
theorem zg_Re_readChain_12 (d : Nat) (a0 : Nat) (x1 : Int32) (x2 : Int32) (M : zM) : zG d n_Re_readChain 12 [some (.ref a0), some (.int x1), some (.int x2)] [] M = zx_Re_readChain_12 (zV d) (zG d n_Re_readChain) a0 x1 x2 M := by
  refine (zG_sg (m := zm_Re_readChain) rfl 400 _ _ _ M).trans ?_
  show zw true zm_Re_readChain (zV d) (zG d n_Re_readChain) 400 12 [some (.ref a0), some (.int x1), some (.int x2)] [] M = _
  unfold zx_Re_readChain_12
  refine zw_iload_n (p := 13) (Or.inl rfl) rfl rfl rfl ?_
  refine zw_sipush (p := 16) (x := (200 : Int32)) (Or.inr rfl) rfl rfl rfl ?_
  refine zw_icmp_ge (t := 61) (p := 19) (Or.inr rfl) rfl rfl rfl ?_ ?_
  · refine zw_iconst (p := 62) (x := (1 : Int32)) (Or.inr rfl) rfl rfl rfl ?_
    exact zw_ireturn2 (Or.inr rfl) rfl rfl
  refine zw_aload_n (p := 20) (Or.inr rfl) rfl rfl rfl ?_
  refine zw_get_ref (p := 23) (Or.inr rfl) rfl rfl (fun q1 => ?_)
  refine zw_get_int (p := 26) (Or.inr rfl) rfl rfl ?_
  refine zw_bipush (p := 28) (x := (44 : Int32)) (Or.inr rfl) rfl rfl rfl ?_
  refine zw_icmp_ne (t := 61) (p := 31) (Or.inr rfl) rfl rfl rfl ?_ ?_
  · refine zw_iconst (p := 62) (x := (1 : Int32)) (Or.inr rfl) rfl rfl rfl ?_
    exact zw_ireturn2 (Or.inr rfl) rfl rfl
  refine zw_aload_n (p := 32) (Or.inr rfl) rfl rfl rfl ?_
  refine zw_get_ref (p := 35) (Or.inr rfl) rfl rfl (fun q2 => ?_)
  refine zw_virtualV (p := 38) (as := [.ref q2]) (rest := []) (Or.inr rfl) rfl rfl rfl rfl rfl rfl rfl (fun M1 => ?_)
  refine zw_aload_n (p := 39) (Or.inr rfl) rfl rfl rfl ?_
  refine zw_iload_n (p := 40) (Or.inr rfl) rfl rfl rfl ?_
  refine zw_virtualI (p := 43) (as := [.ref a0, .int x1]) (rest := []) (Or.inr rfl) rfl rfl rfl rfl rfl rfl rfl (fun u1 M2 => ?_)
  refine zw_if_ne (t := 48) (p := 46) (Or.inr rfl) rfl rfl rfl ?_ ?_
  · refine zw_aload_n (p := 49) (Or.inr rfl) rfl rfl rfl ?_
    refine zw_get_ref (p := 52) (Or.inr rfl) rfl rfl (fun q3 => ?_)
    refine zw_virtualV (p := 55) (as := [.ref q3]) (rest := []) (Or.inr rfl) rfl rfl rfl rfl rfl rfl rfl (fun M3 => ?_)
    refine zw_iinc (p := 58) (c := (1 : Int32)) (L2 := fun u2 => [some (.ref a0), some (.int x1), some (.int u2)]) (Or.inr rfl) rfl rfl rfl rfl (fun _ => rfl) rfl (fun u2 => ?_)
    refine zw_goto (t := 12) (Or.inr rfl) rfl rfl ?_
    exact zw_end rfl rfl
  refine zw_iconst (p := 47) (x := (0 : Int32)) (Or.inr rfl) rfl rfl rfl ?_
  exact zw_ireturn2 (Or.inr rfl) rfl rfl
def zx_Re_readRepeated (E : zE0) (K : zKt) (a0 : Nat) (x1 : Int32) (M : zM) : zO :=
  zif ((zK M a0).1 = 3)
  (zbI (E n_Re_readPart [.ref a0, .int x1] M) fun u1 M1 =>
  if u1 ≠ 0 then (zif ((zK M1 a0).1 = 3)
    (zoR (zR M1 a0 0) fun q1 =>
    zif ((zK M1 q1).1 = 6)
    (if (zI M1 q1 3) = (42 : Int32) then (zif ((zK M1 a0).1 = 3)
      (zoR (zR M1 a0 0) fun q2 =>
      zif ((zK M1 q2).1 = 6)
      (zbV (E n_Ta_advance [.ref q2] M1) fun M2 =>
      zif ((zK M2 a0).1 = 3)
      (zoR (zR M2 a0 0) fun q3 =>
      zif ((zK M2 q3).1 = 6)
      (zbi (zI M2 q3 4) fun u2 =>
      zif ((zK M2 a0).1 = 3)
      (zbI (E n_Re_readNumber [.ref a0, .int (0 : Int32)] M2) fun u3 M3 =>
      if u3 ≠ 0 then (zif ((zK M3 a0).1 = 3)
        (zoR (zR M3 a0 0) fun q4 =>
        zif ((zK M3 q4).1 = 6)
        (zbi (zI M3 q4 4) fun u4 =>
        zif ((zK M3 a0).1 = 3)
        (zbI (E n_Re_readNumber [.ref a0, .int (if (1 : Int32) < u2 then u2 else (1 : Int32))] M3) fun u5 M4 =>
        if u5 ≠ 0 then (zif ((zK M4 a0).1 = 3)
          (zoR (zR M4 a0 2) fun q5 =>
          zif ((zK M4 q5).1 = 1)
          (zbV (E n_Bu_repeat [.ref q5, .int u2, .int u4] M4) fun M5 =>
          zif ((1 : Int32) = 0 ∨ (1 : Int32) = 1) (some (some (.int (1 : Int32)), M5)))))
        else zif ((0 : Int32) = 0 ∨ (0 : Int32) = 1) (some (some (.int (0 : Int32)), M4))))))
      else zif ((0 : Int32) = 0 ∨ (0 : Int32) = 1) (some (some (.int (0 : Int32)), M3))))))))
    else zif ((1 : Int32) = 0 ∨ (1 : Int32) = 1) (some (some (.int (1 : Int32)), M1)))))
  else zif ((0 : Int32) = 0 ∨ (0 : Int32) = 1) (some (some (.int (0 : Int32)), M1)))
set_option maxRecDepth 20000 in
theorem ze_Re_readRepeated (d : Nat) (a0 : Nat) (x1 : Int32) (M : zM) : zV (d + 1) n_Re_readRepeated [.ref a0, .int x1] M = zx_Re_readRepeated (zV d) (zG d n_Re_readRepeated) a0 x1 M := by
  refine (zE_sg (m := zm_Re_readRepeated) rfl 400 _ rfl M).trans ?_
  show zw true zm_Re_readRepeated (zV d) (zG d n_Re_readRepeated) 400 0 [some (.ref a0), some (.int x1), none, none] [] M = _
  unfold zx_Re_readRepeated
  refine zw_aload_n (p := 1) (Or.inl rfl) rfl rfl rfl ?_
  refine zw_iload_n (p := 2) (Or.inr rfl) rfl rfl rfl ?_
  refine zw_virtualI (p := 5) (as := [.ref a0, .int x1]) (rest := []) (Or.inr rfl) rfl rfl rfl rfl rfl rfl rfl (fun u1 M1 => ?_)
  refine zw_if_ne (t := 10) (p := 8) (Or.inr rfl) rfl rfl rfl ?_ ?_
  · refine zw_aload_n (p := 11) (Or.inr rfl) rfl rfl rfl ?_
    refine zw_get_ref (p := 14) (Or.inr rfl) rfl rfl (fun q1 => ?_)
    refine zw_get_int (p := 17) (Or.inr rfl) rfl rfl ?_
    refine zw_bipush (p := 19) (x := (42 : Int32)) (Or.inr rfl) rfl rfl rfl ?_
    refine zw_icmp_eq (t := 24) (p := 22) (Or.inr rfl) rfl rfl rfl ?_ ?_
    · refine zw_aload_n (p := 25) (Or.inr rfl) rfl rfl rfl ?_
      refine zw_get_ref (p := 28) (Or.inr rfl) rfl rfl (fun q2 => ?_)
      refine zw_virtualV (p := 31) (as := [.ref q2]) (rest := []) (Or.inr rfl) rfl rfl rfl rfl rfl rfl rfl (fun M2 => ?_)
      refine zw_aload_n (p := 32) (Or.inr rfl) rfl rfl rfl ?_
      refine zw_get_ref (p := 35) (Or.inr rfl) rfl rfl (fun q3 => ?_)
      refine zw_get_int (p := 38) (Or.inr rfl) rfl rfl ?_
      refine zw_istore_nN (p := 39) (L2 := fun u2 => [some (.ref a0), some (.int x1), some (.int u2), none]) (Or.inr rfl) rfl rfl (fun _ => rfl) rfl (fun u2 => ?_)
      refine zw_aload_n (p := 40) (Or.inr rfl) rfl rfl rfl ?_
      refine zw_iconst (p := 41) (x := (0 : Int32)) (Or.inr rfl) rfl rfl rfl ?_
      refine zw_virtualI (p := 44) (as := [.ref a0, .int (0 : Int32)]) (rest := []) (Or.inr rfl) rfl rfl rfl rfl rfl rfl rfl (fun u3 M3 => ?_)
      refine zw_if_ne (t := 49) (p := 47) (Or.inr rfl) rfl rfl rfl ?_ ?_
      · refine zw_aload_n (p := 50) (Or.inr rfl) rfl rfl rfl ?_
        refine zw_get_ref (p := 53) (Or.inr rfl) rfl rfl (fun q4 => ?_)
        refine zw_get_int (p := 56) (Or.inr rfl) rfl rfl ?_
        refine zw_istore_nN (p := 57) (L2 := fun u4 => [some (.ref a0), some (.int x1), some (.int u2), some (.int u4)]) (Or.inr rfl) rfl rfl (fun _ => rfl) rfl (fun u4 => ?_)
        refine zw_aload_n (p := 58) (Or.inr rfl) rfl rfl rfl ?_
        refine zw_iconst (p := 59) (x := (1 : Int32)) (Or.inr rfl) rfl rfl rfl ?_
        refine zw_iload_n (p := 60) (Or.inr rfl) rfl rfl rfl ?_
        refine zw_max (p := 63) (Or.inr rfl) rfl rfl rfl ?_
        refine zw_virtualI (p := 66) (as := [.ref a0, .int (if (1 : Int32) < u2 then u2 else (1 : Int32))]) (rest := []) (Or.inr rfl) rfl rfl rfl rfl rfl rfl rfl (fun u5 M4 => ?_)
        refine zw_if_ne (t := 71) (p := 69) (Or.inr rfl) rfl rfl rfl ?_ ?_
        · refine zw_aload_n (p := 72) (Or.inr rfl) rfl rfl rfl ?_
          refine zw_get_ref (p := 75) (Or.inr rfl) rfl rfl (fun q5 => ?_)
          refine zw_iload_n (p := 76) (Or.inr rfl) rfl rfl rfl ?_
          refine zw_iload_n (p := 77) (Or.inr rfl) rfl rfl rfl ?_
          refine zw_virtualV (p := 80) (as := [.ref q5, .int u2, .int u4]) (rest := []) (Or.inr rfl) rfl rfl rfl rfl rfl rfl rfl (fun M5 => ?_)
          refine zw_iconst (p := 81) (x := (1 : Int32)) (Or.inr rfl) rfl rfl rfl ?_
          exact zw_ireturn2 (Or.inr rfl) rfl rfl
        refine zw_iconst (p := 70) (x := (0 : Int32)) (Or.inr rfl) rfl rfl rfl ?_
        exact zw_ireturn2 (Or.inr rfl) rfl rfl
      refine zw_iconst (p := 48) (x := (0 : Int32)) (Or.inr rfl) rfl rfl rfl ?_
      exact zw_ireturn2 (Or.inr rfl) rfl rfl
    refine zw_iconst (p := 23) (x := (1 : Int32)) (Or.inr rfl) rfl rfl rfl ?_
    exact zw_ireturn2 (Or.inr rfl) rfl rfl
  refine zw_iconst (p := 9) (x := (0 : Int32)) (Or.inr rfl) rfl rfl rfl ?_
  exact zw_ireturn2 (Or.inr rfl) rfl rfl
def zx_Re_readNumber (E : zE0) (K : zKt) (a0 : Nat) (x1 : Int32) (M : zM) : zO :=
  zif ((zK M a0).1 = 3)
  (zoR (zR M a0 0) fun q1 =>
  zif ((zK M q1).1 = 6)
  (if (zI M q1 3) = (2 : Int32) then (zif ((zK M a0).1 = 3)
    (zoR (zR M a0 0) fun q2 =>
    zif ((zK M q2).1 = 6)
    (if (zI M q2 4) < x1 then (zif ((zK M a0).1 = 3)
      (zoR (zR M a0 0) fun q3 =>
      zif ((zK M q3).1 = 6)
      (zbI (E n_Ta_refuse [.ref q3, .int (3 : Int32)] M) fun u1 M1 =>
      zif (u1 = 0 ∨ u1 = 1) (some (some (.int u1), M1)))))
    else zif ((zK M a0).1 = 3)
    (zoR (zR M a0 0) fun q4 =>
    zif ((zK M q4).1 = 6)
    (if (zI M q4 4) ≤ (9 : Int32) then (zif ((zK M a0).1 = 3)
      (zoR (zR M a0 0) fun q5 =>
      zif ((zK M q5).1 = 6)
      (zbV (E n_Ta_advance [.ref q5] M) fun M2 =>
      zif ((1 : Int32) = 0 ∨ (1 : Int32) = 1) (some (some (.int (1 : Int32)), M2)))))
    else zif ((zK M a0).1 = 3)
    (zoR (zR M a0 0) fun q6 =>
    zif ((zK M q6).1 = 6)
    (zbI (E n_Ta_refuse [.ref q6, .int (3 : Int32)] M) fun u2 M3 =>
    zif (u2 = 0 ∨ u2 = 1) (some (some (.int u2), M3)))))))))
  else zif ((zK M a0).1 = 3)
  (zoR (zR M a0 0) fun q7 =>
  zif ((zK M q7).1 = 6)
  (zbI (E n_Ta_refuse [.ref q7, .int (2 : Int32)] M) fun u3 M4 =>
  zif (u3 = 0 ∨ u3 = 1) (some (some (.int u3), M4))))))
set_option maxRecDepth 20000 in
theorem ze_Re_readNumber (d : Nat) (a0 : Nat) (x1 : Int32) (M : zM) : zV (d + 1) n_Re_readNumber [.ref a0, .int x1] M = zx_Re_readNumber (zV d) (zG d n_Re_readNumber) a0 x1 M := by
  refine (zE_sg (m := zm_Re_readNumber) rfl 400 _ rfl M).trans ?_
  show zw true zm_Re_readNumber (zV d) (zG d n_Re_readNumber) 400 0 [some (.ref a0), some (.int x1)] [] M = _
  unfold zx_Re_readNumber
  refine zw_aload_n (p := 1) (Or.inl rfl) rfl rfl rfl ?_
  refine zw_get_ref (p := 4) (Or.inr rfl) rfl rfl (fun q1 => ?_)
  refine zw_get_int (p := 7) (Or.inr rfl) rfl rfl ?_
  refine zw_iconst (p := 8) (x := (2 : Int32)) (Or.inr rfl) rfl rfl rfl ?_
  refine zw_icmp_eq (t := 20) (p := 11) (Or.inr rfl) rfl rfl rfl ?_ ?_
  · refine zw_aload_n (p := 21) (Or.inr rfl) rfl rfl rfl ?_
    refine zw_get_ref (p := 24) (Or.inr rfl) rfl rfl (fun q2 => ?_)
    refine zw_get_int (p := 27) (Or.inr rfl) rfl rfl ?_
    refine zw_iload_n (p := 28) (Or.inr rfl) rfl rfl rfl ?_
    refine zw_icmp_lt (t := 43) (p := 31) (Or.inr rfl) rfl rfl rfl ?_ ?_
    · refine zw_aload_n (p := 44) (Or.inr rfl) rfl rfl rfl ?_
      refine zw_get_ref (p := 47) (Or.inr rfl) rfl rfl (fun q3 => ?_)
      refine zw_iconst (p := 48) (x := (3 : Int32)) (Or.inr rfl) rfl rfl rfl ?_
      refine zw_virtualI (p := 51) (as := [.ref q3, .int (3 : Int32)]) (rest := []) (Or.inr rfl) rfl rfl rfl rfl rfl rfl rfl (fun u1 M1 => ?_)
      exact zw_ireturn2 (Or.inr rfl) rfl rfl
    refine zw_aload_n (p := 32) (Or.inr rfl) rfl rfl rfl ?_
    refine zw_get_ref (p := 35) (Or.inr rfl) rfl rfl (fun q4 => ?_)
    refine zw_get_int (p := 38) (Or.inr rfl) rfl rfl ?_
    refine zw_bipush (p := 40) (x := (9 : Int32)) (Or.inr rfl) rfl rfl rfl ?_
    refine zw_icmp_le (t := 52) (p := 43) (Or.inr rfl) rfl rfl rfl ?_ ?_
    · refine zw_aload_n (p := 53) (Or.inr rfl) rfl rfl rfl ?_
      refine zw_get_ref (p := 56) (Or.inr rfl) rfl rfl (fun q5 => ?_)
      refine zw_virtualV (p := 59) (as := [.ref q5]) (rest := []) (Or.inr rfl) rfl rfl rfl rfl rfl rfl rfl (fun M2 => ?_)
      refine zw_iconst (p := 60) (x := (1 : Int32)) (Or.inr rfl) rfl rfl rfl ?_
      exact zw_ireturn2 (Or.inr rfl) rfl rfl
    refine zw_aload_n (p := 44) (Or.inr rfl) rfl rfl rfl ?_
    refine zw_get_ref (p := 47) (Or.inr rfl) rfl rfl (fun q6 => ?_)
    refine zw_iconst (p := 48) (x := (3 : Int32)) (Or.inr rfl) rfl rfl rfl ?_
    refine zw_virtualI (p := 51) (as := [.ref q6, .int (3 : Int32)]) (rest := []) (Or.inr rfl) rfl rfl rfl rfl rfl rfl rfl (fun u2 M3 => ?_)
    exact zw_ireturn2 (Or.inr rfl) rfl rfl
  refine zw_aload_n (p := 12) (Or.inr rfl) rfl rfl rfl ?_
  refine zw_get_ref (p := 15) (Or.inr rfl) rfl rfl (fun q7 => ?_)
  refine zw_iconst (p := 16) (x := (2 : Int32)) (Or.inr rfl) rfl rfl rfl ?_
  refine zw_virtualI (p := 19) (as := [.ref q7, .int (2 : Int32)]) (rest := []) (Or.inr rfl) rfl rfl rfl rfl rfl rfl rfl (fun u3 M4 => ?_)
  exact zw_ireturn2 (Or.inr rfl) rfl rfl
def zx_Re_readPart (E : zE0) (K : zKt) (a0 : Nat) (x1 : Int32) (M : zM) : zO :=
  zif ((zK M a0).1 = 3)
  (zoR (zR M a0 0) fun q1 =>
  zif ((zK M q1).1 = 6)
  (if (zI M q1 3) = (123 : Int32) then (if x1 < (8 : Int32) then (zif ((zK M a0).1 = 3)
      (zoR (zR M a0 0) fun q2 =>
      zif ((zK M q2).1 = 6)
      (zbV (E n_Ta_advance [.ref q2] M) fun M1 =>
      zif ((zK M1 a0).1 = 3)
      (zbI (E n_Re_readChoice [.ref a0, .int (x1 + (1 : Int32))] M1) fun u1 M2 =>
      if u1 ≠ 0 then (zif ((zK M2 a0).1 = 3)
        (zoR (zR M2 a0 0) fun q3 =>
        zif ((zK M2 q3).1 = 6)
        (if (zI M2 q3 3) = (125 : Int32) then (zif ((zK M2 a0).1 = 3)
          (zoR (zR M2 a0 0) fun q4 =>
          zif ((zK M2 q4).1 = 6)
          (zbV (E n_Ta_advance [.ref q4] M2) fun M3 =>
          zif ((1 : Int32) = 0 ∨ (1 : Int32) = 1) (some (some (.int (1 : Int32)), M3)))))
        else zif ((zK M2 a0).1 = 3)
        (zoR (zR M2 a0 0) fun q5 =>
        zif ((zK M2 q5).1 = 6)
        (zbI (E n_Ta_refuse [.ref q5, .int (2 : Int32)] M2) fun u2 M4 =>
        zif (u2 = 0 ∨ u2 = 1) (some (some (.int u2), M4)))))))
      else zif ((0 : Int32) = 0 ∨ (0 : Int32) = 1) (some (some (.int (0 : Int32)), M2))))))
    else zif ((zK M a0).1 = 3)
    (zoR (zR M a0 0) fun q6 =>
    zif ((zK M q6).1 = 6)
    (zbI (E n_Ta_refuse [.ref q6, .int (4 : Int32)] M) fun u3 M5 =>
    zif (u3 = 0 ∨ u3 = 1) (some (some (.int u3), M5)))))
  else zif ((zK M a0).1 = 3)
  (zbI (E n_Re_readCondition [.ref a0, .int x1] M) fun u4 M6 =>
  if u4 ≠ 0 then (zif ((zK M6 a0).1 = 3)
    (zoR (zR M6 a0 2) fun q7 =>
    zif ((zK M6 a0).1 = 3)
    (zoR (zR M6 a0 1) fun q8 =>
    zif ((zK M6 q7).1 = 1)
    (zbV (E n_Bu_condition [.ref q7, .ref q8] M6) fun M7 =>
    zif ((1 : Int32) = 0 ∨ (1 : Int32) = 1) (some (some (.int (1 : Int32)), M7))))))
  else zif ((0 : Int32) = 0 ∨ (0 : Int32) = 1) (some (some (.int (0 : Int32)), M6)))))
set_option maxRecDepth 20000 in
theorem ze_Re_readPart (d : Nat) (a0 : Nat) (x1 : Int32) (M : zM) : zV (d + 1) n_Re_readPart [.ref a0, .int x1] M = zx_Re_readPart (zV d) (zG d n_Re_readPart) a0 x1 M := by
  refine (zE_sg (m := zm_Re_readPart) rfl 400 _ rfl M).trans ?_
  show zw true zm_Re_readPart (zV d) (zG d n_Re_readPart) 400 0 [some (.ref a0), some (.int x1)] [] M = _
  unfold zx_Re_readPart
  refine zw_aload_n (p := 1) (Or.inl rfl) rfl rfl rfl ?_
  refine zw_get_ref (p := 4) (Or.inr rfl) rfl rfl (fun q1 => ?_)
  refine zw_get_int (p := 7) (Or.inr rfl) rfl rfl ?_
  refine zw_bipush (p := 9) (x := (123 : Int32)) (Or.inr rfl) rfl rfl rfl ?_
  refine zw_icmp_eq (t := 35) (p := 12) (Or.inr rfl) rfl rfl rfl ?_ ?_
  · refine zw_iload_n (p := 36) (Or.inr rfl) rfl rfl rfl ?_
    refine zw_bipush (p := 38) (x := (8 : Int32)) (Or.inr rfl) rfl rfl rfl ?_
    refine zw_icmp_lt (t := 50) (p := 41) (Or.inr rfl) rfl rfl rfl ?_ ?_
    · refine zw_aload_n (p := 51) (Or.inr rfl) rfl rfl rfl ?_
      refine zw_get_ref (p := 54) (Or.inr rfl) rfl rfl (fun q2 => ?_)
      refine zw_virtualV (p := 57) (as := [.ref q2]) (rest := []) (Or.inr rfl) rfl rfl rfl rfl rfl rfl rfl (fun M1 => ?_)
      refine zw_aload_n (p := 58) (Or.inr rfl) rfl rfl rfl ?_
      refine zw_iload_n (p := 59) (Or.inr rfl) rfl rfl rfl ?_
      refine zw_iconst (p := 60) (x := (1 : Int32)) (Or.inr rfl) rfl rfl rfl ?_
      refine zw_iadd (p := 61) (Or.inr rfl) rfl rfl ?_
      refine zw_virtualI (p := 64) (as := [.ref a0, .int (x1 + (1 : Int32))]) (rest := []) (Or.inr rfl) rfl rfl rfl rfl rfl rfl rfl (fun u1 M2 => ?_)
      refine zw_if_ne (t := 69) (p := 67) (Or.inr rfl) rfl rfl rfl ?_ ?_
      · refine zw_aload_n (p := 70) (Or.inr rfl) rfl rfl rfl ?_
        refine zw_get_ref (p := 73) (Or.inr rfl) rfl rfl (fun q3 => ?_)
        refine zw_get_int (p := 76) (Or.inr rfl) rfl rfl ?_
        refine zw_bipush (p := 78) (x := (125 : Int32)) (Or.inr rfl) rfl rfl rfl ?_
        refine zw_icmp_eq (t := 90) (p := 81) (Or.inr rfl) rfl rfl rfl ?_ ?_
        · refine zw_aload_n (p := 91) (Or.inr rfl) rfl rfl rfl ?_
          refine zw_get_ref (p := 94) (Or.inr rfl) rfl rfl (fun q4 => ?_)
          refine zw_virtualV (p := 97) (as := [.ref q4]) (rest := []) (Or.inr rfl) rfl rfl rfl rfl rfl rfl rfl (fun M3 => ?_)
          refine zw_iconst (p := 98) (x := (1 : Int32)) (Or.inr rfl) rfl rfl rfl ?_
          exact zw_ireturn2 (Or.inr rfl) rfl rfl
        refine zw_aload_n (p := 82) (Or.inr rfl) rfl rfl rfl ?_
        refine zw_get_ref (p := 85) (Or.inr rfl) rfl rfl (fun q5 => ?_)
        refine zw_iconst (p := 86) (x := (2 : Int32)) (Or.inr rfl) rfl rfl rfl ?_
        refine zw_virtualI (p := 89) (as := [.ref q5, .int (2 : Int32)]) (rest := []) (Or.inr rfl) rfl rfl rfl rfl rfl rfl rfl (fun u2 M4 => ?_)
        exact zw_ireturn2 (Or.inr rfl) rfl rfl
      refine zw_iconst (p := 68) (x := (0 : Int32)) (Or.inr rfl) rfl rfl rfl ?_
      exact zw_ireturn2 (Or.inr rfl) rfl rfl
    refine zw_aload_n (p := 42) (Or.inr rfl) rfl rfl rfl ?_
    refine zw_get_ref (p := 45) (Or.inr rfl) rfl rfl (fun q6 => ?_)
    refine zw_iconst (p := 46) (x := (4 : Int32)) (Or.inr rfl) rfl rfl rfl ?_
    refine zw_virtualI (p := 49) (as := [.ref q6, .int (4 : Int32)]) (rest := []) (Or.inr rfl) rfl rfl rfl rfl rfl rfl rfl (fun u3 M5 => ?_)
    exact zw_ireturn2 (Or.inr rfl) rfl rfl
  refine zw_aload_n (p := 13) (Or.inr rfl) rfl rfl rfl ?_
  refine zw_iload_n (p := 14) (Or.inr rfl) rfl rfl rfl ?_
  refine zw_virtualI (p := 17) (as := [.ref a0, .int x1]) (rest := []) (Or.inr rfl) rfl rfl rfl rfl rfl rfl rfl (fun u4 M6 => ?_)
  refine zw_if_ne (t := 22) (p := 20) (Or.inr rfl) rfl rfl rfl ?_ ?_
  · refine zw_aload_n (p := 23) (Or.inr rfl) rfl rfl rfl ?_
    refine zw_get_ref (p := 26) (Or.inr rfl) rfl rfl (fun q7 => ?_)
    refine zw_aload_n (p := 27) (Or.inr rfl) rfl rfl rfl ?_
    refine zw_get_ref (p := 30) (Or.inr rfl) rfl rfl (fun q8 => ?_)
    refine zw_virtualV (p := 33) (as := [.ref q7, .ref q8]) (rest := []) (Or.inr rfl) rfl rfl rfl rfl rfl rfl rfl (fun M7 => ?_)
    refine zw_iconst (p := 34) (x := (1 : Int32)) (Or.inr rfl) rfl rfl rfl ?_
    exact zw_ireturn2 (Or.inr rfl) rfl rfl
  refine zw_iconst (p := 21) (x := (0 : Int32)) (Or.inr rfl) rfl rfl rfl ?_
  exact zw_ireturn2 (Or.inr rfl) rfl rfl
def zx_Re_readCondition (E : zE0) (K : zKt) (a0 : Nat) (x1 : Int32) (M : zM) : zO :=
  K 4 [some (.ref a0), some (.int x1), some (.int (0 : Int32)), some (.int (0 : Int32))] [] M
set_option maxRecDepth 20000 in
theorem ze_Re_readCondition (d : Nat) (a0 : Nat) (x1 : Int32) (M : zM) : zV (d + 1) n_Re_readCondition [.ref a0, .int x1] M = zx_Re_readCondition (zV d) (zG d n_Re_readCondition) a0 x1 M := by
  refine (zE_sg (m := zm_Re_readCondition) rfl 400 _ rfl M).trans ?_
  show zw true zm_Re_readCondition (zV d) (zG d n_Re_readCondition) 400 0 [some (.ref a0), some (.int x1), none, none] [] M = _
  unfold zx_Re_readCondition
  refine zw_iconst (p := 1) (x := (0 : Int32)) (Or.inl rfl) rfl rfl rfl ?_
  refine zw_istore_n (p := 2) (l2 := [some (.ref a0), some (.int x1), some (.int (0 : Int32)), none]) (Or.inr rfl) rfl rfl rfl rfl ?_
  refine zw_iconst (p := 3) (x := (0 : Int32)) (Or.inr rfl) rfl rfl rfl ?_
  refine zw_istore_n (p := 4) (l2 := [some (.ref a0), some (.int x1), some (.int (0 : Int32)), some (.int (0 : Int32))]) (Or.inr rfl) rfl rfl rfl rfl ?_
  exact zw_end rfl rfl
def zx_Re_readCondition_4 (E : zE0) (K : zKt) (a0 : Nat) (x1 : Int32) (x2 : Int32) (x3 : Int32) (M : zM) : zO :=
  if (200 : Int32) ≤ x3 then (zif ((zK M a0).1 = 3)
    (zbI (E n_Re_readPlain [.ref a0, .int x1] M) fun u1 M1 =>
    if u1 ≠ 0 then (if x2 = 0 then (zif ((1 : Int32) = 0 ∨ (1 : Int32) = 1) (some (some (.int (1 : Int32)), M1)))
      else zif ((zK M1 a0).1 = 3)
      (zoR (zR M1 a0 1) fun q1 =>
      zif ((zK M1 q1).1 = 8)
      (zbV (E n_TS_negate [.ref q1] M1) fun M2 =>
      zif ((1 : Int32) = 0 ∨ (1 : Int32) = 1) (some (some (.int (1 : Int32)), M2)))))
    else zif ((0 : Int32) = 0 ∨ (0 : Int32) = 1) (some (some (.int (0 : Int32)), M1))))
  else zif ((zK M a0).1 = 3)
  (zoR (zR M a0 0) fun q2 =>
  zif ((zK M q2).1 = 6)
  (if (zI M q2 3) ≠ (33 : Int32) then (zif ((zK M a0).1 = 3)
    (zbI (E n_Re_readPlain [.ref a0, .int x1] M) fun u2 M3 =>
    if u2 ≠ 0 then (if x2 = 0 then (zif ((1 : Int32) = 0 ∨ (1 : Int32) = 1) (some (some (.int (1 : Int32)), M3)))
      else zif ((zK M3 a0).1 = 3)
      (zoR (zR M3 a0 1) fun q3 =>
      zif ((zK M3 q3).1 = 8)
      (zbV (E n_TS_negate [.ref q3] M3) fun M4 =>
      zif ((1 : Int32) = 0 ∨ (1 : Int32) = 1) (some (some (.int (1 : Int32)), M4)))))
    else zif ((0 : Int32) = 0 ∨ (0 : Int32) = 1) (some (some (.int (0 : Int32)), M3))))
  else if x2 ≠ 0 then (zif ((zK M a0).1 = 3)
    (zoR (zR M a0 0) fun q4 =>
    zif ((zK M q4).1 = 6)
    (zbV (E n_Ta_advance [.ref q4] M) fun M5 =>
    zbi (x3 + (1 : Int32)) fun u3 =>
    K 4 [some (.ref a0), some (.int x1), some (.int (0 : Int32)), some (.int u3)] [] M5)))
  else zif ((zK M a0).1 = 3)
  (zoR (zR M a0 0) fun q5 =>
  zif ((zK M q5).1 = 6)
  (zbV (E n_Ta_advance [.ref q5] M) fun M6 =>
  zbi (x3 + (1 : Int32)) fun u4 =>
  K 4 [some (.ref a0), some (.int x1), some (.int (1 : Int32)), some (.int u4)] [] M6))))
set_option maxRecDepth 20000 in
theorem zg_Re_readCondition_4 (d : Nat) (a0 : Nat) (x1 : Int32) (x2 : Int32) (x3 : Int32) (M : zM) : zG d n_Re_readCondition 4 [some (.ref a0), some (.int x1), some (.int x2), some (.int x3)] [] M = zx_Re_readCondition_4 (zV d) (zG d n_Re_readCondition) a0 x1 x2 x3 M := by
  refine (zG_sg (m := zm_Re_readCondition) rfl 400 _ _ _ M).trans ?_
  show zw true zm_Re_readCondition (zV d) (zG d n_Re_readCondition) 400 4 [some (.ref a0), some (.int x1), some (.int x2), some (.int x3)] [] M = _
  unfold zx_Re_readCondition_4
  refine zw_iload_n (p := 5) (Or.inl rfl) rfl rfl rfl ?_
  refine zw_sipush (p := 8) (x := (200 : Int32)) (Or.inr rfl) rfl rfl rfl ?_
  refine zw_icmp_ge (t := 46) (p := 11) (Or.inr rfl) rfl rfl rfl ?_ ?_
  · refine zw_aload_n (p := 47) (Or.inr rfl) rfl rfl rfl ?_
    refine zw_iload_n (p := 48) (Or.inr rfl) rfl rfl rfl ?_
    refine zw_virtualI (p := 51) (as := [.ref a0, .int x1]) (rest := []) (Or.inr rfl) rfl rfl rfl rfl rfl rfl rfl (fun u1 M1 => ?_)
    refine zw_if_ne (t := 56) (p := 54) (Or.inr rfl) rfl rfl rfl ?_ ?_
    · refine zw_iload_n (p := 57) (Or.inr rfl) rfl rfl rfl ?_
      refine zw_if_eq (t := 67) (p := 60) (Or.inr rfl) rfl rfl rfl ?_ ?_
      · refine zw_iconst (p := 68) (x := (1 : Int32)) (Or.inr rfl) rfl rfl rfl ?_
        exact zw_ireturn2 (Or.inr rfl) rfl rfl
      refine zw_aload_n (p := 61) (Or.inr rfl) rfl rfl rfl ?_
      refine zw_get_ref (p := 64) (Or.inr rfl) rfl rfl (fun q1 => ?_)
      refine zw_virtualV (p := 67) (as := [.ref q1]) (rest := []) (Or.inr rfl) rfl rfl rfl rfl rfl rfl rfl (fun M2 => ?_)
      refine zw_iconst (p := 68) (x := (1 : Int32)) (Or.inr rfl) rfl rfl rfl ?_
      exact zw_ireturn2 (Or.inr rfl) rfl rfl
    refine zw_iconst (p := 55) (x := (0 : Int32)) (Or.inr rfl) rfl rfl rfl ?_
    exact zw_ireturn2 (Or.inr rfl) rfl rfl
  refine zw_aload_n (p := 12) (Or.inr rfl) rfl rfl rfl ?_
  refine zw_get_ref (p := 15) (Or.inr rfl) rfl rfl (fun q2 => ?_)
  refine zw_get_int (p := 18) (Or.inr rfl) rfl rfl ?_
  refine zw_bipush (p := 20) (x := (33 : Int32)) (Or.inr rfl) rfl rfl rfl ?_
  refine zw_icmp_ne (t := 46) (p := 23) (Or.inr rfl) rfl rfl rfl ?_ ?_
  · refine zw_aload_n (p := 47) (Or.inr rfl) rfl rfl rfl ?_
    refine zw_iload_n (p := 48) (Or.inr rfl) rfl rfl rfl ?_
    refine zw_virtualI (p := 51) (as := [.ref a0, .int x1]) (rest := []) (Or.inr rfl) rfl rfl rfl rfl rfl rfl rfl (fun u2 M3 => ?_)
    refine zw_if_ne (t := 56) (p := 54) (Or.inr rfl) rfl rfl rfl ?_ ?_
    · refine zw_iload_n (p := 57) (Or.inr rfl) rfl rfl rfl ?_
      refine zw_if_eq (t := 67) (p := 60) (Or.inr rfl) rfl rfl rfl ?_ ?_
      · refine zw_iconst (p := 68) (x := (1 : Int32)) (Or.inr rfl) rfl rfl rfl ?_
        exact zw_ireturn2 (Or.inr rfl) rfl rfl
      refine zw_aload_n (p := 61) (Or.inr rfl) rfl rfl rfl ?_
      refine zw_get_ref (p := 64) (Or.inr rfl) rfl rfl (fun q3 => ?_)
      refine zw_virtualV (p := 67) (as := [.ref q3]) (rest := []) (Or.inr rfl) rfl rfl rfl rfl rfl rfl rfl (fun M4 => ?_)
      refine zw_iconst (p := 68) (x := (1 : Int32)) (Or.inr rfl) rfl rfl rfl ?_
      exact zw_ireturn2 (Or.inr rfl) rfl rfl
    refine zw_iconst (p := 55) (x := (0 : Int32)) (Or.inr rfl) rfl rfl rfl ?_
    exact zw_ireturn2 (Or.inr rfl) rfl rfl
  refine zw_iload_n (p := 24) (Or.inr rfl) rfl rfl rfl ?_
  refine zw_if_ne (t := 31) (p := 27) (Or.inr rfl) rfl rfl rfl ?_ ?_
  · refine zw_iconst (p := 32) (x := (0 : Int32)) (Or.inr rfl) rfl rfl rfl ?_
    refine zw_istore_n (p := 33) (l2 := [some (.ref a0), some (.int x1), some (.int (0 : Int32)), some (.int x3)]) (Or.inr rfl) rfl rfl rfl rfl ?_
    refine zw_aload_n (p := 34) (Or.inr rfl) rfl rfl rfl ?_
    refine zw_get_ref (p := 37) (Or.inr rfl) rfl rfl (fun q4 => ?_)
    refine zw_virtualV (p := 40) (as := [.ref q4]) (rest := []) (Or.inr rfl) rfl rfl rfl rfl rfl rfl rfl (fun M5 => ?_)
    refine zw_iinc (p := 43) (c := (1 : Int32)) (L2 := fun u3 => [some (.ref a0), some (.int x1), some (.int (0 : Int32)), some (.int u3)]) (Or.inr rfl) rfl rfl rfl rfl (fun _ => rfl) rfl (fun u3 => ?_)
    refine zw_goto (t := 4) (Or.inr rfl) rfl rfl ?_
    exact zw_end rfl rfl
  refine zw_iconst (p := 28) (x := (1 : Int32)) (Or.inr rfl) rfl rfl rfl ?_
  refine zw_goto (t := 32) (Or.inr rfl) rfl rfl ?_
  refine zw_istore_n (p := 33) (l2 := [some (.ref a0), some (.int x1), some (.int (1 : Int32)), some (.int x3)]) (Or.inr rfl) rfl rfl rfl rfl ?_
  refine zw_aload_n (p := 34) (Or.inr rfl) rfl rfl rfl ?_
  refine zw_get_ref (p := 37) (Or.inr rfl) rfl rfl (fun q5 => ?_)
  refine zw_virtualV (p := 40) (as := [.ref q5]) (rest := []) (Or.inr rfl) rfl rfl rfl rfl rfl rfl rfl (fun M6 => ?_)
  refine zw_iinc (p := 43) (c := (1 : Int32)) (L2 := fun u4 => [some (.ref a0), some (.int x1), some (.int (1 : Int32)), some (.int u4)]) (Or.inr rfl) rfl rfl rfl rfl (fun _ => rfl) rfl (fun u4 => ?_)
  refine zw_goto (t := 4) (Or.inr rfl) rfl rfl ?_
  exact zw_end rfl rfl
def zx_Re_readPlain (E : zE0) (K : zKt) (a0 : Nat) (x1 : Int32) (M : zM) : zO :=
  zif ((zK M a0).1 = 3)
  (zoR (zR M a0 0) fun q1 =>
  zif ((zK M q1).1 = 6)
  (if (zI M q1 3) ≠ (1 : Int32) then (zif ((zK M a0).1 = 3)
    (zoR (zR M a0 0) fun q2 =>
    zif ((zK M q2).1 = 6)
    (if (zI M q2 3) = (40 : Int32) then (if x1 < (8 : Int32) then (zif ((zK M a0).1 = 3)
        (zoR (zR M a0 0) fun q3 =>
        zif ((zK M q3).1 = 6)
        (zbV (E n_Ta_advance [.ref q3] M) fun M1 =>
        zif ((zK M1 a0).1 = 3)
        (zbI (E n_Re_readAnyOf [.ref a0, .int (x1 + (1 : Int32))] M1) fun u1 M2 =>
        if u1 ≠ 0 then (zif ((zK M2 a0).1 = 3)
          (zoR (zR M2 a0 0) fun q4 =>
          zif ((zK M2 q4).1 = 6)
          (if (zI M2 q4 3) = (41 : Int32) then (zif ((zK M2 a0).1 = 3)
            (zoR (zR M2 a0 0) fun q5 =>
            zif ((zK M2 q5).1 = 6)
            (zbV (E n_Ta_advance [.ref q5] M2) fun M3 =>
            zif ((1 : Int32) = 0 ∨ (1 : Int32) = 1) (some (some (.int (1 : Int32)), M3)))))
          else zif ((zK M2 a0).1 = 3)
          (zoR (zR M2 a0 0) fun q6 =>
          zif ((zK M2 q6).1 = 6)
          (zbI (E n_Ta_refuse [.ref q6, .int (2 : Int32)] M2) fun u2 M4 =>
          zif (u2 = 0 ∨ u2 = 1) (some (some (.int u2), M4)))))))
        else zif ((0 : Int32) = 0 ∨ (0 : Int32) = 1) (some (some (.int (0 : Int32)), M2))))))
      else zif ((zK M a0).1 = 3)
      (zoR (zR M a0 0) fun q7 =>
      zif ((zK M q7).1 = 6)
      (zbI (E n_Ta_refuse [.ref q7, .int (4 : Int32)] M) fun u3 M5 =>
      zif (u3 = 0 ∨ u3 = 1) (some (some (.int u3), M5)))))
    else zif ((zK M a0).1 = 3)
    (zoR (zR M a0 0) fun q8 =>
    zif ((zK M q8).1 = 6)
    (zbI (E n_Ta_refuse [.ref q8, .int (2 : Int32)] M) fun u4 M6 =>
    zif (u4 = 0 ∨ u4 = 1) (some (some (.int u4), M6)))))))
  else zif ((zK M a0).1 = 3)
  (zoR (zR M a0 1) fun q9 =>
  zif ((zK M a0).1 = 3)
  (zoR (zR M a0 0) fun q10 =>
  zif ((zK M q10).1 = 6)
  (zif ((zK M q9).1 = 8)
  (zbV (E n_TS_pushWire [.ref q9, .int (zI M q10 4)] M) fun M7 =>
  zif ((zK M7 a0).1 = 3)
  (zoR (zR M7 a0 0) fun q11 =>
  zif ((zK M7 q11).1 = 6)
  (zbV (E n_Ta_advance [.ref q11] M7) fun M8 =>
  zif ((1 : Int32) = 0 ∨ (1 : Int32) = 1) (some (some (.int (1 : Int32)), M8))))))))))
set_option maxRecDepth 20000 in
theorem ze_Re_readPlain (d : Nat) (a0 : Nat) (x1 : Int32) (M : zM) : zV (d + 1) n_Re_readPlain [.ref a0, .int x1] M = zx_Re_readPlain (zV d) (zG d n_Re_readPlain) a0 x1 M := by
  refine (zE_sg (m := zm_Re_readPlain) rfl 400 _ rfl M).trans ?_
  show zw true zm_Re_readPlain (zV d) (zG d n_Re_readPlain) 400 0 [some (.ref a0), some (.int x1)] [] M = _
  unfold zx_Re_readPlain
  refine zw_aload_n (p := 1) (Or.inl rfl) rfl rfl rfl ?_
  refine zw_get_ref (p := 4) (Or.inr rfl) rfl rfl (fun q1 => ?_)
  refine zw_get_int (p := 7) (Or.inr rfl) rfl rfl ?_
  refine zw_iconst (p := 8) (x := (1 : Int32)) (Or.inr rfl) rfl rfl rfl ?_
  refine zw_icmp_ne (t := 34) (p := 11) (Or.inr rfl) rfl rfl rfl ?_ ?_
  · refine zw_aload_n (p := 35) (Or.inr rfl) rfl rfl rfl ?_
    refine zw_get_ref (p := 38) (Or.inr rfl) rfl rfl (fun q2 => ?_)
    refine zw_get_int (p := 41) (Or.inr rfl) rfl rfl ?_
    refine zw_bipush (p := 43) (x := (40 : Int32)) (Or.inr rfl) rfl rfl rfl ?_
    refine zw_icmp_eq (t := 55) (p := 46) (Or.inr rfl) rfl rfl rfl ?_ ?_
    · refine zw_iload_n (p := 56) (Or.inr rfl) rfl rfl rfl ?_
      refine zw_bipush (p := 58) (x := (8 : Int32)) (Or.inr rfl) rfl rfl rfl ?_
      refine zw_icmp_lt (t := 70) (p := 61) (Or.inr rfl) rfl rfl rfl ?_ ?_
      · refine zw_aload_n (p := 71) (Or.inr rfl) rfl rfl rfl ?_
        refine zw_get_ref (p := 74) (Or.inr rfl) rfl rfl (fun q3 => ?_)
        refine zw_virtualV (p := 77) (as := [.ref q3]) (rest := []) (Or.inr rfl) rfl rfl rfl rfl rfl rfl rfl (fun M1 => ?_)
        refine zw_aload_n (p := 78) (Or.inr rfl) rfl rfl rfl ?_
        refine zw_iload_n (p := 79) (Or.inr rfl) rfl rfl rfl ?_
        refine zw_iconst (p := 80) (x := (1 : Int32)) (Or.inr rfl) rfl rfl rfl ?_
        refine zw_iadd (p := 81) (Or.inr rfl) rfl rfl ?_
        refine zw_virtualI (p := 84) (as := [.ref a0, .int (x1 + (1 : Int32))]) (rest := []) (Or.inr rfl) rfl rfl rfl rfl rfl rfl rfl (fun u1 M2 => ?_)
        refine zw_if_ne (t := 89) (p := 87) (Or.inr rfl) rfl rfl rfl ?_ ?_
        · refine zw_aload_n (p := 90) (Or.inr rfl) rfl rfl rfl ?_
          refine zw_get_ref (p := 93) (Or.inr rfl) rfl rfl (fun q4 => ?_)
          refine zw_get_int (p := 96) (Or.inr rfl) rfl rfl ?_
          refine zw_bipush (p := 98) (x := (41 : Int32)) (Or.inr rfl) rfl rfl rfl ?_
          refine zw_icmp_eq (t := 110) (p := 101) (Or.inr rfl) rfl rfl rfl ?_ ?_
          · refine zw_aload_n (p := 111) (Or.inr rfl) rfl rfl rfl ?_
            refine zw_get_ref (p := 114) (Or.inr rfl) rfl rfl (fun q5 => ?_)
            refine zw_virtualV (p := 117) (as := [.ref q5]) (rest := []) (Or.inr rfl) rfl rfl rfl rfl rfl rfl rfl (fun M3 => ?_)
            refine zw_iconst (p := 118) (x := (1 : Int32)) (Or.inr rfl) rfl rfl rfl ?_
            exact zw_ireturn2 (Or.inr rfl) rfl rfl
          refine zw_aload_n (p := 102) (Or.inr rfl) rfl rfl rfl ?_
          refine zw_get_ref (p := 105) (Or.inr rfl) rfl rfl (fun q6 => ?_)
          refine zw_iconst (p := 106) (x := (2 : Int32)) (Or.inr rfl) rfl rfl rfl ?_
          refine zw_virtualI (p := 109) (as := [.ref q6, .int (2 : Int32)]) (rest := []) (Or.inr rfl) rfl rfl rfl rfl rfl rfl rfl (fun u2 M4 => ?_)
          exact zw_ireturn2 (Or.inr rfl) rfl rfl
        refine zw_iconst (p := 88) (x := (0 : Int32)) (Or.inr rfl) rfl rfl rfl ?_
        exact zw_ireturn2 (Or.inr rfl) rfl rfl
      refine zw_aload_n (p := 62) (Or.inr rfl) rfl rfl rfl ?_
      refine zw_get_ref (p := 65) (Or.inr rfl) rfl rfl (fun q7 => ?_)
      refine zw_iconst (p := 66) (x := (4 : Int32)) (Or.inr rfl) rfl rfl rfl ?_
      refine zw_virtualI (p := 69) (as := [.ref q7, .int (4 : Int32)]) (rest := []) (Or.inr rfl) rfl rfl rfl rfl rfl rfl rfl (fun u3 M5 => ?_)
      exact zw_ireturn2 (Or.inr rfl) rfl rfl
    refine zw_aload_n (p := 47) (Or.inr rfl) rfl rfl rfl ?_
    refine zw_get_ref (p := 50) (Or.inr rfl) rfl rfl (fun q8 => ?_)
    refine zw_iconst (p := 51) (x := (2 : Int32)) (Or.inr rfl) rfl rfl rfl ?_
    refine zw_virtualI (p := 54) (as := [.ref q8, .int (2 : Int32)]) (rest := []) (Or.inr rfl) rfl rfl rfl rfl rfl rfl rfl (fun u4 M6 => ?_)
    exact zw_ireturn2 (Or.inr rfl) rfl rfl
  refine zw_aload_n (p := 12) (Or.inr rfl) rfl rfl rfl ?_
  refine zw_get_ref (p := 15) (Or.inr rfl) rfl rfl (fun q9 => ?_)
  refine zw_aload_n (p := 16) (Or.inr rfl) rfl rfl rfl ?_
  refine zw_get_ref (p := 19) (Or.inr rfl) rfl rfl (fun q10 => ?_)
  refine zw_get_int (p := 22) (Or.inr rfl) rfl rfl ?_
  refine zw_virtualV (p := 25) (as := [.ref q9, .int (zI M q10 4)]) (rest := []) (Or.inr rfl) rfl rfl rfl rfl rfl rfl rfl (fun M7 => ?_)
  refine zw_aload_n (p := 26) (Or.inr rfl) rfl rfl rfl ?_
  refine zw_get_ref (p := 29) (Or.inr rfl) rfl rfl (fun q11 => ?_)
  refine zw_virtualV (p := 32) (as := [.ref q11]) (rest := []) (Or.inr rfl) rfl rfl rfl rfl rfl rfl rfl (fun M8 => ?_)
  refine zw_iconst (p := 33) (x := (1 : Int32)) (Or.inr rfl) rfl rfl rfl ?_
  exact zw_ireturn2 (Or.inr rfl) rfl rfl
def zx_Re_readAnyOf (E : zE0) (K : zKt) (a0 : Nat) (x1 : Int32) (M : zM) : zO :=
  zif ((zK M a0).1 = 3)
  (zbI (E n_Re_readAllOf [.ref a0, .int x1] M) fun u1 M1 =>
  if u1 ≠ 0 then (K 12 [some (.ref a0), some (.int x1), some (.int (0 : Int32))] [] M1)
  else zif ((0 : Int32) = 0 ∨ (0 : Int32) = 1) (some (some (.int (0 : Int32)), M1)))
set_option maxRecDepth 20000 in
theorem ze_Re_readAnyOf (d : Nat) (a0 : Nat) (x1 : Int32) (M : zM) : zV (d + 1) n_Re_readAnyOf [.ref a0, .int x1] M = zx_Re_readAnyOf (zV d) (zG d n_Re_readAnyOf) a0 x1 M := by
  refine (zE_sg (m := zm_Re_readAnyOf) rfl 400 _ rfl M).trans ?_
  show zw true zm_Re_readAnyOf (zV d) (zG d n_Re_readAnyOf) 400 0 [some (.ref a0), some (.int x1), none] [] M = _
  unfold zx_Re_readAnyOf
  refine zw_aload_n (p := 1) (Or.inl rfl) rfl rfl rfl ?_
  refine zw_iload_n (p := 2) (Or.inr rfl) rfl rfl rfl ?_
  refine zw_virtualI (p := 5) (as := [.ref a0, .int x1]) (rest := []) (Or.inr rfl) rfl rfl rfl rfl rfl rfl rfl (fun u1 M1 => ?_)
  refine zw_if_ne (t := 10) (p := 8) (Or.inr rfl) rfl rfl rfl ?_ ?_
  · refine zw_iconst (p := 11) (x := (0 : Int32)) (Or.inr rfl) rfl rfl rfl ?_
    refine zw_istore_n (p := 12) (l2 := [some (.ref a0), some (.int x1), some (.int (0 : Int32))]) (Or.inr rfl) rfl rfl rfl rfl ?_
    exact zw_end rfl rfl
  refine zw_iconst (p := 9) (x := (0 : Int32)) (Or.inr rfl) rfl rfl rfl ?_
  exact zw_ireturn2 (Or.inr rfl) rfl rfl
def zx_Re_readAnyOf_12 (E : zE0) (K : zKt) (a0 : Nat) (x1 : Int32) (x2 : Int32) (M : zM) : zO :=
  if (200 : Int32) ≤ x2 then (zif ((1 : Int32) = 0 ∨ (1 : Int32) = 1) (some (some (.int (1 : Int32)), M)))
  else zif ((zK M a0).1 = 3)
  (zoR (zR M a0 0) fun q1 =>
  zif ((zK M q1).1 = 6)
  (if (zI M q1 3) ≠ (124 : Int32) then (zif ((1 : Int32) = 0 ∨ (1 : Int32) = 1) (some (some (.int (1 : Int32)), M)))
  else zif ((zK M a0).1 = 3)
  (zoR (zR M a0 0) fun q2 =>
  zif ((zK M q2).1 = 6)
  (zbV (E n_Ta_advance [.ref q2] M) fun M1 =>
  zif ((zK M1 a0).1 = 3)
  (zbI (E n_Re_readAllOf [.ref a0, .int x1] M1) fun u1 M2 =>
  if u1 ≠ 0 then (zif ((zK M2 a0).1 = 3)
    (zoR (zR M2 a0 1) fun q3 =>
    zif ((zK M2 q3).1 = 8)
    (zbV (E n_TS_joinTwo [.ref q3, .int (0 : Int32)] M2) fun M3 =>
    zbi (x2 + (1 : Int32)) fun u2 =>
    K 12 [some (.ref a0), some (.int x1), some (.int u2)] [] M3)))
  else zif ((0 : Int32) = 0 ∨ (0 : Int32) = 1) (some (some (.int (0 : Int32)), M2)))))))
set_option maxRecDepth 20000 in
theorem zg_Re_readAnyOf_12 (d : Nat) (a0 : Nat) (x1 : Int32) (x2 : Int32) (M : zM) : zG d n_Re_readAnyOf 12 [some (.ref a0), some (.int x1), some (.int x2)] [] M = zx_Re_readAnyOf_12 (zV d) (zG d n_Re_readAnyOf) a0 x1 x2 M := by
  refine (zG_sg (m := zm_Re_readAnyOf) rfl 400 _ _ _ M).trans ?_
  show zw true zm_Re_readAnyOf (zV d) (zG d n_Re_readAnyOf) 400 12 [some (.ref a0), some (.int x1), some (.int x2)] [] M = _
  unfold zx_Re_readAnyOf_12
  refine zw_iload_n (p := 13) (Or.inl rfl) rfl rfl rfl ?_
  refine zw_sipush (p := 16) (x := (200 : Int32)) (Or.inr rfl) rfl rfl rfl ?_
  refine zw_icmp_ge (t := 62) (p := 19) (Or.inr rfl) rfl rfl rfl ?_ ?_
  · refine zw_iconst (p := 63) (x := (1 : Int32)) (Or.inr rfl) rfl rfl rfl ?_
    exact zw_ireturn2 (Or.inr rfl) rfl rfl
  refine zw_aload_n (p := 20) (Or.inr rfl) rfl rfl rfl ?_
  refine zw_get_ref (p := 23) (Or.inr rfl) rfl rfl (fun q1 => ?_)
  refine zw_get_int (p := 26) (Or.inr rfl) rfl rfl ?_
  refine zw_bipush (p := 28) (x := (124 : Int32)) (Or.inr rfl) rfl rfl rfl ?_
  refine zw_icmp_ne (t := 62) (p := 31) (Or.inr rfl) rfl rfl rfl ?_ ?_
  · refine zw_iconst (p := 63) (x := (1 : Int32)) (Or.inr rfl) rfl rfl rfl ?_
    exact zw_ireturn2 (Or.inr rfl) rfl rfl
  refine zw_aload_n (p := 32) (Or.inr rfl) rfl rfl rfl ?_
  refine zw_get_ref (p := 35) (Or.inr rfl) rfl rfl (fun q2 => ?_)
  refine zw_virtualV (p := 38) (as := [.ref q2]) (rest := []) (Or.inr rfl) rfl rfl rfl rfl rfl rfl rfl (fun M1 => ?_)
  refine zw_aload_n (p := 39) (Or.inr rfl) rfl rfl rfl ?_
  refine zw_iload_n (p := 40) (Or.inr rfl) rfl rfl rfl ?_
  refine zw_virtualI (p := 43) (as := [.ref a0, .int x1]) (rest := []) (Or.inr rfl) rfl rfl rfl rfl rfl rfl rfl (fun u1 M2 => ?_)
  refine zw_if_ne (t := 48) (p := 46) (Or.inr rfl) rfl rfl rfl ?_ ?_
  · refine zw_aload_n (p := 49) (Or.inr rfl) rfl rfl rfl ?_
    refine zw_get_ref (p := 52) (Or.inr rfl) rfl rfl (fun q3 => ?_)
    refine zw_iconst (p := 53) (x := (0 : Int32)) (Or.inr rfl) rfl rfl rfl ?_
    refine zw_virtualV (p := 56) (as := [.ref q3, .int (0 : Int32)]) (rest := []) (Or.inr rfl) rfl rfl rfl rfl rfl rfl rfl (fun M3 => ?_)
    refine zw_iinc (p := 59) (c := (1 : Int32)) (L2 := fun u2 => [some (.ref a0), some (.int x1), some (.int u2)]) (Or.inr rfl) rfl rfl rfl rfl (fun _ => rfl) rfl (fun u2 => ?_)
    refine zw_goto (t := 12) (Or.inr rfl) rfl rfl ?_
    exact zw_end rfl rfl
  refine zw_iconst (p := 47) (x := (0 : Int32)) (Or.inr rfl) rfl rfl rfl ?_
  exact zw_ireturn2 (Or.inr rfl) rfl rfl
def zx_Re_readAllOf (E : zE0) (K : zKt) (a0 : Nat) (x1 : Int32) (M : zM) : zO :=
  zif ((zK M a0).1 = 3)
  (zbI (E n_Re_readCondition [.ref a0, .int x1] M) fun u1 M1 =>
  if u1 ≠ 0 then (K 12 [some (.ref a0), some (.int x1), some (.int (0 : Int32))] [] M1)
  else zif ((0 : Int32) = 0 ∨ (0 : Int32) = 1) (some (some (.int (0 : Int32)), M1)))
set_option maxRecDepth 20000 in
theorem ze_Re_readAllOf (d : Nat) (a0 : Nat) (x1 : Int32) (M : zM) : zV (d + 1) n_Re_readAllOf [.ref a0, .int x1] M = zx_Re_readAllOf (zV d) (zG d n_Re_readAllOf) a0 x1 M := by
  refine (zE_sg (m := zm_Re_readAllOf) rfl 400 _ rfl M).trans ?_
  show zw true zm_Re_readAllOf (zV d) (zG d n_Re_readAllOf) 400 0 [some (.ref a0), some (.int x1), none] [] M = _
  unfold zx_Re_readAllOf
  refine zw_aload_n (p := 1) (Or.inl rfl) rfl rfl rfl ?_
  refine zw_iload_n (p := 2) (Or.inr rfl) rfl rfl rfl ?_
  refine zw_virtualI (p := 5) (as := [.ref a0, .int x1]) (rest := []) (Or.inr rfl) rfl rfl rfl rfl rfl rfl rfl (fun u1 M1 => ?_)
  refine zw_if_ne (t := 10) (p := 8) (Or.inr rfl) rfl rfl rfl ?_ ?_
  · refine zw_iconst (p := 11) (x := (0 : Int32)) (Or.inr rfl) rfl rfl rfl ?_
    refine zw_istore_n (p := 12) (l2 := [some (.ref a0), some (.int x1), some (.int (0 : Int32))]) (Or.inr rfl) rfl rfl rfl rfl ?_
    exact zw_end rfl rfl
  refine zw_iconst (p := 9) (x := (0 : Int32)) (Or.inr rfl) rfl rfl rfl ?_
  exact zw_ireturn2 (Or.inr rfl) rfl rfl
def zx_Re_readAllOf_12 (E : zE0) (K : zKt) (a0 : Nat) (x1 : Int32) (x2 : Int32) (M : zM) : zO :=
  if (200 : Int32) ≤ x2 then (zif ((1 : Int32) = 0 ∨ (1 : Int32) = 1) (some (some (.int (1 : Int32)), M)))
  else zif ((zK M a0).1 = 3)
  (zoR (zR M a0 0) fun q1 =>
  zif ((zK M q1).1 = 6)
  (if (zI M q1 3) ≠ (38 : Int32) then (zif ((1 : Int32) = 0 ∨ (1 : Int32) = 1) (some (some (.int (1 : Int32)), M)))
  else zif ((zK M a0).1 = 3)
  (zoR (zR M a0 0) fun q2 =>
  zif ((zK M q2).1 = 6)
  (zbV (E n_Ta_advance [.ref q2] M) fun M1 =>
  zif ((zK M1 a0).1 = 3)
  (zbI (E n_Re_readCondition [.ref a0, .int x1] M1) fun u1 M2 =>
  if u1 ≠ 0 then (zif ((zK M2 a0).1 = 3)
    (zoR (zR M2 a0 1) fun q3 =>
    zif ((zK M2 q3).1 = 8)
    (zbV (E n_TS_joinTwo [.ref q3, .int (1 : Int32)] M2) fun M3 =>
    zbi (x2 + (1 : Int32)) fun u2 =>
    K 12 [some (.ref a0), some (.int x1), some (.int u2)] [] M3)))
  else zif ((0 : Int32) = 0 ∨ (0 : Int32) = 1) (some (some (.int (0 : Int32)), M2)))))))
set_option maxRecDepth 20000 in
theorem zg_Re_readAllOf_12 (d : Nat) (a0 : Nat) (x1 : Int32) (x2 : Int32) (M : zM) : zG d n_Re_readAllOf 12 [some (.ref a0), some (.int x1), some (.int x2)] [] M = zx_Re_readAllOf_12 (zV d) (zG d n_Re_readAllOf) a0 x1 x2 M := by
  refine (zG_sg (m := zm_Re_readAllOf) rfl 400 _ _ _ M).trans ?_
  show zw true zm_Re_readAllOf (zV d) (zG d n_Re_readAllOf) 400 12 [some (.ref a0), some (.int x1), some (.int x2)] [] M = _
  unfold zx_Re_readAllOf_12
  refine zw_iload_n (p := 13) (Or.inl rfl) rfl rfl rfl ?_
  refine zw_sipush (p := 16) (x := (200 : Int32)) (Or.inr rfl) rfl rfl rfl ?_
  refine zw_icmp_ge (t := 62) (p := 19) (Or.inr rfl) rfl rfl rfl ?_ ?_
  · refine zw_iconst (p := 63) (x := (1 : Int32)) (Or.inr rfl) rfl rfl rfl ?_
    exact zw_ireturn2 (Or.inr rfl) rfl rfl
  refine zw_aload_n (p := 20) (Or.inr rfl) rfl rfl rfl ?_
  refine zw_get_ref (p := 23) (Or.inr rfl) rfl rfl (fun q1 => ?_)
  refine zw_get_int (p := 26) (Or.inr rfl) rfl rfl ?_
  refine zw_bipush (p := 28) (x := (38 : Int32)) (Or.inr rfl) rfl rfl rfl ?_
  refine zw_icmp_ne (t := 62) (p := 31) (Or.inr rfl) rfl rfl rfl ?_ ?_
  · refine zw_iconst (p := 63) (x := (1 : Int32)) (Or.inr rfl) rfl rfl rfl ?_
    exact zw_ireturn2 (Or.inr rfl) rfl rfl
  refine zw_aload_n (p := 32) (Or.inr rfl) rfl rfl rfl ?_
  refine zw_get_ref (p := 35) (Or.inr rfl) rfl rfl (fun q2 => ?_)
  refine zw_virtualV (p := 38) (as := [.ref q2]) (rest := []) (Or.inr rfl) rfl rfl rfl rfl rfl rfl rfl (fun M1 => ?_)
  refine zw_aload_n (p := 39) (Or.inr rfl) rfl rfl rfl ?_
  refine zw_iload_n (p := 40) (Or.inr rfl) rfl rfl rfl ?_
  refine zw_virtualI (p := 43) (as := [.ref a0, .int x1]) (rest := []) (Or.inr rfl) rfl rfl rfl rfl rfl rfl rfl (fun u1 M2 => ?_)
  refine zw_if_ne (t := 48) (p := 46) (Or.inr rfl) rfl rfl rfl ?_ ?_
  · refine zw_aload_n (p := 49) (Or.inr rfl) rfl rfl rfl ?_
    refine zw_get_ref (p := 52) (Or.inr rfl) rfl rfl (fun q3 => ?_)
    refine zw_iconst (p := 53) (x := (1 : Int32)) (Or.inr rfl) rfl rfl rfl ?_
    refine zw_virtualV (p := 56) (as := [.ref q3, .int (1 : Int32)]) (rest := []) (Or.inr rfl) rfl rfl rfl rfl rfl rfl rfl (fun M3 => ?_)
    refine zw_iinc (p := 59) (c := (1 : Int32)) (L2 := fun u2 => [some (.ref a0), some (.int x1), some (.int u2)]) (Or.inr rfl) rfl rfl rfl rfl (fun _ => rfl) rfl (fun u2 => ?_)
    refine zw_goto (t := 12) (Or.inr rfl) rfl rfl ?_
    exact zw_end rfl rfl
  refine zw_iconst (p := 47) (x := (0 : Int32)) (Or.inr rfl) rfl rfl rfl ?_
  exact zw_ireturn2 (Or.inr rfl) rfl rfl
def zx_Se_clear (E : zE0) (K : zKt) (a0 : Nat) (M : zM) : zO :=
  zif ((zK M a0).1 = 4)
  (zbm (zsI M a0 6 (0 : Int32)) fun M1 =>
  zif ((zK M1 a0).1 = 4)
  (zbm (zsI M1 a0 7 (0 : Int32)) fun M2 =>
  zif ((zK M2 a0).1 = 4 ∧ ((0 : Int32) = 0 ∨ (0 : Int32) = 1))
  (zbm (zsI M2 a0 10 (0 : Int32)) fun M3 =>
  some (none, M3))))
set_option maxRecDepth 20000 in
theorem ze_Se_clear (d : Nat) (a0 : Nat) (M : zM) : zV (d + 1) n_Se_clear [.ref a0] M = zx_Se_clear (zV d) (zG d n_Se_clear) a0 M := by
  refine (zE_sg (m := zm_Se_clear) rfl 400 _ rfl M).trans ?_
  show zw true zm_Se_clear (zV d) (zG d n_Se_clear) 400 0 [some (.ref a0)] [] M = _
  unfold zx_Se_clear
  refine zw_aload_n (p := 1) (Or.inl rfl) rfl rfl rfl ?_
  refine zw_iconst (p := 2) (x := (0 : Int32)) (Or.inr rfl) rfl rfl rfl ?_
  refine zw_put_int (p := 5) (Or.inr rfl) rfl rfl (fun M1 => ?_)
  refine zw_aload_n (p := 6) (Or.inr rfl) rfl rfl rfl ?_
  refine zw_iconst (p := 7) (x := (0 : Int32)) (Or.inr rfl) rfl rfl rfl ?_
  refine zw_put_int (p := 10) (Or.inr rfl) rfl rfl (fun M2 => ?_)
  refine zw_aload_n (p := 11) (Or.inr rfl) rfl rfl rfl ?_
  refine zw_iconst (p := 12) (x := (0 : Int32)) (Or.inr rfl) rfl rfl rfl ?_
  refine zw_put_boo (p := 15) (Or.inr rfl) rfl rfl (fun M3 => ?_)
  exact zw_return (Or.inr rfl) rfl rfl
def zx_Se_addCondition (E : zE0) (K : zKt) (a0 : Nat) (a1 : Nat) (M : zM) : zO :=
  zif ((zK M a0).1 = 4)
  (if (40 : Int32) ≤ (zI M a0 7) then (zif ((zK M a0).1 = 4 ∧ ((1 : Int32) = 0 ∨ (1 : Int32) = 1))
    (zbm (zsI M a0 10 (1 : Int32)) fun M1 =>
    K 23 [some (.ref a0), some (.ref a1)] [] M1))
  else zif ((zK M a0).1 = 4)
  (if (zI M a0 6) < (40 : Int32) then (K 23 [some (.ref a0), some (.ref a1)] [] M)
  else zif ((zK M a0).1 = 4 ∧ ((1 : Int32) = 0 ∨ (1 : Int32) = 1))
  (zbm (zsI M a0 10 (1 : Int32)) fun M2 =>
  K 23 [some (.ref a0), some (.ref a1)] [] M2)))
set_option maxRecDepth 20000 in
theorem ze_Se_addCondition (d : Nat) (a0 : Nat) (a1 : Nat) (M : zM) : zV (d + 1) n_Se_addCondition [.ref a0, .ref a1] M = zx_Se_addCondition (zV d) (zG d n_Se_addCondition) a0 a1 M := by
  refine (zE_sg (m := zm_Se_addCondition) rfl 400 _ rfl M).trans ?_
  show zw true zm_Se_addCondition (zV d) (zG d n_Se_addCondition) 400 0 [some (.ref a0), some (.ref a1)] [] M = _
  unfold zx_Se_addCondition
  refine zw_aload_n (p := 1) (Or.inl rfl) rfl rfl rfl ?_
  refine zw_get_int (p := 4) (Or.inr rfl) rfl rfl ?_
  refine zw_bipush (p := 6) (x := (40 : Int32)) (Or.inr rfl) rfl rfl rfl ?_
  refine zw_icmp_ge (t := 18) (p := 9) (Or.inr rfl) rfl rfl rfl ?_ ?_
  · refine zw_aload_n (p := 19) (Or.inr rfl) rfl rfl rfl ?_
    refine zw_iconst (p := 20) (x := (1 : Int32)) (Or.inr rfl) rfl rfl rfl ?_
    refine zw_put_boo (p := 23) (Or.inr rfl) rfl rfl (fun M1 => ?_)
    exact zw_end rfl rfl
  refine zw_aload_n (p := 10) (Or.inr rfl) rfl rfl rfl ?_
  refine zw_get_int (p := 13) (Or.inr rfl) rfl rfl ?_
  refine zw_bipush (p := 15) (x := (40 : Int32)) (Or.inr rfl) rfl rfl rfl ?_
  refine zw_icmp_lt (t := 23) (p := 18) (Or.inr rfl) rfl rfl rfl ?_ ?_
  · exact zw_end rfl rfl
  refine zw_aload_n (p := 19) (Or.inr rfl) rfl rfl rfl ?_
  refine zw_iconst (p := 20) (x := (1 : Int32)) (Or.inr rfl) rfl rfl rfl ?_
  refine zw_put_boo (p := 23) (Or.inr rfl) rfl rfl (fun M2 => ?_)
  exact zw_end rfl rfl
def zx_Se_addCondition_23 (E : zE0) (K : zKt) (a0 : Nat) (a1 : Nat) (M : zM) : zO :=
  zif ((zK M a0).1 = 4)
  (if (zI M a0 10) = 0 then (zif ((zK M a0).1 = 4)
    (zoR (zR M a0 2) fun q1 =>
    zif ((zK M a0).1 = 4)
    (zif ((zK M a1).1 = 8)
    (zbV (E n_TS_moveTop [.ref a1, .ref q1, .int (zI M a0 6)] M) fun M1 =>
    zif ((zK M1 a0).1 = 4)
    (zif ((zK M1 a0).1 = 4)
    (zbm (zsI M1 a0 7 ((zI M1 a0 7) + (1 : Int32))) fun M2 =>
    zif ((zK M2 a0).1 = 4)
    (zoR (zR M2 a0 0) fun q2 =>
    zif ((zK M2 a0).1 = 4)
    (zif ((zK M2 q2).1 = 23 ∧ zin (zI M2 a0 7) (zK M2 q2).2 = true)
    (zbm (zsL M2 q2 (Int32.toNatClampNeg (zI M2 a0 7)) (0 : Int64)) fun M3 =>
    zif ((zK M3 a0).1 = 4)
    (zoR (zR M3 a0 1) fun q3 =>
    zif ((zK M3 a0).1 = 4)
    (zif ((zK M3 a0).1 = 4)
    (zif ((zK M3 q3).1 = 23 ∧ zin (zI M3 a0 6) (zK M3 q3).2 = true)
    (zbm (zsL M3 q3 (Int32.toNatClampNeg (zI M3 a0 6)) ((1 : Int64) <<< (Int32.toInt64 (zI M3 a0 7) &&& 63))) fun M4 =>
    zif ((zK M4 a0).1 = 4)
    (zif ((zK M4 a0).1 = 4)
    (zbm (zsI M4 a0 6 ((zI M4 a0 6) + (1 : Int32))) fun M5 =>
    zif ((zK M5 a0).1 = 4)
    (some (some (.long ((1 : Int64) <<< (Int32.toInt64 (zI M5 a0 7) &&& 63))), M5)))))))))))))))))
  else zif ((zK M a1).1 = 8)
  (zbV (E n_TS_drop [.ref a1] M) fun M6 =>
  some (some (.long (0 : Int64)), M6)))
set_option maxRecDepth 20000 in
theorem zg_Se_addCondition_23 (d : Nat) (a0 : Nat) (a1 : Nat) (M : zM) : zG d n_Se_addCondition 23 [some (.ref a0), some (.ref a1)] [] M = zx_Se_addCondition_23 (zV d) (zG d n_Se_addCondition) a0 a1 M := by
  refine (zG_sg (m := zm_Se_addCondition) rfl 400 _ _ _ M).trans ?_
  show zw true zm_Se_addCondition (zV d) (zG d n_Se_addCondition) 400 23 [some (.ref a0), some (.ref a1)] [] M = _
  unfold zx_Se_addCondition_23
  refine zw_aload_n (p := 24) (Or.inl rfl) rfl rfl rfl ?_
  refine zw_get_int (p := 27) (Or.inr rfl) rfl rfl ?_
  refine zw_if_eq (t := 36) (p := 30) (Or.inr rfl) rfl rfl rfl ?_ ?_
  · refine zw_aload_n (p := 37) (Or.inr rfl) rfl rfl rfl ?_
    refine zw_aload_n (p := 38) (Or.inr rfl) rfl rfl rfl ?_
    refine zw_get_ref (p := 41) (Or.inr rfl) rfl rfl (fun q1 => ?_)
    refine zw_aload_n (p := 42) (Or.inr rfl) rfl rfl rfl ?_
    refine zw_get_int (p := 45) (Or.inr rfl) rfl rfl ?_
    refine zw_virtualV (p := 48) (as := [.ref a1, .ref q1, .int (zI M a0 6)]) (rest := []) (Or.inr rfl) rfl rfl rfl rfl rfl rfl rfl (fun M1 => ?_)
    refine zw_aload_n (p := 49) (Or.inr rfl) rfl rfl rfl ?_
    refine zw_dup_ref (p := 50) (Or.inr rfl) rfl rfl ?_
    refine zw_get_int (p := 53) (Or.inr rfl) rfl rfl ?_
    refine zw_iconst (p := 54) (x := (1 : Int32)) (Or.inr rfl) rfl rfl rfl ?_
    refine zw_iadd (p := 55) (Or.inr rfl) rfl rfl ?_
    refine zw_put_int (p := 58) (Or.inr rfl) rfl rfl (fun M2 => ?_)
    refine zw_aload_n (p := 59) (Or.inr rfl) rfl rfl rfl ?_
    refine zw_get_ref (p := 62) (Or.inr rfl) rfl rfl (fun q2 => ?_)
    refine zw_aload_n (p := 63) (Or.inr rfl) rfl rfl rfl ?_
    refine zw_get_int (p := 66) (Or.inr rfl) rfl rfl ?_
    refine zw_lconst (p := 67) (x := (0 : Int64)) (Or.inr rfl) rfl rfl rfl ?_
    refine zw_lastore (p := 68) (Or.inr rfl) rfl rfl (fun M3 => ?_)
    refine zw_aload_n (p := 69) (Or.inr rfl) rfl rfl rfl ?_
    refine zw_get_ref (p := 72) (Or.inr rfl) rfl rfl (fun q3 => ?_)
    refine zw_aload_n (p := 73) (Or.inr rfl) rfl rfl rfl ?_
    refine zw_get_int (p := 76) (Or.inr rfl) rfl rfl ?_
    refine zw_lconst (p := 77) (x := (1 : Int64)) (Or.inr rfl) rfl rfl rfl ?_
    refine zw_aload_n (p := 78) (Or.inr rfl) rfl rfl rfl ?_
    refine zw_get_int (p := 81) (Or.inr rfl) rfl rfl ?_
    refine zw_lshl (p := 82) (Or.inr rfl) rfl rfl ?_
    refine zw_lastore (p := 83) (Or.inr rfl) rfl rfl (fun M4 => ?_)
    refine zw_aload_n (p := 84) (Or.inr rfl) rfl rfl rfl ?_
    refine zw_dup_ref (p := 85) (Or.inr rfl) rfl rfl ?_
    refine zw_get_int (p := 88) (Or.inr rfl) rfl rfl ?_
    refine zw_iconst (p := 89) (x := (1 : Int32)) (Or.inr rfl) rfl rfl rfl ?_
    refine zw_iadd (p := 90) (Or.inr rfl) rfl rfl ?_
    refine zw_put_int (p := 93) (Or.inr rfl) rfl rfl (fun M5 => ?_)
    refine zw_lconst (p := 94) (x := (1 : Int64)) (Or.inr rfl) rfl rfl rfl ?_
    refine zw_aload_n (p := 95) (Or.inr rfl) rfl rfl rfl ?_
    refine zw_get_int (p := 98) (Or.inr rfl) rfl rfl ?_
    refine zw_lshl (p := 99) (Or.inr rfl) rfl rfl ?_
    exact zw_lreturn (Or.inr rfl) rfl rfl
  refine zw_aload_n (p := 31) (Or.inr rfl) rfl rfl rfl ?_
  refine zw_virtualV (p := 34) (as := [.ref a1]) (rest := []) (Or.inr rfl) rfl rfl rfl rfl rfl rfl rfl (fun M6 => ?_)
  refine zw_lconst (p := 35) (x := (0 : Int64)) (Or.inr rfl) rfl rfl rfl ?_
  exact zw_lreturn (Or.inr rfl) rfl rfl
def zx_Se_link (E : zE0) (K : zKt) (a0 : Nat) (l1 : Int64) (l3 : Int64) (M : zM) : zO :=
  K 6 [some (.ref a0), none, none, some (.long l3), none, some (.long l1), none, some (.int (0 : Int32))] [] M
set_option maxRecDepth 20000 in
theorem ze_Se_link (d : Nat) (a0 : Nat) (l1 : Int64) (l3 : Int64) (M : zM) : zV (d + 1) n_Se_link [.ref a0, .long l1, .long l3] M = zx_Se_link (zV d) (zG d n_Se_link) a0 l1 l3 M := by
  refine (zE_sg (m := zm_Se_link) rfl 400 _ rfl M).trans ?_
  show zw true zm_Se_link (zV d) (zG d n_Se_link) 400 0 [some (.ref a0), some (.long l1), none, some (.long l3), none, none, none, none] [] M = _
  unfold zx_Se_link
  refine zw_lload_n (p := 1) (Or.inl rfl) rfl rfl rfl ?_
  refine zw_lstore (p := 3) (l2 := [some (.ref a0), some (.long l1), none, some (.long l3), none, some (.long l1), none, none]) (Or.inr rfl) rfl rfl rfl rfl ?_
  refine zw_iconst (p := 4) (x := (0 : Int32)) (Or.inr rfl) rfl rfl rfl ?_
  refine zw_istore (p := 6) (l2 := [some (.ref a0), some (.long l1), none, some (.long l3), none, some (.long l1), none, some (.int (0 : Int32))]) (Or.inr rfl) rfl rfl rfl rfl ?_
  exact zw_end rfl rfl
def zx_Se_link_6 (E : zE0) (K : zKt) (a0 : Nat) (l3 : Int64) (l5 : Int64) (x7 : Int32) (M : zM) : zO :=
  zif ((zK M a0).1 = 4)
  (if (zI M a0 7) < x7 then (some (none, M))
  else if (lg_cmp l5 (0 : Int64)) = 0 then (some (none, M))
  else if (lg_cmp (l5 &&& (1 : Int64)) (0 : Int64)) = 0 then (zbl ((Int64.toUInt64 l5 >>> (Int64.toUInt64 (Int32.toInt64 (1 : Int32)) &&& Int64.toUInt64 63)).toInt64) fun w1 =>
    zbi (x7 + (1 : Int32)) fun u1 =>
    K 6 [some (.ref a0), none, none, some (.long l3), none, some (.long w1), none, some (.int u1)] [] M)
  else zif ((zK M a0).1 = 4)
  (zoR (zR M a0 0) fun q1 =>
  zif (((zK M q1).1 = 23 ∨ (zK M q1).1 = 25) ∧ zin x7 (zK M q1).2 = true)
  (zif ((zK M q1).1 = 23 ∧ zin x7 (zK M q1).2 = true)
  (zbm (zsL M q1 (Int32.toNatClampNeg x7) ((zL M q1 (Int32.toNatClampNeg x7)) ||| l3)) fun M1 =>
  zbl ((Int64.toUInt64 l5 >>> (Int64.toUInt64 (Int32.toInt64 (1 : Int32)) &&& Int64.toUInt64 63)).toInt64) fun w2 =>
  zbi (x7 + (1 : Int32)) fun u2 =>
  K 6 [some (.ref a0), none, none, some (.long l3), none, some (.long w2), none, some (.int u2)] [] M1))))
set_option maxRecDepth 20000 in
theorem zg_Se_link_6 (d : Nat) (a0 : Nat) (l3 : Int64) (l5 : Int64) (x7 : Int32) (M : zM) : zG d n_Se_link 6 [some (.ref a0), none, none, some (.long l3), none, some (.long l5), none, some (.int x7)] [] M = zx_Se_link_6 (zV d) (zG d n_Se_link) a0 l3 l5 x7 M := by
  refine (zG_sg (m := zm_Se_link) rfl 400 _ _ _ M).trans ?_
  show zw true zm_Se_link (zV d) (zG d n_Se_link) 400 6 [some (.ref a0), none, none, some (.long l3), none, some (.long l5), none, some (.int x7)] [] M = _
  unfold zx_Se_link_6
  refine zw_iload (p := 8) (Or.inl rfl) rfl rfl rfl ?_
  refine zw_aload_n (p := 9) (Or.inr rfl) rfl rfl rfl ?_
  refine zw_get_int (p := 12) (Or.inr rfl) rfl rfl ?_
  refine zw_icmp_gt (t := 54) (p := 15) (Or.inr rfl) rfl rfl rfl ?_ ?_
  · exact zw_return (Or.inr rfl) rfl rfl
  refine zw_lload (p := 17) (Or.inr rfl) rfl rfl rfl ?_
  refine zw_lconst (p := 18) (x := (0 : Int64)) (Or.inr rfl) rfl rfl rfl ?_
  refine zw_lcmp (p := 19) (Or.inr rfl) rfl rfl ?_
  refine zw_if_eq (t := 54) (p := 22) (Or.inr rfl) rfl rfl rfl ?_ ?_
  · exact zw_return (Or.inr rfl) rfl rfl
  refine zw_lload (p := 24) (Or.inr rfl) rfl rfl rfl ?_
  refine zw_lconst (p := 25) (x := (1 : Int64)) (Or.inr rfl) rfl rfl rfl ?_
  refine zw_land (p := 26) (Or.inr rfl) rfl rfl ?_
  refine zw_lconst (p := 27) (x := (0 : Int64)) (Or.inr rfl) rfl rfl rfl ?_
  refine zw_lcmp (p := 28) (Or.inr rfl) rfl rfl ?_
  refine zw_if_eq (t := 42) (p := 31) (Or.inr rfl) rfl rfl rfl ?_ ?_
  · refine zw_lload (p := 44) (Or.inr rfl) rfl rfl rfl ?_
    refine zw_iconst (p := 45) (x := (1 : Int32)) (Or.inr rfl) rfl rfl rfl ?_
    refine zw_lushr (p := 46) (Or.inr rfl) rfl rfl ?_
    refine zw_lstoreN (p := 48) (L2 := fun w1 => [some (.ref a0), none, none, some (.long l3), none, some (.long w1), none, some (.int x7)]) (Or.inr rfl) rfl rfl (fun _ => rfl) rfl (fun w1 => ?_)
    refine zw_iinc (p := 51) (c := (1 : Int32)) (L2 := fun u1 => [some (.ref a0), none, none, some (.long l3), none, some (.long w1), none, some (.int u1)]) (Or.inr rfl) rfl rfl rfl rfl (fun _ => rfl) rfl (fun u1 => ?_)
    refine zw_goto (t := 6) (Or.inr rfl) rfl rfl ?_
    exact zw_end rfl rfl
  refine zw_aload_n (p := 32) (Or.inr rfl) rfl rfl rfl ?_
  refine zw_get_ref (p := 35) (Or.inr rfl) rfl rfl (fun q1 => ?_)
  refine zw_iload (p := 37) (Or.inr rfl) rfl rfl rfl ?_
  refine zw_dup2_ir (p := 38) (Or.inr rfl) rfl rfl ?_
  refine zw_laload (p := 39) (Or.inr rfl) rfl rfl ?_
  refine zw_lload_n (p := 40) (Or.inr rfl) rfl rfl rfl ?_
  refine zw_lor (p := 41) (Or.inr rfl) rfl rfl ?_
  refine zw_lastore (p := 42) (Or.inr rfl) rfl rfl (fun M1 => ?_)
  refine zw_lload (p := 44) (Or.inr rfl) rfl rfl rfl ?_
  refine zw_iconst (p := 45) (x := (1 : Int32)) (Or.inr rfl) rfl rfl rfl ?_
  refine zw_lushr (p := 46) (Or.inr rfl) rfl rfl ?_
  refine zw_lstoreN (p := 48) (L2 := fun w2 => [some (.ref a0), none, none, some (.long l3), none, some (.long w2), none, some (.int x7)]) (Or.inr rfl) rfl rfl (fun _ => rfl) rfl (fun w2 => ?_)
  refine zw_iinc (p := 51) (c := (1 : Int32)) (L2 := fun u2 => [some (.ref a0), none, none, some (.long l3), none, some (.long w2), none, some (.int u2)]) (Or.inr rfl) rfl rfl rfl rfl (fun _ => rfl) rfl (fun u2 => ?_)
  refine zw_goto (t := 6) (Or.inr rfl) rfl rfl ?_
  exact zw_end rfl rfl
def zx_Se_copyBlock (E : zE0) (K : zKt) (a0 : Nat) (x1 : Int32) (x2 : Int32) (M : zM) : zO :=
  zif ((zK M a0).1 = 4)
  (zbi (zI M a0 7) fun u1 =>
  zbi ((u1 - x1) + (1 : Int32)) fun u2 =>
  if (u1 + (u2 * (x2 - (1 : Int32)))) ≤ (40 : Int32) then (zbl ((((1 : Int64) <<< (Int32.toInt64 u2 &&& 63)) - (1 : Int64)) <<< (Int32.toInt64 x1 &&& 63)) fun w1 =>
    K 44 [some (.ref a0), some (.int x1), some (.int x2), some (.int u1), some (.int u2), some (.long w1), none, some (.int (1 : Int32)), none, none, none] [] M)
  else zif ((zK M a0).1 = 4 ∧ ((1 : Int32) = 0 ∨ (1 : Int32) = 1))
  (zbm (zsI M a0 10 (1 : Int32)) fun M1 =>
  some (none, M1)))
set_option maxRecDepth 20000 in
theorem ze_Se_copyBlock (d : Nat) (a0 : Nat) (x1 : Int32) (x2 : Int32) (M : zM) : zV (d + 1) n_Se_copyBlock [.ref a0, .int x1, .int x2] M = zx_Se_copyBlock (zV d) (zG d n_Se_copyBlock) a0 x1 x2 M := by
  refine (zE_sg (m := zm_Se_copyBlock) rfl 400 _ rfl M).trans ?_
  show zw true zm_Se_copyBlock (zV d) (zG d n_Se_copyBlock) 400 0 [some (.ref a0), some (.int x1), some (.int x2), none, none, none, none, none, none, none, none] [] M = _
  unfold zx_Se_copyBlock
  refine zw_aload_n (p := 1) (Or.inl rfl) rfl rfl rfl ?_
  refine zw_get_int (p := 4) (Or.inr rfl) rfl rfl ?_
  refine zw_istore_nN (p := 5) (L2 := fun u1 => [some (.ref a0), some (.int x1), some (.int x2), some (.int u1), none, none, none, none, none, none, none]) (Or.inr rfl) rfl rfl (fun _ => rfl) rfl (fun u1 => ?_)
  refine zw_iload_n (p := 6) (Or.inr rfl) rfl rfl rfl ?_
  refine zw_iload_n (p := 7) (Or.inr rfl) rfl rfl rfl ?_
  refine zw_isub (p := 8) (Or.inr rfl) rfl rfl ?_
  refine zw_iconst (p := 9) (x := (1 : Int32)) (Or.inr rfl) rfl rfl rfl ?_
  refine zw_iadd (p := 10) (Or.inr rfl) rfl rfl ?_
  refine zw_istoreN (p := 12) (L2 := fun u2 => [some (.ref a0), some (.int x1), some (.int x2), some (.int u1), some (.int u2), none, none, none, none, none, none]) (Or.inr rfl) rfl rfl (fun _ => rfl) rfl (fun u2 => ?_)
  refine zw_iload_n (p := 13) (Or.inr rfl) rfl rfl rfl ?_
  refine zw_iload (p := 15) (Or.inr rfl) rfl rfl rfl ?_
  refine zw_iload_n (p := 16) (Or.inr rfl) rfl rfl rfl ?_
  refine zw_iconst (p := 17) (x := (1 : Int32)) (Or.inr rfl) rfl rfl rfl ?_
  refine zw_isub (p := 18) (Or.inr rfl) rfl rfl ?_
  refine zw_imul (p := 19) (Or.inr rfl) rfl rfl ?_
  refine zw_iadd (p := 20) (Or.inr rfl) rfl rfl ?_
  refine zw_bipush (p := 22) (x := (40 : Int32)) (Or.inr rfl) rfl rfl rfl ?_
  refine zw_icmp_le (t := 31) (p := 25) (Or.inr rfl) rfl rfl rfl ?_ ?_
  · refine zw_lconst (p := 32) (x := (1 : Int64)) (Or.inr rfl) rfl rfl rfl ?_
    refine zw_iload (p := 34) (Or.inr rfl) rfl rfl rfl ?_
    refine zw_lshl (p := 35) (Or.inr rfl) rfl rfl ?_
    refine zw_lconst (p := 36) (x := (1 : Int64)) (Or.inr rfl) rfl rfl rfl ?_
    refine zw_lsub (p := 37) (Or.inr rfl) rfl rfl ?_
    refine zw_iload_n (p := 38) (Or.inr rfl) rfl rfl rfl ?_
    refine zw_lshl (p := 39) (Or.inr rfl) rfl rfl ?_
    refine zw_lstoreN (p := 41) (L2 := fun w1 => [some (.ref a0), some (.int x1), some (.int x2), some (.int u1), some (.int u2), some (.long w1), none, none, none, none, none]) (Or.inr rfl) rfl rfl (fun _ => rfl) rfl (fun w1 => ?_)
    refine zw_iconst (p := 42) (x := (1 : Int32)) (Or.inr rfl) rfl rfl rfl ?_
    refine zw_istore (p := 44) (l2 := [some (.ref a0), some (.int x1), some (.int x2), some (.int u1), some (.int u2), some (.long w1), none, some (.int (1 : Int32)), none, none, none]) (Or.inr rfl) rfl rfl rfl rfl ?_
    exact zw_end rfl rfl
  refine zw_aload_n (p := 26) (Or.inr rfl) rfl rfl rfl ?_
  refine zw_iconst (p := 27) (x := (1 : Int32)) (Or.inr rfl) rfl rfl rfl ?_
  refine zw_put_boo (p := 30) (Or.inr rfl) rfl rfl (fun M1 => ?_)
  exact zw_return (Or.inr rfl) rfl rfl
def zx_Se_copyBlock_44 (E : zE0) (K : zKt) (a0 : Nat) (x1 : Int32) (x2 : Int32) (x3 : Int32) (x4 : Int32) (l5 : Int64) (x7 : Int32) (M : zM) : zO :=
  if x2 ≤ x7 then (K 101 [some (.ref a0), none, some (.int x2), some (.int x3), some (.int x4), some (.long l5), none, some (.int (0 : Int32)), none, none, none] [] M)
  else zbi (x7 * x4) fun u1 =>
  K 60 [some (.ref a0), some (.int x1), some (.int x2), some (.int x3), some (.int x4), some (.long l5), none, some (.int x7), some (.int u1), some (.int x1), none] [] M
set_option maxRecDepth 20000 in
theorem zg_Se_copyBlock_44 (d : Nat) (a0 : Nat) (x1 : Int32) (x2 : Int32) (x3 : Int32) (x4 : Int32) (l5 : Int64) (x7 : Int32) (M : zM) : zG d n_Se_copyBlock 44 [some (.ref a0), some (.int x1), some (.int x2), some (.int x3), some (.int x4), some (.long l5), none, some (.int x7), none, none, none] [] M = zx_Se_copyBlock_44 (zV d) (zG d n_Se_copyBlock) a0 x1 x2 x3 x4 l5 x7 M := by
  refine (zG_sg (m := zm_Se_copyBlock) rfl 400 _ _ _ M).trans ?_
  show zw true zm_Se_copyBlock (zV d) (zG d n_Se_copyBlock) 400 44 [some (.ref a0), some (.int x1), some (.int x2), some (.int x3), some (.int x4), some (.long l5), none, some (.int x7), none, none, none] [] M = _
  unfold zx_Se_copyBlock_44
  refine zw_iload (p := 46) (Or.inl rfl) rfl rfl rfl ?_
  refine zw_iload_n (p := 47) (Or.inr rfl) rfl rfl rfl ?_
  refine zw_icmp_ge (t := 98) (p := 50) (Or.inr rfl) rfl rfl rfl ?_ ?_
  · refine zw_iconst (p := 99) (x := (0 : Int32)) (Or.inr rfl) rfl rfl rfl ?_
    refine zw_istore (p := 101) (l2 := [some (.ref a0), some (.int x1), some (.int x2), some (.int x3), some (.int x4), some (.long l5), none, some (.int (0 : Int32)), none, none, none]) (Or.inr rfl) rfl rfl rfl rfl ?_
    exact zw_end rfl rfl
  refine zw_iload (p := 52) (Or.inr rfl) rfl rfl rfl ?_
  refine zw_iload (p := 54) (Or.inr rfl) rfl rfl rfl ?_
  refine zw_imul (p := 55) (Or.inr rfl) rfl rfl ?_
  refine zw_istoreN (p := 57) (L2 := fun u1 => [some (.ref a0), some (.int x1), some (.int x2), some (.int x3), some (.int x4), some (.long l5), none, some (.int x7), some (.int u1), none, none]) (Or.inr rfl) rfl rfl (fun _ => rfl) rfl (fun u1 => ?_)
  refine zw_iload_n (p := 58) (Or.inr rfl) rfl rfl rfl ?_
  refine zw_istore (p := 60) (l2 := [some (.ref a0), some (.int x1), some (.int x2), some (.int x3), some (.int x4), some (.long l5), none, some (.int x7), some (.int u1), some (.int x1), none]) (Or.inr rfl) rfl rfl rfl rfl ?_
  exact zw_end rfl rfl
def zx_Se_copyBlock_101 (E : zE0) (K : zKt) (a0 : Nat) (x2 : Int32) (x3 : Int32) (x4 : Int32) (l5 : Int64) (x7 : Int32) (M : zM) : zO :=
  zif ((zK M a0).1 = 4)
  (if (zI M a0 6) ≤ x7 then (zif ((zK M a0).1 = 4)
    (zbm (zsI M a0 7 (x3 + (x4 * (x2 - (1 : Int32))))) fun M1 =>
    some (none, M1)))
  else zif ((zK M a0).1 = 4)
  (zoR (zR M a0 1) fun q1 =>
  zif (((zK M q1).1 = 23 ∨ (zK M q1).1 = 25) ∧ zin x7 (zK M q1).2 = true)
  (zbl ((zL M q1 (Int32.toNatClampNeg x7)) &&& l5) fun w1 =>
  K 125 [some (.ref a0), none, some (.int x2), some (.int x3), some (.int x4), some (.long l5), none, some (.int x7), some (.long w1), none, some (.int (1 : Int32))] [] M)))
set_option maxRecDepth 20000 in
theorem zg_Se_copyBlock_101 (d : Nat) (a0 : Nat) (x2 : Int32) (x3 : Int32) (x4 : Int32) (l5 : Int64) (x7 : Int32) (M : zM) : zG d n_Se_copyBlock 101 [some (.ref a0), none, some (.int x2), some (.int x3), some (.int x4), some (.long l5), none, some (.int x7), none, none, none] [] M = zx_Se_copyBlock_101 (zV d) (zG d n_Se_copyBlock) a0 x2 x3 x4 l5 x7 M := by
  refine (zG_sg (m := zm_Se_copyBlock) rfl 400 _ _ _ M).trans ?_
  show zw true zm_Se_copyBlock (zV d) (zG d n_Se_copyBlock) 400 101 [some (.ref a0), none, some (.int x2), some (.int x3), some (.int x4), some (.long l5), none, some (.int x7), none, none, none] [] M = _
  unfold zx_Se_copyBlock_101
  refine zw_iload (p := 103) (Or.inl rfl) rfl rfl rfl ?_
  refine zw_aload_n (p := 104) (Or.inr rfl) rfl rfl rfl ?_
  refine zw_get_int (p := 107) (Or.inr rfl) rfl rfl ?_
  refine zw_icmp_ge (t := 161) (p := 110) (Or.inr rfl) rfl rfl rfl ?_ ?_
  · refine zw_aload_n (p := 162) (Or.inr rfl) rfl rfl rfl ?_
    refine zw_iload_n (p := 163) (Or.inr rfl) rfl rfl rfl ?_
    refine zw_iload (p := 165) (Or.inr rfl) rfl rfl rfl ?_
    refine zw_iload_n (p := 166) (Or.inr rfl) rfl rfl rfl ?_
    refine zw_iconst (p := 167) (x := (1 : Int32)) (Or.inr rfl) rfl rfl rfl ?_
    refine zw_isub (p := 168) (Or.inr rfl) rfl rfl ?_
    refine zw_imul (p := 169) (Or.inr rfl) rfl rfl ?_
    refine zw_iadd (p := 170) (Or.inr rfl) rfl rfl ?_
    refine zw_put_int (p := 173) (Or.inr rfl) rfl rfl (fun M1 => ?_)
    exact zw_return (Or.inr rfl) rfl rfl
  refine zw_aload_n (p := 111) (Or.inr rfl) rfl rfl rfl ?_
  refine zw_get_ref (p := 114) (Or.inr rfl) rfl rfl (fun q1 => ?_)
  refine zw_iload (p := 116) (Or.inr rfl) rfl rfl rfl ?_
  refine zw_laload (p := 117) (Or.inr rfl) rfl rfl ?_
  refine zw_lload (p := 119) (Or.inr rfl) rfl rfl rfl ?_
  refine zw_land (p := 120) (Or.inr rfl) rfl rfl ?_
  refine zw_lstoreN (p := 122) (L2 := fun w1 => [some (.ref a0), none, some (.int x2), some (.int x3), some (.int x4), some (.long l5), none, some (.int x7), some (.long w1), none, none]) (Or.inr rfl) rfl rfl (fun _ => rfl) rfl (fun w1 => ?_)
  refine zw_iconst (p := 123) (x := (1 : Int32)) (Or.inr rfl) rfl rfl rfl ?_
  refine zw_istore (p := 125) (l2 := [some (.ref a0), none, some (.int x2), some (.int x3), some (.int x4), some (.long l5), none, some (.int x7), some (.long w1), none, some (.int (1 : Int32))]) (Or.inr rfl) rfl rfl rfl rfl ?_
  exact zw_end rfl rfl
def zx_Se_copyBlock_60 (E : zE0) (K : zKt) (a0 : Nat) (x1 : Int32) (x2 : Int32) (x3 : Int32) (x4 : Int32) (l5 : Int64) (x7 : Int32) (x8 : Int32) (x9 : Int32) (M : zM) : zO :=
  if x3 < x9 then (zbi (x7 + (1 : Int32)) fun u1 =>
    K 44 [some (.ref a0), some (.int x1), some (.int x2), some (.int x3), some (.int x4), some (.long l5), none, some (.int u1), none, none, none] [] M)
  else zif ((zK M a0).1 = 4)
  (zoR (zR M a0 0) fun q1 =>
  zif ((zK M a0).1 = 4)
  (zoR (zR M a0 0) fun q2 =>
  zif (((zK M q2).1 = 23 ∨ (zK M q2).1 = 25) ∧ zin x9 (zK M q2).2 = true)
  (zif ((zK M q1).1 = 23 ∧ zin (x9 + x8) (zK M q1).2 = true)
  (zbm (zsL M q1 (Int32.toNatClampNeg (x9 + x8)) ((zL M q2 (Int32.toNatClampNeg x9)) <<< (Int32.toInt64 x8 &&& 63))) fun M1 =>
  zbi (x9 + (1 : Int32)) fun u2 =>
  K 60 [some (.ref a0), some (.int x1), some (.int x2), some (.int x3), some (.int x4), some (.long l5), none, some (.int x7), some (.int x8), some (.int u2), none] [] M1))))
set_option maxRecDepth 20000 in
theorem zg_Se_copyBlock_60 (d : Nat) (a0 : Nat) (x1 : Int32) (x2 : Int32) (x3 : Int32) (x4 : Int32) (l5 : Int64) (x7 : Int32) (x8 : Int32) (x9 : Int32) (M : zM) : zG d n_Se_copyBlock 60 [some (.ref a0), some (.int x1), some (.int x2), some (.int x3), some (.int x4), some (.long l5), none, some (.int x7), some (.int x8), some (.int x9), none] [] M = zx_Se_copyBlock_60 (zV d) (zG d n_Se_copyBlock) a0 x1 x2 x3 x4 l5 x7 x8 x9 M := by
  refine (zG_sg (m := zm_Se_copyBlock) rfl 400 _ _ _ M).trans ?_
  show zw true zm_Se_copyBlock (zV d) (zG d n_Se_copyBlock) 400 60 [some (.ref a0), some (.int x1), some (.int x2), some (.int x3), some (.int x4), some (.long l5), none, some (.int x7), some (.int x8), some (.int x9), none] [] M = _
  unfold zx_Se_copyBlock_60
  refine zw_iload (p := 62) (Or.inl rfl) rfl rfl rfl ?_
  refine zw_iload_n (p := 63) (Or.inr rfl) rfl rfl rfl ?_
  refine zw_icmp_gt (t := 92) (p := 66) (Or.inr rfl) rfl rfl rfl ?_ ?_
  · refine zw_iinc (p := 95) (c := (1 : Int32)) (L2 := fun u1 => [some (.ref a0), some (.int x1), some (.int x2), some (.int x3), some (.int x4), some (.long l5), none, some (.int u1), some (.int x8), some (.int x9), none]) (Or.inr rfl) rfl rfl rfl rfl (fun _ => rfl) rfl (fun u1 => ?_)
    refine zw_goto (t := 44) (Or.inr rfl) rfl rfl ?_
    exact zw_end rfl rfl
  refine zw_aload_n (p := 67) (Or.inr rfl) rfl rfl rfl ?_
  refine zw_get_ref (p := 70) (Or.inr rfl) rfl rfl (fun q1 => ?_)
  refine zw_iload (p := 72) (Or.inr rfl) rfl rfl rfl ?_
  refine zw_iload (p := 74) (Or.inr rfl) rfl rfl rfl ?_
  refine zw_iadd (p := 75) (Or.inr rfl) rfl rfl ?_
  refine zw_aload_n (p := 76) (Or.inr rfl) rfl rfl rfl ?_
  refine zw_get_ref (p := 79) (Or.inr rfl) rfl rfl (fun q2 => ?_)
  refine zw_iload (p := 81) (Or.inr rfl) rfl rfl rfl ?_
  refine zw_laload (p := 82) (Or.inr rfl) rfl rfl ?_
  refine zw_iload (p := 84) (Or.inr rfl) rfl rfl rfl ?_
  refine zw_lshl (p := 85) (Or.inr rfl) rfl rfl ?_
  refine zw_lastore (p := 86) (Or.inr rfl) rfl rfl (fun M1 => ?_)
  refine zw_iinc (p := 89) (c := (1 : Int32)) (L2 := fun u2 => [some (.ref a0), some (.int x1), some (.int x2), some (.int x3), some (.int x4), some (.long l5), none, some (.int x7), some (.int x8), some (.int u2), none]) (Or.inr rfl) rfl rfl rfl rfl (fun _ => rfl) rfl (fun u2 => ?_)
  refine zw_goto (t := 60) (Or.inr rfl) rfl rfl ?_
  exact zw_end rfl rfl
def zx_Se_copyBlock_125 (E : zE0) (K : zKt) (a0 : Nat) (x2 : Int32) (x3 : Int32) (x4 : Int32) (l5 : Int64) (x7 : Int32) (l8 : Int64) (x10 : Int32) (M : zM) : zO :=
  if x2 ≤ x10 then (zbi (x7 + (1 : Int32)) fun u1 =>
    K 101 [some (.ref a0), none, some (.int x2), some (.int x3), some (.int x4), some (.long l5), none, some (.int u1), none, none, none] [] M)
  else zif ((zK M a0).1 = 4)
  (zoR (zR M a0 1) fun q1 =>
  zif (((zK M q1).1 = 23 ∨ (zK M q1).1 = 25) ∧ zin x7 (zK M q1).2 = true)
  (zif ((zK M q1).1 = 23 ∧ zin x7 (zK M q1).2 = true)
  (zbm (zsL M q1 (Int32.toNatClampNeg x7) ((zL M q1 (Int32.toNatClampNeg x7)) ||| (l8 <<< (Int32.toInt64 (x10 * x4) &&& 63)))) fun M1 =>
  zbi (x10 + (1 : Int32)) fun u2 =>
  K 125 [some (.ref a0), none, some (.int x2), some (.int x3), some (.int x4), some (.long l5), none, some (.int x7), some (.long l8), none, some (.int u2)] [] M1)))
set_option maxRecDepth 20000 in
theorem zg_Se_copyBlock_125 (d : Nat) (a0 : Nat) (x2 : Int32) (x3 : Int32) (x4 : Int32) (l5 : Int64) (x7 : Int32) (l8 : Int64) (x10 : Int32) (M : zM) : zG d n_Se_copyBlock 125 [some (.ref a0), none, some (.int x2), some (.int x3), some (.int x4), some (.long l5), none, some (.int x7), some (.long l8), none, some (.int x10)] [] M = zx_Se_copyBlock_125 (zV d) (zG d n_Se_copyBlock) a0 x2 x3 x4 l5 x7 l8 x10 M := by
  refine (zG_sg (m := zm_Se_copyBlock) rfl 400 _ _ _ M).trans ?_
  show zw true zm_Se_copyBlock (zV d) (zG d n_Se_copyBlock) 400 125 [some (.ref a0), none, some (.int x2), some (.int x3), some (.int x4), some (.long l5), none, some (.int x7), some (.long l8), none, some (.int x10)] [] M = _
  unfold zx_Se_copyBlock_125
  refine zw_iload (p := 127) (Or.inl rfl) rfl rfl rfl ?_
  refine zw_iload_n (p := 128) (Or.inr rfl) rfl rfl rfl ?_
  refine zw_icmp_ge (t := 155) (p := 131) (Or.inr rfl) rfl rfl rfl ?_ ?_
  · refine zw_iinc (p := 158) (c := (1 : Int32)) (L2 := fun u1 => [some (.ref a0), none, some (.int x2), some (.int x3), some (.int x4), some (.long l5), none, some (.int u1), some (.long l8), none, some (.int x10)]) (Or.inr rfl) rfl rfl rfl rfl (fun _ => rfl) rfl (fun u1 => ?_)
    refine zw_goto (t := 101) (Or.inr rfl) rfl rfl ?_
    exact zw_end rfl rfl
  refine zw_aload_n (p := 132) (Or.inr rfl) rfl rfl rfl ?_
  refine zw_get_ref (p := 135) (Or.inr rfl) rfl rfl (fun q1 => ?_)
  refine zw_iload (p := 137) (Or.inr rfl) rfl rfl rfl ?_
  refine zw_dup2_ir (p := 138) (Or.inr rfl) rfl rfl ?_
  refine zw_laload (p := 139) (Or.inr rfl) rfl rfl ?_
  refine zw_lload (p := 141) (Or.inr rfl) rfl rfl rfl ?_
  refine zw_iload (p := 143) (Or.inr rfl) rfl rfl rfl ?_
  refine zw_iload (p := 145) (Or.inr rfl) rfl rfl rfl ?_
  refine zw_imul (p := 146) (Or.inr rfl) rfl rfl ?_
  refine zw_lshl (p := 147) (Or.inr rfl) rfl rfl ?_
  refine zw_lor (p := 148) (Or.inr rfl) rfl rfl ?_
  refine zw_lastore (p := 149) (Or.inr rfl) rfl rfl (fun M1 => ?_)
  refine zw_iinc (p := 152) (c := (1 : Int32)) (L2 := fun u2 => [some (.ref a0), none, some (.int x2), some (.int x3), some (.int x4), some (.long l5), none, some (.int x7), some (.long l8), none, some (.int u2)]) (Or.inr rfl) rfl rfl rfl rfl (fun _ => rfl) rfl (fun u2 => ?_)
  refine zw_goto (t := 125) (Or.inr rfl) rfl rfl ?_
  exact zw_end rfl rfl
def zx_Se_findUseful (E : zE0) (K : zKt) (a0 : Nat) (M : zM) : zO :=
  zif ((zK M a0).1 = 4)
  (zbm (zsL M a0 4 (0 : Int64)) fun M1 =>
  zif ((zK M1 a0).1 = 4)
  (zbm (zsL M1 a0 5 (0 : Int64)) fun M2 =>
  K 14 [some (.ref a0), some (.long (1 : Int64)), none, some (.int (0 : Int32)), none, none, none] [] M2))
set_option maxRecDepth 20000 in
theorem ze_Se_findUseful (d : Nat) (a0 : Nat) (M : zM) : zV (d + 1) n_Se_findUseful [.ref a0] M = zx_Se_findUseful (zV d) (zG d n_Se_findUseful) a0 M := by
  refine (zE_sg (m := zm_Se_findUseful) rfl 400 _ rfl M).trans ?_
  show zw true zm_Se_findUseful (zV d) (zG d n_Se_findUseful) 400 0 [some (.ref a0), none, none, none, none, none, none] [] M = _
  unfold zx_Se_findUseful
  refine zw_aload_n (p := 1) (Or.inl rfl) rfl rfl rfl ?_
  refine zw_lconst (p := 2) (x := (0 : Int64)) (Or.inr rfl) rfl rfl rfl ?_
  refine zw_put_long (p := 5) (Or.inr rfl) rfl rfl (fun M1 => ?_)
  refine zw_aload_n (p := 6) (Or.inr rfl) rfl rfl rfl ?_
  refine zw_lconst (p := 7) (x := (0 : Int64)) (Or.inr rfl) rfl rfl rfl ?_
  refine zw_put_long (p := 10) (Or.inr rfl) rfl rfl (fun M2 => ?_)
  refine zw_lconst (p := 11) (x := (1 : Int64)) (Or.inr rfl) rfl rfl rfl ?_
  refine zw_lstore_n (p := 12) (l2 := [some (.ref a0), some (.long (1 : Int64)), none, none, none, none, none]) (Or.inr rfl) rfl rfl rfl rfl ?_
  refine zw_iconst (p := 13) (x := (0 : Int32)) (Or.inr rfl) rfl rfl rfl ?_
  refine zw_istore_n (p := 14) (l2 := [some (.ref a0), some (.long (1 : Int64)), none, some (.int (0 : Int32)), none, none, none]) (Or.inr rfl) rfl rfl rfl rfl ?_
  exact zw_end rfl rfl
def zx_Se_findUseful_14 (E : zE0) (K : zKt) (a0 : Nat) (l1 : Int64) (x3 : Int32) (M : zM) : zO :=
  zif ((zK M a0).1 = 4)
  (if (zI M a0 6) ≤ x3 then (zif ((zK M a0).1 = 4)
    (zbi (zI M a0 7) fun u1 =>
    K 53 [some (.ref a0), some (.long l1), none, some (.int u1), none, none, none] [] M))
  else zif ((zK M a0).1 = 4)
  (zoR (zR M a0 2) fun q1 =>
  zbI (E n_PT_howManyFulfil [.ref q1, .int x3] M) fun u2 M1 =>
  if u2 ≤ 0 then (zbi (x3 + (1 : Int32)) fun u3 =>
    K 14 [some (.ref a0), some (.long l1), none, some (.int u3), none, none, none] [] M1)
  else zif ((zK M1 a0).1 = 4)
  (zoR (zR M1 a0 1) fun q2 =>
  zif (((zK M1 q2).1 = 23 ∨ (zK M1 q2).1 = 25) ∧ zin x3 (zK M1 q2).2 = true)
  (zbl (l1 ||| (zL M1 q2 (Int32.toNatClampNeg x3))) fun w1 =>
  zbi (x3 + (1 : Int32)) fun u4 =>
  K 14 [some (.ref a0), some (.long w1), none, some (.int u4), none, none, none] [] M1))))
set_option maxRecDepth 20000 in
theorem zg_Se_findUseful_14 (d : Nat) (a0 : Nat) (l1 : Int64) (x3 : Int32) (M : zM) : zG d n_Se_findUseful 14 [some (.ref a0), some (.long l1), none, some (.int x3), none, none, none] [] M = zx_Se_findUseful_14 (zV d) (zG d n_Se_findUseful) a0 l1 x3 M := by
  refine (zG_sg (m := zm_Se_findUseful) rfl 400 _ _ _ M).trans ?_
  show zw true zm_Se_findUseful (zV d) (zG d n_Se_findUseful) 400 14 [some (.ref a0), some (.long l1), none, some (.int x3), none, none, none] [] M = _
  unfold zx_Se_findUseful_14
  refine zw_iload_n (p := 15) (Or.inl rfl) rfl rfl rfl ?_
  refine zw_aload_n (p := 16) (Or.inr rfl) rfl rfl rfl ?_
  refine zw_get_int (p := 19) (Or.inr rfl) rfl rfl ?_
  refine zw_icmp_ge (t := 48) (p := 22) (Or.inr rfl) rfl rfl rfl ?_ ?_
  · refine zw_aload_n (p := 49) (Or.inr rfl) rfl rfl rfl ?_
    refine zw_get_int (p := 52) (Or.inr rfl) rfl rfl ?_
    refine zw_istore_nN (p := 53) (L2 := fun u1 => [some (.ref a0), some (.long l1), none, some (.int u1), none, none, none]) (Or.inr rfl) rfl rfl (fun _ => rfl) rfl (fun u1 => ?_)
    exact zw_end rfl rfl
  refine zw_aload_n (p := 23) (Or.inr rfl) rfl rfl rfl ?_
  refine zw_get_ref (p := 26) (Or.inr rfl) rfl rfl (fun q1 => ?_)
  refine zw_iload_n (p := 27) (Or.inr rfl) rfl rfl rfl ?_
  refine zw_staticI (p := 30) (as := [.ref q1, .int x3]) (rest := []) (Or.inr rfl) rfl rfl rfl rfl rfl rfl (fun u2 M1 => ?_)
  refine zw_if_le (t := 42) (p := 33) (Or.inr rfl) rfl rfl rfl ?_ ?_
  · refine zw_iinc (p := 45) (c := (1 : Int32)) (L2 := fun u3 => [some (.ref a0), some (.long l1), none, some (.int u3), none, none, none]) (Or.inr rfl) rfl rfl rfl rfl (fun _ => rfl) rfl (fun u3 => ?_)
    refine zw_goto (t := 14) (Or.inr rfl) rfl rfl ?_
    exact zw_end rfl rfl
  refine zw_lload_n (p := 34) (Or.inr rfl) rfl rfl rfl ?_
  refine zw_aload_n (p := 35) (Or.inr rfl) rfl rfl rfl ?_
  refine zw_get_ref (p := 38) (Or.inr rfl) rfl rfl (fun q2 => ?_)
  refine zw_iload_n (p := 39) (Or.inr rfl) rfl rfl rfl ?_
  refine zw_laload (p := 40) (Or.inr rfl) rfl rfl ?_
  refine zw_lor (p := 41) (Or.inr rfl) rfl rfl ?_
  refine zw_lstore_nN (p := 42) (L2 := fun w1 => [some (.ref a0), some (.long w1), none, some (.int x3), none, none, none]) (Or.inr rfl) rfl rfl (fun _ => rfl) rfl (fun w1 => ?_)
  refine zw_iinc (p := 45) (c := (1 : Int32)) (L2 := fun u4 => [some (.ref a0), some (.long w1), none, some (.int u4), none, none, none]) (Or.inr rfl) rfl rfl rfl rfl (fun _ => rfl) rfl (fun u4 => ?_)
  refine zw_goto (t := 14) (Or.inr rfl) rfl rfl ?_
  exact zw_end rfl rfl
def zx_Se_findUseful_53 (E : zE0) (K : zKt) (a0 : Nat) (l1 : Int64) (x3 : Int32) (M : zM) : zO :=
  if x3 < 0 then (some (none, M))
  else zbl ((1 : Int64) <<< (Int32.toInt64 x3 &&& 63)) fun w1 =>
  zif ((zK M a0).1 = 4)
  (zoR (zR M a0 0) fun q1 =>
  zif (((zK M q1).1 = 23 ∨ (zK M q1).1 = 25) ∧ zin x3 (zK M q1).2 = true)
  (zif ((zK M a0).1 = 4)
  (if (lg_cmp ((zL M q1 (Int32.toNatClampNeg x3)) &&& (zL M a0 4)) (0 : Int64)) = 0 then (if (0 : Int32) = 0 then (K 101 [some (.ref a0), some (.long l1), none, some (.int x3), some (.long w1), none, some (.int (0 : Int32))] [] M)
    else zif ((zK M a0).1 = 4)
    (zif ((zK M a0).1 = 4)
    (zbm (zsL M a0 5 ((zL M a0 5) ||| w1)) fun M1 =>
    K 101 [some (.ref a0), some (.long l1), none, some (.int x3), some (.long w1), none, some (.int (0 : Int32))] [] M1)))
  else if (1 : Int32) = 0 then (K 101 [some (.ref a0), some (.long l1), none, some (.int x3), some (.long w1), none, some (.int (1 : Int32))] [] M)
  else zif ((zK M a0).1 = 4)
  (zif ((zK M a0).1 = 4)
  (zbm (zsL M a0 5 ((zL M a0 5) ||| w1)) fun M2 =>
  K 101 [some (.ref a0), some (.long l1), none, some (.int x3), some (.long w1), none, some (.int (1 : Int32))] [] M2)))))
set_option maxRecDepth 20000 in
theorem zg_Se_findUseful_53 (d : Nat) (a0 : Nat) (l1 : Int64) (x3 : Int32) (M : zM) : zG d n_Se_findUseful 53 [some (.ref a0), some (.long l1), none, some (.int x3), none, none, none] [] M = zx_Se_findUseful_53 (zV d) (zG d n_Se_findUseful) a0 l1 x3 M := by
  refine (zG_sg (m := zm_Se_findUseful) rfl 400 _ _ _ M).trans ?_
  show zw true zm_Se_findUseful (zV d) (zG d n_Se_findUseful) 400 53 [some (.ref a0), some (.long l1), none, some (.int x3), none, none, none] [] M = _
  unfold zx_Se_findUseful_53
  refine zw_iload_n (p := 54) (Or.inl rfl) rfl rfl rfl ?_
  refine zw_if_lt (t := 144) (p := 57) (Or.inr rfl) rfl rfl rfl ?_ ?_
  · exact zw_return (Or.inr rfl) rfl rfl
  refine zw_lconst (p := 58) (x := (1 : Int64)) (Or.inr rfl) rfl rfl rfl ?_
  refine zw_iload_n (p := 59) (Or.inr rfl) rfl rfl rfl ?_
  refine zw_lshl (p := 60) (Or.inr rfl) rfl rfl ?_
  refine zw_lstoreN (p := 62) (L2 := fun w1 => [some (.ref a0), some (.long l1), none, some (.int x3), some (.long w1), none, none]) (Or.inr rfl) rfl rfl (fun _ => rfl) rfl (fun w1 => ?_)
  refine zw_aload_n (p := 63) (Or.inr rfl) rfl rfl rfl ?_
  refine zw_get_ref (p := 66) (Or.inr rfl) rfl rfl (fun q1 => ?_)
  refine zw_iload_n (p := 67) (Or.inr rfl) rfl rfl rfl ?_
  refine zw_laload (p := 68) (Or.inr rfl) rfl rfl ?_
  refine zw_aload_n (p := 69) (Or.inr rfl) rfl rfl rfl ?_
  refine zw_get_long (p := 72) (Or.inr rfl) rfl rfl ?_
  refine zw_land (p := 73) (Or.inr rfl) rfl rfl ?_
  refine zw_lconst (p := 74) (x := (0 : Int64)) (Or.inr rfl) rfl rfl rfl ?_
  refine zw_lcmp (p := 75) (Or.inr rfl) rfl rfl ?_
  refine zw_if_eq (t := 82) (p := 78) (Or.inr rfl) rfl rfl rfl ?_ ?_
  · refine zw_iconst (p := 83) (x := (0 : Int32)) (Or.inr rfl) rfl rfl rfl ?_
    refine zw_istore (p := 85) (l2 := [some (.ref a0), some (.long l1), none, some (.int x3), some (.long w1), none, some (.int (0 : Int32))]) (Or.inr rfl) rfl rfl rfl rfl ?_
    refine zw_iload (p := 87) (Or.inr rfl) rfl rfl rfl ?_
    refine zw_if_eq (t := 101) (p := 90) (Or.inr rfl) rfl rfl rfl ?_ ?_
    · exact zw_end rfl rfl
    refine zw_aload_n (p := 91) (Or.inr rfl) rfl rfl rfl ?_
    refine zw_dup_ref (p := 92) (Or.inr rfl) rfl rfl ?_
    refine zw_get_long (p := 95) (Or.inr rfl) rfl rfl ?_
    refine zw_lload (p := 97) (Or.inr rfl) rfl rfl rfl ?_
    refine zw_lor (p := 98) (Or.inr rfl) rfl rfl ?_
    refine zw_put_long (p := 101) (Or.inr rfl) rfl rfl (fun M1 => ?_)
    exact zw_end rfl rfl
  refine zw_iconst (p := 79) (x := (1 : Int32)) (Or.inr rfl) rfl rfl rfl ?_
  refine zw_goto (t := 83) (Or.inr rfl) rfl rfl ?_
  refine zw_istore (p := 85) (l2 := [some (.ref a0), some (.long l1), none, some (.int x3), some (.long w1), none, some (.int (1 : Int32))]) (Or.inr rfl) rfl rfl rfl rfl ?_
  refine zw_iload (p := 87) (Or.inr rfl) rfl rfl rfl ?_
  refine zw_if_eq (t := 101) (p := 90) (Or.inr rfl) rfl rfl rfl ?_ ?_
  · exact zw_end rfl rfl
  refine zw_aload_n (p := 91) (Or.inr rfl) rfl rfl rfl ?_
  refine zw_dup_ref (p := 92) (Or.inr rfl) rfl rfl ?_
  refine zw_get_long (p := 95) (Or.inr rfl) rfl rfl ?_
  refine zw_lload (p := 97) (Or.inr rfl) rfl rfl rfl ?_
  refine zw_lor (p := 98) (Or.inr rfl) rfl rfl ?_
  refine zw_put_long (p := 101) (Or.inr rfl) rfl rfl (fun M2 => ?_)
  exact zw_end rfl rfl
def zx_Se_findUseful_101 (E : zE0) (K : zKt) (a0 : Nat) (l1 : Int64) (x3 : Int32) (l4 : Int64) (x6 : Int32) (M : zM) : zO :=
  if (lg_cmp (l1 &&& l4) (0 : Int64)) = 0 then (zbi (x3 + (-1 : Int32)) fun u1 =>
    K 53 [some (.ref a0), some (.long l1), none, some (.int u1), none, none, none] [] M)
  else if x6 ≠ 0 then (zif ((zK M a0).1 = 4)
    (zif ((zK M a0).1 = 4)
    (zbm (zsL M a0 4 ((zL M a0 4) ||| l4)) fun M1 =>
    zbi (x3 + (-1 : Int32)) fun u2 =>
    K 53 [some (.ref a0), some (.long l1), none, some (.int u2), none, none, none] [] M1)))
  else zif ((zK M a0).1 = 4)
  (if (lg_cmp ((zL M a0 3) &&& l4) (0 : Int64)) = 0 then (zbi (x3 + (-1 : Int32)) fun u3 =>
    K 53 [some (.ref a0), some (.long l1), none, some (.int u3), none, none, none] [] M)
  else zif ((zK M a0).1 = 4)
  (zif ((zK M a0).1 = 4)
  (zbm (zsL M a0 4 ((zL M a0 4) ||| l4)) fun M2 =>
  zbi (x3 + (-1 : Int32)) fun u4 =>
  K 53 [some (.ref a0), some (.long l1), none, some (.int u4), none, none, none] [] M2)))
set_option maxRecDepth 20000 in
theorem zg_Se_findUseful_101 (d : Nat) (a0 : Nat) (l1 : Int64) (x3 : Int32) (l4 : Int64) (x6 : Int32) (M : zM) : zG d n_Se_findUseful 101 [some (.ref a0), some (.long l1), none, some (.int x3), some (.long l4), none, some (.int x6)] [] M = zx_Se_findUseful_101 (zV d) (zG d n_Se_findUseful) a0 l1 x3 l4 x6 M := by
  refine (zG_sg (m := zm_Se_findUseful) rfl 400 _ _ _ M).trans ?_
  show zw true zm_Se_findUseful (zV d) (zG d n_Se_findUseful) 400 101 [some (.ref a0), some (.long l1), none, some (.int x3), some (.long l4), none, some (.int x6)] [] M = _
  unfold zx_Se_findUseful_101
  refine zw_lload_n (p := 102) (Or.inl rfl) rfl rfl rfl ?_
  refine zw_lload (p := 104) (Or.inr rfl) rfl rfl rfl ?_
  refine zw_land (p := 105) (Or.inr rfl) rfl rfl ?_
  refine zw_lconst (p := 106) (x := (0 : Int64)) (Or.inr rfl) rfl rfl rfl ?_
  refine zw_lcmp (p := 107) (Or.inr rfl) rfl rfl ?_
  refine zw_if_eq (t := 138) (p := 110) (Or.inr rfl) rfl rfl rfl ?_ ?_
  · refine zw_iinc (p := 141) (c := (-1 : Int32)) (L2 := fun u1 => [some (.ref a0), some (.long l1), none, some (.int u1), some (.long l4), none, some (.int x6)]) (Or.inr rfl) rfl rfl rfl rfl (fun _ => rfl) rfl (fun u1 => ?_)
    refine zw_goto (t := 53) (Or.inr rfl) rfl rfl ?_
    exact zw_end rfl rfl
  refine zw_iload (p := 112) (Or.inr rfl) rfl rfl rfl ?_
  refine zw_if_ne (t := 127) (p := 115) (Or.inr rfl) rfl rfl rfl ?_ ?_
  · refine zw_aload_n (p := 128) (Or.inr rfl) rfl rfl rfl ?_
    refine zw_dup_ref (p := 129) (Or.inr rfl) rfl rfl ?_
    refine zw_get_long (p := 132) (Or.inr rfl) rfl rfl ?_
    refine zw_lload (p := 134) (Or.inr rfl) rfl rfl rfl ?_
    refine zw_lor (p := 135) (Or.inr rfl) rfl rfl ?_
    refine zw_put_long (p := 138) (Or.inr rfl) rfl rfl (fun M1 => ?_)
    refine zw_iinc (p := 141) (c := (-1 : Int32)) (L2 := fun u2 => [some (.ref a0), some (.long l1), none, some (.int u2), some (.long l4), none, some (.int x6)]) (Or.inr rfl) rfl rfl rfl rfl (fun _ => rfl) rfl (fun u2 => ?_)
    refine zw_goto (t := 53) (Or.inr rfl) rfl rfl ?_
    exact zw_end rfl rfl
  refine zw_aload_n (p := 116) (Or.inr rfl) rfl rfl rfl ?_
  refine zw_get_long (p := 119) (Or.inr rfl) rfl rfl ?_
  refine zw_lload (p := 121) (Or.inr rfl) rfl rfl rfl ?_
  refine zw_land (p := 122) (Or.inr rfl) rfl rfl ?_
  refine zw_lconst (p := 123) (x := (0 : Int64)) (Or.inr rfl) rfl rfl rfl ?_
  refine zw_lcmp (p := 124) (Or.inr rfl) rfl rfl ?_
  refine zw_if_eq (t := 138) (p := 127) (Or.inr rfl) rfl rfl rfl ?_ ?_
  · refine zw_iinc (p := 141) (c := (-1 : Int32)) (L2 := fun u3 => [some (.ref a0), some (.long l1), none, some (.int u3), some (.long l4), none, some (.int x6)]) (Or.inr rfl) rfl rfl rfl rfl (fun _ => rfl) rfl (fun u3 => ?_)
    refine zw_goto (t := 53) (Or.inr rfl) rfl rfl ?_
    exact zw_end rfl rfl
  refine zw_aload_n (p := 128) (Or.inr rfl) rfl rfl rfl ?_
  refine zw_dup_ref (p := 129) (Or.inr rfl) rfl rfl ?_
  refine zw_get_long (p := 132) (Or.inr rfl) rfl rfl ?_
  refine zw_lload (p := 134) (Or.inr rfl) rfl rfl rfl ?_
  refine zw_lor (p := 135) (Or.inr rfl) rfl rfl ?_
  refine zw_put_long (p := 138) (Or.inr rfl) rfl rfl (fun M2 => ?_)
  refine zw_iinc (p := 141) (c := (-1 : Int32)) (L2 := fun u4 => [some (.ref a0), some (.long l1), none, some (.int u4), some (.long l4), none, some (.int x6)]) (Or.inr rfl) rfl rfl rfl rfl (fun _ => rfl) rfl (fun u4 => ?_)
  refine zw_goto (t := 53) (Or.inr rfl) rfl rfl ?_
  exact zw_end rfl rfl
def zx_Se_openTo (E : zE0) (K : zKt) (a0 : Nat) (x1 : Int32) (M : zM) : zO :=
  K 5 [some (.ref a0), some (.int x1), some (.long (0 : Int64)), none, some (.int (0 : Int32))] [] M
set_option maxRecDepth 20000 in
theorem ze_Se_openTo (d : Nat) (a0 : Nat) (x1 : Int32) (M : zM) : zV (d + 1) n_Se_openTo [.ref a0, .int x1] M = zx_Se_openTo (zV d) (zG d n_Se_openTo) a0 x1 M := by
  refine (zE_sg (m := zm_Se_openTo) rfl 400 _ rfl M).trans ?_
  show zw true zm_Se_openTo (zV d) (zG d n_Se_openTo) 400 0 [some (.ref a0), some (.int x1), none, none, none] [] M = _
  unfold zx_Se_openTo
  refine zw_lconst (p := 1) (x := (0 : Int64)) (Or.inl rfl) rfl rfl rfl ?_
  refine zw_lstore_n (p := 2) (l2 := [some (.ref a0), some (.int x1), some (.long (0 : Int64)), none, none]) (Or.inr rfl) rfl rfl rfl rfl ?_
  refine zw_iconst (p := 3) (x := (0 : Int32)) (Or.inr rfl) rfl rfl rfl ?_
  refine zw_istore (p := 5) (l2 := [some (.ref a0), some (.int x1), some (.long (0 : Int64)), none, some (.int (0 : Int32))]) (Or.inr rfl) rfl rfl rfl rfl ?_
  exact zw_end rfl rfl
def zx_Se_openTo_5 (E : zE0) (K : zKt) (a0 : Nat) (x1 : Int32) (l2 : Int64) (x4 : Int32) (M : zM) : zO :=
  zif ((zK M a0).1 = 4)
  (if (zI M a0 6) ≤ x4 then (zif ((zK M a0).1 = 4)
    (some (some (.long (l2 &&& (zL M a0 4))), M)))
  else zif ((zK M a0).1 = 4)
  (zoR (zR M a0 2) fun q1 =>
  zbI (E n_PT_isFulfilled [.ref q1, .int x4, .int x1] M) fun u1 M1 =>
  if u1 = 0 then (zbi (x4 + (1 : Int32)) fun u2 =>
    K 5 [some (.ref a0), some (.int x1), some (.long l2), none, some (.int u2)] [] M1)
  else zif ((zK M1 a0).1 = 4)
  (zoR (zR M1 a0 1) fun q2 =>
  zif (((zK M1 q2).1 = 23 ∨ (zK M1 q2).1 = 25) ∧ zin x4 (zK M1 q2).2 = true)
  (zbl (l2 ||| (zL M1 q2 (Int32.toNatClampNeg x4))) fun w1 =>
  zbi (x4 + (1 : Int32)) fun u3 =>
  K 5 [some (.ref a0), some (.int x1), some (.long w1), none, some (.int u3)] [] M1))))
set_option maxRecDepth 20000 in
theorem zg_Se_openTo_5 (d : Nat) (a0 : Nat) (x1 : Int32) (l2 : Int64) (x4 : Int32) (M : zM) : zG d n_Se_openTo 5 [some (.ref a0), some (.int x1), some (.long l2), none, some (.int x4)] [] M = zx_Se_openTo_5 (zV d) (zG d n_Se_openTo) a0 x1 l2 x4 M := by
  refine (zG_sg (m := zm_Se_openTo) rfl 400 _ _ _ M).trans ?_
  show zw true zm_Se_openTo (zV d) (zG d n_Se_openTo) 400 5 [some (.ref a0), some (.int x1), some (.long l2), none, some (.int x4)] [] M = _
  unfold zx_Se_openTo_5
  refine zw_iload (p := 7) (Or.inl rfl) rfl rfl rfl ?_
  refine zw_aload_n (p := 8) (Or.inr rfl) rfl rfl rfl ?_
  refine zw_get_int (p := 11) (Or.inr rfl) rfl rfl ?_
  refine zw_icmp_ge (t := 43) (p := 14) (Or.inr rfl) rfl rfl rfl ?_ ?_
  · refine zw_lload_n (p := 44) (Or.inr rfl) rfl rfl rfl ?_
    refine zw_aload_n (p := 45) (Or.inr rfl) rfl rfl rfl ?_
    refine zw_get_long (p := 48) (Or.inr rfl) rfl rfl ?_
    refine zw_land (p := 49) (Or.inr rfl) rfl rfl ?_
    exact zw_lreturn (Or.inr rfl) rfl rfl
  refine zw_aload_n (p := 15) (Or.inr rfl) rfl rfl rfl ?_
  refine zw_get_ref (p := 18) (Or.inr rfl) rfl rfl (fun q1 => ?_)
  refine zw_iload (p := 20) (Or.inr rfl) rfl rfl rfl ?_
  refine zw_iload_n (p := 21) (Or.inr rfl) rfl rfl rfl ?_
  refine zw_staticI (p := 24) (as := [.ref q1, .int x4, .int x1]) (rest := []) (Or.inr rfl) rfl rfl rfl rfl rfl rfl (fun u1 M1 => ?_)
  refine zw_if_eq (t := 37) (p := 27) (Or.inr rfl) rfl rfl rfl ?_ ?_
  · refine zw_iinc (p := 40) (c := (1 : Int32)) (L2 := fun u2 => [some (.ref a0), some (.int x1), some (.long l2), none, some (.int u2)]) (Or.inr rfl) rfl rfl rfl rfl (fun _ => rfl) rfl (fun u2 => ?_)
    refine zw_goto (t := 5) (Or.inr rfl) rfl rfl ?_
    exact zw_end rfl rfl
  refine zw_lload_n (p := 28) (Or.inr rfl) rfl rfl rfl ?_
  refine zw_aload_n (p := 29) (Or.inr rfl) rfl rfl rfl ?_
  refine zw_get_ref (p := 32) (Or.inr rfl) rfl rfl (fun q2 => ?_)
  refine zw_iload (p := 34) (Or.inr rfl) rfl rfl rfl ?_
  refine zw_laload (p := 35) (Or.inr rfl) rfl rfl ?_
  refine zw_lor (p := 36) (Or.inr rfl) rfl rfl ?_
  refine zw_lstore_nN (p := 37) (L2 := fun w1 => [some (.ref a0), some (.int x1), some (.long w1), none, some (.int x4)]) (Or.inr rfl) rfl rfl (fun _ => rfl) rfl (fun w1 => ?_)
  refine zw_iinc (p := 40) (c := (1 : Int32)) (L2 := fun u3 => [some (.ref a0), some (.int x1), some (.long w1), none, some (.int u3)]) (Or.inr rfl) rfl rfl rfl rfl (fun _ => rfl) rfl (fun u3 => ?_)
  refine zw_goto (t := 5) (Or.inr rfl) rfl rfl ?_
  exact zw_end rfl rfl
def zx_Se_after (E : zE0) (K : zKt) (a0 : Nat) (l1 : Int64) (l3 : Int64) (M : zM) : zO :=
  K 9 [some (.ref a0), none, none, some (.long l3), none, some (.long (0 : Int64)), none, some (.long l1), none, some (.int (0 : Int32))] [] M
set_option maxRecDepth 20000 in
theorem ze_Se_after (d : Nat) (a0 : Nat) (l1 : Int64) (l3 : Int64) (M : zM) : zV (d + 1) n_Se_after [.ref a0, .long l1, .long l3] M = zx_Se_after (zV d) (zG d n_Se_after) a0 l1 l3 M := by
  refine (zE_sg (m := zm_Se_after) rfl 400 _ rfl M).trans ?_
  show zw true zm_Se_after (zV d) (zG d n_Se_after) 400 0 [some (.ref a0), some (.long l1), none, some (.long l3), none, none, none, none, none, none] [] M = _
  unfold zx_Se_after
  refine zw_lconst (p := 1) (x := (0 : Int64)) (Or.inl rfl) rfl rfl rfl ?_
  refine zw_lstore (p := 3) (l2 := [some (.ref a0), some (.long l1), none, some (.long l3), none, some (.long (0 : Int64)), none, none, none, none]) (Or.inr rfl) rfl rfl rfl rfl ?_
  refine zw_lload_n (p := 4) (Or.inr rfl) rfl rfl rfl ?_
  refine zw_lstore (p := 6) (l2 := [some (.ref a0), some (.long l1), none, some (.long l3), none, some (.long (0 : Int64)), none, some (.long l1), none, none]) (Or.inr rfl) rfl rfl rfl rfl ?_
  refine zw_iconst (p := 7) (x := (0 : Int32)) (Or.inr rfl) rfl rfl rfl ?_
  refine zw_istore (p := 9) (l2 := [some (.ref a0), some (.long l1), none, some (.long l3), none, some (.long (0 : Int64)), none, some (.long l1), none, some (.int (0 : Int32))]) (Or.inr rfl) rfl rfl rfl rfl ?_
  exact zw_end rfl rfl
def zx_Se_after_9 (E : zE0) (K : zKt) (a0 : Nat) (l3 : Int64) (l5 : Int64) (l7 : Int64) (x9 : Int32) (M : zM) : zO :=
  zif ((zK M a0).1 = 4)
  (if (zI M a0 7) < x9 then (some (some (.long (l5 &&& l3)), M))
  else if (lg_cmp l7 (0 : Int64)) = 0 then (some (some (.long (l5 &&& l3)), M))
  else if (lg_cmp (l7 &&& (1 : Int64)) (0 : Int64)) = 0 then (zbl ((Int64.toUInt64 l7 >>> (Int64.toUInt64 (Int32.toInt64 (1 : Int32)) &&& Int64.toUInt64 63)).toInt64) fun w1 =>
    zbi (x9 + (1 : Int32)) fun u1 =>
    K 9 [some (.ref a0), none, none, some (.long l3), none, some (.long l5), none, some (.long w1), none, some (.int u1)] [] M)
  else zif ((zK M a0).1 = 4)
  (zoR (zR M a0 0) fun q1 =>
  zif (((zK M q1).1 = 23 ∨ (zK M q1).1 = 25) ∧ zin x9 (zK M q1).2 = true)
  (zbl (l5 ||| (zL M q1 (Int32.toNatClampNeg x9))) fun w2 =>
  zbl ((Int64.toUInt64 l7 >>> (Int64.toUInt64 (Int32.toInt64 (1 : Int32)) &&& Int64.toUInt64 63)).toInt64) fun w3 =>
  zbi (x9 + (1 : Int32)) fun u2 =>
  K 9 [some (.ref a0), none, none, some (.long l3), none, some (.long w2), none, some (.long w3), none, some (.int u2)] [] M)))
set_option maxRecDepth 20000 in
theorem zg_Se_after_9 (d : Nat) (a0 : Nat) (l3 : Int64) (l5 : Int64) (l7 : Int64) (x9 : Int32) (M : zM) : zG d n_Se_after 9 [some (.ref a0), none, none, some (.long l3), none, some (.long l5), none, some (.long l7), none, some (.int x9)] [] M = zx_Se_after_9 (zV d) (zG d n_Se_after) a0 l3 l5 l7 x9 M := by
  refine (zG_sg (m := zm_Se_after) rfl 400 _ _ _ M).trans ?_
  show zw true zm_Se_after (zV d) (zG d n_Se_after) 400 9 [some (.ref a0), none, none, some (.long l3), none, some (.long l5), none, some (.long l7), none, some (.int x9)] [] M = _
  unfold zx_Se_after_9
  refine zw_iload (p := 11) (Or.inl rfl) rfl rfl rfl ?_
  refine zw_aload_n (p := 12) (Or.inr rfl) rfl rfl rfl ?_
  refine zw_get_int (p := 15) (Or.inr rfl) rfl rfl ?_
  refine zw_icmp_gt (t := 58) (p := 18) (Or.inr rfl) rfl rfl rfl ?_ ?_
  · refine zw_lload (p := 60) (Or.inr rfl) rfl rfl rfl ?_
    refine zw_lload_n (p := 61) (Or.inr rfl) rfl rfl rfl ?_
    refine zw_land (p := 62) (Or.inr rfl) rfl rfl ?_
    exact zw_lreturn (Or.inr rfl) rfl rfl
  refine zw_lload (p := 20) (Or.inr rfl) rfl rfl rfl ?_
  refine zw_lconst (p := 21) (x := (0 : Int64)) (Or.inr rfl) rfl rfl rfl ?_
  refine zw_lcmp (p := 22) (Or.inr rfl) rfl rfl ?_
  refine zw_if_eq (t := 58) (p := 25) (Or.inr rfl) rfl rfl rfl ?_ ?_
  · refine zw_lload (p := 60) (Or.inr rfl) rfl rfl rfl ?_
    refine zw_lload_n (p := 61) (Or.inr rfl) rfl rfl rfl ?_
    refine zw_land (p := 62) (Or.inr rfl) rfl rfl ?_
    exact zw_lreturn (Or.inr rfl) rfl rfl
  refine zw_lload (p := 27) (Or.inr rfl) rfl rfl rfl ?_
  refine zw_lconst (p := 28) (x := (1 : Int64)) (Or.inr rfl) rfl rfl rfl ?_
  refine zw_land (p := 29) (Or.inr rfl) rfl rfl ?_
  refine zw_lconst (p := 30) (x := (0 : Int64)) (Or.inr rfl) rfl rfl rfl ?_
  refine zw_lcmp (p := 31) (Or.inr rfl) rfl rfl ?_
  refine zw_if_eq (t := 46) (p := 34) (Or.inr rfl) rfl rfl rfl ?_ ?_
  · refine zw_lload (p := 48) (Or.inr rfl) rfl rfl rfl ?_
    refine zw_iconst (p := 49) (x := (1 : Int32)) (Or.inr rfl) rfl rfl rfl ?_
    refine zw_lushr (p := 50) (Or.inr rfl) rfl rfl ?_
    refine zw_lstoreN (p := 52) (L2 := fun w1 => [some (.ref a0), none, none, some (.long l3), none, some (.long l5), none, some (.long w1), none, some (.int x9)]) (Or.inr rfl) rfl rfl (fun _ => rfl) rfl (fun w1 => ?_)
    refine zw_iinc (p := 55) (c := (1 : Int32)) (L2 := fun u1 => [some (.ref a0), none, none, some (.long l3), none, some (.long l5), none, some (.long w1), none, some (.int u1)]) (Or.inr rfl) rfl rfl rfl rfl (fun _ => rfl) rfl (fun u1 => ?_)
    refine zw_goto (t := 9) (Or.inr rfl) rfl rfl ?_
    exact zw_end rfl rfl
  refine zw_lload (p := 36) (Or.inr rfl) rfl rfl rfl ?_
  refine zw_aload_n (p := 37) (Or.inr rfl) rfl rfl rfl ?_
  refine zw_get_ref (p := 40) (Or.inr rfl) rfl rfl (fun q1 => ?_)
  refine zw_iload (p := 42) (Or.inr rfl) rfl rfl rfl ?_
  refine zw_laload (p := 43) (Or.inr rfl) rfl rfl ?_
  refine zw_lor (p := 44) (Or.inr rfl) rfl rfl ?_
  refine zw_lstoreN (p := 46) (L2 := fun w2 => [some (.ref a0), none, none, some (.long l3), none, some (.long w2), none, some (.long l7), none, some (.int x9)]) (Or.inr rfl) rfl rfl (fun _ => rfl) rfl (fun w2 => ?_)
  refine zw_lload (p := 48) (Or.inr rfl) rfl rfl rfl ?_
  refine zw_iconst (p := 49) (x := (1 : Int32)) (Or.inr rfl) rfl rfl rfl ?_
  refine zw_lushr (p := 50) (Or.inr rfl) rfl rfl ?_
  refine zw_lstoreN (p := 52) (L2 := fun w3 => [some (.ref a0), none, none, some (.long l3), none, some (.long w2), none, some (.long w3), none, some (.int x9)]) (Or.inr rfl) rfl rfl (fun _ => rfl) rfl (fun w3 => ?_)
  refine zw_iinc (p := 55) (c := (1 : Int32)) (L2 := fun u2 => [some (.ref a0), none, none, some (.long l3), none, some (.long w2), none, some (.long w3), none, some (.int u2)]) (Or.inr rfl) rfl rfl rfl rfl (fun _ => rfl) rfl (fun u2 => ?_)
  refine zw_goto (t := 9) (Or.inr rfl) rfl rfl ?_
  exact zw_end rfl rfl
def zx_Se_walk (E : zE0) (K : zKt) (a0 : Nat) (a1 : Nat) (x2 : Int32) (x3 : Int32) (M : zM) : zO :=
  K 6 [some (.ref a0), some (.ref a1), none, some (.int x3), some (.long (1 : Int64)), none, some (.int x2)] [] M
set_option maxRecDepth 20000 in
theorem ze_Se_walk (d : Nat) (a0 : Nat) (a1 : Nat) (x2 : Int32) (x3 : Int32) (M : zM) : zV (d + 1) n_Se_walk [.ref a0, .ref a1, .int x2, .int x3] M = zx_Se_walk (zV d) (zG d n_Se_walk) a0 a1 x2 x3 M := by
  refine (zE_sg (m := zm_Se_walk) rfl 400 _ rfl M).trans ?_
  show zw true zm_Se_walk (zV d) (zG d n_Se_walk) 400 0 [some (.ref a0), some (.ref a1), some (.int x2), some (.int x3), none, none, none] [] M = _
  unfold zx_Se_walk
  refine zw_lconst (p := 1) (x := (1 : Int64)) (Or.inl rfl) rfl rfl rfl ?_
  refine zw_lstore (p := 3) (l2 := [some (.ref a0), some (.ref a1), some (.int x2), some (.int x3), some (.long (1 : Int64)), none, none]) (Or.inr rfl) rfl rfl rfl rfl ?_
  refine zw_iload_n (p := 4) (Or.inr rfl) rfl rfl rfl ?_
  refine zw_istore (p := 6) (l2 := [some (.ref a0), some (.ref a1), some (.int x2), some (.int x3), some (.long (1 : Int64)), none, some (.int x2)]) (Or.inr rfl) rfl rfl rfl rfl ?_
  exact zw_end rfl rfl
def zx_Se_walk_6 (E : zE0) (K : zKt) (a0 : Nat) (a1 : Nat) (x3 : Int32) (l4 : Int64) (x6 : Int32) (M : zM) : zO :=
  if x3 ≤ x6 then (some (some (.long l4), M))
  else if (lg_cmp l4 (0 : Int64)) = 0 then (some (some (.long l4), M))
  else zif ((zK M a1).1 = 7)
  (zoR (zR M a1 0) fun q1 =>
  zif (((zK M q1).1 = 20 ∨ (zK M q1).1 = 24) ∧ zin x6 (zK M q1).2 = true)
  (zif ((zK M a0).1 = 4)
  (zbL (E n_Se_openTo [.ref a0, .int (zI M q1 (Int32.toNatClampNeg x6))] M) fun w1 M1 =>
  zif ((zK M1 a0).1 = 4)
  (zbL (E n_Se_after [.ref a0, .long l4, .long w1] M1) fun w2 M2 =>
  zbi (x6 + (1 : Int32)) fun u1 =>
  K 6 [some (.ref a0), some (.ref a1), none, some (.int x3), some (.long w2), none, some (.int u1)] [] M2))))
set_option maxRecDepth 20000 in
theorem zg_Se_walk_6 (d : Nat) (a0 : Nat) (a1 : Nat) (x3 : Int32) (l4 : Int64) (x6 : Int32) (M : zM) : zG d n_Se_walk 6 [some (.ref a0), some (.ref a1), none, some (.int x3), some (.long l4), none, some (.int x6)] [] M = zx_Se_walk_6 (zV d) (zG d n_Se_walk) a0 a1 x3 l4 x6 M := by
  refine (zG_sg (m := zm_Se_walk) rfl 400 _ _ _ M).trans ?_
  show zw true zm_Se_walk (zV d) (zG d n_Se_walk) 400 6 [some (.ref a0), some (.ref a1), none, some (.int x3), some (.long l4), none, some (.int x6)] [] M = _
  unfold zx_Se_walk_6
  refine zw_iload (p := 8) (Or.inl rfl) rfl rfl rfl ?_
  refine zw_iload_n (p := 9) (Or.inr rfl) rfl rfl rfl ?_
  refine zw_icmp_ge (t := 44) (p := 12) (Or.inr rfl) rfl rfl rfl ?_ ?_
  · refine zw_lload (p := 46) (Or.inr rfl) rfl rfl rfl ?_
    exact zw_lreturn (Or.inr rfl) rfl rfl
  refine zw_lload (p := 14) (Or.inr rfl) rfl rfl rfl ?_
  refine zw_lconst (p := 15) (x := (0 : Int64)) (Or.inr rfl) rfl rfl rfl ?_
  refine zw_lcmp (p := 16) (Or.inr rfl) rfl rfl ?_
  refine zw_if_eq (t := 44) (p := 19) (Or.inr rfl) rfl rfl rfl ?_ ?_
  · refine zw_lload (p := 46) (Or.inr rfl) rfl rfl rfl ?_
    exact zw_lreturn (Or.inr rfl) rfl rfl
  refine zw_aload_n (p := 20) (Or.inr rfl) rfl rfl rfl ?_
  refine zw_lload (p := 22) (Or.inr rfl) rfl rfl rfl ?_
  refine zw_aload_n (p := 23) (Or.inr rfl) rfl rfl rfl ?_
  refine zw_aload_n (p := 24) (Or.inr rfl) rfl rfl rfl ?_
  refine zw_get_ref (p := 27) (Or.inr rfl) rfl rfl (fun q1 => ?_)
  refine zw_iload (p := 29) (Or.inr rfl) rfl rfl rfl ?_
  refine zw_iaload (p := 30) (Or.inr rfl) rfl rfl ?_
  refine zw_virtualL (p := 33) (as := [.ref a0, .int (zI M q1 (Int32.toNatClampNeg x6))]) (rest := [.long l4, .ref a0]) (Or.inr rfl) rfl rfl rfl rfl rfl rfl rfl (fun w1 M1 => ?_)
  refine zw_virtualL (p := 36) (as := [.ref a0, .long l4, .long w1]) (rest := []) (Or.inr rfl) rfl rfl rfl rfl rfl rfl rfl (fun w2 M2 => ?_)
  refine zw_lstore (p := 38) (l2 := [some (.ref a0), some (.ref a1), none, some (.int x3), some (.long w2), none, some (.int x6)]) (Or.inr rfl) rfl rfl rfl rfl ?_
  refine zw_iinc (p := 41) (c := (1 : Int32)) (L2 := fun u1 => [some (.ref a0), some (.ref a1), none, some (.int x3), some (.long w2), none, some (.int u1)]) (Or.inr rfl) rfl rfl rfl rfl (fun _ => rfl) rfl (fun u1 => ?_)
  refine zw_goto (t := 6) (Or.inr rfl) rfl rfl ?_
  exact zw_end rfl rfl
def zx_Se_hasEnded (E : zE0) (K : zKt) (a0 : Nat) (l1 : Int64) (M : zM) : zO :=
  zif ((zK M a0).1 = 4)
  (if (lg_cmp (l1 &&& (zL M a0 3)) (0 : Int64)) = 0 then (zif ((0 : Int32) = 0 ∨ (0 : Int32) = 1) (some (some (.int (0 : Int32)), M)))
  else zif ((1 : Int32) = 0 ∨ (1 : Int32) = 1) (some (some (.int (1 : Int32)), M)))
set_option maxRecDepth 20000 in
theorem ze_Se_hasEnded (d : Nat) (a0 : Nat) (l1 : Int64) (M : zM) : zV (d + 1) n_Se_hasEnded [.ref a0, .long l1] M = zx_Se_hasEnded (zV d) (zG d n_Se_hasEnded) a0 l1 M := by
  refine (zE_sg (m := zm_Se_hasEnded) rfl 400 _ rfl M).trans ?_
  show zw true zm_Se_hasEnded (zV d) (zG d n_Se_hasEnded) 400 0 [some (.ref a0), some (.long l1), none] [] M = _
  unfold zx_Se_hasEnded
  refine zw_lload_n (p := 1) (Or.inl rfl) rfl rfl rfl ?_
  refine zw_aload_n (p := 2) (Or.inr rfl) rfl rfl rfl ?_
  refine zw_get_long (p := 5) (Or.inr rfl) rfl rfl ?_
  refine zw_land (p := 6) (Or.inr rfl) rfl rfl ?_
  refine zw_lconst (p := 7) (x := (0 : Int64)) (Or.inr rfl) rfl rfl rfl ?_
  refine zw_lcmp (p := 8) (Or.inr rfl) rfl rfl ?_
  refine zw_if_eq (t := 15) (p := 11) (Or.inr rfl) rfl rfl rfl ?_ ?_
  · refine zw_iconst (p := 16) (x := (0 : Int32)) (Or.inr rfl) rfl rfl rfl ?_
    exact zw_ireturn2 (Or.inr rfl) rfl rfl
  refine zw_iconst (p := 12) (x := (1 : Int32)) (Or.inr rfl) rfl rfl rfl ?_
  refine zw_goto (t := 16) (Or.inr rfl) rfl rfl ?_
  exact zw_ireturn2 (Or.inr rfl) rfl rfl
def zx_Se_goesOn (E : zE0) (K : zKt) (a0 : Nat) (l1 : Int64) (M : zM) : zO :=
  zif ((zK M a0).1 = 4)
  (if (lg_cmp (l1 &&& (zL M a0 5)) (0 : Int64)) = 0 then (zif ((0 : Int32) = 0 ∨ (0 : Int32) = 1) (some (some (.int (0 : Int32)), M)))
  else zif ((1 : Int32) = 0 ∨ (1 : Int32) = 1) (some (some (.int (1 : Int32)), M)))
set_option maxRecDepth 20000 in
theorem ze_Se_goesOn (d : Nat) (a0 : Nat) (l1 : Int64) (M : zM) : zV (d + 1) n_Se_goesOn [.ref a0, .long l1] M = zx_Se_goesOn (zV d) (zG d n_Se_goesOn) a0 l1 M := by
  refine (zE_sg (m := zm_Se_goesOn) rfl 400 _ rfl M).trans ?_
  show zw true zm_Se_goesOn (zV d) (zG d n_Se_goesOn) 400 0 [some (.ref a0), some (.long l1), none] [] M = _
  unfold zx_Se_goesOn
  refine zw_lload_n (p := 1) (Or.inl rfl) rfl rfl rfl ?_
  refine zw_aload_n (p := 2) (Or.inr rfl) rfl rfl rfl ?_
  refine zw_get_long (p := 5) (Or.inr rfl) rfl rfl ?_
  refine zw_land (p := 6) (Or.inr rfl) rfl rfl ?_
  refine zw_lconst (p := 7) (x := (0 : Int64)) (Or.inr rfl) rfl rfl rfl ?_
  refine zw_lcmp (p := 8) (Or.inr rfl) rfl rfl ?_
  refine zw_if_eq (t := 15) (p := 11) (Or.inr rfl) rfl rfl rfl ?_ ?_
  · refine zw_iconst (p := 16) (x := (0 : Int32)) (Or.inr rfl) rfl rfl rfl ?_
    exact zw_ireturn2 (Or.inr rfl) rfl rfl
  refine zw_iconst (p := 12) (x := (1 : Int32)) (Or.inr rfl) rfl rfl rfl ?_
  refine zw_goto (t := 16) (Or.inr rfl) rfl rfl ?_
  exact zw_ireturn2 (Or.inr rfl) rfl rfl
def zx_Sh_renew (E : zE0) (K : zKt) (a0 : Nat) (x1 : Int32) (x2 : Int32) (M : zM) : zO :=
  zif ((zK M a0).1 = 5)
  (zbm (zsI M a0 1 x1) fun M1 =>
  zif ((zK M1 a0).1 = 5)
  (zbm (zsI M1 a0 2 x2) fun M2 =>
  K 12 [some (.ref a0), none, none, some (.int (0 : Int32))] [] M2))
set_option maxRecDepth 20000 in
theorem ze_Sh_renew (d : Nat) (a0 : Nat) (x1 : Int32) (x2 : Int32) (M : zM) : zV (d + 1) n_Sh_renew [.ref a0, .int x1, .int x2] M = zx_Sh_renew (zV d) (zG d n_Sh_renew) a0 x1 x2 M := by
  refine (zE_sg (m := zm_Sh_renew) rfl 400 _ rfl M).trans ?_
  show zw true zm_Sh_renew (zV d) (zG d n_Sh_renew) 400 0 [some (.ref a0), some (.int x1), some (.int x2), none] [] M = _
  unfold zx_Sh_renew
  refine zw_aload_n (p := 1) (Or.inl rfl) rfl rfl rfl ?_
  refine zw_iload_n (p := 2) (Or.inr rfl) rfl rfl rfl ?_
  refine zw_put_int (p := 5) (Or.inr rfl) rfl rfl (fun M1 => ?_)
  refine zw_aload_n (p := 6) (Or.inr rfl) rfl rfl rfl ?_
  refine zw_iload_n (p := 7) (Or.inr rfl) rfl rfl rfl ?_
  refine zw_put_int (p := 10) (Or.inr rfl) rfl rfl (fun M2 => ?_)
  refine zw_iconst (p := 11) (x := (0 : Int32)) (Or.inr rfl) rfl rfl rfl ?_
  refine zw_istore_n (p := 12) (l2 := [some (.ref a0), some (.int x1), some (.int x2), some (.int (0 : Int32))]) (Or.inr rfl) rfl rfl rfl rfl ?_
  exact zw_end rfl rfl
def zx_Sh_renew_12 (E : zE0) (K : zKt) (a0 : Nat) (x3 : Int32) (M : zM) : zO :=
  if (40 : Int32) ≤ x3 then (some (none, M))
  else zif ((zK M a0).1 = 5)
  (zoR (zR M a0 0) fun q1 =>
  zif ((zK M q1).1 = 20 ∧ zin x3 (zK M q1).2 = true)
  (zbm (zsI M q1 (Int32.toNatClampNeg x3) (0 : Int32)) fun M1 =>
  zbi (x3 + (1 : Int32)) fun u1 =>
  K 12 [some (.ref a0), none, none, some (.int u1)] [] M1))
set_option maxRecDepth 20000 in
theorem zg_Sh_renew_12 (d : Nat) (a0 : Nat) (x3 : Int32) (M : zM) : zG d n_Sh_renew 12 [some (.ref a0), none, none, some (.int x3)] [] M = zx_Sh_renew_12 (zV d) (zG d n_Sh_renew) a0 x3 M := by
  refine (zG_sg (m := zm_Sh_renew) rfl 400 _ _ _ M).trans ?_
  show zw true zm_Sh_renew (zV d) (zG d n_Sh_renew) 400 12 [some (.ref a0), none, none, some (.int x3)] [] M = _
  unfold zx_Sh_renew_12
  refine zw_iload_n (p := 13) (Or.inl rfl) rfl rfl rfl ?_
  refine zw_bipush (p := 15) (x := (40 : Int32)) (Or.inr rfl) rfl rfl rfl ?_
  refine zw_icmp_ge (t := 31) (p := 18) (Or.inr rfl) rfl rfl rfl ?_ ?_
  · exact zw_return (Or.inr rfl) rfl rfl
  refine zw_aload_n (p := 19) (Or.inr rfl) rfl rfl rfl ?_
  refine zw_get_ref (p := 22) (Or.inr rfl) rfl rfl (fun q1 => ?_)
  refine zw_iload_n (p := 23) (Or.inr rfl) rfl rfl rfl ?_
  refine zw_iconst (p := 24) (x := (0 : Int32)) (Or.inr rfl) rfl rfl rfl ?_
  refine zw_iastore (p := 25) (Or.inr rfl) rfl rfl (fun M1 => ?_)
  refine zw_iinc (p := 28) (c := (1 : Int32)) (L2 := fun u1 => [some (.ref a0), none, none, some (.int u1)]) (Or.inr rfl) rfl rfl rfl rfl (fun _ => rfl) rfl (fun u1 => ?_)
  refine zw_goto (t := 12) (Or.inr rfl) rfl rfl ?_
  exact zw_end rfl rfl
def zx_Sh_tearAt (E : zE0) (K : zKt) (a0 : Nat) (x1 : Int32) (x2 : Int32) (M : zM) : zO :=
  zif ((zK M a0).1 = 5)
  (if 0 ≤ (zI M a0 2) then (zif ((zK M a0).1 = 5)
    (if x1 = (zI M a0 1) then (if x2 < 0 then (some (some (.int (3 : Int32)), M))
      else zif ((zK M a0).1 = 5)
      (if x2 < (zI M a0 2) then (some (some (.int (0 : Int32)), M))
      else some (some (.int (3 : Int32)), M)))
    else some (some (.int (2 : Int32)), M)))
  else some (some (.int (1 : Int32)), M))
set_option maxRecDepth 20000 in
theorem ze_Sh_tearAt (d : Nat) (a0 : Nat) (x1 : Int32) (x2 : Int32) (M : zM) : zV (d + 1) n_Sh_tearAt [.ref a0, .int x1, .int x2] M = zx_Sh_tearAt (zV d) (zG d n_Sh_tearAt) a0 x1 x2 M := by
  refine (zE_sg (m := zm_Sh_tearAt) rfl 400 _ rfl M).trans ?_
  show zw true zm_Sh_tearAt (zV d) (zG d n_Sh_tearAt) 400 0 [some (.ref a0), some (.int x1), some (.int x2)] [] M = _
  unfold zx_Sh_tearAt
  refine zw_aload_n (p := 1) (Or.inl rfl) rfl rfl rfl ?_
  refine zw_get_int (p := 4) (Or.inr rfl) rfl rfl ?_
  refine zw_if_ge (t := 9) (p := 7) (Or.inr rfl) rfl rfl rfl ?_ ?_
  · refine zw_iload_n (p := 10) (Or.inr rfl) rfl rfl rfl ?_
    refine zw_aload_n (p := 11) (Or.inr rfl) rfl rfl rfl ?_
    refine zw_get_int (p := 14) (Or.inr rfl) rfl rfl ?_
    refine zw_icmp_eq (t := 19) (p := 17) (Or.inr rfl) rfl rfl rfl ?_ ?_
    · refine zw_iload_n (p := 20) (Or.inr rfl) rfl rfl rfl ?_
      refine zw_if_lt (t := 31) (p := 23) (Or.inr rfl) rfl rfl rfl ?_ ?_
      · refine zw_iconst (p := 32) (x := (3 : Int32)) (Or.inr rfl) rfl rfl rfl ?_
        refine zw_goto (t := 36) (Or.inr rfl) rfl rfl ?_
        exact zw_ireturn1 (Or.inr rfl) rfl rfl
      refine zw_iload_n (p := 24) (Or.inr rfl) rfl rfl rfl ?_
      refine zw_aload_n (p := 25) (Or.inr rfl) rfl rfl rfl ?_
      refine zw_get_int (p := 28) (Or.inr rfl) rfl rfl ?_
      refine zw_icmp_lt (t := 35) (p := 31) (Or.inr rfl) rfl rfl rfl ?_ ?_
      · refine zw_iconst (p := 36) (x := (0 : Int32)) (Or.inr rfl) rfl rfl rfl ?_
        exact zw_ireturn1 (Or.inr rfl) rfl rfl
      refine zw_iconst (p := 32) (x := (3 : Int32)) (Or.inr rfl) rfl rfl rfl ?_
      refine zw_goto (t := 36) (Or.inr rfl) rfl rfl ?_
      exact zw_ireturn1 (Or.inr rfl) rfl rfl
    refine zw_iconst (p := 18) (x := (2 : Int32)) (Or.inr rfl) rfl rfl rfl ?_
    exact zw_ireturn1 (Or.inr rfl) rfl rfl
  refine zw_iconst (p := 8) (x := (1 : Int32)) (Or.inr rfl) rfl rfl rfl ?_
  exact zw_ireturn1 (Or.inr rfl) rfl rfl
def zx_Sh_setCell (E : zE0) (K : zKt) (a0 : Nat) (x1 : Int32) (x2 : Int32) (M : zM) : zO :=
  zif ((zK M a0).1 = 5)
  (if (zI M a0 1) = (0 : Int32) then (zif ((zK M a0).1 = 5)
    (zoR (zR M a0 0) fun q1 =>
    zif ((zK M q1).1 = 20 ∧ zin x1 (zK M q1).2 = true)
    (zbm (zsI M q1 (Int32.toNatClampNeg x1) ((Int32.toInt8 x2).toInt32)) fun M1 =>
    some (none, M1))))
  else if (zI M a0 1) = (1 : Int32) then (zif ((zK M a0).1 = 5)
    (zoR (zR M a0 0) fun q2 =>
    zif ((zK M q2).1 = 20 ∧ zin x1 (zK M q2).2 = true)
    (zbm (zsI M q2 (Int32.toNatClampNeg x1) ((Int32.toUInt32 x2 % 65536).toInt32)) fun M2 =>
    some (none, M2))))
  else zif ((zK M a0).1 = 5)
  (zoR (zR M a0 0) fun q3 =>
  zif ((zK M q3).1 = 20 ∧ zin x1 (zK M q3).2 = true)
  (zbm (zsI M q3 (Int32.toNatClampNeg x1) x2) fun M3 =>
  some (none, M3))))
set_option maxRecDepth 20000 in
theorem ze_Sh_setCell (d : Nat) (a0 : Nat) (x1 : Int32) (x2 : Int32) (M : zM) : zV (d + 1) n_Sh_setCell [.ref a0, .int x1, .int x2] M = zx_Sh_setCell (zV d) (zG d n_Sh_setCell) a0 x1 x2 M := by
  refine (zE_sg (m := zm_Sh_setCell) rfl 400 _ rfl M).trans ?_
  show zw true zm_Sh_setCell (zV d) (zG d n_Sh_setCell) 400 0 [some (.ref a0), some (.int x1), some (.int x2)] [] M = _
  unfold zx_Sh_setCell
  refine zw_aload_n (p := 1) (Or.inl rfl) rfl rfl rfl ?_
  refine zw_get_int (p := 4) (Or.inr rfl) rfl rfl ?_
  refine zw_lookup (Or.inr rfl) rfl ?_
  refine zlk_c ?_ ?_
  · refine zw_aload_n (p := 33) (Or.inr rfl) rfl rfl rfl ?_
    refine zw_get_ref (p := 36) (Or.inr rfl) rfl rfl (fun q1 => ?_)
    refine zw_iload_n (p := 37) (Or.inr rfl) rfl rfl rfl ?_
    refine zw_iload_n (p := 38) (Or.inr rfl) rfl rfl rfl ?_
    refine zw_i2b (p := 39) (Or.inr rfl) rfl rfl ?_
    refine zw_iastore (p := 40) (Or.inr rfl) rfl rfl (fun M1 => ?_)
    refine zw_goto (t := 61) (Or.inr rfl) rfl rfl ?_
    exact zw_return (Or.inr rfl) rfl rfl
  refine zlk_c ?_ ?_
  · refine zw_aload_n (p := 44) (Or.inr rfl) rfl rfl rfl ?_
    refine zw_get_ref (p := 47) (Or.inr rfl) rfl rfl (fun q2 => ?_)
    refine zw_iload_n (p := 48) (Or.inr rfl) rfl rfl rfl ?_
    refine zw_iload_n (p := 49) (Or.inr rfl) rfl rfl rfl ?_
    refine zw_i2c (p := 50) (Or.inr rfl) rfl rfl ?_
    refine zw_iastore (p := 51) (Or.inr rfl) rfl rfl (fun M2 => ?_)
    refine zw_goto (t := 61) (Or.inr rfl) rfl rfl ?_
    exact zw_return (Or.inr rfl) rfl rfl
  refine zlk_n ?_
  refine zw_aload_n (p := 55) (Or.inr rfl) rfl rfl rfl ?_
  refine zw_get_ref (p := 58) (Or.inr rfl) rfl rfl (fun q3 => ?_)
  refine zw_iload_n (p := 59) (Or.inr rfl) rfl rfl rfl ?_
  refine zw_iload_n (p := 60) (Or.inr rfl) rfl rfl rfl ?_
  refine zw_iastore (p := 61) (Or.inr rfl) rfl rfl (fun M3 => ?_)
  exact zw_return (Or.inr rfl) rfl rfl
def zx_Ta_begin (E : zE0) (K : zKt) (a0 : Nat) (M : zM) : zO :=
  zif ((zK M a0).1 = 6)
  (zbm (zsI M a0 2 (0 : Int32)) fun M1 =>
  zif ((zK M1 a0).1 = 6)
  (zbm (zsI M1 a0 6 (0 : Int32)) fun M2 =>
  zif ((zK M2 a0).1 = 6)
  (zbm (zsI M2 a0 7 (0 : Int32)) fun M3 =>
  zif ((zK M3 a0).1 = 6)
  (zbV (E n_Ta_advance [.ref a0] M3) fun M4 =>
  some (none, M4)))))
set_option maxRecDepth 20000 in
theorem ze_Ta_begin (d : Nat) (a0 : Nat) (M : zM) : zV (d + 1) n_Ta_begin [.ref a0] M = zx_Ta_begin (zV d) (zG d n_Ta_begin) a0 M := by
  refine (zE_sg (m := zm_Ta_begin) rfl 400 _ rfl M).trans ?_
  show zw true zm_Ta_begin (zV d) (zG d n_Ta_begin) 400 0 [some (.ref a0)] [] M = _
  unfold zx_Ta_begin
  refine zw_aload_n (p := 1) (Or.inl rfl) rfl rfl rfl ?_
  refine zw_iconst (p := 2) (x := (0 : Int32)) (Or.inr rfl) rfl rfl rfl ?_
  refine zw_put_int (p := 5) (Or.inr rfl) rfl rfl (fun M1 => ?_)
  refine zw_aload_n (p := 6) (Or.inr rfl) rfl rfl rfl ?_
  refine zw_iconst (p := 7) (x := (0 : Int32)) (Or.inr rfl) rfl rfl rfl ?_
  refine zw_put_int (p := 10) (Or.inr rfl) rfl rfl (fun M2 => ?_)
  refine zw_aload_n (p := 11) (Or.inr rfl) rfl rfl rfl ?_
  refine zw_iconst (p := 12) (x := (0 : Int32)) (Or.inr rfl) rfl rfl rfl ?_
  refine zw_put_int (p := 15) (Or.inr rfl) rfl rfl (fun M3 => ?_)
  refine zw_aload_n (p := 16) (Or.inr rfl) rfl rfl rfl ?_
  refine zw_virtualV (p := 19) (as := [.ref a0]) (rest := []) (Or.inr rfl) rfl rfl rfl rfl rfl rfl rfl (fun M4 => ?_)
  exact zw_return (Or.inr rfl) rfl rfl
def zx_Ta_refuse (E : zE0) (K : zKt) (a0 : Nat) (x1 : Int32) (M : zM) : zO :=
  zif ((zK M a0).1 = 6)
  (if (zI M a0 6) ≠ 0 then (zif ((0 : Int32) = 0 ∨ (0 : Int32) = 1) (some (some (.int (0 : Int32)), M)))
  else zif ((zK M a0).1 = 6)
  (zbm (zsI M a0 6 x1) fun M1 =>
  zif ((zK M1 a0).1 = 6)
  (zif ((zK M1 a0).1 = 6)
  (zbm (zsI M1 a0 7 (zI M1 a0 5)) fun M2 =>
  zif ((0 : Int32) = 0 ∨ (0 : Int32) = 1) (some (some (.int (0 : Int32)), M2))))))
set_option maxRecDepth 20000 in
theorem ze_Ta_refuse (d : Nat) (a0 : Nat) (x1 : Int32) (M : zM) : zV (d + 1) n_Ta_refuse [.ref a0, .int x1] M = zx_Ta_refuse (zV d) (zG d n_Ta_refuse) a0 x1 M := by
  refine (zE_sg (m := zm_Ta_refuse) rfl 400 _ rfl M).trans ?_
  show zw true zm_Ta_refuse (zV d) (zG d n_Ta_refuse) 400 0 [some (.ref a0), some (.int x1)] [] M = _
  unfold zx_Ta_refuse
  refine zw_aload_n (p := 1) (Or.inl rfl) rfl rfl rfl ?_
  refine zw_get_int (p := 4) (Or.inr rfl) rfl rfl ?_
  refine zw_if_ne (t := 20) (p := 7) (Or.inr rfl) rfl rfl rfl ?_ ?_
  · refine zw_iconst (p := 21) (x := (0 : Int32)) (Or.inr rfl) rfl rfl rfl ?_
    exact zw_ireturn2 (Or.inr rfl) rfl rfl
  refine zw_aload_n (p := 8) (Or.inr rfl) rfl rfl rfl ?_
  refine zw_iload_n (p := 9) (Or.inr rfl) rfl rfl rfl ?_
  refine zw_put_int (p := 12) (Or.inr rfl) rfl rfl (fun M1 => ?_)
  refine zw_aload_n (p := 13) (Or.inr rfl) rfl rfl rfl ?_
  refine zw_aload_n (p := 14) (Or.inr rfl) rfl rfl rfl ?_
  refine zw_get_int (p := 17) (Or.inr rfl) rfl rfl ?_
  refine zw_put_int (p := 20) (Or.inr rfl) rfl rfl (fun M2 => ?_)
  refine zw_iconst (p := 21) (x := (0 : Int32)) (Or.inr rfl) rfl rfl rfl ?_
  exact zw_ireturn2 (Or.inr rfl) rfl rfl
def zx_Ta_advance (E : zE0) (K : zKt) (a0 : Nat) (M : zM) : zO :=
  zif ((zK M a0).1 = 6)
  (zif ((zK M a0).1 = 6)
  (if (zI M a0 1) ≤ (zI M a0 2) then (K 38 [some (.ref a0), none] [] M)
  else zif ((zK M a0).1 = 6)
  (zoR (zR M a0 0) fun q1 =>
  zif ((zK M a0).1 = 6)
  (zif (((zK M q1).1 = 21 ∨ (zK M q1).1 = 22) ∧ zin (zI M a0 2) (zK M q1).2 = true)
  (if (zI M q1 (Int32.toNatClampNeg (zI M a0 2))) ≠ (32 : Int32) then (K 38 [some (.ref a0), none] [] M)
  else zif ((zK M a0).1 = 6)
  (zif ((zK M a0).1 = 6)
  (zbm (zsI M a0 2 ((zI M a0 2) + (1 : Int32))) fun M1 =>
  K 0 [some (.ref a0), none] [] M1)))))))
set_option maxRecDepth 20000 in
theorem ze_Ta_advance (d : Nat) (a0 : Nat) (M : zM) : zV (d + 1) n_Ta_advance [.ref a0] M = zx_Ta_advance (zV d) (zG d n_Ta_advance) a0 M := by
  refine (zE_sg (m := zm_Ta_advance) rfl 400 _ rfl M).trans ?_
  show zw true zm_Ta_advance (zV d) (zG d n_Ta_advance) 400 0 [some (.ref a0), none] [] M = _
  unfold zx_Ta_advance
  refine zw_aload_n (p := 1) (Or.inl rfl) rfl rfl rfl ?_
  refine zw_get_int (p := 4) (Or.inr rfl) rfl rfl ?_
  refine zw_aload_n (p := 5) (Or.inr rfl) rfl rfl rfl ?_
  refine zw_get_int (p := 8) (Or.inr rfl) rfl rfl ?_
  refine zw_icmp_ge (t := 38) (p := 11) (Or.inr rfl) rfl rfl rfl ?_ ?_
  · exact zw_end rfl rfl
  refine zw_aload_n (p := 12) (Or.inr rfl) rfl rfl rfl ?_
  refine zw_get_ref (p := 15) (Or.inr rfl) rfl rfl (fun q1 => ?_)
  refine zw_aload_n (p := 16) (Or.inr rfl) rfl rfl rfl ?_
  refine zw_get_int (p := 19) (Or.inr rfl) rfl rfl ?_
  refine zw_baload (p := 20) (Or.inr rfl) rfl rfl ?_
  refine zw_bipush (p := 22) (x := (32 : Int32)) (Or.inr rfl) rfl rfl rfl ?_
  refine zw_icmp_ne (t := 38) (p := 25) (Or.inr rfl) rfl rfl rfl ?_ ?_
  · exact zw_end rfl rfl
  refine zw_aload_n (p := 26) (Or.inr rfl) rfl rfl rfl ?_
  refine zw_dup_ref (p := 27) (Or.inr rfl) rfl rfl ?_
  refine zw_get_int (p := 30) (Or.inr rfl) rfl rfl ?_
  refine zw_iconst (p := 31) (x := (1 : Int32)) (Or.inr rfl) rfl rfl rfl ?_
  refine zw_iadd (p := 32) (Or.inr rfl) rfl rfl ?_
  refine zw_put_int (p := 35) (Or.inr rfl) rfl rfl (fun M1 => ?_)
  refine zw_goto (t := 0) (Or.inr rfl) rfl rfl ?_
  exact zw_end rfl rfl
def zx_Ta_advance_38 (E : zE0) (K : zKt) (a0 : Nat) (M : zM) : zO :=
  zif ((zK M a0).1 = 6)
  (zif ((zK M a0).1 = 6)
  (zbm (zsI M a0 5 (zI M a0 2)) fun M1 =>
  zif ((zK M1 a0).1 = 6)
  (zif ((zK M1 a0).1 = 6)
  (if (zI M1 a0 2) < (zI M1 a0 1) then (zif ((zK M1 a0).1 = 6)
    (zoR (zR M1 a0 0) fun q1 =>
    zif ((zK M1 a0).1 = 6)
    (zif (((zK M1 q1).1 = 21 ∨ (zK M1 q1).1 = 22) ∧ zin (zI M1 a0 2) (zK M1 q1).2 = true)
    (zbi (zI M1 q1 (Int32.toNatClampNeg (zI M1 a0 2))) fun u1 =>
    zif ((zK M1 a0).1 = 6)
    (zif ((zK M1 a0).1 = 6)
    (zbm (zsI M1 a0 2 ((zI M1 a0 2) + (1 : Int32))) fun M2 =>
    if u1 < (97 : Int32) then (zbI (E n_Ta_isFigure [.int u1] M2) fun u2 M3 =>
      if u2 = 0 then (zbI (E n_Ta_isSign [.int u1] M3) fun u3 M4 =>
        if u3 = 0 then (zif ((zK M4 a0).1 = 6)
          (zbm (zsI M4 a0 3 (3 : Int32)) fun M5 =>
          zif ((zK M5 a0).1 = 6)
          (zbI (E n_Ta_refuse [.ref a0, .int (1 : Int32)] M5) fun u4 M6 =>
          some (none, M6))))
        else zif ((zK M4 a0).1 = 6)
        (zbm (zsI M4 a0 3 u1) fun M7 =>
        some (none, M7)))
      else zif ((zK M3 a0).1 = 6)
      (zbV (E n_Ta_advanceNumber [.ref a0, .int u1] M3) fun M8 =>
      some (none, M8)))
    else if (104 : Int32) < u1 then (zbI (E n_Ta_isFigure [.int u1] M2) fun u5 M9 =>
      if u5 = 0 then (zbI (E n_Ta_isSign [.int u1] M9) fun u6 M10 =>
        if u6 = 0 then (zif ((zK M10 a0).1 = 6)
          (zbm (zsI M10 a0 3 (3 : Int32)) fun M11 =>
          zif ((zK M11 a0).1 = 6)
          (zbI (E n_Ta_refuse [.ref a0, .int (1 : Int32)] M11) fun u7 M12 =>
          some (none, M12))))
        else zif ((zK M10 a0).1 = 6)
        (zbm (zsI M10 a0 3 u1) fun M13 =>
        some (none, M13)))
      else zif ((zK M9 a0).1 = 6)
      (zbV (E n_Ta_advanceNumber [.ref a0, .int u1] M9) fun M14 =>
      some (none, M14)))
    else zif ((zK M2 a0).1 = 6)
    (zbm (zsI M2 a0 3 (1 : Int32)) fun M15 =>
    zif ((zK M15 a0).1 = 6)
    (zbm (zsI M15 a0 4 (u1 - (97 : Int32))) fun M16 =>
    some (none, M16)))))))))
  else zif ((zK M1 a0).1 = 6)
  (zbm (zsI M1 a0 3 (0 : Int32)) fun M17 =>
  some (none, M17))))))
set_option maxRecDepth 20000 in
theorem zg_Ta_advance_38 (d : Nat) (a0 : Nat) (M : zM) : zG d n_Ta_advance 38 [some (.ref a0), none] [] M = zx_Ta_advance_38 (zV d) (zG d n_Ta_advance) a0 M := by
  refine (zG_sg (m := zm_Ta_advance) rfl 400 _ _ _ M).trans ?_
  show zw true zm_Ta_advance (zV d) (zG d n_Ta_advance) 400 38 [some (.ref a0), none] [] M = _
  unfold zx_Ta_advance_38
  refine zw_aload_n (p := 39) (Or.inl rfl) rfl rfl rfl ?_
  refine zw_aload_n (p := 40) (Or.inr rfl) rfl rfl rfl ?_
  refine zw_get_int (p := 43) (Or.inr rfl) rfl rfl ?_
  refine zw_put_int (p := 46) (Or.inr rfl) rfl rfl (fun M1 => ?_)
  refine zw_aload_n (p := 47) (Or.inr rfl) rfl rfl rfl ?_
  refine zw_get_int (p := 50) (Or.inr rfl) rfl rfl ?_
  refine zw_aload_n (p := 51) (Or.inr rfl) rfl rfl rfl ?_
  refine zw_get_int (p := 54) (Or.inr rfl) rfl rfl ?_
  refine zw_icmp_lt (t := 63) (p := 57) (Or.inr rfl) rfl rfl rfl ?_ ?_
  · refine zw_aload_n (p := 64) (Or.inr rfl) rfl rfl rfl ?_
    refine zw_get_ref (p := 67) (Or.inr rfl) rfl rfl (fun q1 => ?_)
    refine zw_aload_n (p := 68) (Or.inr rfl) rfl rfl rfl ?_
    refine zw_get_int (p := 71) (Or.inr rfl) rfl rfl ?_
    refine zw_baload (p := 72) (Or.inr rfl) rfl rfl ?_
    refine zw_istore_nN (p := 73) (L2 := fun u1 => [some (.ref a0), some (.int u1)]) (Or.inr rfl) rfl rfl (fun _ => rfl) rfl (fun u1 => ?_)
    refine zw_aload_n (p := 74) (Or.inr rfl) rfl rfl rfl ?_
    refine zw_dup_ref (p := 75) (Or.inr rfl) rfl rfl ?_
    refine zw_get_int (p := 78) (Or.inr rfl) rfl rfl ?_
    refine zw_iconst (p := 79) (x := (1 : Int32)) (Or.inr rfl) rfl rfl rfl ?_
    refine zw_iadd (p := 80) (Or.inr rfl) rfl rfl ?_
    refine zw_put_int (p := 83) (Or.inr rfl) rfl rfl (fun M2 => ?_)
    refine zw_iload_n (p := 84) (Or.inr rfl) rfl rfl rfl ?_
    refine zw_bipush (p := 86) (x := (97 : Int32)) (Or.inr rfl) rfl rfl rfl ?_
    refine zw_icmp_lt (t := 111) (p := 89) (Or.inr rfl) rfl rfl rfl ?_ ?_
    · refine zw_iload_n (p := 112) (Or.inr rfl) rfl rfl rfl ?_
      refine zw_staticI (p := 115) (as := [.int u1]) (rest := []) (Or.inr rfl) rfl rfl rfl rfl rfl rfl (fun u2 M3 => ?_)
      refine zw_if_eq (t := 126) (p := 118) (Or.inr rfl) rfl rfl rfl ?_ ?_
      · refine zw_iload_n (p := 127) (Or.inr rfl) rfl rfl rfl ?_
        refine zw_staticI (p := 130) (as := [.int u1]) (rest := []) (Or.inr rfl) rfl rfl rfl rfl rfl rfl (fun u3 M4 => ?_)
        refine zw_if_eq (t := 141) (p := 133) (Or.inr rfl) rfl rfl rfl ?_ ?_
        · refine zw_aload_n (p := 142) (Or.inr rfl) rfl rfl rfl ?_
          refine zw_iconst (p := 143) (x := (3 : Int32)) (Or.inr rfl) rfl rfl rfl ?_
          refine zw_put_int (p := 146) (Or.inr rfl) rfl rfl (fun M5 => ?_)
          refine zw_aload_n (p := 147) (Or.inr rfl) rfl rfl rfl ?_
          refine zw_iconst (p := 148) (x := (1 : Int32)) (Or.inr rfl) rfl rfl rfl ?_
          refine zw_virtualI (p := 151) (as := [.ref a0, .int (1 : Int32)]) (rest := []) (Or.inr rfl) rfl rfl rfl rfl rfl rfl rfl (fun u4 M6 => ?_)
          refine zw_pop_int (p := 152) (Or.inr rfl) rfl rfl ?_
          exact zw_return (Or.inr rfl) rfl rfl
        refine zw_aload_n (p := 134) (Or.inr rfl) rfl rfl rfl ?_
        refine zw_iload_n (p := 135) (Or.inr rfl) rfl rfl rfl ?_
        refine zw_put_int (p := 138) (Or.inr rfl) rfl rfl (fun M7 => ?_)
        refine zw_goto (t := 152) (Or.inr rfl) rfl rfl ?_
        exact zw_return (Or.inr rfl) rfl rfl
      refine zw_aload_n (p := 119) (Or.inr rfl) rfl rfl rfl ?_
      refine zw_iload_n (p := 120) (Or.inr rfl) rfl rfl rfl ?_
      refine zw_virtualV (p := 123) (as := [.ref a0, .int u1]) (rest := []) (Or.inr rfl) rfl rfl rfl rfl rfl rfl rfl (fun M8 => ?_)
      refine zw_goto (t := 152) (Or.inr rfl) rfl rfl ?_
      exact zw_return (Or.inr rfl) rfl rfl
    refine zw_iload_n (p := 90) (Or.inr rfl) rfl rfl rfl ?_
    refine zw_bipush (p := 92) (x := (104 : Int32)) (Or.inr rfl) rfl rfl rfl ?_
    refine zw_icmp_gt (t := 111) (p := 95) (Or.inr rfl) rfl rfl rfl ?_ ?_
    · refine zw_iload_n (p := 112) (Or.inr rfl) rfl rfl rfl ?_
      refine zw_staticI (p := 115) (as := [.int u1]) (rest := []) (Or.inr rfl) rfl rfl rfl rfl rfl rfl (fun u5 M9 => ?_)
      refine zw_if_eq (t := 126) (p := 118) (Or.inr rfl) rfl rfl rfl ?_ ?_
      · refine zw_iload_n (p := 127) (Or.inr rfl) rfl rfl rfl ?_
        refine zw_staticI (p := 130) (as := [.int u1]) (rest := []) (Or.inr rfl) rfl rfl rfl rfl rfl rfl (fun u6 M10 => ?_)
        refine zw_if_eq (t := 141) (p := 133) (Or.inr rfl) rfl rfl rfl ?_ ?_
        · refine zw_aload_n (p := 142) (Or.inr rfl) rfl rfl rfl ?_
          refine zw_iconst (p := 143) (x := (3 : Int32)) (Or.inr rfl) rfl rfl rfl ?_
          refine zw_put_int (p := 146) (Or.inr rfl) rfl rfl (fun M11 => ?_)
          refine zw_aload_n (p := 147) (Or.inr rfl) rfl rfl rfl ?_
          refine zw_iconst (p := 148) (x := (1 : Int32)) (Or.inr rfl) rfl rfl rfl ?_
          refine zw_virtualI (p := 151) (as := [.ref a0, .int (1 : Int32)]) (rest := []) (Or.inr rfl) rfl rfl rfl rfl rfl rfl rfl (fun u7 M12 => ?_)
          refine zw_pop_int (p := 152) (Or.inr rfl) rfl rfl ?_
          exact zw_return (Or.inr rfl) rfl rfl
        refine zw_aload_n (p := 134) (Or.inr rfl) rfl rfl rfl ?_
        refine zw_iload_n (p := 135) (Or.inr rfl) rfl rfl rfl ?_
        refine zw_put_int (p := 138) (Or.inr rfl) rfl rfl (fun M13 => ?_)
        refine zw_goto (t := 152) (Or.inr rfl) rfl rfl ?_
        exact zw_return (Or.inr rfl) rfl rfl
      refine zw_aload_n (p := 119) (Or.inr rfl) rfl rfl rfl ?_
      refine zw_iload_n (p := 120) (Or.inr rfl) rfl rfl rfl ?_
      refine zw_virtualV (p := 123) (as := [.ref a0, .int u1]) (rest := []) (Or.inr rfl) rfl rfl rfl rfl rfl rfl rfl (fun M14 => ?_)
      refine zw_goto (t := 152) (Or.inr rfl) rfl rfl ?_
      exact zw_return (Or.inr rfl) rfl rfl
    refine zw_aload_n (p := 96) (Or.inr rfl) rfl rfl rfl ?_
    refine zw_iconst (p := 97) (x := (1 : Int32)) (Or.inr rfl) rfl rfl rfl ?_
    refine zw_put_int (p := 100) (Or.inr rfl) rfl rfl (fun M15 => ?_)
    refine zw_aload_n (p := 101) (Or.inr rfl) rfl rfl rfl ?_
    refine zw_iload_n (p := 102) (Or.inr rfl) rfl rfl rfl ?_
    refine zw_bipush (p := 104) (x := (97 : Int32)) (Or.inr rfl) rfl rfl rfl ?_
    refine zw_isub (p := 105) (Or.inr rfl) rfl rfl ?_
    refine zw_put_int (p := 108) (Or.inr rfl) rfl rfl (fun M16 => ?_)
    refine zw_goto (t := 152) (Or.inr rfl) rfl rfl ?_
    exact zw_return (Or.inr rfl) rfl rfl
  refine zw_aload_n (p := 58) (Or.inr rfl) rfl rfl rfl ?_
  refine zw_iconst (p := 59) (x := (0 : Int32)) (Or.inr rfl) rfl rfl rfl ?_
  refine zw_put_int (p := 62) (Or.inr rfl) rfl rfl (fun M17 => ?_)
  exact zw_return (Or.inr rfl) rfl rfl
def zx_Ta_advance_0 (E : zE0) (K : zKt) (a0 : Nat) (M : zM) : zO :=
  zif ((zK M a0).1 = 6)
  (zif ((zK M a0).1 = 6)
  (if (zI M a0 1) ≤ (zI M a0 2) then (K 38 [some (.ref a0), none] [] M)
  else zif ((zK M a0).1 = 6)
  (zoR (zR M a0 0) fun q1 =>
  zif ((zK M a0).1 = 6)
  (zif (((zK M q1).1 = 21 ∨ (zK M q1).1 = 22) ∧ zin (zI M a0 2) (zK M q1).2 = true)
  (if (zI M q1 (Int32.toNatClampNeg (zI M a0 2))) ≠ (32 : Int32) then (K 38 [some (.ref a0), none] [] M)
  else zif ((zK M a0).1 = 6)
  (zif ((zK M a0).1 = 6)
  (zbm (zsI M a0 2 ((zI M a0 2) + (1 : Int32))) fun M1 =>
  K 0 [some (.ref a0), none] [] M1)))))))
set_option maxRecDepth 20000 in
theorem zg_Ta_advance_0 (d : Nat) (a0 : Nat) (M : zM) : zG d n_Ta_advance 0 [some (.ref a0), none] [] M = zx_Ta_advance_0 (zV d) (zG d n_Ta_advance) a0 M := by
  refine (zG_sg (m := zm_Ta_advance) rfl 400 _ _ _ M).trans ?_
  show zw true zm_Ta_advance (zV d) (zG d n_Ta_advance) 400 0 [some (.ref a0), none] [] M = _
  unfold zx_Ta_advance_0
  refine zw_aload_n (p := 1) (Or.inl rfl) rfl rfl rfl ?_
  refine zw_get_int (p := 4) (Or.inr rfl) rfl rfl ?_
  refine zw_aload_n (p := 5) (Or.inr rfl) rfl rfl rfl ?_
  refine zw_get_int (p := 8) (Or.inr rfl) rfl rfl ?_
  refine zw_icmp_ge (t := 38) (p := 11) (Or.inr rfl) rfl rfl rfl ?_ ?_
  · exact zw_end rfl rfl
  refine zw_aload_n (p := 12) (Or.inr rfl) rfl rfl rfl ?_
  refine zw_get_ref (p := 15) (Or.inr rfl) rfl rfl (fun q1 => ?_)
  refine zw_aload_n (p := 16) (Or.inr rfl) rfl rfl rfl ?_
  refine zw_get_int (p := 19) (Or.inr rfl) rfl rfl ?_
  refine zw_baload (p := 20) (Or.inr rfl) rfl rfl ?_
  refine zw_bipush (p := 22) (x := (32 : Int32)) (Or.inr rfl) rfl rfl rfl ?_
  refine zw_icmp_ne (t := 38) (p := 25) (Or.inr rfl) rfl rfl rfl ?_ ?_
  · exact zw_end rfl rfl
  refine zw_aload_n (p := 26) (Or.inr rfl) rfl rfl rfl ?_
  refine zw_dup_ref (p := 27) (Or.inr rfl) rfl rfl ?_
  refine zw_get_int (p := 30) (Or.inr rfl) rfl rfl ?_
  refine zw_iconst (p := 31) (x := (1 : Int32)) (Or.inr rfl) rfl rfl rfl ?_
  refine zw_iadd (p := 32) (Or.inr rfl) rfl rfl ?_
  refine zw_put_int (p := 35) (Or.inr rfl) rfl rfl (fun M1 => ?_)
  refine zw_goto (t := 0) (Or.inr rfl) rfl rfl ?_
  exact zw_end rfl rfl
def zx_Ta_advanceNumber (E : zE0) (K : zKt) (a0 : Nat) (x1 : Int32) (M : zM) : zO :=
  zif ((zK M a0).1 = 6)
  (zbm (zsI M a0 3 (2 : Int32)) fun M1 =>
  zif ((zK M1 a0).1 = 6)
  (zbm (zsI M1 a0 4 (x1 - (48 : Int32))) fun M2 =>
  K 15 [some (.ref a0), none, some (.int (1 : Int32))] [] M2))
set_option maxRecDepth 20000 in
theorem ze_Ta_advanceNumber (d : Nat) (a0 : Nat) (x1 : Int32) (M : zM) : zV (d + 1) n_Ta_advanceNumber [.ref a0, .int x1] M = zx_Ta_advanceNumber (zV d) (zG d n_Ta_advanceNumber) a0 x1 M := by
  refine (zE_sg (m := zm_Ta_advanceNumber) rfl 400 _ rfl M).trans ?_
  show zw true zm_Ta_advanceNumber (zV d) (zG d n_Ta_advanceNumber) 400 0 [some (.ref a0), some (.int x1), none] [] M = _
  unfold zx_Ta_advanceNumber
  refine zw_aload_n (p := 1) (Or.inl rfl) rfl rfl rfl ?_
  refine zw_iconst (p := 2) (x := (2 : Int32)) (Or.inr rfl) rfl rfl rfl ?_
  refine zw_put_int (p := 5) (Or.inr rfl) rfl rfl (fun M1 => ?_)
  refine zw_aload_n (p := 6) (Or.inr rfl) rfl rfl rfl ?_
  refine zw_iload_n (p := 7) (Or.inr rfl) rfl rfl rfl ?_
  refine zw_bipush (p := 9) (x := (48 : Int32)) (Or.inr rfl) rfl rfl rfl ?_
  refine zw_isub (p := 10) (Or.inr rfl) rfl rfl ?_
  refine zw_put_int (p := 13) (Or.inr rfl) rfl rfl (fun M2 => ?_)
  refine zw_iconst (p := 14) (x := (1 : Int32)) (Or.inr rfl) rfl rfl rfl ?_
  refine zw_istore_n (p := 15) (l2 := [some (.ref a0), some (.int x1), some (.int (1 : Int32))]) (Or.inr rfl) rfl rfl rfl rfl ?_
  exact zw_end rfl rfl
def zx_Ta_advanceNumber_15 (E : zE0) (K : zKt) (a0 : Nat) (x2 : Int32) (M : zM) : zO :=
  zif ((zK M a0).1 = 6)
  (zif ((zK M a0).1 = 6)
  (if (zI M a0 1) ≤ (zI M a0 2) then (if x2 ≤ (2 : Int32) then (some (none, M))
    else zif ((zK M a0).1 = 6)
    (zbm (zsI M a0 3 (3 : Int32)) fun M1 =>
    zif ((zK M1 a0).1 = 6)
    (zbI (E n_Ta_refuse [.ref a0, .int (1 : Int32)] M1) fun u1 M2 =>
    some (none, M2))))
  else zif ((zK M a0).1 = 6)
  (zoR (zR M a0 0) fun q1 =>
  zif ((zK M a0).1 = 6)
  (zif (((zK M q1).1 = 21 ∨ (zK M q1).1 = 22) ∧ zin (zI M a0 2) (zK M q1).2 = true)
  (zbI (E n_Ta_isFigure [.int (zI M q1 (Int32.toNatClampNeg (zI M a0 2)))] M) fun u2 M3 =>
  if u2 = 0 then (if x2 ≤ (2 : Int32) then (some (none, M3))
    else zif ((zK M3 a0).1 = 6)
    (zbm (zsI M3 a0 3 (3 : Int32)) fun M4 =>
    zif ((zK M4 a0).1 = 6)
    (zbI (E n_Ta_refuse [.ref a0, .int (1 : Int32)] M4) fun u3 M5 =>
    some (none, M5))))
  else if x2 ≠ (1 : Int32) then (zbi (x2 + (1 : Int32)) fun u4 =>
    zif ((zK M3 a0).1 = 6)
    (zif ((zK M3 a0).1 = 6)
    (zbm (zsI M3 a0 2 ((zI M3 a0 2) + (1 : Int32))) fun M6 =>
    K 15 [some (.ref a0), none, some (.int u4)] [] M6)))
  else zif ((zK M3 a0).1 = 6)
  (zif ((zK M3 a0).1 = 6)
  (zoR (zR M3 a0 0) fun q2 =>
  zif ((zK M3 a0).1 = 6)
  (zif (((zK M3 q2).1 = 21 ∨ (zK M3 q2).1 = 22) ∧ zin (zI M3 a0 2) (zK M3 q2).2 = true)
  (zif ((zK M3 a0).1 = 6)
  (zbm (zsI M3 a0 4 ((((zI M3 a0 4) * (10 : Int32)) + (zI M3 q2 (Int32.toNatClampNeg (zI M3 a0 2)))) - (48 : Int32))) fun M7 =>
  zbi (x2 + (1 : Int32)) fun u5 =>
  zif ((zK M7 a0).1 = 6)
  (zif ((zK M7 a0).1 = 6)
  (zbm (zsI M7 a0 2 ((zI M7 a0 2) + (1 : Int32))) fun M8 =>
  K 15 [some (.ref a0), none, some (.int u5)] [] M8))))))))))))
set_option maxRecDepth 20000 in
theorem zg_Ta_advanceNumber_15 (d : Nat) (a0 : Nat) (x2 : Int32) (M : zM) : zG d n_Ta_advanceNumber 15 [some (.ref a0), none, some (.int x2)] [] M = zx_Ta_advanceNumber_15 (zV d) (zG d n_Ta_advanceNumber) a0 x2 M := by
  refine (zG_sg (m := zm_Ta_advanceNumber) rfl 400 _ _ _ M).trans ?_
  show zw true zm_Ta_advanceNumber (zV d) (zG d n_Ta_advanceNumber) 400 15 [some (.ref a0), none, some (.int x2)] [] M = _
  unfold zx_Ta_advanceNumber_15
  refine zw_aload_n (p := 16) (Or.inl rfl) rfl rfl rfl ?_
  refine zw_get_int (p := 19) (Or.inr rfl) rfl rfl ?_
  refine zw_aload_n (p := 20) (Or.inr rfl) rfl rfl rfl ?_
  refine zw_get_int (p := 23) (Or.inr rfl) rfl rfl ?_
  refine zw_icmp_ge (t := 86) (p := 26) (Or.inr rfl) rfl rfl rfl ?_ ?_
  · refine zw_iload_n (p := 87) (Or.inr rfl) rfl rfl rfl ?_
    refine zw_iconst (p := 88) (x := (2 : Int32)) (Or.inr rfl) rfl rfl rfl ?_
    refine zw_icmp_le (t := 102) (p := 91) (Or.inr rfl) rfl rfl rfl ?_ ?_
    · exact zw_return (Or.inr rfl) rfl rfl
    refine zw_aload_n (p := 92) (Or.inr rfl) rfl rfl rfl ?_
    refine zw_iconst (p := 93) (x := (3 : Int32)) (Or.inr rfl) rfl rfl rfl ?_
    refine zw_put_int (p := 96) (Or.inr rfl) rfl rfl (fun M1 => ?_)
    refine zw_aload_n (p := 97) (Or.inr rfl) rfl rfl rfl ?_
    refine zw_iconst (p := 98) (x := (1 : Int32)) (Or.inr rfl) rfl rfl rfl ?_
    refine zw_virtualI (p := 101) (as := [.ref a0, .int (1 : Int32)]) (rest := []) (Or.inr rfl) rfl rfl rfl rfl rfl rfl rfl (fun u1 M2 => ?_)
    refine zw_pop_int (p := 102) (Or.inr rfl) rfl rfl ?_
    exact zw_return (Or.inr rfl) rfl rfl
  refine zw_aload_n (p := 27) (Or.inr rfl) rfl rfl rfl ?_
  refine zw_get_ref (p := 30) (Or.inr rfl) rfl rfl (fun q1 => ?_)
  refine zw_aload_n (p := 31) (Or.inr rfl) rfl rfl rfl ?_
  refine zw_get_int (p := 34) (Or.inr rfl) rfl rfl ?_
  refine zw_baload (p := 35) (Or.inr rfl) rfl rfl ?_
  refine zw_staticI (p := 38) (as := [.int (zI M q1 (Int32.toNatClampNeg (zI M a0 2)))]) (rest := []) (Or.inr rfl) rfl rfl rfl rfl rfl rfl (fun u2 M3 => ?_)
  refine zw_if_eq (t := 86) (p := 41) (Or.inr rfl) rfl rfl rfl ?_ ?_
  · refine zw_iload_n (p := 87) (Or.inr rfl) rfl rfl rfl ?_
    refine zw_iconst (p := 88) (x := (2 : Int32)) (Or.inr rfl) rfl rfl rfl ?_
    refine zw_icmp_le (t := 102) (p := 91) (Or.inr rfl) rfl rfl rfl ?_ ?_
    · exact zw_return (Or.inr rfl) rfl rfl
    refine zw_aload_n (p := 92) (Or.inr rfl) rfl rfl rfl ?_
    refine zw_iconst (p := 93) (x := (3 : Int32)) (Or.inr rfl) rfl rfl rfl ?_
    refine zw_put_int (p := 96) (Or.inr rfl) rfl rfl (fun M4 => ?_)
    refine zw_aload_n (p := 97) (Or.inr rfl) rfl rfl rfl ?_
    refine zw_iconst (p := 98) (x := (1 : Int32)) (Or.inr rfl) rfl rfl rfl ?_
    refine zw_virtualI (p := 101) (as := [.ref a0, .int (1 : Int32)]) (rest := []) (Or.inr rfl) rfl rfl rfl rfl rfl rfl rfl (fun u3 M5 => ?_)
    refine zw_pop_int (p := 102) (Or.inr rfl) rfl rfl ?_
    exact zw_return (Or.inr rfl) rfl rfl
  refine zw_iload_n (p := 42) (Or.inr rfl) rfl rfl rfl ?_
  refine zw_iconst (p := 43) (x := (1 : Int32)) (Or.inr rfl) rfl rfl rfl ?_
  refine zw_icmp_ne (t := 70) (p := 46) (Or.inr rfl) rfl rfl rfl ?_ ?_
  · refine zw_iinc (p := 73) (c := (1 : Int32)) (L2 := fun u4 => [some (.ref a0), none, some (.int u4)]) (Or.inr rfl) rfl rfl rfl rfl (fun _ => rfl) rfl (fun u4 => ?_)
    refine zw_aload_n (p := 74) (Or.inr rfl) rfl rfl rfl ?_
    refine zw_dup_ref (p := 75) (Or.inr rfl) rfl rfl ?_
    refine zw_get_int (p := 78) (Or.inr rfl) rfl rfl ?_
    refine zw_iconst (p := 79) (x := (1 : Int32)) (Or.inr rfl) rfl rfl rfl ?_
    refine zw_iadd (p := 80) (Or.inr rfl) rfl rfl ?_
    refine zw_put_int (p := 83) (Or.inr rfl) rfl rfl (fun M6 => ?_)
    refine zw_goto (t := 15) (Or.inr rfl) rfl rfl ?_
    exact zw_end rfl rfl
  refine zw_aload_n (p := 47) (Or.inr rfl) rfl rfl rfl ?_
  refine zw_aload_n (p := 48) (Or.inr rfl) rfl rfl rfl ?_
  refine zw_get_int (p := 51) (Or.inr rfl) rfl rfl ?_
  refine zw_bipush (p := 53) (x := (10 : Int32)) (Or.inr rfl) rfl rfl rfl ?_
  refine zw_imul (p := 54) (Or.inr rfl) rfl rfl ?_
  refine zw_aload_n (p := 55) (Or.inr rfl) rfl rfl rfl ?_
  refine zw_get_ref (p := 58) (Or.inr rfl) rfl rfl (fun q2 => ?_)
  refine zw_aload_n (p := 59) (Or.inr rfl) rfl rfl rfl ?_
  refine zw_get_int (p := 62) (Or.inr rfl) rfl rfl ?_
  refine zw_baload (p := 63) (Or.inr rfl) rfl rfl ?_
  refine zw_iadd (p := 64) (Or.inr rfl) rfl rfl ?_
  refine zw_bipush (p := 66) (x := (48 : Int32)) (Or.inr rfl) rfl rfl rfl ?_
  refine zw_isub (p := 67) (Or.inr rfl) rfl rfl ?_
  refine zw_put_int (p := 70) (Or.inr rfl) rfl rfl (fun M7 => ?_)
  refine zw_iinc (p := 73) (c := (1 : Int32)) (L2 := fun u5 => [some (.ref a0), none, some (.int u5)]) (Or.inr rfl) rfl rfl rfl rfl (fun _ => rfl) rfl (fun u5 => ?_)
  refine zw_aload_n (p := 74) (Or.inr rfl) rfl rfl rfl ?_
  refine zw_dup_ref (p := 75) (Or.inr rfl) rfl rfl ?_
  refine zw_get_int (p := 78) (Or.inr rfl) rfl rfl ?_
  refine zw_iconst (p := 79) (x := (1 : Int32)) (Or.inr rfl) rfl rfl rfl ?_
  refine zw_iadd (p := 80) (Or.inr rfl) rfl rfl ?_
  refine zw_put_int (p := 83) (Or.inr rfl) rfl rfl (fun M8 => ?_)
  refine zw_goto (t := 15) (Or.inr rfl) rfl rfl ?_
  exact zw_end rfl rfl
def zx_Ta_isFigure (E : zE0) (K : zKt) (x0 : Int32) (M : zM) : zO :=
  if x0 < (48 : Int32) then (zif ((0 : Int32) = 0 ∨ (0 : Int32) = 1) (some (some (.int (0 : Int32)), M)))
  else if (57 : Int32) < x0 then (zif ((0 : Int32) = 0 ∨ (0 : Int32) = 1) (some (some (.int (0 : Int32)), M)))
  else zif ((1 : Int32) = 0 ∨ (1 : Int32) = 1) (some (some (.int (1 : Int32)), M))
set_option maxRecDepth 20000 in
theorem ze_Ta_isFigure (d : Nat) (x0 : Int32) (M : zM) : zV (d + 1) n_Ta_isFigure [.int x0] M = zx_Ta_isFigure (zV d) (zG d n_Ta_isFigure) x0 M := by
  refine (zE_sg (m := zm_Ta_isFigure) rfl 400 _ rfl M).trans ?_
  show zw true zm_Ta_isFigure (zV d) (zG d n_Ta_isFigure) 400 0 [some (.int x0)] [] M = _
  unfold zx_Ta_isFigure
  refine zw_iload_n (p := 1) (Or.inl rfl) rfl rfl rfl ?_
  refine zw_bipush (p := 3) (x := (48 : Int32)) (Or.inr rfl) rfl rfl rfl ?_
  refine zw_icmp_lt (t := 16) (p := 6) (Or.inr rfl) rfl rfl rfl ?_ ?_
  · refine zw_iconst (p := 17) (x := (0 : Int32)) (Or.inr rfl) rfl rfl rfl ?_
    exact zw_ireturn2 (Or.inr rfl) rfl rfl
  refine zw_iload_n (p := 7) (Or.inr rfl) rfl rfl rfl ?_
  refine zw_bipush (p := 9) (x := (57 : Int32)) (Or.inr rfl) rfl rfl rfl ?_
  refine zw_icmp_gt (t := 16) (p := 12) (Or.inr rfl) rfl rfl rfl ?_ ?_
  · refine zw_iconst (p := 17) (x := (0 : Int32)) (Or.inr rfl) rfl rfl rfl ?_
    exact zw_ireturn2 (Or.inr rfl) rfl rfl
  refine zw_iconst (p := 13) (x := (1 : Int32)) (Or.inr rfl) rfl rfl rfl ?_
  refine zw_goto (t := 17) (Or.inr rfl) rfl rfl ?_
  exact zw_ireturn2 (Or.inr rfl) rfl rfl
def zx_Ta_isSign (E : zE0) (K : zKt) (x0 : Int32) (M : zM) : zO :=
  if x0 = (33 : Int32) then (zif ((1 : Int32) = 0 ∨ (1 : Int32) = 1) (some (some (.int (1 : Int32)), M)))
  else if x0 = (38 : Int32) then (zif ((1 : Int32) = 0 ∨ (1 : Int32) = 1) (some (some (.int (1 : Int32)), M)))
  else if x0 = (40 : Int32) then (zif ((1 : Int32) = 0 ∨ (1 : Int32) = 1) (some (some (.int (1 : Int32)), M)))
  else if x0 = (41 : Int32) then (zif ((1 : Int32) = 0 ∨ (1 : Int32) = 1) (some (some (.int (1 : Int32)), M)))
  else if x0 = (42 : Int32) then (zif ((1 : Int32) = 0 ∨ (1 : Int32) = 1) (some (some (.int (1 : Int32)), M)))
  else if x0 = (44 : Int32) then (zif ((1 : Int32) = 0 ∨ (1 : Int32) = 1) (some (some (.int (1 : Int32)), M)))
  else if x0 = (47 : Int32) then (zif ((1 : Int32) = 0 ∨ (1 : Int32) = 1) (some (some (.int (1 : Int32)), M)))
  else if x0 = (59 : Int32) then (zif ((1 : Int32) = 0 ∨ (1 : Int32) = 1) (some (some (.int (1 : Int32)), M)))
  else if x0 = (61 : Int32) then (zif ((1 : Int32) = 0 ∨ (1 : Int32) = 1) (some (some (.int (1 : Int32)), M)))
  else if x0 = (62 : Int32) then (zif ((1 : Int32) = 0 ∨ (1 : Int32) = 1) (some (some (.int (1 : Int32)), M)))
  else if x0 = (123 : Int32) then (zif ((1 : Int32) = 0 ∨ (1 : Int32) = 1) (some (some (.int (1 : Int32)), M)))
  else if x0 = (124 : Int32) then (zif ((1 : Int32) = 0 ∨ (1 : Int32) = 1) (some (some (.int (1 : Int32)), M)))
  else if x0 = (125 : Int32) then (zif ((1 : Int32) = 0 ∨ (1 : Int32) = 1) (some (some (.int (1 : Int32)), M)))
  else if x0 = (126 : Int32) then (zif ((1 : Int32) = 0 ∨ (1 : Int32) = 1) (some (some (.int (1 : Int32)), M)))
  else zif ((0 : Int32) = 0 ∨ (0 : Int32) = 1) (some (some (.int (0 : Int32)), M))
set_option maxRecDepth 20000 in
theorem ze_Ta_isSign (d : Nat) (x0 : Int32) (M : zM) : zV (d + 1) n_Ta_isSign [.int x0] M = zx_Ta_isSign (zV d) (zG d n_Ta_isSign) x0 M := by
  refine (zE_sg (m := zm_Ta_isSign) rfl 400 _ rfl M).trans ?_
  show zw true zm_Ta_isSign (zV d) (zG d n_Ta_isSign) 400 0 [some (.int x0)] [] M = _
  unfold zx_Ta_isSign
  refine zw_iload_n (p := 1) (Or.inl rfl) rfl rfl rfl ?_
  refine zw_lookup (Or.inr rfl) rfl ?_
  refine zlk_c ?_ ?_
  · refine zw_iconst (p := 125) (x := (1 : Int32)) (Or.inr rfl) rfl rfl rfl ?_
    exact zw_ireturn2 (Or.inr rfl) rfl rfl
  refine zlk_c ?_ ?_
  · refine zw_iconst (p := 125) (x := (1 : Int32)) (Or.inr rfl) rfl rfl rfl ?_
    exact zw_ireturn2 (Or.inr rfl) rfl rfl
  refine zlk_c ?_ ?_
  · refine zw_iconst (p := 125) (x := (1 : Int32)) (Or.inr rfl) rfl rfl rfl ?_
    exact zw_ireturn2 (Or.inr rfl) rfl rfl
  refine zlk_c ?_ ?_
  · refine zw_iconst (p := 125) (x := (1 : Int32)) (Or.inr rfl) rfl rfl rfl ?_
    exact zw_ireturn2 (Or.inr rfl) rfl rfl
  refine zlk_c ?_ ?_
  · refine zw_iconst (p := 125) (x := (1 : Int32)) (Or.inr rfl) rfl rfl rfl ?_
    exact zw_ireturn2 (Or.inr rfl) rfl rfl
  refine zlk_c ?_ ?_
  · refine zw_iconst (p := 125) (x := (1 : Int32)) (Or.inr rfl) rfl rfl rfl ?_
    exact zw_ireturn2 (Or.inr rfl) rfl rfl
  refine zlk_c ?_ ?_
  · refine zw_iconst (p := 125) (x := (1 : Int32)) (Or.inr rfl) rfl rfl rfl ?_
    exact zw_ireturn2 (Or.inr rfl) rfl rfl
  refine zlk_c ?_ ?_
  · refine zw_iconst (p := 125) (x := (1 : Int32)) (Or.inr rfl) rfl rfl rfl ?_
    exact zw_ireturn2 (Or.inr rfl) rfl rfl
  refine zlk_c ?_ ?_
  · refine zw_iconst (p := 125) (x := (1 : Int32)) (Or.inr rfl) rfl rfl rfl ?_
    exact zw_ireturn2 (Or.inr rfl) rfl rfl
  refine zlk_c ?_ ?_
  · refine zw_iconst (p := 125) (x := (1 : Int32)) (Or.inr rfl) rfl rfl rfl ?_
    exact zw_ireturn2 (Or.inr rfl) rfl rfl
  refine zlk_c ?_ ?_
  · refine zw_iconst (p := 125) (x := (1 : Int32)) (Or.inr rfl) rfl rfl rfl ?_
    exact zw_ireturn2 (Or.inr rfl) rfl rfl
  refine zlk_c ?_ ?_
  · refine zw_iconst (p := 125) (x := (1 : Int32)) (Or.inr rfl) rfl rfl rfl ?_
    exact zw_ireturn2 (Or.inr rfl) rfl rfl
  refine zlk_c ?_ ?_
  · refine zw_iconst (p := 125) (x := (1 : Int32)) (Or.inr rfl) rfl rfl rfl ?_
    exact zw_ireturn2 (Or.inr rfl) rfl rfl
  refine zlk_c ?_ ?_
  · refine zw_iconst (p := 125) (x := (1 : Int32)) (Or.inr rfl) rfl rfl rfl ?_
    exact zw_ireturn2 (Or.inr rfl) rfl rfl
  refine zlk_n ?_
  refine zw_iconst (p := 127) (x := (0 : Int32)) (Or.inr rfl) rfl rfl rfl ?_
  exact zw_ireturn2 (Or.inr rfl) rfl rfl
def zx_Ta_beginsSequence (E : zE0) (K : zKt) (a0 : Nat) (M : zM) : zO :=
  zif ((zK M a0).1 = 6)
  (if (zI M a0 3) = (1 : Int32) then (zif ((1 : Int32) = 0 ∨ (1 : Int32) = 1) (some (some (.int (1 : Int32)), M)))
  else zif ((zK M a0).1 = 6)
  (if (zI M a0 3) = (33 : Int32) then (zif ((1 : Int32) = 0 ∨ (1 : Int32) = 1) (some (some (.int (1 : Int32)), M)))
  else zif ((zK M a0).1 = 6)
  (if (zI M a0 3) = (40 : Int32) then (zif ((1 : Int32) = 0 ∨ (1 : Int32) = 1) (some (some (.int (1 : Int32)), M)))
  else zif ((zK M a0).1 = 6)
  (if (zI M a0 3) ≠ (123 : Int32) then (zif ((0 : Int32) = 0 ∨ (0 : Int32) = 1) (some (some (.int (0 : Int32)), M)))
  else zif ((1 : Int32) = 0 ∨ (1 : Int32) = 1) (some (some (.int (1 : Int32)), M))))))
set_option maxRecDepth 20000 in
theorem ze_Ta_beginsSequence (d : Nat) (a0 : Nat) (M : zM) : zV (d + 1) n_Ta_beginsSequence [.ref a0] M = zx_Ta_beginsSequence (zV d) (zG d n_Ta_beginsSequence) a0 M := by
  refine (zE_sg (m := zm_Ta_beginsSequence) rfl 400 _ rfl M).trans ?_
  show zw true zm_Ta_beginsSequence (zV d) (zG d n_Ta_beginsSequence) 400 0 [some (.ref a0)] [] M = _
  unfold zx_Ta_beginsSequence
  refine zw_aload_n (p := 1) (Or.inl rfl) rfl rfl rfl ?_
  refine zw_get_int (p := 4) (Or.inr rfl) rfl rfl ?_
  refine zw_iconst (p := 5) (x := (1 : Int32)) (Or.inr rfl) rfl rfl rfl ?_
  refine zw_icmp_eq (t := 35) (p := 8) (Or.inr rfl) rfl rfl rfl ?_ ?_
  · refine zw_iconst (p := 36) (x := (1 : Int32)) (Or.inr rfl) rfl rfl rfl ?_
    refine zw_goto (t := 40) (Or.inr rfl) rfl rfl ?_
    exact zw_ireturn2 (Or.inr rfl) rfl rfl
  refine zw_aload_n (p := 9) (Or.inr rfl) rfl rfl rfl ?_
  refine zw_get_int (p := 12) (Or.inr rfl) rfl rfl ?_
  refine zw_bipush (p := 14) (x := (33 : Int32)) (Or.inr rfl) rfl rfl rfl ?_
  refine zw_icmp_eq (t := 35) (p := 17) (Or.inr rfl) rfl rfl rfl ?_ ?_
  · refine zw_iconst (p := 36) (x := (1 : Int32)) (Or.inr rfl) rfl rfl rfl ?_
    refine zw_goto (t := 40) (Or.inr rfl) rfl rfl ?_
    exact zw_ireturn2 (Or.inr rfl) rfl rfl
  refine zw_aload_n (p := 18) (Or.inr rfl) rfl rfl rfl ?_
  refine zw_get_int (p := 21) (Or.inr rfl) rfl rfl ?_
  refine zw_bipush (p := 23) (x := (40 : Int32)) (Or.inr rfl) rfl rfl rfl ?_
  refine zw_icmp_eq (t := 35) (p := 26) (Or.inr rfl) rfl rfl rfl ?_ ?_
  · refine zw_iconst (p := 36) (x := (1 : Int32)) (Or.inr rfl) rfl rfl rfl ?_
    refine zw_goto (t := 40) (Or.inr rfl) rfl rfl ?_
    exact zw_ireturn2 (Or.inr rfl) rfl rfl
  refine zw_aload_n (p := 27) (Or.inr rfl) rfl rfl rfl ?_
  refine zw_get_int (p := 30) (Or.inr rfl) rfl rfl ?_
  refine zw_bipush (p := 32) (x := (123 : Int32)) (Or.inr rfl) rfl rfl rfl ?_
  refine zw_icmp_ne (t := 39) (p := 35) (Or.inr rfl) rfl rfl rfl ?_ ?_
  · refine zw_iconst (p := 40) (x := (0 : Int32)) (Or.inr rfl) rfl rfl rfl ?_
    exact zw_ireturn2 (Or.inr rfl) rfl rfl
  refine zw_iconst (p := 36) (x := (1 : Int32)) (Or.inr rfl) rfl rfl rfl ?_
  refine zw_goto (t := 40) (Or.inr rfl) rfl rfl ?_
  exact zw_ireturn2 (Or.inr rfl) rfl rfl
def zx_Tr_add (E : zE0) (K : zKt) (a0 : Nat) (x1 : Int32) (M : zM) : zO :=
  zif ((zK M a0).1 = 7)
  (if (48 : Int32) ≤ (zI M a0 1) then (some (none, M))
  else zif ((zK M a0).1 = 7)
  (zoR (zR M a0 0) fun q1 =>
  zif ((zK M a0).1 = 7)
  (zif ((zK M q1).1 = 20 ∧ zin (zI M a0 1) (zK M q1).2 = true)
  (zbm (zsI M q1 (Int32.toNatClampNeg (zI M a0 1)) x1) fun M1 =>
  zif ((zK M1 a0).1 = 7)
  (zif ((zK M1 a0).1 = 7)
  (zbm (zsI M1 a0 1 ((zI M1 a0 1) + (1 : Int32))) fun M2 =>
  some (none, M2)))))))
set_option maxRecDepth 20000 in
theorem ze_Tr_add (d : Nat) (a0 : Nat) (x1 : Int32) (M : zM) : zV (d + 1) n_Tr_add [.ref a0, .int x1] M = zx_Tr_add (zV d) (zG d n_Tr_add) a0 x1 M := by
  refine (zE_sg (m := zm_Tr_add) rfl 400 _ rfl M).trans ?_
  show zw true zm_Tr_add (zV d) (zG d n_Tr_add) 400 0 [some (.ref a0), some (.int x1)] [] M = _
  unfold zx_Tr_add
  refine zw_aload_n (p := 1) (Or.inl rfl) rfl rfl rfl ?_
  refine zw_get_int (p := 4) (Or.inr rfl) rfl rfl ?_
  refine zw_bipush (p := 6) (x := (48 : Int32)) (Or.inr rfl) rfl rfl rfl ?_
  refine zw_icmp_ge (t := 29) (p := 9) (Or.inr rfl) rfl rfl rfl ?_ ?_
  · exact zw_return (Or.inr rfl) rfl rfl
  refine zw_aload_n (p := 10) (Or.inr rfl) rfl rfl rfl ?_
  refine zw_get_ref (p := 13) (Or.inr rfl) rfl rfl (fun q1 => ?_)
  refine zw_aload_n (p := 14) (Or.inr rfl) rfl rfl rfl ?_
  refine zw_get_int (p := 17) (Or.inr rfl) rfl rfl ?_
  refine zw_iload_n (p := 18) (Or.inr rfl) rfl rfl rfl ?_
  refine zw_iastore (p := 19) (Or.inr rfl) rfl rfl (fun M1 => ?_)
  refine zw_aload_n (p := 20) (Or.inr rfl) rfl rfl rfl ?_
  refine zw_dup_ref (p := 21) (Or.inr rfl) rfl rfl ?_
  refine zw_get_int (p := 24) (Or.inr rfl) rfl rfl ?_
  refine zw_iconst (p := 25) (x := (1 : Int32)) (Or.inr rfl) rfl rfl rfl ?_
  refine zw_iadd (p := 26) (Or.inr rfl) rfl rfl ?_
  refine zw_put_int (p := 29) (Or.inr rfl) rfl rfl (fun M2 => ?_)
  exact zw_return (Or.inr rfl) rfl rfl
def zx_Tr_become (E : zE0) (K : zKt) (a0 : Nat) (a1 : Nat) (M : zM) : zO :=
  zif ((zK M a1).1 = 7)
  (zoR (zR M a1 0) fun q1 =>
  zif ((zK M a0).1 = 7)
  (zoR (zR M a0 0) fun q2 =>
  zif ((zK M a1).1 = 7)
  (zif ((zK M q1).1 = 20 ∧ (zK M q2).1 = 20 ∧ zroomy [] = true ∧ (¬ (0 : Int32) < 0) ∧ (¬ (0 : Int32) < 0) ∧ (¬ (zI M a1 1) < 0) ∧ Int32.toNatClampNeg (0 : Int32) + Int32.toNatClampNeg (zI M a1 1) ≤ (zK M q1).2 ∧ Int32.toNatClampNeg (0 : Int32) + Int32.toNatClampNeg (zI M a1 1) ≤ (zK M q2).2)
  (zbm (zcopy M q1 (Int32.toNatClampNeg (0 : Int32)) q2 (Int32.toNatClampNeg (0 : Int32)) (Int32.toNatClampNeg (zI M a1 1))) fun M1 =>
  zif ((zK M1 a1).1 = 7)
  (zif ((zK M1 a0).1 = 7)
  (zbm (zsI M1 a0 1 (zI M1 a1 1)) fun M2 =>
  some (none, M2)))))))
set_option maxRecDepth 20000 in
theorem ze_Tr_become (d : Nat) (a0 : Nat) (a1 : Nat) (M : zM) : zV (d + 1) n_Tr_become [.ref a0, .ref a1] M = zx_Tr_become (zV d) (zG d n_Tr_become) a0 a1 M := by
  refine (zE_sg (m := zm_Tr_become) rfl 400 _ rfl M).trans ?_
  show zw true zm_Tr_become (zV d) (zG d n_Tr_become) 400 0 [some (.ref a0), some (.ref a1)] [] M = _
  unfold zx_Tr_become
  refine zw_aload_n (p := 1) (Or.inl rfl) rfl rfl rfl ?_
  refine zw_get_ref (p := 4) (Or.inr rfl) rfl rfl (fun q1 => ?_)
  refine zw_iconst (p := 5) (x := (0 : Int32)) (Or.inr rfl) rfl rfl rfl ?_
  refine zw_aload_n (p := 6) (Or.inr rfl) rfl rfl rfl ?_
  refine zw_get_ref (p := 9) (Or.inr rfl) rfl rfl (fun q2 => ?_)
  refine zw_iconst (p := 10) (x := (0 : Int32)) (Or.inr rfl) rfl rfl rfl ?_
  refine zw_aload_n (p := 11) (Or.inr rfl) rfl rfl rfl ?_
  refine zw_get_int (p := 14) (Or.inr rfl) rfl rfl ?_
  refine zw_copy (p := 17) (Or.inr rfl) rfl rfl (fun M1 => ?_)
  refine zw_aload_n (p := 18) (Or.inr rfl) rfl rfl rfl ?_
  refine zw_aload_n (p := 19) (Or.inr rfl) rfl rfl rfl ?_
  refine zw_get_int (p := 22) (Or.inr rfl) rfl rfl ?_
  refine zw_put_int (p := 25) (Or.inr rfl) rfl rfl (fun M2 => ?_)
  exact zw_return (Or.inr rfl) rfl rfl
def zx_TS_clear (E : zE0) (K : zKt) (a0 : Nat) (M : zM) : zO :=
  zif ((zK M a0).1 = 8)
  (zbm (zsI M a0 1 (0 : Int32)) fun M1 =>
  some (none, M1))
set_option maxRecDepth 20000 in
theorem ze_TS_clear (d : Nat) (a0 : Nat) (M : zM) : zV (d + 1) n_TS_clear [.ref a0] M = zx_TS_clear (zV d) (zG d n_TS_clear) a0 M := by
  refine (zE_sg (m := zm_TS_clear) rfl 400 _ rfl M).trans ?_
  show zw true zm_TS_clear (zV d) (zG d n_TS_clear) 400 0 [some (.ref a0)] [] M = _
  unfold zx_TS_clear
  refine zw_aload_n (p := 1) (Or.inl rfl) rfl rfl rfl ?_
  refine zw_iconst (p := 2) (x := (0 : Int32)) (Or.inr rfl) rfl rfl rfl ?_
  refine zw_put_int (p := 5) (Or.inr rfl) rfl rfl (fun M1 => ?_)
  exact zw_return (Or.inr rfl) rfl rfl
def zx_TS_pushWire (E : zE0) (K : zKt) (a0 : Nat) (x1 : Int32) (M : zM) : zO :=
  zif ((zK M a0).1 = 8)
  (if (19 : Int32) ≤ (zI M a0 1) then (some (none, M))
  else if 0 ≤ x1 then (K 16 [some (.ref a0), some (.int x1), some (.int (0 : Int32))] [] M)
  else some (none, M))
set_option maxRecDepth 20000 in
theorem ze_TS_pushWire (d : Nat) (a0 : Nat) (x1 : Int32) (M : zM) : zV (d + 1) n_TS_pushWire [.ref a0, .int x1] M = zx_TS_pushWire (zV d) (zG d n_TS_pushWire) a0 x1 M := by
  refine (zE_sg (m := zm_TS_pushWire) rfl 400 _ rfl M).trans ?_
  show zw true zm_TS_pushWire (zV d) (zG d n_TS_pushWire) 400 0 [some (.ref a0), some (.int x1), none] [] M = _
  unfold zx_TS_pushWire
  refine zw_aload_n (p := 1) (Or.inl rfl) rfl rfl rfl ?_
  refine zw_get_int (p := 4) (Or.inr rfl) rfl rfl ?_
  refine zw_bipush (p := 6) (x := (19 : Int32)) (Or.inr rfl) rfl rfl rfl ?_
  refine zw_icmp_ge (t := 13) (p := 9) (Or.inr rfl) rfl rfl rfl ?_ ?_
  · exact zw_return (Or.inr rfl) rfl rfl
  refine zw_iload_n (p := 10) (Or.inr rfl) rfl rfl rfl ?_
  refine zw_if_ge (t := 14) (p := 13) (Or.inr rfl) rfl rfl rfl ?_ ?_
  · refine zw_iconst (p := 15) (x := (0 : Int32)) (Or.inr rfl) rfl rfl rfl ?_
    refine zw_istore_n (p := 16) (l2 := [some (.ref a0), some (.int x1), some (.int (0 : Int32))]) (Or.inr rfl) rfl rfl rfl rfl ?_
    exact zw_end rfl rfl
  exact zw_return (Or.inr rfl) rfl rfl
def zx_TS_pushWire_16 (E : zE0) (K : zKt) (a0 : Nat) (x1 : Int32) (x2 : Int32) (M : zM) : zO :=
  if (4 : Int32) ≤ x2 then (zif ((zK M a0).1 = 8)
    (zif ((zK M a0).1 = 8)
    (zbm (zsI M a0 1 ((zI M a0 1) + (1 : Int32))) fun M1 =>
    some (none, M1))))
  else zif ((zK M a0).1 = 8)
  (zoR (zR M a0 0) fun q1 =>
  zif ((zK M a0).1 = 8)
  (zbL (E n_TS_wordOfWire [.int x1, .int x2] M) fun w1 M2 =>
  zif ((zK M2 q1).1 = 23 ∧ zin (((zI M a0 1) * (4 : Int32)) + x2) (zK M2 q1).2 = true)
  (zbm (zsL M2 q1 (Int32.toNatClampNeg (((zI M a0 1) * (4 : Int32)) + x2)) w1) fun M3 =>
  zbi (x2 + (1 : Int32)) fun u1 =>
  K 16 [some (.ref a0), some (.int x1), some (.int u1)] [] M3)))
set_option maxRecDepth 20000 in
theorem zg_TS_pushWire_16 (d : Nat) (a0 : Nat) (x1 : Int32) (x2 : Int32) (M : zM) : zG d n_TS_pushWire 16 [some (.ref a0), some (.int x1), some (.int x2)] [] M = zx_TS_pushWire_16 (zV d) (zG d n_TS_pushWire) a0 x1 x2 M := by
  refine (zG_sg (m := zm_TS_pushWire) rfl 400 _ _ _ M).trans ?_
  show zw true zm_TS_pushWire (zV d) (zG d n_TS_pushWire) 400 16 [some (.ref a0), some (.int x1), some (.int x2)] [] M = _
  unfold zx_TS_pushWire_16
  refine zw_iload_n (p := 17) (Or.inl rfl) rfl rfl rfl ?_
  refine zw_iconst (p := 18) (x := (4 : Int32)) (Or.inr rfl) rfl rfl rfl ?_
  refine zw_icmp_ge (t := 45) (p := 21) (Or.inr rfl) rfl rfl rfl ?_ ?_
  · refine zw_aload_n (p := 46) (Or.inr rfl) rfl rfl rfl ?_
    refine zw_dup_ref (p := 47) (Or.inr rfl) rfl rfl ?_
    refine zw_get_int (p := 50) (Or.inr rfl) rfl rfl ?_
    refine zw_iconst (p := 51) (x := (1 : Int32)) (Or.inr rfl) rfl rfl rfl ?_
    refine zw_iadd (p := 52) (Or.inr rfl) rfl rfl ?_
    refine zw_put_int (p := 55) (Or.inr rfl) rfl rfl (fun M1 => ?_)
    exact zw_return (Or.inr rfl) rfl rfl
  refine zw_aload_n (p := 22) (Or.inr rfl) rfl rfl rfl ?_
  refine zw_get_ref (p := 25) (Or.inr rfl) rfl rfl (fun q1 => ?_)
  refine zw_aload_n (p := 26) (Or.inr rfl) rfl rfl rfl ?_
  refine zw_get_int (p := 29) (Or.inr rfl) rfl rfl ?_
  refine zw_iconst (p := 30) (x := (4 : Int32)) (Or.inr rfl) rfl rfl rfl ?_
  refine zw_imul (p := 31) (Or.inr rfl) rfl rfl ?_
  refine zw_iload_n (p := 32) (Or.inr rfl) rfl rfl rfl ?_
  refine zw_iadd (p := 33) (Or.inr rfl) rfl rfl ?_
  refine zw_iload_n (p := 34) (Or.inr rfl) rfl rfl rfl ?_
  refine zw_iload_n (p := 35) (Or.inr rfl) rfl rfl rfl ?_
  refine zw_staticL (p := 38) (as := [.int x1, .int x2]) (rest := [.int (((zI M a0 1) * (4 : Int32)) + x2), .ref q1]) (Or.inr rfl) rfl rfl rfl rfl rfl rfl (fun w1 M2 => ?_)
  refine zw_lastore (p := 39) (Or.inr rfl) rfl rfl (fun M3 => ?_)
  refine zw_iinc (p := 42) (c := (1 : Int32)) (L2 := fun u1 => [some (.ref a0), some (.int x1), some (.int u1)]) (Or.inr rfl) rfl rfl rfl rfl (fun _ => rfl) rfl (fun u1 => ?_)
  refine zw_goto (t := 16) (Or.inr rfl) rfl rfl ?_
  exact zw_end rfl rfl
def zx_TS_wordOfWire (E : zE0) (K : zKt) (x0 : Int32) (x1 : Int32) (M : zM) : zO :=
  zif (20 ≤ (zK M 0).1) (if (Int32.ofNat (zK M 0).2) ≤ x0 then (zif (20 ≤ (zK M 0).1) (if (((Int32.toUInt32 x1 >>> (Int32.toUInt32 (x0 - (Int32.ofNat (zK M 0).2)) &&& Int32.toUInt32 31)).toInt32) &&& (1 : Int32)) = 0 then (some (some (.long (0 : Int64)), M))
    else some (some (.long (-1 : Int64)), M)))
  else zif (((zK M 0).1 = 23 ∨ (zK M 0).1 = 25) ∧ zin x0 (zK M 0).2 = true)
  (some (some (.long (zL M 0 (Int32.toNatClampNeg x0))), M)))
set_option maxRecDepth 20000 in
theorem ze_TS_wordOfWire (d : Nat) (x0 : Int32) (x1 : Int32) (M : zM) : zV (d + 1) n_TS_wordOfWire [.int x0, .int x1] M = zx_TS_wordOfWire (zV d) (zG d n_TS_wordOfWire) x0 x1 M := by
  refine (zE_sg (m := zm_TS_wordOfWire) rfl 400 _ rfl M).trans ?_
  show zw true zm_TS_wordOfWire (zV d) (zG d n_TS_wordOfWire) 400 0 [some (.int x0), some (.int x1)] [] M = _
  unfold zx_TS_wordOfWire
  refine zw_iload_n (p := 1) (Or.inl rfl) rfl rfl rfl ?_
  refine zw_getstatic (p := 4) (Or.inr rfl) rfl rfl ?_
  refine zw_arraylength (p := 5) (Or.inr rfl) rfl rfl ?_
  refine zw_icmp_ge (t := 14) (p := 8) (Or.inr rfl) rfl rfl rfl ?_ ?_
  · refine zw_iload_n (p := 15) (Or.inr rfl) rfl rfl rfl ?_
    refine zw_iload_n (p := 16) (Or.inr rfl) rfl rfl rfl ?_
    refine zw_getstatic (p := 19) (Or.inr rfl) rfl rfl ?_
    refine zw_arraylength (p := 20) (Or.inr rfl) rfl rfl ?_
    refine zw_isub (p := 21) (Or.inr rfl) rfl rfl ?_
    refine zw_iushr (p := 22) (Or.inr rfl) rfl rfl ?_
    refine zw_iconst (p := 23) (x := (1 : Int32)) (Or.inr rfl) rfl rfl rfl ?_
    refine zw_iand (p := 24) (Or.inr rfl) rfl rfl ?_
    refine zw_if_eq (t := 33) (p := 27) (Or.inr rfl) rfl rfl rfl ?_ ?_
    · refine zw_lconst (p := 34) (x := (0 : Int64)) (Or.inr rfl) rfl rfl rfl ?_
      exact zw_lreturn (Or.inr rfl) rfl rfl
    refine zw_ldc2_w (p := 30) (x := (-1 : Int64)) (Or.inr rfl) rfl rfl rfl ?_
    refine zw_goto (t := 34) (Or.inr rfl) rfl rfl ?_
    exact zw_lreturn (Or.inr rfl) rfl rfl
  refine zw_getstatic (p := 11) (Or.inr rfl) rfl rfl ?_
  refine zw_iload_n (p := 12) (Or.inr rfl) rfl rfl rfl ?_
  refine zw_laload (p := 13) (Or.inr rfl) rfl rfl ?_
  exact zw_lreturn (Or.inr rfl) rfl rfl
def zx_TS_negate (E : zE0) (K : zKt) (a0 : Nat) (M : zM) : zO :=
  zif ((zK M a0).1 = 8)
  (if (1 : Int32) ≤ (zI M a0 1) then (K 11 [some (.ref a0), some (.int (0 : Int32))] [] M)
  else some (none, M))
set_option maxRecDepth 20000 in
theorem ze_TS_negate (d : Nat) (a0 : Nat) (M : zM) : zV (d + 1) n_TS_negate [.ref a0] M = zx_TS_negate (zV d) (zG d n_TS_negate) a0 M := by
  refine (zE_sg (m := zm_TS_negate) rfl 400 _ rfl M).trans ?_
  show zw true zm_TS_negate (zV d) (zG d n_TS_negate) 400 0 [some (.ref a0), none] [] M = _
  unfold zx_TS_negate
  refine zw_aload_n (p := 1) (Or.inl rfl) rfl rfl rfl ?_
  refine zw_get_int (p := 4) (Or.inr rfl) rfl rfl ?_
  refine zw_iconst (p := 5) (x := (1 : Int32)) (Or.inr rfl) rfl rfl rfl ?_
  refine zw_icmp_ge (t := 9) (p := 8) (Or.inr rfl) rfl rfl rfl ?_ ?_
  · refine zw_iconst (p := 10) (x := (0 : Int32)) (Or.inr rfl) rfl rfl rfl ?_
    refine zw_istore_n (p := 11) (l2 := [some (.ref a0), some (.int (0 : Int32))]) (Or.inr rfl) rfl rfl rfl rfl ?_
    exact zw_end rfl rfl
  exact zw_return (Or.inr rfl) rfl rfl
def zx_TS_negate_11 (E : zE0) (K : zKt) (a0 : Nat) (x1 : Int32) (M : zM) : zO :=
  if (4 : Int32) ≤ x1 then (some (none, M))
  else zif ((zK M a0).1 = 8)
  (zoR (zR M a0 0) fun q1 =>
  zif ((zK M a0).1 = 8)
  (zif ((zK M a0).1 = 8)
  (zoR (zR M a0 0) fun q2 =>
  zif ((zK M a0).1 = 8)
  (zif (((zK M q2).1 = 23 ∨ (zK M q2).1 = 25) ∧ zin ((((zI M a0 1) - (1 : Int32)) * (4 : Int32)) + x1) (zK M q2).2 = true)
  (zif ((zK M q1).1 = 23 ∧ zin ((((zI M a0 1) - (1 : Int32)) * (4 : Int32)) + x1) (zK M q1).2 = true)
  (zbm (zsL M q1 (Int32.toNatClampNeg ((((zI M a0 1) - (1 : Int32)) * (4 : Int32)) + x1)) ((zL M q2 (Int32.toNatClampNeg ((((zI M a0 1) - (1 : Int32)) * (4 : Int32)) + x1))) ^^^ (-1 : Int64))) fun M1 =>
  zbi (x1 + (1 : Int32)) fun u1 =>
  K 11 [some (.ref a0), some (.int u1)] [] M1))))))
set_option maxRecDepth 20000 in
theorem zg_TS_negate_11 (d : Nat) (a0 : Nat) (x1 : Int32) (M : zM) : zG d n_TS_negate 11 [some (.ref a0), some (.int x1)] [] M = zx_TS_negate_11 (zV d) (zG d n_TS_negate) a0 x1 M := by
  refine (zG_sg (m := zm_TS_negate) rfl 400 _ _ _ M).trans ?_
  show zw true zm_TS_negate (zV d) (zG d n_TS_negate) 400 11 [some (.ref a0), some (.int x1)] [] M = _
  unfold zx_TS_negate_11
  refine zw_iload_n (p := 12) (Or.inl rfl) rfl rfl rfl ?_
  refine zw_iconst (p := 13) (x := (4 : Int32)) (Or.inr rfl) rfl rfl rfl ?_
  refine zw_icmp_ge (t := 56) (p := 16) (Or.inr rfl) rfl rfl rfl ?_ ?_
  · exact zw_return (Or.inr rfl) rfl rfl
  refine zw_aload_n (p := 17) (Or.inr rfl) rfl rfl rfl ?_
  refine zw_get_ref (p := 20) (Or.inr rfl) rfl rfl (fun q1 => ?_)
  refine zw_aload_n (p := 21) (Or.inr rfl) rfl rfl rfl ?_
  refine zw_get_int (p := 24) (Or.inr rfl) rfl rfl ?_
  refine zw_iconst (p := 25) (x := (1 : Int32)) (Or.inr rfl) rfl rfl rfl ?_
  refine zw_isub (p := 26) (Or.inr rfl) rfl rfl ?_
  refine zw_iconst (p := 27) (x := (4 : Int32)) (Or.inr rfl) rfl rfl rfl ?_
  refine zw_imul (p := 28) (Or.inr rfl) rfl rfl ?_
  refine zw_iload_n (p := 29) (Or.inr rfl) rfl rfl rfl ?_
  refine zw_iadd (p := 30) (Or.inr rfl) rfl rfl ?_
  refine zw_aload_n (p := 31) (Or.inr rfl) rfl rfl rfl ?_
  refine zw_get_ref (p := 34) (Or.inr rfl) rfl rfl (fun q2 => ?_)
  refine zw_aload_n (p := 35) (Or.inr rfl) rfl rfl rfl ?_
  refine zw_get_int (p := 38) (Or.inr rfl) rfl rfl ?_
  refine zw_iconst (p := 39) (x := (1 : Int32)) (Or.inr rfl) rfl rfl rfl ?_
  refine zw_isub (p := 40) (Or.inr rfl) rfl rfl ?_
  refine zw_iconst (p := 41) (x := (4 : Int32)) (Or.inr rfl) rfl rfl rfl ?_
  refine zw_imul (p := 42) (Or.inr rfl) rfl rfl ?_
  refine zw_iload_n (p := 43) (Or.inr rfl) rfl rfl rfl ?_
  refine zw_iadd (p := 44) (Or.inr rfl) rfl rfl ?_
  refine zw_laload (p := 45) (Or.inr rfl) rfl rfl ?_
  refine zw_ldc2_w (p := 48) (x := (-1 : Int64)) (Or.inr rfl) rfl rfl rfl ?_
  refine zw_lxor (p := 49) (Or.inr rfl) rfl rfl ?_
  refine zw_lastore (p := 50) (Or.inr rfl) rfl rfl (fun M1 => ?_)
  refine zw_iinc (p := 53) (c := (1 : Int32)) (L2 := fun u1 => [some (.ref a0), some (.int u1)]) (Or.inr rfl) rfl rfl rfl rfl (fun _ => rfl) rfl (fun u1 => ?_)
  refine zw_goto (t := 11) (Or.inr rfl) rfl rfl ?_
  exact zw_end rfl rfl
def zx_TS_joinTwo (E : zE0) (K : zKt) (a0 : Nat) (x1 : Int32) (M : zM) : zO :=
  zif ((zK M a0).1 = 8)
  (if (2 : Int32) ≤ (zI M a0 1) then (zif ((zK M a0).1 = 8)
    (zif ((zK M a0).1 = 8)
    (zbm (zsI M a0 1 ((zI M a0 1) - (1 : Int32))) fun M1 =>
    K 21 [some (.ref a0), some (.int x1), some (.int (0 : Int32)), none, none, none] [] M1)))
  else some (none, M))
set_option maxRecDepth 20000 in
theorem ze_TS_joinTwo (d : Nat) (a0 : Nat) (x1 : Int32) (M : zM) : zV (d + 1) n_TS_joinTwo [.ref a0, .int x1] M = zx_TS_joinTwo (zV d) (zG d n_TS_joinTwo) a0 x1 M := by
  refine (zE_sg (m := zm_TS_joinTwo) rfl 400 _ rfl M).trans ?_
  show zw true zm_TS_joinTwo (zV d) (zG d n_TS_joinTwo) 400 0 [some (.ref a0), some (.int x1), none, none, none, none] [] M = _
  unfold zx_TS_joinTwo
  refine zw_aload_n (p := 1) (Or.inl rfl) rfl rfl rfl ?_
  refine zw_get_int (p := 4) (Or.inr rfl) rfl rfl ?_
  refine zw_iconst (p := 5) (x := (2 : Int32)) (Or.inr rfl) rfl rfl rfl ?_
  refine zw_icmp_ge (t := 9) (p := 8) (Or.inr rfl) rfl rfl rfl ?_ ?_
  · refine zw_aload_n (p := 10) (Or.inr rfl) rfl rfl rfl ?_
    refine zw_dup_ref (p := 11) (Or.inr rfl) rfl rfl ?_
    refine zw_get_int (p := 14) (Or.inr rfl) rfl rfl ?_
    refine zw_iconst (p := 15) (x := (1 : Int32)) (Or.inr rfl) rfl rfl rfl ?_
    refine zw_isub (p := 16) (Or.inr rfl) rfl rfl ?_
    refine zw_put_int (p := 19) (Or.inr rfl) rfl rfl (fun M1 => ?_)
    refine zw_iconst (p := 20) (x := (0 : Int32)) (Or.inr rfl) rfl rfl rfl ?_
    refine zw_istore_n (p := 21) (l2 := [some (.ref a0), some (.int x1), some (.int (0 : Int32)), none, none, none]) (Or.inr rfl) rfl rfl rfl rfl ?_
    exact zw_end rfl rfl
  exact zw_return (Or.inr rfl) rfl rfl
def zx_TS_joinTwo_21 (E : zE0) (K : zKt) (a0 : Nat) (x1 : Int32) (x2 : Int32) (M : zM) : zO :=
  if (4 : Int32) ≤ x2 then (some (none, M))
  else zif ((zK M a0).1 = 8)
  (zbi ((((zI M a0 1) - (1 : Int32)) * (4 : Int32)) + x2) fun u1 =>
  zif ((zK M a0).1 = 8)
  (zoR (zR M a0 0) fun q1 =>
  zif ((zK M a0).1 = 8)
  (zif (((zK M q1).1 = 23 ∨ (zK M q1).1 = 25) ∧ zin (((zI M a0 1) * (4 : Int32)) + x2) (zK M q1).2 = true)
  (zbl (zL M q1 (Int32.toNatClampNeg (((zI M a0 1) * (4 : Int32)) + x2))) fun w1 =>
  zif ((zK M a0).1 = 8)
  (zoR (zR M a0 0) fun q2 =>
  if x1 = 0 then (zif ((zK M a0).1 = 8)
    (zoR (zR M a0 0) fun q3 =>
    zif (((zK M q3).1 = 23 ∨ (zK M q3).1 = 25) ∧ zin u1 (zK M q3).2 = true)
    (zif ((zK M q2).1 = 23 ∧ zin u1 (zK M q2).2 = true)
    (zbm (zsL M q2 (Int32.toNatClampNeg u1) ((zL M q3 (Int32.toNatClampNeg u1)) ||| w1)) fun M1 =>
    zbi (x2 + (1 : Int32)) fun u2 =>
    K 21 [some (.ref a0), some (.int x1), some (.int u2), none, none, none] [] M1))))
  else zif ((zK M a0).1 = 8)
  (zoR (zR M a0 0) fun q4 =>
  zif (((zK M q4).1 = 23 ∨ (zK M q4).1 = 25) ∧ zin u1 (zK M q4).2 = true)
  (zif ((zK M q2).1 = 23 ∧ zin u1 (zK M q2).2 = true)
  (zbm (zsL M q2 (Int32.toNatClampNeg u1) ((zL M q4 (Int32.toNatClampNeg u1)) &&& w1)) fun M2 =>
  zbi (x2 + (1 : Int32)) fun u3 =>
  K 21 [some (.ref a0), some (.int x1), some (.int u3), none, none, none] [] M2))))))))
set_option maxRecDepth 20000 in
theorem zg_TS_joinTwo_21 (d : Nat) (a0 : Nat) (x1 : Int32) (x2 : Int32) (M : zM) : zG d n_TS_joinTwo 21 [some (.ref a0), some (.int x1), some (.int x2), none, none, none] [] M = zx_TS_joinTwo_21 (zV d) (zG d n_TS_joinTwo) a0 x1 x2 M := by
  refine (zG_sg (m := zm_TS_joinTwo) rfl 400 _ _ _ M).trans ?_
  show zw true zm_TS_joinTwo (zV d) (zG d n_TS_joinTwo) 400 21 [some (.ref a0), some (.int x1), some (.int x2), none, none, none] [] M = _
  unfold zx_TS_joinTwo_21
  refine zw_iload_n (p := 22) (Or.inl rfl) rfl rfl rfl ?_
  refine zw_iconst (p := 23) (x := (4 : Int32)) (Or.inr rfl) rfl rfl rfl ?_
  refine zw_icmp_ge (t := 89) (p := 26) (Or.inr rfl) rfl rfl rfl ?_ ?_
  · exact zw_return (Or.inr rfl) rfl rfl
  refine zw_aload_n (p := 27) (Or.inr rfl) rfl rfl rfl ?_
  refine zw_get_int (p := 30) (Or.inr rfl) rfl rfl ?_
  refine zw_iconst (p := 31) (x := (1 : Int32)) (Or.inr rfl) rfl rfl rfl ?_
  refine zw_isub (p := 32) (Or.inr rfl) rfl rfl ?_
  refine zw_iconst (p := 33) (x := (4 : Int32)) (Or.inr rfl) rfl rfl rfl ?_
  refine zw_imul (p := 34) (Or.inr rfl) rfl rfl ?_
  refine zw_iload_n (p := 35) (Or.inr rfl) rfl rfl rfl ?_
  refine zw_iadd (p := 36) (Or.inr rfl) rfl rfl ?_
  refine zw_istore_nN (p := 37) (L2 := fun u1 => [some (.ref a0), some (.int x1), some (.int x2), some (.int u1), none, none]) (Or.inr rfl) rfl rfl (fun _ => rfl) rfl (fun u1 => ?_)
  refine zw_aload_n (p := 38) (Or.inr rfl) rfl rfl rfl ?_
  refine zw_get_ref (p := 41) (Or.inr rfl) rfl rfl (fun q1 => ?_)
  refine zw_aload_n (p := 42) (Or.inr rfl) rfl rfl rfl ?_
  refine zw_get_int (p := 45) (Or.inr rfl) rfl rfl ?_
  refine zw_iconst (p := 46) (x := (4 : Int32)) (Or.inr rfl) rfl rfl rfl ?_
  refine zw_imul (p := 47) (Or.inr rfl) rfl rfl ?_
  refine zw_iload_n (p := 48) (Or.inr rfl) rfl rfl rfl ?_
  refine zw_iadd (p := 49) (Or.inr rfl) rfl rfl ?_
  refine zw_laload (p := 50) (Or.inr rfl) rfl rfl ?_
  refine zw_lstoreN (p := 52) (L2 := fun w1 => [some (.ref a0), some (.int x1), some (.int x2), some (.int u1), some (.long w1), none]) (Or.inr rfl) rfl rfl (fun _ => rfl) rfl (fun w1 => ?_)
  refine zw_aload_n (p := 53) (Or.inr rfl) rfl rfl rfl ?_
  refine zw_get_ref (p := 56) (Or.inr rfl) rfl rfl (fun q2 => ?_)
  refine zw_iload_n (p := 57) (Or.inr rfl) rfl rfl rfl ?_
  refine zw_iload_n (p := 58) (Or.inr rfl) rfl rfl rfl ?_
  refine zw_if_eq (t := 73) (p := 61) (Or.inr rfl) rfl rfl rfl ?_ ?_
  · refine zw_aload_n (p := 74) (Or.inr rfl) rfl rfl rfl ?_
    refine zw_get_ref (p := 77) (Or.inr rfl) rfl rfl (fun q3 => ?_)
    refine zw_iload_n (p := 78) (Or.inr rfl) rfl rfl rfl ?_
    refine zw_laload (p := 79) (Or.inr rfl) rfl rfl ?_
    refine zw_lload (p := 81) (Or.inr rfl) rfl rfl rfl ?_
    refine zw_lor (p := 82) (Or.inr rfl) rfl rfl ?_
    refine zw_lastore (p := 83) (Or.inr rfl) rfl rfl (fun M1 => ?_)
    refine zw_iinc (p := 86) (c := (1 : Int32)) (L2 := fun u2 => [some (.ref a0), some (.int x1), some (.int u2), some (.int u1), some (.long w1), none]) (Or.inr rfl) rfl rfl rfl rfl (fun _ => rfl) rfl (fun u2 => ?_)
    refine zw_goto (t := 21) (Or.inr rfl) rfl rfl ?_
    exact zw_end rfl rfl
  refine zw_aload_n (p := 62) (Or.inr rfl) rfl rfl rfl ?_
  refine zw_get_ref (p := 65) (Or.inr rfl) rfl rfl (fun q4 => ?_)
  refine zw_iload_n (p := 66) (Or.inr rfl) rfl rfl rfl ?_
  refine zw_laload (p := 67) (Or.inr rfl) rfl rfl ?_
  refine zw_lload (p := 69) (Or.inr rfl) rfl rfl rfl ?_
  refine zw_land (p := 70) (Or.inr rfl) rfl rfl ?_
  refine zw_goto (t := 82) (Or.inr rfl) rfl rfl ?_
  refine zw_lastore (p := 83) (Or.inr rfl) rfl rfl (fun M2 => ?_)
  refine zw_iinc (p := 86) (c := (1 : Int32)) (L2 := fun u3 => [some (.ref a0), some (.int x1), some (.int u3), some (.int u1), some (.long w1), none]) (Or.inr rfl) rfl rfl rfl rfl (fun _ => rfl) rfl (fun u3 => ?_)
  refine zw_goto (t := 21) (Or.inr rfl) rfl rfl ?_
  exact zw_end rfl rfl
def zx_TS_drop (E : zE0) (K : zKt) (a0 : Nat) (M : zM) : zO :=
  zif ((zK M a0).1 = 8)
  (if (zI M a0 1) ≤ 0 then (some (none, M))
  else zif ((zK M a0).1 = 8)
  (zif ((zK M a0).1 = 8)
  (zbm (zsI M a0 1 ((zI M a0 1) - (1 : Int32))) fun M1 =>
  some (none, M1))))
set_option maxRecDepth 20000 in
theorem ze_TS_drop (d : Nat) (a0 : Nat) (M : zM) : zV (d + 1) n_TS_drop [.ref a0] M = zx_TS_drop (zV d) (zG d n_TS_drop) a0 M := by
  refine (zE_sg (m := zm_TS_drop) rfl 400 _ rfl M).trans ?_
  show zw true zm_TS_drop (zV d) (zG d n_TS_drop) 400 0 [some (.ref a0)] [] M = _
  unfold zx_TS_drop
  refine zw_aload_n (p := 1) (Or.inl rfl) rfl rfl rfl ?_
  refine zw_get_int (p := 4) (Or.inr rfl) rfl rfl ?_
  refine zw_if_le (t := 17) (p := 7) (Or.inr rfl) rfl rfl rfl ?_ ?_
  · exact zw_return (Or.inr rfl) rfl rfl
  refine zw_aload_n (p := 8) (Or.inr rfl) rfl rfl rfl ?_
  refine zw_dup_ref (p := 9) (Or.inr rfl) rfl rfl ?_
  refine zw_get_int (p := 12) (Or.inr rfl) rfl rfl ?_
  refine zw_iconst (p := 13) (x := (1 : Int32)) (Or.inr rfl) rfl rfl rfl ?_
  refine zw_isub (p := 14) (Or.inr rfl) rfl rfl ?_
  refine zw_put_int (p := 17) (Or.inr rfl) rfl rfl (fun M1 => ?_)
  exact zw_return (Or.inr rfl) rfl rfl
def zx_TS_moveTop (E : zE0) (K : zKt) (a0 : Nat) (a1 : Nat) (x2 : Int32) (M : zM) : zO :=
  zif ((zK M a0).1 = 8)
  (if (1 : Int32) ≤ (zI M a0 1) then (zif ((zK M a0).1 = 8)
    (zif ((zK M a0).1 = 8)
    (zbm (zsI M a0 1 ((zI M a0 1) - (1 : Int32))) fun M1 =>
    K 21 [some (.ref a0), some (.ref a1), some (.int x2), some (.int (0 : Int32))] [] M1)))
  else some (none, M))
set_option maxRecDepth 20000 in
theorem ze_TS_moveTop (d : Nat) (a0 : Nat) (a1 : Nat) (x2 : Int32) (M : zM) : zV (d + 1) n_TS_moveTop [.ref a0, .ref a1, .int x2] M = zx_TS_moveTop (zV d) (zG d n_TS_moveTop) a0 a1 x2 M := by
  refine (zE_sg (m := zm_TS_moveTop) rfl 400 _ rfl M).trans ?_
  show zw true zm_TS_moveTop (zV d) (zG d n_TS_moveTop) 400 0 [some (.ref a0), some (.ref a1), some (.int x2), none] [] M = _
  unfold zx_TS_moveTop
  refine zw_aload_n (p := 1) (Or.inl rfl) rfl rfl rfl ?_
  refine zw_get_int (p := 4) (Or.inr rfl) rfl rfl ?_
  refine zw_iconst (p := 5) (x := (1 : Int32)) (Or.inr rfl) rfl rfl rfl ?_
  refine zw_icmp_ge (t := 9) (p := 8) (Or.inr rfl) rfl rfl rfl ?_ ?_
  · refine zw_aload_n (p := 10) (Or.inr rfl) rfl rfl rfl ?_
    refine zw_dup_ref (p := 11) (Or.inr rfl) rfl rfl ?_
    refine zw_get_int (p := 14) (Or.inr rfl) rfl rfl ?_
    refine zw_iconst (p := 15) (x := (1 : Int32)) (Or.inr rfl) rfl rfl rfl ?_
    refine zw_isub (p := 16) (Or.inr rfl) rfl rfl ?_
    refine zw_put_int (p := 19) (Or.inr rfl) rfl rfl (fun M1 => ?_)
    refine zw_iconst (p := 20) (x := (0 : Int32)) (Or.inr rfl) rfl rfl rfl ?_
    refine zw_istore_n (p := 21) (l2 := [some (.ref a0), some (.ref a1), some (.int x2), some (.int (0 : Int32))]) (Or.inr rfl) rfl rfl rfl rfl ?_
    exact zw_end rfl rfl
  exact zw_return (Or.inr rfl) rfl rfl
def zx_TS_moveTop_21 (E : zE0) (K : zKt) (a0 : Nat) (a1 : Nat) (x2 : Int32) (x3 : Int32) (M : zM) : zO :=
  if (4 : Int32) ≤ x3 then (some (none, M))
  else zif ((zK M a0).1 = 8)
  (zoR (zR M a0 0) fun q1 =>
  zif ((zK M a0).1 = 8)
  (zif (((zK M q1).1 = 23 ∨ (zK M q1).1 = 25) ∧ zin (((zI M a0 1) * (4 : Int32)) + x3) (zK M q1).2 = true)
  (zif ((zK M a1).1 = 23 ∧ zin ((x2 * (4 : Int32)) + x3) (zK M a1).2 = true)
  (zbm (zsL M a1 (Int32.toNatClampNeg ((x2 * (4 : Int32)) + x3)) (zL M q1 (Int32.toNatClampNeg (((zI M a0 1) * (4 : Int32)) + x3)))) fun M1 =>
  zbi (x3 + (1 : Int32)) fun u1 =>
  K 21 [some (.ref a0), some (.ref a1), some (.int x2), some (.int u1)] [] M1))))
set_option maxRecDepth 20000 in
theorem zg_TS_moveTop_21 (d : Nat) (a0 : Nat) (a1 : Nat) (x2 : Int32) (x3 : Int32) (M : zM) : zG d n_TS_moveTop 21 [some (.ref a0), some (.ref a1), some (.int x2), some (.int x3)] [] M = zx_TS_moveTop_21 (zV d) (zG d n_TS_moveTop) a0 a1 x2 x3 M := by
  refine (zG_sg (m := zm_TS_moveTop) rfl 400 _ _ _ M).trans ?_
  show zw true zm_TS_moveTop (zV d) (zG d n_TS_moveTop) 400 21 [some (.ref a0), some (.ref a1), some (.int x2), some (.int x3)] [] M = _
  unfold zx_TS_moveTop_21
  refine zw_iload_n (p := 22) (Or.inl rfl) rfl rfl rfl ?_
  refine zw_iconst (p := 23) (x := (4 : Int32)) (Or.inr rfl) rfl rfl rfl ?_
  refine zw_icmp_ge (t := 52) (p := 26) (Or.inr rfl) rfl rfl rfl ?_ ?_
  · exact zw_return (Or.inr rfl) rfl rfl
  refine zw_aload_n (p := 27) (Or.inr rfl) rfl rfl rfl ?_
  refine zw_iload_n (p := 28) (Or.inr rfl) rfl rfl rfl ?_
  refine zw_iconst (p := 29) (x := (4 : Int32)) (Or.inr rfl) rfl rfl rfl ?_
  refine zw_imul (p := 30) (Or.inr rfl) rfl rfl ?_
  refine zw_iload_n (p := 31) (Or.inr rfl) rfl rfl rfl ?_
  refine zw_iadd (p := 32) (Or.inr rfl) rfl rfl ?_
  refine zw_aload_n (p := 33) (Or.inr rfl) rfl rfl rfl ?_
  refine zw_get_ref (p := 36) (Or.inr rfl) rfl rfl (fun q1 => ?_)
  refine zw_aload_n (p := 37) (Or.inr rfl) rfl rfl rfl ?_
  refine zw_get_int (p := 40) (Or.inr rfl) rfl rfl ?_
  refine zw_iconst (p := 41) (x := (4 : Int32)) (Or.inr rfl) rfl rfl rfl ?_
  refine zw_imul (p := 42) (Or.inr rfl) rfl rfl ?_
  refine zw_iload_n (p := 43) (Or.inr rfl) rfl rfl rfl ?_
  refine zw_iadd (p := 44) (Or.inr rfl) rfl rfl ?_
  refine zw_laload (p := 45) (Or.inr rfl) rfl rfl ?_
  refine zw_lastore (p := 46) (Or.inr rfl) rfl rfl (fun M1 => ?_)
  refine zw_iinc (p := 49) (c := (1 : Int32)) (L2 := fun u1 => [some (.ref a0), some (.ref a1), some (.int x2), some (.int u1)]) (Or.inr rfl) rfl rfl rfl rfl (fun _ => rfl) rfl (fun u1 => ?_)
  refine zw_goto (t := 21) (Or.inr rfl) rfl rfl ?_
  exact zw_end rfl rfl
def zx_Wa_restart (E : zE0) (K : zKt) (a0 : Nat) (M : zM) : zO :=
  zif ((zK M a0).1 = 9)
  (zbm (zsL M a0 6 (0 : Int64)) fun M1 =>
  zif ((zK M1 a0).1 = 9)
  (zbm (zsL M1 a0 7 (0 : Int64)) fun M2 =>
  zif ((zK M2 a0).1 = 9)
  (zbm (zsI M2 a0 8 (0 : Int32)) fun M3 =>
  some (none, M3))))
set_option maxRecDepth 20000 in
theorem ze_Wa_restart (d : Nat) (a0 : Nat) (M : zM) : zV (d + 1) n_Wa_restart [.ref a0] M = zx_Wa_restart (zV d) (zG d n_Wa_restart) a0 M := by
  refine (zE_sg (m := zm_Wa_restart) rfl 400 _ rfl M).trans ?_
  show zw true zm_Wa_restart (zV d) (zG d n_Wa_restart) 400 0 [some (.ref a0)] [] M = _
  unfold zx_Wa_restart
  refine zw_aload_n (p := 1) (Or.inl rfl) rfl rfl rfl ?_
  refine zw_lconst (p := 2) (x := (0 : Int64)) (Or.inr rfl) rfl rfl rfl ?_
  refine zw_put_long (p := 5) (Or.inr rfl) rfl rfl (fun M1 => ?_)
  refine zw_aload_n (p := 6) (Or.inr rfl) rfl rfl rfl ?_
  refine zw_lconst (p := 7) (x := (0 : Int64)) (Or.inr rfl) rfl rfl rfl ?_
  refine zw_put_long (p := 10) (Or.inr rfl) rfl rfl (fun M2 => ?_)
  refine zw_aload_n (p := 11) (Or.inr rfl) rfl rfl rfl ?_
  refine zw_iconst (p := 12) (x := (0 : Int32)) (Or.inr rfl) rfl rfl rfl ?_
  refine zw_put_int (p := 15) (Or.inr rfl) rfl rfl (fun M3 => ?_)
  exact zw_return (Or.inr rfl) rfl rfl
def zx_Wa_catchUp (E : zE0) (K : zKt) (a0 : Nat) (a1 : Nat) (a2 : Nat) (M : zM) : zO :=
  zif ((zK M a0).1 = 9)
  (zif ((zK M a2).1 = 7)
  (if (zI M a2 1) ≤ (zI M a0 8) then (some (none, M))
  else zif ((zK M a2).1 = 7)
  (zoR (zR M a2 0) fun q1 =>
  zif ((zK M a0).1 = 9)
  (zif (((zK M q1).1 = 20 ∨ (zK M q1).1 = 24) ∧ zin (zI M a0 8) (zK M q1).2 = true)
  (zif ((zK M a0).1 = 9)
  (zbV (E n_Wa_takeIn [.ref a0, .ref a1, .int (zI M q1 (Int32.toNatClampNeg (zI M a0 8)))] M) fun M1 =>
  zif ((zK M1 a0).1 = 9)
  (zif ((zK M1 a0).1 = 9)
  (zbm (zsI M1 a0 8 ((zI M1 a0 8) + (1 : Int32))) fun M2 =>
  K 0 [some (.ref a0), some (.ref a1), some (.ref a2)] [] M2))))))))
set_option maxRecDepth 20000 in
theorem ze_Wa_catchUp (d : Nat) (a0 : Nat) (a1 : Nat) (a2 : Nat) (M : zM) : zV (d + 1) n_Wa_catchUp [.ref a0, .ref a1, .ref a2] M = zx_Wa_catchUp (zV d) (zG d n_Wa_catchUp) a0 a1 a2 M := by
  refine (zE_sg (m := zm_Wa_catchUp) rfl 400 _ rfl M).trans ?_
  show zw true zm_Wa_catchUp (zV d) (zG d n_Wa_catchUp) 400 0 [some (.ref a0), some (.ref a1), some (.ref a2)] [] M = _
  unfold zx_Wa_catchUp
  refine zw_aload_n (p := 1) (Or.inl rfl) rfl rfl rfl ?_
  refine zw_get_int (p := 4) (Or.inr rfl) rfl rfl ?_
  refine zw_aload_n (p := 5) (Or.inr rfl) rfl rfl rfl ?_
  refine zw_get_int (p := 8) (Or.inr rfl) rfl rfl ?_
  refine zw_icmp_ge (t := 38) (p := 11) (Or.inr rfl) rfl rfl rfl ?_ ?_
  · exact zw_return (Or.inr rfl) rfl rfl
  refine zw_aload_n (p := 12) (Or.inr rfl) rfl rfl rfl ?_
  refine zw_aload_n (p := 13) (Or.inr rfl) rfl rfl rfl ?_
  refine zw_aload_n (p := 14) (Or.inr rfl) rfl rfl rfl ?_
  refine zw_get_ref (p := 17) (Or.inr rfl) rfl rfl (fun q1 => ?_)
  refine zw_aload_n (p := 18) (Or.inr rfl) rfl rfl rfl ?_
  refine zw_get_int (p := 21) (Or.inr rfl) rfl rfl ?_
  refine zw_iaload (p := 22) (Or.inr rfl) rfl rfl ?_
  refine zw_virtualV (p := 25) (as := [.ref a0, .ref a1, .int (zI M q1 (Int32.toNatClampNeg (zI M a0 8)))]) (rest := []) (Or.inr rfl) rfl rfl rfl rfl rfl rfl rfl (fun M1 => ?_)
  refine zw_aload_n (p := 26) (Or.inr rfl) rfl rfl rfl ?_
  refine zw_dup_ref (p := 27) (Or.inr rfl) rfl rfl ?_
  refine zw_get_int (p := 30) (Or.inr rfl) rfl rfl ?_
  refine zw_iconst (p := 31) (x := (1 : Int32)) (Or.inr rfl) rfl rfl rfl ?_
  refine zw_iadd (p := 32) (Or.inr rfl) rfl rfl ?_
  refine zw_put_int (p := 35) (Or.inr rfl) rfl rfl (fun M2 => ?_)
  refine zw_goto (t := 0) (Or.inr rfl) rfl rfl ?_
  exact zw_end rfl rfl
def zx_Wa_catchUp_0 (E : zE0) (K : zKt) (a0 : Nat) (a1 : Nat) (a2 : Nat) (M : zM) : zO :=
  zif ((zK M a0).1 = 9)
  (zif ((zK M a2).1 = 7)
  (if (zI M a2 1) ≤ (zI M a0 8) then (some (none, M))
  else zif ((zK M a2).1 = 7)
  (zoR (zR M a2 0) fun q1 =>
  zif ((zK M a0).1 = 9)
  (zif (((zK M q1).1 = 20 ∨ (zK M q1).1 = 24) ∧ zin (zI M a0 8) (zK M q1).2 = true)
  (zif ((zK M a0).1 = 9)
  (zbV (E n_Wa_takeIn [.ref a0, .ref a1, .int (zI M q1 (Int32.toNatClampNeg (zI M a0 8)))] M) fun M1 =>
  zif ((zK M1 a0).1 = 9)
  (zif ((zK M1 a0).1 = 9)
  (zbm (zsI M1 a0 8 ((zI M1 a0 8) + (1 : Int32))) fun M2 =>
  K 0 [some (.ref a0), some (.ref a1), some (.ref a2)] [] M2))))))))
set_option maxRecDepth 20000 in
theorem zg_Wa_catchUp_0 (d : Nat) (a0 : Nat) (a1 : Nat) (a2 : Nat) (M : zM) : zG d n_Wa_catchUp 0 [some (.ref a0), some (.ref a1), some (.ref a2)] [] M = zx_Wa_catchUp_0 (zV d) (zG d n_Wa_catchUp) a0 a1 a2 M := by
  refine (zG_sg (m := zm_Wa_catchUp) rfl 400 _ _ _ M).trans ?_
  show zw true zm_Wa_catchUp (zV d) (zG d n_Wa_catchUp) 400 0 [some (.ref a0), some (.ref a1), some (.ref a2)] [] M = _
  unfold zx_Wa_catchUp_0
  refine zw_aload_n (p := 1) (Or.inl rfl) rfl rfl rfl ?_
  refine zw_get_int (p := 4) (Or.inr rfl) rfl rfl ?_
  refine zw_aload_n (p := 5) (Or.inr rfl) rfl rfl rfl ?_
  refine zw_get_int (p := 8) (Or.inr rfl) rfl rfl ?_
  refine zw_icmp_ge (t := 38) (p := 11) (Or.inr rfl) rfl rfl rfl ?_ ?_
  · exact zw_return (Or.inr rfl) rfl rfl
  refine zw_aload_n (p := 12) (Or.inr rfl) rfl rfl rfl ?_
  refine zw_aload_n (p := 13) (Or.inr rfl) rfl rfl rfl ?_
  refine zw_aload_n (p := 14) (Or.inr rfl) rfl rfl rfl ?_
  refine zw_get_ref (p := 17) (Or.inr rfl) rfl rfl (fun q1 => ?_)
  refine zw_aload_n (p := 18) (Or.inr rfl) rfl rfl rfl ?_
  refine zw_get_int (p := 21) (Or.inr rfl) rfl rfl ?_
  refine zw_iaload (p := 22) (Or.inr rfl) rfl rfl ?_
  refine zw_virtualV (p := 25) (as := [.ref a0, .ref a1, .int (zI M q1 (Int32.toNatClampNeg (zI M a0 8)))]) (rest := []) (Or.inr rfl) rfl rfl rfl rfl rfl rfl rfl (fun M1 => ?_)
  refine zw_aload_n (p := 26) (Or.inr rfl) rfl rfl rfl ?_
  refine zw_dup_ref (p := 27) (Or.inr rfl) rfl rfl ?_
  refine zw_get_int (p := 30) (Or.inr rfl) rfl rfl ?_
  refine zw_iconst (p := 31) (x := (1 : Int32)) (Or.inr rfl) rfl rfl rfl ?_
  refine zw_iadd (p := 32) (Or.inr rfl) rfl rfl ?_
  refine zw_put_int (p := 35) (Or.inr rfl) rfl rfl (fun M2 => ?_)
  refine zw_goto (t := 0) (Or.inr rfl) rfl rfl ?_
  exact zw_end rfl rfl
def zx_Wa_takeIn (E : zE0) (K : zKt) (a0 : Nat) (a1 : Nat) (x2 : Int32) (M : zM) : zO :=
  zif ((zK M a0).1 = 9)
  (zoR (zR M a0 0) fun q1 =>
  zif ((zK M a0).1 = 9)
  (zif ((zK M q1).1 = 23 ∧ zin (zI M a0 8) (zK M q1).2 = true)
  (zbm (zsL M q1 (Int32.toNatClampNeg (zI M a0 8)) (1 : Int64)) fun M1 =>
  zif ((zK M1 a0).1 = 9)
  (zoR (zR M1 a0 1) fun q2 =>
  zif ((zK M1 a0).1 = 9)
  (zif ((zK M1 q2).1 = 23 ∧ zin (zI M1 a0 8) (zK M1 q2).2 = true)
  (zbm (zsL M1 q2 (Int32.toNatClampNeg (zI M1 a0 8)) (0 : Int64)) fun M2 =>
  zif ((zK M2 a0).1 = 9)
  (zoR (zR M2 a0 3) fun q3 =>
  zif ((zK M2 a0).1 = 9)
  (zif ((zK M2 q3).1 = 23 ∧ zin (zI M2 a0 8) (zK M2 q3).2 = true)
  (zbm (zsL M2 q3 (Int32.toNatClampNeg (zI M2 a0 8)) (0 : Int64)) fun M3 =>
  zif ((zK M3 a0).1 = 9)
  (zoR (zR M3 a0 4) fun q4 =>
  zif ((zK M3 a0).1 = 9)
  (zif ((zK M3 q4).1 = 20 ∧ zin (zI M3 a0 8) (zK M3 q4).2 = true)
  (zbm (zsI M3 q4 (Int32.toNatClampNeg (zI M3 a0 8)) (0 : Int32)) fun M4 =>
  zif ((zK M4 a1).1 = 2)
  (zoR (zR M4 a1 1) fun q5 =>
  zif ((zK M4 q5).1 = 4)
  (zbL (E n_Se_openTo [.ref q5, .int x2] M4) fun w1 M5 =>
  zif ((zK M5 a1).1 = 2)
  (zoR (zR M5 a1 1) fun q6 =>
  zif ((zK M5 a0).1 = 9)
  (zbV (E n_Wa_moveDuties [.ref a0, .ref q6, .long w1] M5) fun M6 =>
  zif ((zK M6 a1).1 = 2)
  (zoR (zR M6 a1 0) fun q7 =>
  zif ((zK M6 a1).1 = 2)
  (zoR (zR M6 a1 0) fun q8 =>
  zif ((zK M6 q8).1 = 4)
  (zbL (E n_Se_openTo [.ref q8, .int x2] M6) fun w2 M7 =>
  zif ((zK M7 a0).1 = 9)
  (zbI (E n_Wa_moveTries [.ref a0, .ref q7, .long w2] M7) fun u1 M8 =>
  if u1 = 0 then (zif ((zK M8 a1).1 = 2)
    (zbI (E n_Pl_isPutOffBy [.ref a1, .int x2] M8) fun u2 M9 =>
    zif ((zK M9 a0).1 = 9)
    (zbV (E n_Wa_judgeTries [.ref a0, .ref a1, .int u2] M9) fun M10 =>
    some (none, M10))))
  else zif ((zK M8 a0).1 = 9)
  (zbV (E n_Wa_beginDuty [.ref a0, .ref a1, .long w1] M8) fun M11 =>
  zif ((zK M11 a1).1 = 2)
  (zbI (E n_Pl_isPutOffBy [.ref a1, .int x2] M11) fun u3 M12 =>
  zif ((zK M12 a0).1 = 9)
  (zbV (E n_Wa_judgeTries [.ref a0, .ref a1, .int u3] M12) fun M13 =>
  some (none, M13))))))))))))))))))))))))
set_option maxRecDepth 20000 in
theorem ze_Wa_takeIn (d : Nat) (a0 : Nat) (a1 : Nat) (x2 : Int32) (M : zM) : zV (d + 1) n_Wa_takeIn [.ref a0, .ref a1, .int x2] M = zx_Wa_takeIn (zV d) (zG d n_Wa_takeIn) a0 a1 x2 M := by
  refine (zE_sg (m := zm_Wa_takeIn) rfl 400 _ rfl M).trans ?_
  show zw true zm_Wa_takeIn (zV d) (zG d n_Wa_takeIn) 400 0 [some (.ref a0), some (.ref a1), some (.int x2), none, none] [] M = _
  unfold zx_Wa_takeIn
  refine zw_aload_n (p := 1) (Or.inl rfl) rfl rfl rfl ?_
  refine zw_get_ref (p := 4) (Or.inr rfl) rfl rfl (fun q1 => ?_)
  refine zw_aload_n (p := 5) (Or.inr rfl) rfl rfl rfl ?_
  refine zw_get_int (p := 8) (Or.inr rfl) rfl rfl ?_
  refine zw_lconst (p := 9) (x := (1 : Int64)) (Or.inr rfl) rfl rfl rfl ?_
  refine zw_lastore (p := 10) (Or.inr rfl) rfl rfl (fun M1 => ?_)
  refine zw_aload_n (p := 11) (Or.inr rfl) rfl rfl rfl ?_
  refine zw_get_ref (p := 14) (Or.inr rfl) rfl rfl (fun q2 => ?_)
  refine zw_aload_n (p := 15) (Or.inr rfl) rfl rfl rfl ?_
  refine zw_get_int (p := 18) (Or.inr rfl) rfl rfl ?_
  refine zw_lconst (p := 19) (x := (0 : Int64)) (Or.inr rfl) rfl rfl rfl ?_
  refine zw_lastore (p := 20) (Or.inr rfl) rfl rfl (fun M2 => ?_)
  refine zw_aload_n (p := 21) (Or.inr rfl) rfl rfl rfl ?_
  refine zw_get_ref (p := 24) (Or.inr rfl) rfl rfl (fun q3 => ?_)
  refine zw_aload_n (p := 25) (Or.inr rfl) rfl rfl rfl ?_
  refine zw_get_int (p := 28) (Or.inr rfl) rfl rfl ?_
  refine zw_lconst (p := 29) (x := (0 : Int64)) (Or.inr rfl) rfl rfl rfl ?_
  refine zw_lastore (p := 30) (Or.inr rfl) rfl rfl (fun M3 => ?_)
  refine zw_aload_n (p := 31) (Or.inr rfl) rfl rfl rfl ?_
  refine zw_get_ref (p := 34) (Or.inr rfl) rfl rfl (fun q4 => ?_)
  refine zw_aload_n (p := 35) (Or.inr rfl) rfl rfl rfl ?_
  refine zw_get_int (p := 38) (Or.inr rfl) rfl rfl ?_
  refine zw_iconst (p := 39) (x := (0 : Int32)) (Or.inr rfl) rfl rfl rfl ?_
  refine zw_iastore (p := 40) (Or.inr rfl) rfl rfl (fun M4 => ?_)
  refine zw_aload_n (p := 41) (Or.inr rfl) rfl rfl rfl ?_
  refine zw_get_ref (p := 44) (Or.inr rfl) rfl rfl (fun q5 => ?_)
  refine zw_iload_n (p := 45) (Or.inr rfl) rfl rfl rfl ?_
  refine zw_virtualL (p := 48) (as := [.ref q5, .int x2]) (rest := []) (Or.inr rfl) rfl rfl rfl rfl rfl rfl rfl (fun w1 M5 => ?_)
  refine zw_lstore_n (p := 49) (l2 := [some (.ref a0), some (.ref a1), some (.int x2), some (.long w1), none]) (Or.inr rfl) rfl rfl rfl rfl ?_
  refine zw_aload_n (p := 50) (Or.inr rfl) rfl rfl rfl ?_
  refine zw_aload_n (p := 51) (Or.inr rfl) rfl rfl rfl ?_
  refine zw_get_ref (p := 54) (Or.inr rfl) rfl rfl (fun q6 => ?_)
  refine zw_lload_n (p := 55) (Or.inr rfl) rfl rfl rfl ?_
  refine zw_virtualV (p := 58) (as := [.ref a0, .ref q6, .long w1]) (rest := []) (Or.inr rfl) rfl rfl rfl rfl rfl rfl rfl (fun M6 => ?_)
  refine zw_aload_n (p := 59) (Or.inr rfl) rfl rfl rfl ?_
  refine zw_aload_n (p := 60) (Or.inr rfl) rfl rfl rfl ?_
  refine zw_get_ref (p := 63) (Or.inr rfl) rfl rfl (fun q7 => ?_)
  refine zw_aload_n (p := 64) (Or.inr rfl) rfl rfl rfl ?_
  refine zw_get_ref (p := 67) (Or.inr rfl) rfl rfl (fun q8 => ?_)
  refine zw_iload_n (p := 68) (Or.inr rfl) rfl rfl rfl ?_
  refine zw_virtualL (p := 71) (as := [.ref q8, .int x2]) (rest := [.ref q7, .ref a0]) (Or.inr rfl) rfl rfl rfl rfl rfl rfl rfl (fun w2 M7 => ?_)
  refine zw_virtualI (p := 74) (as := [.ref a0, .ref q7, .long w2]) (rest := []) (Or.inr rfl) rfl rfl rfl rfl rfl rfl rfl (fun u1 M8 => ?_)
  refine zw_if_eq (t := 83) (p := 77) (Or.inr rfl) rfl rfl rfl ?_ ?_
  · refine zw_aload_n (p := 84) (Or.inr rfl) rfl rfl rfl ?_
    refine zw_aload_n (p := 85) (Or.inr rfl) rfl rfl rfl ?_
    refine zw_aload_n (p := 86) (Or.inr rfl) rfl rfl rfl ?_
    refine zw_iload_n (p := 87) (Or.inr rfl) rfl rfl rfl ?_
    refine zw_virtualI (p := 90) (as := [.ref a1, .int x2]) (rest := [.ref a1, .ref a0]) (Or.inr rfl) rfl rfl rfl rfl rfl rfl rfl (fun u2 M9 => ?_)
    refine zw_virtualV (p := 93) (as := [.ref a0, .ref a1, .int u2]) (rest := []) (Or.inr rfl) rfl rfl rfl rfl rfl rfl rfl (fun M10 => ?_)
    exact zw_return (Or.inr rfl) rfl rfl
  refine zw_aload_n (p := 78) (Or.inr rfl) rfl rfl rfl ?_
  refine zw_aload_n (p := 79) (Or.inr rfl) rfl rfl rfl ?_
  refine zw_lload_n (p := 80) (Or.inr rfl) rfl rfl rfl ?_
  refine zw_virtualV (p := 83) (as := [.ref a0, .ref a1, .long w1]) (rest := []) (Or.inr rfl) rfl rfl rfl rfl rfl rfl rfl (fun M11 => ?_)
  refine zw_aload_n (p := 84) (Or.inr rfl) rfl rfl rfl ?_
  refine zw_aload_n (p := 85) (Or.inr rfl) rfl rfl rfl ?_
  refine zw_aload_n (p := 86) (Or.inr rfl) rfl rfl rfl ?_
  refine zw_iload_n (p := 87) (Or.inr rfl) rfl rfl rfl ?_
  refine zw_virtualI (p := 90) (as := [.ref a1, .int x2]) (rest := [.ref a1, .ref a0]) (Or.inr rfl) rfl rfl rfl rfl rfl rfl rfl (fun u3 M12 => ?_)
  refine zw_virtualV (p := 93) (as := [.ref a0, .ref a1, .int u3]) (rest := []) (Or.inr rfl) rfl rfl rfl rfl rfl rfl rfl (fun M13 => ?_)
  exact zw_return (Or.inr rfl) rfl rfl
def zx_Wa_moveDuties (E : zE0) (K : zKt) (a0 : Nat) (a1 : Nat) (l2 : Int64) (M : zM) : zO :=
  K 3 [some (.ref a0), some (.ref a1), some (.long l2), none, some (.int (0 : Int32))] [] M
set_option maxRecDepth 20000 in
theorem ze_Wa_moveDuties (d : Nat) (a0 : Nat) (a1 : Nat) (l2 : Int64) (M : zM) : zV (d + 1) n_Wa_moveDuties [.ref a0, .ref a1, .long l2] M = zx_Wa_moveDuties (zV d) (zG d n_Wa_moveDuties) a0 a1 l2 M := by
  refine (zE_sg (m := zm_Wa_moveDuties) rfl 400 _ rfl M).trans ?_
  show zw true zm_Wa_moveDuties (zV d) (zG d n_Wa_moveDuties) 400 0 [some (.ref a0), some (.ref a1), some (.long l2), none, none] [] M = _
  unfold zx_Wa_moveDuties
  refine zw_iconst (p := 1) (x := (0 : Int32)) (Or.inl rfl) rfl rfl rfl ?_
  refine zw_istore (p := 3) (l2 := [some (.ref a0), some (.ref a1), some (.long l2), none, some (.int (0 : Int32))]) (Or.inr rfl) rfl rfl rfl rfl ?_
  exact zw_end rfl rfl
def zx_Wa_moveDuties_3 (E : zE0) (K : zKt) (a0 : Nat) (a1 : Nat) (l2 : Int64) (x4 : Int32) (M : zM) : zO :=
  zif ((zK M a0).1 = 9)
  (if (zI M a0 8) ≤ x4 then (some (none, M))
  else zif ((zK M a0).1 = 9)
  (zoR (zR M a0 1) fun q1 =>
  zif (((zK M q1).1 = 23 ∨ (zK M q1).1 = 25) ∧ zin x4 (zK M q1).2 = true)
  (if (lg_cmp (zL M q1 (Int32.toNatClampNeg x4)) (0 : Int64)) = 0 then (zbi (x4 + (1 : Int32)) fun u1 =>
    K 3 [some (.ref a0), some (.ref a1), some (.long l2), none, some (.int u1)] [] M)
  else zif ((zK M a0).1 = 9)
  (zoR (zR M a0 1) fun q2 =>
  zif ((zK M a0).1 = 9)
  (zoR (zR M a0 1) fun q3 =>
  zif (((zK M q3).1 = 23 ∨ (zK M q3).1 = 25) ∧ zin x4 (zK M q3).2 = true)
  (zif ((zK M a1).1 = 4)
  (zbL (E n_Se_after [.ref a1, .long (zL M q3 (Int32.toNatClampNeg x4)), .long l2] M) fun w1 M1 =>
  zif ((zK M1 q2).1 = 23 ∧ zin x4 (zK M1 q2).2 = true)
  (zbm (zsL M1 q2 (Int32.toNatClampNeg x4) w1) fun M2 =>
  zif ((zK M2 a0).1 = 9)
  (zbV (E n_Wa_settleDuty [.ref a0, .ref a1, .int x4] M2) fun M3 =>
  zbi (x4 + (1 : Int32)) fun u2 =>
  K 3 [some (.ref a0), some (.ref a1), some (.long l2), none, some (.int u2)] [] M3)))))))))
set_option maxRecDepth 20000 in
theorem zg_Wa_moveDuties_3 (d : Nat) (a0 : Nat) (a1 : Nat) (l2 : Int64) (x4 : Int32) (M : zM) : zG d n_Wa_moveDuties 3 [some (.ref a0), some (.ref a1), some (.long l2), none, some (.int x4)] [] M = zx_Wa_moveDuties_3 (zV d) (zG d n_Wa_moveDuties) a0 a1 l2 x4 M := by
  refine (zG_sg (m := zm_Wa_moveDuties) rfl 400 _ _ _ M).trans ?_
  show zw true zm_Wa_moveDuties (zV d) (zG d n_Wa_moveDuties) 400 3 [some (.ref a0), some (.ref a1), some (.long l2), none, some (.int x4)] [] M = _
  unfold zx_Wa_moveDuties_3
  refine zw_iload (p := 5) (Or.inl rfl) rfl rfl rfl ?_
  refine zw_aload_n (p := 6) (Or.inr rfl) rfl rfl rfl ?_
  refine zw_get_int (p := 9) (Or.inr rfl) rfl rfl ?_
  refine zw_icmp_ge (t := 56) (p := 12) (Or.inr rfl) rfl rfl rfl ?_ ?_
  · exact zw_return (Or.inr rfl) rfl rfl
  refine zw_aload_n (p := 13) (Or.inr rfl) rfl rfl rfl ?_
  refine zw_get_ref (p := 16) (Or.inr rfl) rfl rfl (fun q1 => ?_)
  refine zw_iload (p := 18) (Or.inr rfl) rfl rfl rfl ?_
  refine zw_laload (p := 19) (Or.inr rfl) rfl rfl ?_
  refine zw_lconst (p := 20) (x := (0 : Int64)) (Or.inr rfl) rfl rfl rfl ?_
  refine zw_lcmp (p := 21) (Or.inr rfl) rfl rfl ?_
  refine zw_if_eq (t := 50) (p := 24) (Or.inr rfl) rfl rfl rfl ?_ ?_
  · refine zw_iinc (p := 53) (c := (1 : Int32)) (L2 := fun u1 => [some (.ref a0), some (.ref a1), some (.long l2), none, some (.int u1)]) (Or.inr rfl) rfl rfl rfl rfl (fun _ => rfl) rfl (fun u1 => ?_)
    refine zw_goto (t := 3) (Or.inr rfl) rfl rfl ?_
    exact zw_end rfl rfl
  refine zw_aload_n (p := 25) (Or.inr rfl) rfl rfl rfl ?_
  refine zw_get_ref (p := 28) (Or.inr rfl) rfl rfl (fun q2 => ?_)
  refine zw_iload (p := 30) (Or.inr rfl) rfl rfl rfl ?_
  refine zw_aload_n (p := 31) (Or.inr rfl) rfl rfl rfl ?_
  refine zw_aload_n (p := 32) (Or.inr rfl) rfl rfl rfl ?_
  refine zw_get_ref (p := 35) (Or.inr rfl) rfl rfl (fun q3 => ?_)
  refine zw_iload (p := 37) (Or.inr rfl) rfl rfl rfl ?_
  refine zw_laload (p := 38) (Or.inr rfl) rfl rfl ?_
  refine zw_lload_n (p := 39) (Or.inr rfl) rfl rfl rfl ?_
  refine zw_virtualL (p := 42) (as := [.ref a1, .long (zL M q3 (Int32.toNatClampNeg x4)), .long l2]) (rest := [.int x4, .ref q2]) (Or.inr rfl) rfl rfl rfl rfl rfl rfl rfl (fun w1 M1 => ?_)
  refine zw_lastore (p := 43) (Or.inr rfl) rfl rfl (fun M2 => ?_)
  refine zw_aload_n (p := 44) (Or.inr rfl) rfl rfl rfl ?_
  refine zw_aload_n (p := 45) (Or.inr rfl) rfl rfl rfl ?_
  refine zw_iload (p := 47) (Or.inr rfl) rfl rfl rfl ?_
  refine zw_virtualV (p := 50) (as := [.ref a0, .ref a1, .int x4]) (rest := []) (Or.inr rfl) rfl rfl rfl rfl rfl rfl rfl (fun M3 => ?_)
  refine zw_iinc (p := 53) (c := (1 : Int32)) (L2 := fun u2 => [some (.ref a0), some (.ref a1), some (.long l2), none, some (.int u2)]) (Or.inr rfl) rfl rfl rfl rfl (fun _ => rfl) rfl (fun u2 => ?_)
  refine zw_goto (t := 3) (Or.inr rfl) rfl rfl ?_
  exact zw_end rfl rfl
def zx_Wa_moveTries (E : zE0) (K : zKt) (a0 : Nat) (a1 : Nat) (l2 : Int64) (M : zM) : zO :=
  K 6 [some (.ref a0), some (.ref a1), some (.long l2), none, some (.int (0 : Int32)), some (.int (0 : Int32))] [] M
set_option maxRecDepth 20000 in
theorem ze_Wa_moveTries (d : Nat) (a0 : Nat) (a1 : Nat) (l2 : Int64) (M : zM) : zV (d + 1) n_Wa_moveTries [.ref a0, .ref a1, .long l2] M = zx_Wa_moveTries (zV d) (zG d n_Wa_moveTries) a0 a1 l2 M := by
  refine (zE_sg (m := zm_Wa_moveTries) rfl 400 _ rfl M).trans ?_
  show zw true zm_Wa_moveTries (zV d) (zG d n_Wa_moveTries) 400 0 [some (.ref a0), some (.ref a1), some (.long l2), none, none, none] [] M = _
  unfold zx_Wa_moveTries
  refine zw_iconst (p := 1) (x := (0 : Int32)) (Or.inl rfl) rfl rfl rfl ?_
  refine zw_istore (p := 3) (l2 := [some (.ref a0), some (.ref a1), some (.long l2), none, some (.int (0 : Int32)), none]) (Or.inr rfl) rfl rfl rfl rfl ?_
  refine zw_iconst (p := 4) (x := (0 : Int32)) (Or.inr rfl) rfl rfl rfl ?_
  refine zw_istore (p := 6) (l2 := [some (.ref a0), some (.ref a1), some (.long l2), none, some (.int (0 : Int32)), some (.int (0 : Int32))]) (Or.inr rfl) rfl rfl rfl rfl ?_
  exact zw_end rfl rfl
def zx_Wa_moveTries_6 (E : zE0) (K : zKt) (a0 : Nat) (a1 : Nat) (l2 : Int64) (x4 : Int32) (x5 : Int32) (M : zM) : zO :=
  zif ((zK M a0).1 = 9)
  (if (zI M a0 8) < x5 then (zif (x4 = 0 ∨ x4 = 1) (some (some (.int x4), M)))
  else zif ((zK M a0).1 = 9)
  (zoR (zR M a0 0) fun q1 =>
  zif (((zK M q1).1 = 23 ∨ (zK M q1).1 = 25) ∧ zin x5 (zK M q1).2 = true)
  (if (lg_cmp (zL M q1 (Int32.toNatClampNeg x5)) (0 : Int64)) = 0 then (zbi (x5 + (1 : Int32)) fun u1 =>
    K 6 [some (.ref a0), some (.ref a1), some (.long l2), none, some (.int x4), some (.int u1)] [] M)
  else zif ((zK M a0).1 = 9)
  (zoR (zR M a0 0) fun q2 =>
  zif ((zK M a0).1 = 9)
  (zoR (zR M a0 0) fun q3 =>
  zif (((zK M q3).1 = 23 ∨ (zK M q3).1 = 25) ∧ zin x5 (zK M q3).2 = true)
  (zif ((zK M a1).1 = 4)
  (zbL (E n_Se_after [.ref a1, .long (zL M q3 (Int32.toNatClampNeg x5)), .long l2] M) fun w1 M1 =>
  zif ((zK M1 q2).1 = 23 ∧ zin x5 (zK M1 q2).2 = true)
  (zbm (zsL M1 q2 (Int32.toNatClampNeg x5) w1) fun M2 =>
  zif ((zK M2 a0).1 = 9)
  (zoR (zR M2 a0 0) fun q4 =>
  zif (((zK M2 q4).1 = 23 ∨ (zK M2 q4).1 = 25) ∧ zin x5 (zK M2 q4).2 = true)
  (zif ((zK M2 a1).1 = 4)
  (zbI (E n_Se_hasEnded [.ref a1, .long (zL M2 q4 (Int32.toNatClampNeg x5))] M2) fun u2 M3 =>
  if u2 = 0 then (zbi (x5 + (1 : Int32)) fun u3 =>
    K 6 [some (.ref a0), some (.ref a1), some (.long l2), none, some (.int x4), some (.int u3)] [] M3)
  else zif ((zK M3 a0).1 = 9)
  (zoR (zR M3 a0 3) fun q5 =>
  zif (((zK M3 q5).1 = 23 ∨ (zK M3 q5).1 = 25) ∧ zin x5 (zK M3 q5).2 = true)
  (zif ((zK M3 a0).1 = 9)
  (zif ((zK M3 q5).1 = 23 ∧ zin x5 (zK M3 q5).2 = true)
  (zbm (zsL M3 q5 (Int32.toNatClampNeg x5) ((zL M3 q5 (Int32.toNatClampNeg x5)) ||| ((1 : Int64) <<< (Int32.toInt64 (zI M3 a0 8) &&& 63)))) fun M4 =>
  zbi (x5 + (1 : Int32)) fun u4 =>
  K 6 [some (.ref a0), some (.ref a1), some (.long l2), none, some (.int (1 : Int32)), some (.int u4)] [] M4)))))))))))))))
set_option maxRecDepth 20000 in
theorem zg_Wa_moveTries_6 (d : Nat) (a0 : Nat) (a1 : Nat) (l2 : Int64) (x4 : Int32) (x5 : Int32) (M : zM) : zG d n_Wa_moveTries 6 [some (.ref a0), some (.ref a1), some (.long l2), none, some (.int x4), some (.int x5)] [] M = zx_Wa_moveTries_6 (zV d) (zG d n_Wa_moveTries) a0 a1 l2 x4 x5 M := by
  refine (zG_sg (m := zm_Wa_moveTries) rfl 400 _ _ _ M).trans ?_
  show zw true zm_Wa_moveTries (zV d) (zG d n_Wa_moveTries) 400 6 [some (.ref a0), some (.ref a1), some (.long l2), none, some (.int x4), some (.int x5)] [] M = _
  unfold zx_Wa_moveTries_6
  refine zw_iload (p := 8) (Or.inl rfl) rfl rfl rfl ?_
  refine zw_aload_n (p := 9) (Or.inr rfl) rfl rfl rfl ?_
  refine zw_get_int (p := 12) (Or.inr rfl) rfl rfl ?_
  refine zw_icmp_gt (t := 85) (p := 15) (Or.inr rfl) rfl rfl rfl ?_ ?_
  · refine zw_iload (p := 87) (Or.inr rfl) rfl rfl rfl ?_
    exact zw_ireturn2 (Or.inr rfl) rfl rfl
  refine zw_aload_n (p := 16) (Or.inr rfl) rfl rfl rfl ?_
  refine zw_get_ref (p := 19) (Or.inr rfl) rfl rfl (fun q1 => ?_)
  refine zw_iload (p := 21) (Or.inr rfl) rfl rfl rfl ?_
  refine zw_laload (p := 22) (Or.inr rfl) rfl rfl ?_
  refine zw_lconst (p := 23) (x := (0 : Int64)) (Or.inr rfl) rfl rfl rfl ?_
  refine zw_lcmp (p := 24) (Or.inr rfl) rfl rfl ?_
  refine zw_if_eq (t := 79) (p := 27) (Or.inr rfl) rfl rfl rfl ?_ ?_
  · refine zw_iinc (p := 82) (c := (1 : Int32)) (L2 := fun u1 => [some (.ref a0), some (.ref a1), some (.long l2), none, some (.int x4), some (.int u1)]) (Or.inr rfl) rfl rfl rfl rfl (fun _ => rfl) rfl (fun u1 => ?_)
    refine zw_goto (t := 6) (Or.inr rfl) rfl rfl ?_
    exact zw_end rfl rfl
  refine zw_aload_n (p := 28) (Or.inr rfl) rfl rfl rfl ?_
  refine zw_get_ref (p := 31) (Or.inr rfl) rfl rfl (fun q2 => ?_)
  refine zw_iload (p := 33) (Or.inr rfl) rfl rfl rfl ?_
  refine zw_aload_n (p := 34) (Or.inr rfl) rfl rfl rfl ?_
  refine zw_aload_n (p := 35) (Or.inr rfl) rfl rfl rfl ?_
  refine zw_get_ref (p := 38) (Or.inr rfl) rfl rfl (fun q3 => ?_)
  refine zw_iload (p := 40) (Or.inr rfl) rfl rfl rfl ?_
  refine zw_laload (p := 41) (Or.inr rfl) rfl rfl ?_
  refine zw_lload_n (p := 42) (Or.inr rfl) rfl rfl rfl ?_
  refine zw_virtualL (p := 45) (as := [.ref a1, .long (zL M q3 (Int32.toNatClampNeg x5)), .long l2]) (rest := [.int x5, .ref q2]) (Or.inr rfl) rfl rfl rfl rfl rfl rfl rfl (fun w1 M1 => ?_)
  refine zw_lastore (p := 46) (Or.inr rfl) rfl rfl (fun M2 => ?_)
  refine zw_aload_n (p := 47) (Or.inr rfl) rfl rfl rfl ?_
  refine zw_aload_n (p := 48) (Or.inr rfl) rfl rfl rfl ?_
  refine zw_get_ref (p := 51) (Or.inr rfl) rfl rfl (fun q4 => ?_)
  refine zw_iload (p := 53) (Or.inr rfl) rfl rfl rfl ?_
  refine zw_laload (p := 54) (Or.inr rfl) rfl rfl ?_
  refine zw_virtualI (p := 57) (as := [.ref a1, .long (zL M2 q4 (Int32.toNatClampNeg x5))]) (rest := []) (Or.inr rfl) rfl rfl rfl rfl rfl rfl rfl (fun u2 M3 => ?_)
  refine zw_if_eq (t := 79) (p := 60) (Or.inr rfl) rfl rfl rfl ?_ ?_
  · refine zw_iinc (p := 82) (c := (1 : Int32)) (L2 := fun u3 => [some (.ref a0), some (.ref a1), some (.long l2), none, some (.int x4), some (.int u3)]) (Or.inr rfl) rfl rfl rfl rfl (fun _ => rfl) rfl (fun u3 => ?_)
    refine zw_goto (t := 6) (Or.inr rfl) rfl rfl ?_
    exact zw_end rfl rfl
  refine zw_aload_n (p := 61) (Or.inr rfl) rfl rfl rfl ?_
  refine zw_get_ref (p := 64) (Or.inr rfl) rfl rfl (fun q5 => ?_)
  refine zw_iload (p := 66) (Or.inr rfl) rfl rfl rfl ?_
  refine zw_dup2_ir (p := 67) (Or.inr rfl) rfl rfl ?_
  refine zw_laload (p := 68) (Or.inr rfl) rfl rfl ?_
  refine zw_lconst (p := 69) (x := (1 : Int64)) (Or.inr rfl) rfl rfl rfl ?_
  refine zw_aload_n (p := 70) (Or.inr rfl) rfl rfl rfl ?_
  refine zw_get_int (p := 73) (Or.inr rfl) rfl rfl ?_
  refine zw_lshl (p := 74) (Or.inr rfl) rfl rfl ?_
  refine zw_lor (p := 75) (Or.inr rfl) rfl rfl ?_
  refine zw_lastore (p := 76) (Or.inr rfl) rfl rfl (fun M4 => ?_)
  refine zw_iconst (p := 77) (x := (1 : Int32)) (Or.inr rfl) rfl rfl rfl ?_
  refine zw_istore (p := 79) (l2 := [some (.ref a0), some (.ref a1), some (.long l2), none, some (.int (1 : Int32)), some (.int x5)]) (Or.inr rfl) rfl rfl rfl rfl ?_
  refine zw_iinc (p := 82) (c := (1 : Int32)) (L2 := fun u4 => [some (.ref a0), some (.ref a1), some (.long l2), none, some (.int (1 : Int32)), some (.int u4)]) (Or.inr rfl) rfl rfl rfl rfl (fun _ => rfl) rfl (fun u4 => ?_)
  refine zw_goto (t := 6) (Or.inr rfl) rfl rfl ?_
  exact zw_end rfl rfl
def zx_Wa_beginDuty (E : zE0) (K : zKt) (a0 : Nat) (a1 : Nat) (l2 : Int64) (M : zM) : zO :=
  zif ((zK M a1).1 = 2)
  (zoR (zR M a1 1) fun q1 =>
  zif ((zK M a0).1 = 9)
  (zoR (zR M a0 1) fun q2 =>
  zif ((zK M a0).1 = 9)
  (zif ((zK M a1).1 = 2)
  (if (zI M a1 4) ≠ (1 : Int32) then (zif ((zK M q1).1 = 4)
    (zbL (E n_Se_after [.ref q1, .long (1 : Int64), .long l2] M) fun w1 M1 =>
    zif ((zK M1 q2).1 = 23 ∧ zin (zI M a0 8) (zK M1 q2).2 = true)
    (zbm (zsL M1 q2 (Int32.toNatClampNeg (zI M a0 8)) w1) fun M2 =>
    zif ((zK M2 a0).1 = 9)
    (zif ((zK M2 a0).1 = 9)
    (zbV (E n_Wa_settleDuty [.ref a0, .ref q1, .int (zI M2 a0 8)] M2) fun M3 =>
    some (none, M3))))))
  else zif ((zK M q2).1 = 23 ∧ zin (zI M a0 8) (zK M q2).2 = true)
  (zbm (zsL M q2 (Int32.toNatClampNeg (zI M a0 8)) (1 : Int64)) fun M4 =>
  zif ((zK M4 a0).1 = 9)
  (zif ((zK M4 a0).1 = 9)
  (zbV (E n_Wa_settleDuty [.ref a0, .ref q1, .int (zI M4 a0 8)] M4) fun M5 =>
  some (none, M5))))))))
set_option maxRecDepth 20000 in
theorem ze_Wa_beginDuty (d : Nat) (a0 : Nat) (a1 : Nat) (l2 : Int64) (M : zM) : zV (d + 1) n_Wa_beginDuty [.ref a0, .ref a1, .long l2] M = zx_Wa_beginDuty (zV d) (zG d n_Wa_beginDuty) a0 a1 l2 M := by
  refine (zE_sg (m := zm_Wa_beginDuty) rfl 400 _ rfl M).trans ?_
  show zw true zm_Wa_beginDuty (zV d) (zG d n_Wa_beginDuty) 400 0 [some (.ref a0), some (.ref a1), some (.long l2), none, none] [] M = _
  unfold zx_Wa_beginDuty
  refine zw_aload_n (p := 1) (Or.inl rfl) rfl rfl rfl ?_
  refine zw_get_ref (p := 4) (Or.inr rfl) rfl rfl (fun q1 => ?_)
  refine zw_astore (p := 6) (l2 := [some (.ref a0), some (.ref a1), some (.long l2), none, some (.ref q1)]) (Or.inr rfl) rfl rfl rfl rfl ?_
  refine zw_aload_n (p := 7) (Or.inr rfl) rfl rfl rfl ?_
  refine zw_get_ref (p := 10) (Or.inr rfl) rfl rfl (fun q2 => ?_)
  refine zw_aload_n (p := 11) (Or.inr rfl) rfl rfl rfl ?_
  refine zw_get_int (p := 14) (Or.inr rfl) rfl rfl ?_
  refine zw_aload_n (p := 15) (Or.inr rfl) rfl rfl rfl ?_
  refine zw_get_int (p := 18) (Or.inr rfl) rfl rfl ?_
  refine zw_iconst (p := 19) (x := (1 : Int32)) (Or.inr rfl) rfl rfl rfl ?_
  refine zw_icmp_ne (t := 26) (p := 22) (Or.inr rfl) rfl rfl rfl ?_ ?_
  · refine zw_aload (p := 28) (Or.inr rfl) rfl rfl rfl ?_
    refine zw_lconst (p := 29) (x := (1 : Int64)) (Or.inr rfl) rfl rfl rfl ?_
    refine zw_lload_n (p := 30) (Or.inr rfl) rfl rfl rfl ?_
    refine zw_virtualL (p := 33) (as := [.ref q1, .long (1 : Int64), .long l2]) (rest := [.int (zI M a0 8), .ref q2]) (Or.inr rfl) rfl rfl rfl rfl rfl rfl rfl (fun w1 M1 => ?_)
    refine zw_lastore (p := 34) (Or.inr rfl) rfl rfl (fun M2 => ?_)
    refine zw_aload_n (p := 35) (Or.inr rfl) rfl rfl rfl ?_
    refine zw_aload (p := 37) (Or.inr rfl) rfl rfl rfl ?_
    refine zw_aload_n (p := 38) (Or.inr rfl) rfl rfl rfl ?_
    refine zw_get_int (p := 41) (Or.inr rfl) rfl rfl ?_
    refine zw_virtualV (p := 44) (as := [.ref a0, .ref q1, .int (zI M2 a0 8)]) (rest := []) (Or.inr rfl) rfl rfl rfl rfl rfl rfl rfl (fun M3 => ?_)
    exact zw_return (Or.inr rfl) rfl rfl
  refine zw_lconst (p := 23) (x := (1 : Int64)) (Or.inr rfl) rfl rfl rfl ?_
  refine zw_goto (t := 33) (Or.inr rfl) rfl rfl ?_
  refine zw_lastore (p := 34) (Or.inr rfl) rfl rfl (fun M4 => ?_)
  refine zw_aload_n (p := 35) (Or.inr rfl) rfl rfl rfl ?_
  refine zw_aload (p := 37) (Or.inr rfl) rfl rfl rfl ?_
  refine zw_aload_n (p := 38) (Or.inr rfl) rfl rfl rfl ?_
  refine zw_get_int (p := 41) (Or.inr rfl) rfl rfl ?_
  refine zw_virtualV (p := 44) (as := [.ref a0, .ref q1, .int (zI M4 a0 8)]) (rest := []) (Or.inr rfl) rfl rfl rfl rfl rfl rfl rfl (fun M5 => ?_)
  exact zw_return (Or.inr rfl) rfl rfl
def zx_Wa_settleDuty (E : zE0) (K : zKt) (a0 : Nat) (a1 : Nat) (x2 : Int32) (M : zM) : zO :=
  zif ((zK M a0).1 = 9)
  (zoR (zR M a0 1) fun q1 =>
  zif (((zK M q1).1 = 23 ∨ (zK M q1).1 = 25) ∧ zin x2 (zK M q1).2 = true)
  (zbl (zL M q1 (Int32.toNatClampNeg x2)) fun w1 =>
  zif ((zK M a1).1 = 4)
  (zbI (E n_Se_hasEnded [.ref a1, .long w1] M) fun u1 M1 =>
  if u1 = 0 then (zif ((zK M1 a1).1 = 4)
    (zbI (E n_Se_goesOn [.ref a1, .long w1] M1) fun u2 M2 =>
    if u2 ≠ 0 then (some (none, M2))
    else zif ((zK M2 a0).1 = 9)
    (zif ((zK M2 a0).1 = 9)
    (zbm (zsL M2 a0 7 ((zL M2 a0 7) ||| ((1 : Int64) <<< (Int32.toInt64 x2 &&& 63)))) fun M3 =>
    zif ((zK M3 a0).1 = 9)
    (zoR (zR M3 a0 2) fun q2 =>
    zif ((zK M3 a0).1 = 9)
    (zif ((zK M3 q2).1 = 20 ∧ zin x2 (zK M3 q2).2 = true)
    (zbm (zsI M3 q2 (Int32.toNatClampNeg x2) (zI M3 a0 8)) fun M4 =>
    zif ((zK M4 a0).1 = 9)
    (zoR (zR M4 a0 1) fun q3 =>
    zif ((zK M4 q3).1 = 23 ∧ zin x2 (zK M4 q3).2 = true)
    (zbm (zsL M4 q3 (Int32.toNatClampNeg x2) (0 : Int64)) fun M5 =>
    some (none, M5))))))))))
  else zif ((zK M1 a0).1 = 9)
  (zif ((zK M1 a0).1 = 9)
  (zbm (zsL M1 a0 6 ((zL M1 a0 6) ||| ((1 : Int64) <<< (Int32.toInt64 x2 &&& 63)))) fun M6 =>
  zif ((zK M6 a0).1 = 9)
  (zoR (zR M6 a0 2) fun q4 =>
  zif ((zK M6 a0).1 = 9)
  (zif ((zK M6 q4).1 = 20 ∧ zin x2 (zK M6 q4).2 = true)
  (zbm (zsI M6 q4 (Int32.toNatClampNeg x2) (zI M6 a0 8)) fun M7 =>
  zif ((zK M7 a0).1 = 9)
  (zoR (zR M7 a0 1) fun q5 =>
  zif ((zK M7 q5).1 = 23 ∧ zin x2 (zK M7 q5).2 = true)
  (zbm (zsL M7 q5 (Int32.toNatClampNeg x2) (0 : Int64)) fun M8 =>
  some (none, M8)))))))))))
set_option maxRecDepth 20000 in
theorem ze_Wa_settleDuty (d : Nat) (a0 : Nat) (a1 : Nat) (x2 : Int32) (M : zM) : zV (d + 1) n_Wa_settleDuty [.ref a0, .ref a1, .int x2] M = zx_Wa_settleDuty (zV d) (zG d n_Wa_settleDuty) a0 a1 x2 M := by
  refine (zE_sg (m := zm_Wa_settleDuty) rfl 400 _ rfl M).trans ?_
  show zw true zm_Wa_settleDuty (zV d) (zG d n_Wa_settleDuty) 400 0 [some (.ref a0), some (.ref a1), some (.int x2), none, none] [] M = _
  unfold zx_Wa_settleDuty
  refine zw_aload_n (p := 1) (Or.inl rfl) rfl rfl rfl ?_
  refine zw_get_ref (p := 4) (Or.inr rfl) rfl rfl (fun q1 => ?_)
  refine zw_iload_n (p := 5) (Or.inr rfl) rfl rfl rfl ?_
  refine zw_laload (p := 6) (Or.inr rfl) rfl rfl ?_
  refine zw_lstore_nN (p := 7) (L2 := fun w1 => [some (.ref a0), some (.ref a1), some (.int x2), some (.long w1), none]) (Or.inr rfl) rfl rfl (fun _ => rfl) rfl (fun w1 => ?_)
  refine zw_aload_n (p := 8) (Or.inr rfl) rfl rfl rfl ?_
  refine zw_lload_n (p := 9) (Or.inr rfl) rfl rfl rfl ?_
  refine zw_virtualI (p := 12) (as := [.ref a1, .long w1]) (rest := []) (Or.inr rfl) rfl rfl rfl rfl rfl rfl rfl (fun u1 M1 => ?_)
  refine zw_if_eq (t := 30) (p := 15) (Or.inr rfl) rfl rfl rfl ?_ ?_
  · refine zw_aload_n (p := 31) (Or.inr rfl) rfl rfl rfl ?_
    refine zw_lload_n (p := 32) (Or.inr rfl) rfl rfl rfl ?_
    refine zw_virtualI (p := 35) (as := [.ref a1, .long w1]) (rest := []) (Or.inr rfl) rfl rfl rfl rfl rfl rfl rfl (fun u2 M2 => ?_)
    refine zw_if_ne (t := 53) (p := 38) (Or.inr rfl) rfl rfl rfl ?_ ?_
    · exact zw_return (Or.inr rfl) rfl rfl
    refine zw_aload_n (p := 39) (Or.inr rfl) rfl rfl rfl ?_
    refine zw_dup_ref (p := 40) (Or.inr rfl) rfl rfl ?_
    refine zw_get_long (p := 43) (Or.inr rfl) rfl rfl ?_
    refine zw_lconst (p := 44) (x := (1 : Int64)) (Or.inr rfl) rfl rfl rfl ?_
    refine zw_iload_n (p := 45) (Or.inr rfl) rfl rfl rfl ?_
    refine zw_lshl (p := 46) (Or.inr rfl) rfl rfl ?_
    refine zw_lor (p := 47) (Or.inr rfl) rfl rfl ?_
    refine zw_put_long (p := 50) (Or.inr rfl) rfl rfl (fun M3 => ?_)
    refine zw_goto (t := 54) (Or.inr rfl) rfl rfl ?_
    refine zw_aload_n (p := 55) (Or.inr rfl) rfl rfl rfl ?_
    refine zw_get_ref (p := 58) (Or.inr rfl) rfl rfl (fun q2 => ?_)
    refine zw_iload_n (p := 59) (Or.inr rfl) rfl rfl rfl ?_
    refine zw_aload_n (p := 60) (Or.inr rfl) rfl rfl rfl ?_
    refine zw_get_int (p := 63) (Or.inr rfl) rfl rfl ?_
    refine zw_iastore (p := 64) (Or.inr rfl) rfl rfl (fun M4 => ?_)
    refine zw_aload_n (p := 65) (Or.inr rfl) rfl rfl rfl ?_
    refine zw_get_ref (p := 68) (Or.inr rfl) rfl rfl (fun q3 => ?_)
    refine zw_iload_n (p := 69) (Or.inr rfl) rfl rfl rfl ?_
    refine zw_lconst (p := 70) (x := (0 : Int64)) (Or.inr rfl) rfl rfl rfl ?_
    refine zw_lastore (p := 71) (Or.inr rfl) rfl rfl (fun M5 => ?_)
    exact zw_return (Or.inr rfl) rfl rfl
  refine zw_aload_n (p := 16) (Or.inr rfl) rfl rfl rfl ?_
  refine zw_dup_ref (p := 17) (Or.inr rfl) rfl rfl ?_
  refine zw_get_long (p := 20) (Or.inr rfl) rfl rfl ?_
  refine zw_lconst (p := 21) (x := (1 : Int64)) (Or.inr rfl) rfl rfl rfl ?_
  refine zw_iload_n (p := 22) (Or.inr rfl) rfl rfl rfl ?_
  refine zw_lshl (p := 23) (Or.inr rfl) rfl rfl ?_
  refine zw_lor (p := 24) (Or.inr rfl) rfl rfl ?_
  refine zw_put_long (p := 27) (Or.inr rfl) rfl rfl (fun M6 => ?_)
  refine zw_goto (t := 54) (Or.inr rfl) rfl rfl ?_
  refine zw_aload_n (p := 55) (Or.inr rfl) rfl rfl rfl ?_
  refine zw_get_ref (p := 58) (Or.inr rfl) rfl rfl (fun q4 => ?_)
  refine zw_iload_n (p := 59) (Or.inr rfl) rfl rfl rfl ?_
  refine zw_aload_n (p := 60) (Or.inr rfl) rfl rfl rfl ?_
  refine zw_get_int (p := 63) (Or.inr rfl) rfl rfl ?_
  refine zw_iastore (p := 64) (Or.inr rfl) rfl rfl (fun M7 => ?_)
  refine zw_aload_n (p := 65) (Or.inr rfl) rfl rfl rfl ?_
  refine zw_get_ref (p := 68) (Or.inr rfl) rfl rfl (fun q5 => ?_)
  refine zw_iload_n (p := 69) (Or.inr rfl) rfl rfl rfl ?_
  refine zw_lconst (p := 70) (x := (0 : Int64)) (Or.inr rfl) rfl rfl rfl ?_
  refine zw_lastore (p := 71) (Or.inr rfl) rfl rfl (fun M8 => ?_)
  exact zw_return (Or.inr rfl) rfl rfl
def zx_Wa_judgeTries (E : zE0) (K : zKt) (a0 : Nat) (a1 : Nat) (x2 : Int32) (M : zM) : zO :=
  K 2 [some (.ref a0), some (.ref a1), some (.int x2), some (.int (0 : Int32))] [] M
set_option maxRecDepth 20000 in
theorem ze_Wa_judgeTries (d : Nat) (a0 : Nat) (a1 : Nat) (x2 : Int32) (M : zM) : zV (d + 1) n_Wa_judgeTries [.ref a0, .ref a1, .int x2] M = zx_Wa_judgeTries (zV d) (zG d n_Wa_judgeTries) a0 a1 x2 M := by
  refine (zE_sg (m := zm_Wa_judgeTries) rfl 400 _ rfl M).trans ?_
  show zw true zm_Wa_judgeTries (zV d) (zG d n_Wa_judgeTries) 400 0 [some (.ref a0), some (.ref a1), some (.int x2), none] [] M = _
  unfold zx_Wa_judgeTries
  refine zw_iconst (p := 1) (x := (0 : Int32)) (Or.inl rfl) rfl rfl rfl ?_
  refine zw_istore_n (p := 2) (l2 := [some (.ref a0), some (.ref a1), some (.int x2), some (.int (0 : Int32))]) (Or.inr rfl) rfl rfl rfl rfl ?_
  exact zw_end rfl rfl
def zx_Wa_judgeTries_2 (E : zE0) (K : zKt) (a0 : Nat) (a1 : Nat) (x2 : Int32) (x3 : Int32) (M : zM) : zO :=
  zif ((zK M a0).1 = 9)
  (if (zI M a0 8) < x3 then (some (none, M))
  else zif ((zK M a0).1 = 9)
  (zoR (zR M a0 4) fun q1 =>
  zif (((zK M q1).1 = 20 ∨ (zK M q1).1 = 24) ∧ zin x3 (zK M q1).2 = true)
  (if (zI M q1 (Int32.toNatClampNeg x3)) ≠ 0 then (zbi (x3 + (1 : Int32)) fun u1 =>
    K 2 [some (.ref a0), some (.ref a1), some (.int x2), some (.int u1)] [] M)
  else zif ((zK M a0).1 = 9)
  (zoR (zR M a0 4) fun q2 =>
  if x2 = 0 then (zif ((zK M a1).1 = 2)
    (zoR (zR M a1 0) fun q3 =>
    zif ((zK M a0).1 = 9)
    (zbI (E n_Wa_judge [.ref a0, .ref q3, .int x3] M) fun u2 M1 =>
    zif ((zK M1 q2).1 = 20 ∧ zin x3 (zK M1 q2).2 = true)
    (zbm (zsI M1 q2 (Int32.toNatClampNeg x3) u2) fun M2 =>
    zif ((zK M2 a0).1 = 9)
    (zoR (zR M2 a0 5) fun q4 =>
    zif ((zK M2 a0).1 = 9)
    (zif ((zK M2 q4).1 = 20 ∧ zin x3 (zK M2 q4).2 = true)
    (zbm (zsI M2 q4 (Int32.toNatClampNeg x3) (zI M2 a0 8)) fun M3 =>
    zbi (x3 + (1 : Int32)) fun u3 =>
    K 2 [some (.ref a0), some (.ref a1), some (.int x2), some (.int u3)] [] M3)))))))
  else zif ((zK M q2).1 = 20 ∧ zin x3 (zK M q2).2 = true)
  (zbm (zsI M q2 (Int32.toNatClampNeg x3) (4 : Int32)) fun M4 =>
  zif ((zK M4 a0).1 = 9)
  (zoR (zR M4 a0 5) fun q5 =>
  zif ((zK M4 a0).1 = 9)
  (zif ((zK M4 q5).1 = 20 ∧ zin x3 (zK M4 q5).2 = true)
  (zbm (zsI M4 q5 (Int32.toNatClampNeg x3) (zI M4 a0 8)) fun M5 =>
  zbi (x3 + (1 : Int32)) fun u4 =>
  K 2 [some (.ref a0), some (.ref a1), some (.int x2), some (.int u4)] [] M5))))))))
set_option maxRecDepth 20000 in
theorem zg_Wa_judgeTries_2 (d : Nat) (a0 : Nat) (a1 : Nat) (x2 : Int32) (x3 : Int32) (M : zM) : zG d n_Wa_judgeTries 2 [some (.ref a0), some (.ref a1), some (.int x2), some (.int x3)] [] M = zx_Wa_judgeTries_2 (zV d) (zG d n_Wa_judgeTries) a0 a1 x2 x3 M := by
  refine (zG_sg (m := zm_Wa_judgeTries) rfl 400 _ _ _ M).trans ?_
  show zw true zm_Wa_judgeTries (zV d) (zG d n_Wa_judgeTries) 400 2 [some (.ref a0), some (.ref a1), some (.int x2), some (.int x3)] [] M = _
  unfold zx_Wa_judgeTries_2
  refine zw_iload_n (p := 3) (Or.inl rfl) rfl rfl rfl ?_
  refine zw_aload_n (p := 4) (Or.inr rfl) rfl rfl rfl ?_
  refine zw_get_int (p := 7) (Or.inr rfl) rfl rfl ?_
  refine zw_icmp_gt (t := 58) (p := 10) (Or.inr rfl) rfl rfl rfl ?_ ?_
  · exact zw_return (Or.inr rfl) rfl rfl
  refine zw_aload_n (p := 11) (Or.inr rfl) rfl rfl rfl ?_
  refine zw_get_ref (p := 14) (Or.inr rfl) rfl rfl (fun q1 => ?_)
  refine zw_iload_n (p := 15) (Or.inr rfl) rfl rfl rfl ?_
  refine zw_iaload (p := 16) (Or.inr rfl) rfl rfl ?_
  refine zw_if_ne (t := 52) (p := 19) (Or.inr rfl) rfl rfl rfl ?_ ?_
  · refine zw_iinc (p := 55) (c := (1 : Int32)) (L2 := fun u1 => [some (.ref a0), some (.ref a1), some (.int x2), some (.int u1)]) (Or.inr rfl) rfl rfl rfl rfl (fun _ => rfl) rfl (fun u1 => ?_)
    refine zw_goto (t := 2) (Or.inr rfl) rfl rfl ?_
    exact zw_end rfl rfl
  refine zw_aload_n (p := 20) (Or.inr rfl) rfl rfl rfl ?_
  refine zw_get_ref (p := 23) (Or.inr rfl) rfl rfl (fun q2 => ?_)
  refine zw_iload_n (p := 24) (Or.inr rfl) rfl rfl rfl ?_
  refine zw_iload_n (p := 25) (Or.inr rfl) rfl rfl rfl ?_
  refine zw_if_eq (t := 32) (p := 28) (Or.inr rfl) rfl rfl rfl ?_ ?_
  · refine zw_aload_n (p := 33) (Or.inr rfl) rfl rfl rfl ?_
    refine zw_aload_n (p := 34) (Or.inr rfl) rfl rfl rfl ?_
    refine zw_get_ref (p := 37) (Or.inr rfl) rfl rfl (fun q3 => ?_)
    refine zw_iload_n (p := 38) (Or.inr rfl) rfl rfl rfl ?_
    refine zw_virtualI (p := 41) (as := [.ref a0, .ref q3, .int x3]) (rest := [.int x3, .ref q2]) (Or.inr rfl) rfl rfl rfl rfl rfl rfl rfl (fun u2 M1 => ?_)
    refine zw_iastore (p := 42) (Or.inr rfl) rfl rfl (fun M2 => ?_)
    refine zw_aload_n (p := 43) (Or.inr rfl) rfl rfl rfl ?_
    refine zw_get_ref (p := 46) (Or.inr rfl) rfl rfl (fun q4 => ?_)
    refine zw_iload_n (p := 47) (Or.inr rfl) rfl rfl rfl ?_
    refine zw_aload_n (p := 48) (Or.inr rfl) rfl rfl rfl ?_
    refine zw_get_int (p := 51) (Or.inr rfl) rfl rfl ?_
    refine zw_iastore (p := 52) (Or.inr rfl) rfl rfl (fun M3 => ?_)
    refine zw_iinc (p := 55) (c := (1 : Int32)) (L2 := fun u3 => [some (.ref a0), some (.ref a1), some (.int x2), some (.int u3)]) (Or.inr rfl) rfl rfl rfl rfl (fun _ => rfl) rfl (fun u3 => ?_)
    refine zw_goto (t := 2) (Or.inr rfl) rfl rfl ?_
    exact zw_end rfl rfl
  refine zw_iconst (p := 29) (x := (4 : Int32)) (Or.inr rfl) rfl rfl rfl ?_
  refine zw_goto (t := 41) (Or.inr rfl) rfl rfl ?_
  refine zw_iastore (p := 42) (Or.inr rfl) rfl rfl (fun M4 => ?_)
  refine zw_aload_n (p := 43) (Or.inr rfl) rfl rfl rfl ?_
  refine zw_get_ref (p := 46) (Or.inr rfl) rfl rfl (fun q5 => ?_)
  refine zw_iload_n (p := 47) (Or.inr rfl) rfl rfl rfl ?_
  refine zw_aload_n (p := 48) (Or.inr rfl) rfl rfl rfl ?_
  refine zw_get_int (p := 51) (Or.inr rfl) rfl rfl ?_
  refine zw_iastore (p := 52) (Or.inr rfl) rfl rfl (fun M5 => ?_)
  refine zw_iinc (p := 55) (c := (1 : Int32)) (L2 := fun u4 => [some (.ref a0), some (.ref a1), some (.int x2), some (.int u4)]) (Or.inr rfl) rfl rfl rfl rfl (fun _ => rfl) rfl (fun u4 => ?_)
  refine zw_goto (t := 2) (Or.inr rfl) rfl rfl ?_
  exact zw_end rfl rfl
def zx_Wa_judge (E : zE0) (K : zKt) (a0 : Nat) (a1 : Nat) (x2 : Int32) (M : zM) : zO :=
  zif ((zK M a0).1 = 9)
  (zoR (zR M a0 3) fun q1 =>
  zif (((zK M q1).1 = 23 ∨ (zK M q1).1 = 25) ∧ zin x2 (zK M q1).2 = true)
  (zif ((zK M a0).1 = 9)
  (if (lg_cmp ((zL M q1 (Int32.toNatClampNeg x2)) &&& (zL M a0 7)) (0 : Int64)) = 0 then (zif ((zK M a0).1 = 9)
    (zoR (zR M a0 3) fun q2 =>
    zif (((zK M q2).1 = 23 ∨ (zK M q2).1 = 25) ∧ zin x2 (zK M q2).2 = true)
    (zif ((zK M a0).1 = 9)
    (if (lg_cmp ((zL M q2 (Int32.toNatClampNeg x2)) &&& ((zL M a0 6) ^^^ (-1 : Int64))) (0 : Int64)) ≠ 0 then (some (some (.int (0 : Int32)), M))
    else zif ((zK M a0).1 = 9)
    (zoR (zR M a0 0) fun q3 =>
    zif (((zK M q3).1 = 23 ∨ (zK M q3).1 = 25) ∧ zin x2 (zK M q3).2 = true)
    (zif ((zK M a1).1 = 4)
    (zbI (E n_Se_goesOn [.ref a1, .long (zL M q3 (Int32.toNatClampNeg x2))] M) fun u1 M1 =>
    if u1 = 0 then (zif ((zK M1 a0).1 = 9)
      (zoR (zR M1 a0 3) fun q4 =>
      zif (((zK M1 q4).1 = 23 ∨ (zK M1 q4).1 = 25) ∧ zin x2 (zK M1 q4).2 = true)
      (if (lg_cmp (zL M1 q4 (Int32.toNatClampNeg x2)) (0 : Int64)) = 0 then (some (some (.int (3 : Int32)), M1))
      else some (some (.int (1 : Int32)), M1))))
    else some (some (.int (0 : Int32)), M1))))))))
  else some (some (.int (2 : Int32)), M))))
set_option maxRecDepth 20000 in
theorem ze_Wa_judge (d : Nat) (a0 : Nat) (a1 : Nat) (x2 : Int32) (M : zM) : zV (d + 1) n_Wa_judge [.ref a0, .ref a1, .int x2] M = zx_Wa_judge (zV d) (zG d n_Wa_judge) a0 a1 x2 M := by
  refine (zE_sg (m := zm_Wa_judge) rfl 400 _ rfl M).trans ?_
  show zw true zm_Wa_judge (zV d) (zG d n_Wa_judge) 400 0 [some (.ref a0), some (.ref a1), some (.int x2)] [] M = _
  unfold zx_Wa_judge
  refine zw_aload_n (p := 1) (Or.inl rfl) rfl rfl rfl ?_
  refine zw_get_ref (p := 4) (Or.inr rfl) rfl rfl (fun q1 => ?_)
  refine zw_iload_n (p := 5) (Or.inr rfl) rfl rfl rfl ?_
  refine zw_laload (p := 6) (Or.inr rfl) rfl rfl ?_
  refine zw_aload_n (p := 7) (Or.inr rfl) rfl rfl rfl ?_
  refine zw_get_long (p := 10) (Or.inr rfl) rfl rfl ?_
  refine zw_land (p := 11) (Or.inr rfl) rfl rfl ?_
  refine zw_lconst (p := 12) (x := (0 : Int64)) (Or.inr rfl) rfl rfl rfl ?_
  refine zw_lcmp (p := 13) (Or.inr rfl) rfl rfl ?_
  refine zw_if_eq (t := 18) (p := 16) (Or.inr rfl) rfl rfl rfl ?_ ?_
  · refine zw_aload_n (p := 19) (Or.inr rfl) rfl rfl rfl ?_
    refine zw_get_ref (p := 22) (Or.inr rfl) rfl rfl (fun q2 => ?_)
    refine zw_iload_n (p := 23) (Or.inr rfl) rfl rfl rfl ?_
    refine zw_laload (p := 24) (Or.inr rfl) rfl rfl ?_
    refine zw_aload_n (p := 25) (Or.inr rfl) rfl rfl rfl ?_
    refine zw_get_long (p := 28) (Or.inr rfl) rfl rfl ?_
    refine zw_ldc2_w (p := 31) (x := (-1 : Int64)) (Or.inr rfl) rfl rfl rfl ?_
    refine zw_lxor (p := 32) (Or.inr rfl) rfl rfl ?_
    refine zw_land (p := 33) (Or.inr rfl) rfl rfl ?_
    refine zw_lconst (p := 34) (x := (0 : Int64)) (Or.inr rfl) rfl rfl rfl ?_
    refine zw_lcmp (p := 35) (Or.inr rfl) rfl rfl ?_
    refine zw_if_ne (t := 51) (p := 38) (Or.inr rfl) rfl rfl rfl ?_ ?_
    · refine zw_iconst (p := 52) (x := (0 : Int32)) (Or.inr rfl) rfl rfl rfl ?_
      exact zw_ireturn1 (Or.inr rfl) rfl rfl
    refine zw_aload_n (p := 39) (Or.inr rfl) rfl rfl rfl ?_
    refine zw_aload_n (p := 40) (Or.inr rfl) rfl rfl rfl ?_
    refine zw_get_ref (p := 43) (Or.inr rfl) rfl rfl (fun q3 => ?_)
    refine zw_iload_n (p := 44) (Or.inr rfl) rfl rfl rfl ?_
    refine zw_laload (p := 45) (Or.inr rfl) rfl rfl ?_
    refine zw_virtualI (p := 48) (as := [.ref a1, .long (zL M q3 (Int32.toNatClampNeg x2))]) (rest := []) (Or.inr rfl) rfl rfl rfl rfl rfl rfl rfl (fun u1 M1 => ?_)
    refine zw_if_eq (t := 53) (p := 51) (Or.inr rfl) rfl rfl rfl ?_ ?_
    · refine zw_aload_n (p := 54) (Or.inr rfl) rfl rfl rfl ?_
      refine zw_get_ref (p := 57) (Or.inr rfl) rfl rfl (fun q4 => ?_)
      refine zw_iload_n (p := 58) (Or.inr rfl) rfl rfl rfl ?_
      refine zw_laload (p := 59) (Or.inr rfl) rfl rfl ?_
      refine zw_lconst (p := 60) (x := (0 : Int64)) (Or.inr rfl) rfl rfl rfl ?_
      refine zw_lcmp (p := 61) (Or.inr rfl) rfl rfl ?_
      refine zw_if_eq (t := 68) (p := 64) (Or.inr rfl) rfl rfl rfl ?_ ?_
      · refine zw_iconst (p := 69) (x := (3 : Int32)) (Or.inr rfl) rfl rfl rfl ?_
        exact zw_ireturn1 (Or.inr rfl) rfl rfl
      refine zw_iconst (p := 65) (x := (1 : Int32)) (Or.inr rfl) rfl rfl rfl ?_
      refine zw_goto (t := 69) (Or.inr rfl) rfl rfl ?_
      exact zw_ireturn1 (Or.inr rfl) rfl rfl
    refine zw_iconst (p := 52) (x := (0 : Int32)) (Or.inr rfl) rfl rfl rfl ?_
    exact zw_ireturn1 (Or.inr rfl) rfl rfl
  refine zw_iconst (p := 17) (x := (2 : Int32)) (Or.inr rfl) rfl rfl rfl ?_
  exact zw_ireturn1 (Or.inr rfl) rfl rfl
def zx_Wa_howMany (E : zE0) (K : zKt) (a0 : Nat) (x1 : Int32) (M : zM) : zO :=
  K 4 [some (.ref a0), some (.int x1), some (.int (0 : Int32)), some (.int (0 : Int32))] [] M
set_option maxRecDepth 20000 in
theorem ze_Wa_howMany (d : Nat) (a0 : Nat) (x1 : Int32) (M : zM) : zV (d + 1) n_Wa_howMany [.ref a0, .int x1] M = zx_Wa_howMany (zV d) (zG d n_Wa_howMany) a0 x1 M := by
  refine (zE_sg (m := zm_Wa_howMany) rfl 400 _ rfl M).trans ?_
  show zw true zm_Wa_howMany (zV d) (zG d n_Wa_howMany) 400 0 [some (.ref a0), some (.int x1), none, none] [] M = _
  unfold zx_Wa_howMany
  refine zw_iconst (p := 1) (x := (0 : Int32)) (Or.inl rfl) rfl rfl rfl ?_
  refine zw_istore_n (p := 2) (l2 := [some (.ref a0), some (.int x1), some (.int (0 : Int32)), none]) (Or.inr rfl) rfl rfl rfl rfl ?_
  refine zw_iconst (p := 3) (x := (0 : Int32)) (Or.inr rfl) rfl rfl rfl ?_
  refine zw_istore_n (p := 4) (l2 := [some (.ref a0), some (.int x1), some (.int (0 : Int32)), some (.int (0 : Int32))]) (Or.inr rfl) rfl rfl rfl rfl ?_
  exact zw_end rfl rfl
def zx_Wa_howMany_4 (E : zE0) (K : zKt) (a0 : Nat) (x1 : Int32) (x2 : Int32) (x3 : Int32) (M : zM) : zO :=
  zif ((zK M a0).1 = 9)
  (if (zI M a0 8) ≤ x3 then (some (some (.int x2), M))
  else zif ((zK M a0).1 = 9)
  (zoR (zR M a0 4) fun q1 =>
  zif (((zK M q1).1 = 20 ∨ (zK M q1).1 = 24) ∧ zin x3 (zK M q1).2 = true)
  (if (zI M q1 (Int32.toNatClampNeg x3)) ≠ x1 then (zbi (x3 + (1 : Int32)) fun u1 =>
    K 4 [some (.ref a0), some (.int x1), some (.int x2), some (.int u1)] [] M)
  else zbi (x2 + (1 : Int32)) fun u2 =>
  zbi (x3 + (1 : Int32)) fun u3 =>
  K 4 [some (.ref a0), some (.int x1), some (.int u2), some (.int u3)] [] M)))
set_option maxRecDepth 20000 in
theorem zg_Wa_howMany_4 (d : Nat) (a0 : Nat) (x1 : Int32) (x2 : Int32) (x3 : Int32) (M : zM) : zG d n_Wa_howMany 4 [some (.ref a0), some (.int x1), some (.int x2), some (.int x3)] [] M = zx_Wa_howMany_4 (zV d) (zG d n_Wa_howMany) a0 x1 x2 x3 M := by
  refine (zG_sg (m := zm_Wa_howMany) rfl 400 _ _ _ M).trans ?_
  show zw true zm_Wa_howMany (zV d) (zG d n_Wa_howMany) 400 4 [some (.ref a0), some (.int x1), some (.int x2), some (.int x3)] [] M = _
  unfold zx_Wa_howMany_4
  refine zw_iload_n (p := 5) (Or.inl rfl) rfl rfl rfl ?_
  refine zw_aload_n (p := 6) (Or.inr rfl) rfl rfl rfl ?_
  refine zw_get_int (p := 9) (Or.inr rfl) rfl rfl ?_
  refine zw_icmp_ge (t := 31) (p := 12) (Or.inr rfl) rfl rfl rfl ?_ ?_
  · refine zw_iload_n (p := 32) (Or.inr rfl) rfl rfl rfl ?_
    exact zw_ireturn1 (Or.inr rfl) rfl rfl
  refine zw_aload_n (p := 13) (Or.inr rfl) rfl rfl rfl ?_
  refine zw_get_ref (p := 16) (Or.inr rfl) rfl rfl (fun q1 => ?_)
  refine zw_iload_n (p := 17) (Or.inr rfl) rfl rfl rfl ?_
  refine zw_iaload (p := 18) (Or.inr rfl) rfl rfl ?_
  refine zw_iload_n (p := 19) (Or.inr rfl) rfl rfl rfl ?_
  refine zw_icmp_ne (t := 25) (p := 22) (Or.inr rfl) rfl rfl rfl ?_ ?_
  · refine zw_iinc (p := 28) (c := (1 : Int32)) (L2 := fun u1 => [some (.ref a0), some (.int x1), some (.int x2), some (.int u1)]) (Or.inr rfl) rfl rfl rfl rfl (fun _ => rfl) rfl (fun u1 => ?_)
    refine zw_goto (t := 4) (Or.inr rfl) rfl rfl ?_
    exact zw_end rfl rfl
  refine zw_iinc (p := 25) (c := (1 : Int32)) (L2 := fun u2 => [some (.ref a0), some (.int x1), some (.int u2), some (.int x3)]) (Or.inr rfl) rfl rfl rfl rfl (fun _ => rfl) rfl (fun u2 => ?_)
  refine zw_iinc (p := 28) (c := (1 : Int32)) (L2 := fun u3 => [some (.ref a0), some (.int x1), some (.int u2), some (.int u3)]) (Or.inr rfl) rfl rfl rfl rfl (fun _ => rfl) rfl (fun u3 => ?_)
  refine zw_goto (t := 4) (Or.inr rfl) rfl rfl ?_
  exact zw_end rfl rfl
def zx_Wa_earliest (E : zE0) (K : zKt) (a0 : Nat) (x1 : Int32) (M : zM) : zO :=
  K 2 [some (.ref a0), some (.int x1), some (.int (0 : Int32))] [] M
set_option maxRecDepth 20000 in
theorem ze_Wa_earliest (d : Nat) (a0 : Nat) (x1 : Int32) (M : zM) : zV (d + 1) n_Wa_earliest [.ref a0, .int x1] M = zx_Wa_earliest (zV d) (zG d n_Wa_earliest) a0 x1 M := by
  refine (zE_sg (m := zm_Wa_earliest) rfl 400 _ rfl M).trans ?_
  show zw true zm_Wa_earliest (zV d) (zG d n_Wa_earliest) 400 0 [some (.ref a0), some (.int x1), none] [] M = _
  unfold zx_Wa_earliest
  refine zw_iconst (p := 1) (x := (0 : Int32)) (Or.inl rfl) rfl rfl rfl ?_
  refine zw_istore_n (p := 2) (l2 := [some (.ref a0), some (.int x1), some (.int (0 : Int32))]) (Or.inr rfl) rfl rfl rfl rfl ?_
  exact zw_end rfl rfl
def zx_Wa_earliest_2 (E : zE0) (K : zKt) (a0 : Nat) (x1 : Int32) (x2 : Int32) (M : zM) : zO :=
  zif ((zK M a0).1 = 9)
  (if (zI M a0 8) ≤ x2 then (some (some (.int (-4 : Int32)), M))
  else zif ((zK M a0).1 = 9)
  (zoR (zR M a0 4) fun q1 =>
  zif (((zK M q1).1 = 20 ∨ (zK M q1).1 = 24) ∧ zin x2 (zK M q1).2 = true)
  (if (zI M q1 (Int32.toNatClampNeg x2)) ≠ x1 then (zbi (x2 + (1 : Int32)) fun u1 =>
    K 2 [some (.ref a0), some (.int x1), some (.int u1)] [] M)
  else some (some (.int x2), M))))
set_option maxRecDepth 20000 in
theorem zg_Wa_earliest_2 (d : Nat) (a0 : Nat) (x1 : Int32) (x2 : Int32) (M : zM) : zG d n_Wa_earliest 2 [some (.ref a0), some (.int x1), some (.int x2)] [] M = zx_Wa_earliest_2 (zV d) (zG d n_Wa_earliest) a0 x1 x2 M := by
  refine (zG_sg (m := zm_Wa_earliest) rfl 400 _ _ _ M).trans ?_
  show zw true zm_Wa_earliest (zV d) (zG d n_Wa_earliest) 400 2 [some (.ref a0), some (.int x1), some (.int x2)] [] M = _
  unfold zx_Wa_earliest_2
  refine zw_iload_n (p := 3) (Or.inl rfl) rfl rfl rfl ?_
  refine zw_aload_n (p := 4) (Or.inr rfl) rfl rfl rfl ?_
  refine zw_get_int (p := 7) (Or.inr rfl) rfl rfl ?_
  refine zw_icmp_ge (t := 28) (p := 10) (Or.inr rfl) rfl rfl rfl ?_ ?_
  · refine zw_bipush (p := 30) (x := (-4 : Int32)) (Or.inr rfl) rfl rfl rfl ?_
    exact zw_ireturn1 (Or.inr rfl) rfl rfl
  refine zw_aload_n (p := 11) (Or.inr rfl) rfl rfl rfl ?_
  refine zw_get_ref (p := 14) (Or.inr rfl) rfl rfl (fun q1 => ?_)
  refine zw_iload_n (p := 15) (Or.inr rfl) rfl rfl rfl ?_
  refine zw_iaload (p := 16) (Or.inr rfl) rfl rfl ?_
  refine zw_iload_n (p := 17) (Or.inr rfl) rfl rfl rfl ?_
  refine zw_icmp_ne (t := 22) (p := 20) (Or.inr rfl) rfl rfl rfl ?_ ?_
  · refine zw_iinc (p := 25) (c := (1 : Int32)) (L2 := fun u1 => [some (.ref a0), some (.int x1), some (.int u1)]) (Or.inr rfl) rfl rfl rfl rfl (fun _ => rfl) rfl (fun u1 => ?_)
    refine zw_goto (t := 2) (Or.inr rfl) rfl rfl ?_
    exact zw_end rfl rfl
  refine zw_iload_n (p := 21) (Or.inr rfl) rfl rfl rfl ?_
  exact zw_ireturn1 (Or.inr rfl) rfl rfl
def zx_Wa_failedBy (E : zE0) (K : zKt) (a0 : Nat) (x1 : Int32) (M : zM) : zO :=
  K 4 [some (.ref a0), some (.int x1), some (.int (0 : Int32)), some (.int (0 : Int32))] [] M
set_option maxRecDepth 20000 in
theorem ze_Wa_failedBy (d : Nat) (a0 : Nat) (x1 : Int32) (M : zM) : zV (d + 1) n_Wa_failedBy [.ref a0, .int x1] M = zx_Wa_failedBy (zV d) (zG d n_Wa_failedBy) a0 x1 M := by
  refine (zE_sg (m := zm_Wa_failedBy) rfl 400 _ rfl M).trans ?_
  show zw true zm_Wa_failedBy (zV d) (zG d n_Wa_failedBy) 400 0 [some (.ref a0), some (.int x1), none, none] [] M = _
  unfold zx_Wa_failedBy
  refine zw_iconst (p := 1) (x := (0 : Int32)) (Or.inl rfl) rfl rfl rfl ?_
  refine zw_istore_n (p := 2) (l2 := [some (.ref a0), some (.int x1), some (.int (0 : Int32)), none]) (Or.inr rfl) rfl rfl rfl rfl ?_
  refine zw_iconst (p := 3) (x := (0 : Int32)) (Or.inr rfl) rfl rfl rfl ?_
  refine zw_istore_n (p := 4) (l2 := [some (.ref a0), some (.int x1), some (.int (0 : Int32)), some (.int (0 : Int32))]) (Or.inr rfl) rfl rfl rfl rfl ?_
  exact zw_end rfl rfl
def zx_Wa_failedBy_4 (E : zE0) (K : zKt) (a0 : Nat) (x1 : Int32) (x2 : Int32) (x3 : Int32) (M : zM) : zO :=
  zif ((zK M a0).1 = 9)
  (if (zI M a0 8) ≤ x3 then (some (some (.int x2), M))
  else zif ((zK M a0).1 = 9)
  (zoR (zR M a0 4) fun q1 =>
  zif (((zK M q1).1 = 20 ∨ (zK M q1).1 = 24) ∧ zin x3 (zK M q1).2 = true)
  (if (zI M q1 (Int32.toNatClampNeg x3)) ≠ (2 : Int32) then (zbi (x3 + (1 : Int32)) fun u1 =>
    K 4 [some (.ref a0), some (.int x1), some (.int x2), some (.int u1)] [] M)
  else zif ((zK M a0).1 = 9)
  (zoR (zR M a0 5) fun q2 =>
  zif (((zK M q2).1 = 20 ∨ (zK M q2).1 = 24) ∧ zin x3 (zK M q2).2 = true)
  (if (zI M q2 (Int32.toNatClampNeg x3)) ≠ x1 then (zbi (x3 + (1 : Int32)) fun u2 =>
    K 4 [some (.ref a0), some (.int x1), some (.int x2), some (.int u2)] [] M)
  else zbi (x2 + (1 : Int32)) fun u3 =>
  zbi (x3 + (1 : Int32)) fun u4 =>
  K 4 [some (.ref a0), some (.int x1), some (.int u3), some (.int u4)] [] M)))))
set_option maxRecDepth 20000 in
theorem zg_Wa_failedBy_4 (d : Nat) (a0 : Nat) (x1 : Int32) (x2 : Int32) (x3 : Int32) (M : zM) : zG d n_Wa_failedBy 4 [some (.ref a0), some (.int x1), some (.int x2), some (.int x3)] [] M = zx_Wa_failedBy_4 (zV d) (zG d n_Wa_failedBy) a0 x1 x2 x3 M := by
  refine (zG_sg (m := zm_Wa_failedBy) rfl 400 _ _ _ M).trans ?_
  show zw true zm_Wa_failedBy (zV d) (zG d n_Wa_failedBy) 400 4 [some (.ref a0), some (.int x1), some (.int x2), some (.int x3)] [] M = _
  unfold zx_Wa_failedBy_4
  refine zw_iload_n (p := 5) (Or.inl rfl) rfl rfl rfl ?_
  refine zw_aload_n (p := 6) (Or.inr rfl) rfl rfl rfl ?_
  refine zw_get_int (p := 9) (Or.inr rfl) rfl rfl ?_
  refine zw_icmp_ge (t := 41) (p := 12) (Or.inr rfl) rfl rfl rfl ?_ ?_
  · refine zw_iload_n (p := 42) (Or.inr rfl) rfl rfl rfl ?_
    exact zw_ireturn1 (Or.inr rfl) rfl rfl
  refine zw_aload_n (p := 13) (Or.inr rfl) rfl rfl rfl ?_
  refine zw_get_ref (p := 16) (Or.inr rfl) rfl rfl (fun q1 => ?_)
  refine zw_iload_n (p := 17) (Or.inr rfl) rfl rfl rfl ?_
  refine zw_iaload (p := 18) (Or.inr rfl) rfl rfl ?_
  refine zw_iconst (p := 19) (x := (2 : Int32)) (Or.inr rfl) rfl rfl rfl ?_
  refine zw_icmp_ne (t := 35) (p := 22) (Or.inr rfl) rfl rfl rfl ?_ ?_
  · refine zw_iinc (p := 38) (c := (1 : Int32)) (L2 := fun u1 => [some (.ref a0), some (.int x1), some (.int x2), some (.int u1)]) (Or.inr rfl) rfl rfl rfl rfl (fun _ => rfl) rfl (fun u1 => ?_)
    refine zw_goto (t := 4) (Or.inr rfl) rfl rfl ?_
    exact zw_end rfl rfl
  refine zw_aload_n (p := 23) (Or.inr rfl) rfl rfl rfl ?_
  refine zw_get_ref (p := 26) (Or.inr rfl) rfl rfl (fun q2 => ?_)
  refine zw_iload_n (p := 27) (Or.inr rfl) rfl rfl rfl ?_
  refine zw_iaload (p := 28) (Or.inr rfl) rfl rfl ?_
  refine zw_iload_n (p := 29) (Or.inr rfl) rfl rfl rfl ?_
  refine zw_icmp_ne (t := 35) (p := 32) (Or.inr rfl) rfl rfl rfl ?_ ?_
  · refine zw_iinc (p := 38) (c := (1 : Int32)) (L2 := fun u2 => [some (.ref a0), some (.int x1), some (.int x2), some (.int u2)]) (Or.inr rfl) rfl rfl rfl rfl (fun _ => rfl) rfl (fun u2 => ?_)
    refine zw_goto (t := 4) (Or.inr rfl) rfl rfl ?_
    exact zw_end rfl rfl
  refine zw_iinc (p := 35) (c := (1 : Int32)) (L2 := fun u3 => [some (.ref a0), some (.int x1), some (.int u3), some (.int x3)]) (Or.inr rfl) rfl rfl rfl rfl (fun _ => rfl) rfl (fun u3 => ?_)
  refine zw_iinc (p := 38) (c := (1 : Int32)) (L2 := fun u4 => [some (.ref a0), some (.int x1), some (.int u3), some (.int u4)]) (Or.inr rfl) rfl rfl rfl rfl (fun _ => rfl) rfl (fun u4 => ?_)
  refine zw_goto (t := 4) (Or.inr rfl) rfl rfl ?_
  exact zw_end rfl rfl
def zx_Wa_allDuties (E : zE0) (K : zKt) (a0 : Nat) (M : zM) : zO :=
  K 4 [some (.ref a0), some (.int (0 : Int32)), some (.int (0 : Int32))] [] M
set_option maxRecDepth 20000 in
theorem ze_Wa_allDuties (d : Nat) (a0 : Nat) (M : zM) : zV (d + 1) n_Wa_allDuties [.ref a0] M = zx_Wa_allDuties (zV d) (zG d n_Wa_allDuties) a0 M := by
  refine (zE_sg (m := zm_Wa_allDuties) rfl 400 _ rfl M).trans ?_
  show zw true zm_Wa_allDuties (zV d) (zG d n_Wa_allDuties) 400 0 [some (.ref a0), none, none] [] M = _
  unfold zx_Wa_allDuties
  refine zw_iconst (p := 1) (x := (0 : Int32)) (Or.inl rfl) rfl rfl rfl ?_
  refine zw_istore_n (p := 2) (l2 := [some (.ref a0), some (.int (0 : Int32)), none]) (Or.inr rfl) rfl rfl rfl rfl ?_
  refine zw_iconst (p := 3) (x := (0 : Int32)) (Or.inr rfl) rfl rfl rfl ?_
  refine zw_istore_n (p := 4) (l2 := [some (.ref a0), some (.int (0 : Int32)), some (.int (0 : Int32))]) (Or.inr rfl) rfl rfl rfl rfl ?_
  exact zw_end rfl rfl
def zx_Wa_allDuties_4 (E : zE0) (K : zKt) (a0 : Nat) (x1 : Int32) (x2 : Int32) (M : zM) : zO :=
  zif ((zK M a0).1 = 9)
  (if (zI M a0 8) ≤ x2 then (some (some (.int x1), M))
  else zif ((zK M a0).1 = 9)
  (zoR (zR M a0 3) fun q1 =>
  zif (((zK M q1).1 = 23 ∨ (zK M q1).1 = 25) ∧ zin x2 (zK M q1).2 = true)
  (zbI (E n_JL_bitCount [.long (zL M q1 (Int32.toNatClampNeg x2))] M) fun u1 M1 =>
  zbi (x1 + u1) fun u2 =>
  zbi (x2 + (1 : Int32)) fun u3 =>
  K 4 [some (.ref a0), some (.int u2), some (.int u3)] [] M1)))
set_option maxRecDepth 20000 in
theorem zg_Wa_allDuties_4 (d : Nat) (a0 : Nat) (x1 : Int32) (x2 : Int32) (M : zM) : zG d n_Wa_allDuties 4 [some (.ref a0), some (.int x1), some (.int x2)] [] M = zx_Wa_allDuties_4 (zV d) (zG d n_Wa_allDuties) a0 x1 x2 M := by
  refine (zG_sg (m := zm_Wa_allDuties) rfl 400 _ _ _ M).trans ?_
  show zw true zm_Wa_allDuties (zV d) (zG d n_Wa_allDuties) 400 4 [some (.ref a0), some (.int x1), some (.int x2)] [] M = _
  unfold zx_Wa_allDuties_4
  refine zw_iload_n (p := 5) (Or.inl rfl) rfl rfl rfl ?_
  refine zw_aload_n (p := 6) (Or.inr rfl) rfl rfl rfl ?_
  refine zw_get_int (p := 9) (Or.inr rfl) rfl rfl ?_
  refine zw_icmp_ge (t := 30) (p := 12) (Or.inr rfl) rfl rfl rfl ?_ ?_
  · refine zw_iload_n (p := 31) (Or.inr rfl) rfl rfl rfl ?_
    exact zw_ireturn1 (Or.inr rfl) rfl rfl
  refine zw_iload_n (p := 13) (Or.inr rfl) rfl rfl rfl ?_
  refine zw_aload_n (p := 14) (Or.inr rfl) rfl rfl rfl ?_
  refine zw_get_ref (p := 17) (Or.inr rfl) rfl rfl (fun q1 => ?_)
  refine zw_iload_n (p := 18) (Or.inr rfl) rfl rfl rfl ?_
  refine zw_laload (p := 19) (Or.inr rfl) rfl rfl ?_
  refine zw_staticI (p := 22) (as := [.long (zL M q1 (Int32.toNatClampNeg x2))]) (rest := [.int x1]) (Or.inr rfl) rfl rfl rfl rfl rfl rfl (fun u1 M1 => ?_)
  refine zw_iadd (p := 23) (Or.inr rfl) rfl rfl ?_
  refine zw_istore_nN (p := 24) (L2 := fun u2 => [some (.ref a0), some (.int u2), some (.int x2)]) (Or.inr rfl) rfl rfl (fun _ => rfl) rfl (fun u2 => ?_)
  refine zw_iinc (p := 27) (c := (1 : Int32)) (L2 := fun u3 => [some (.ref a0), some (.int u2), some (.int u3)]) (Or.inr rfl) rfl rfl rfl rfl (fun _ => rfl) rfl (fun u3 => ?_)
  refine zw_goto (t := 4) (Or.inr rfl) rfl rfl ?_
  exact zw_end rfl rfl
def zx_Wa_dutyTick (E : zE0) (K : zKt) (a0 : Nat) (x1 : Int32) (x2 : Int32) (M : zM) : zO :=
  K 5 [some (.ref a0), some (.int x1), some (.int x2), some (.int (0 : Int32)), some (.int x1)] [] M
set_option maxRecDepth 20000 in
theorem ze_Wa_dutyTick (d : Nat) (a0 : Nat) (x1 : Int32) (x2 : Int32) (M : zM) : zV (d + 1) n_Wa_dutyTick [.ref a0, .int x1, .int x2] M = zx_Wa_dutyTick (zV d) (zG d n_Wa_dutyTick) a0 x1 x2 M := by
  refine (zE_sg (m := zm_Wa_dutyTick) rfl 400 _ rfl M).trans ?_
  show zw true zm_Wa_dutyTick (zV d) (zG d n_Wa_dutyTick) 400 0 [some (.ref a0), some (.int x1), some (.int x2), none, none] [] M = _
  unfold zx_Wa_dutyTick
  refine zw_iconst (p := 1) (x := (0 : Int32)) (Or.inl rfl) rfl rfl rfl ?_
  refine zw_istore_n (p := 2) (l2 := [some (.ref a0), some (.int x1), some (.int x2), some (.int (0 : Int32)), none]) (Or.inr rfl) rfl rfl rfl rfl ?_
  refine zw_iload_n (p := 3) (Or.inr rfl) rfl rfl rfl ?_
  refine zw_istore (p := 5) (l2 := [some (.ref a0), some (.int x1), some (.int x2), some (.int (0 : Int32)), some (.int x1)]) (Or.inr rfl) rfl rfl rfl rfl ?_
  exact zw_end rfl rfl
def zx_Wa_dutyTick_5 (E : zE0) (K : zKt) (a0 : Nat) (x1 : Int32) (x2 : Int32) (x3 : Int32) (x4 : Int32) (M : zM) : zO :=
  zif ((zK M a0).1 = 9)
  (if (zI M a0 8) ≤ x4 then (some (some (.int (-1 : Int32)), M))
  else zif ((zK M a0).1 = 9)
  (zoR (zR M a0 3) fun q1 =>
  zif (((zK M q1).1 = 23 ∨ (zK M q1).1 = 25) ∧ zin x1 (zK M q1).2 = true)
  (if (lg_cmp (((Int64.toUInt64 (zL M q1 (Int32.toNatClampNeg x1)) >>> (Int64.toUInt64 (Int32.toInt64 x4) &&& Int64.toUInt64 63)).toInt64) &&& (1 : Int64)) (0 : Int64)) = 0 then (zbi (x4 + (1 : Int32)) fun u1 =>
    K 5 [some (.ref a0), some (.int x1), some (.int x2), some (.int x3), some (.int u1)] [] M)
  else if x3 ≠ x2 then (zbi (x3 + (1 : Int32)) fun u2 =>
    zbi (x4 + (1 : Int32)) fun u3 =>
    K 5 [some (.ref a0), some (.int x1), some (.int x2), some (.int u2), some (.int u3)] [] M)
  else some (some (.int x4), M))))
set_option maxRecDepth 20000 in
theorem zg_Wa_dutyTick_5 (d : Nat) (a0 : Nat) (x1 : Int32) (x2 : Int32) (x3 : Int32) (x4 : Int32) (M : zM) : zG d n_Wa_dutyTick 5 [some (.ref a0), some (.int x1), some (.int x2), some (.int x3), some (.int x4)] [] M = zx_Wa_dutyTick_5 (zV d) (zG d n_Wa_dutyTick) a0 x1 x2 x3 x4 M := by
  refine (zG_sg (m := zm_Wa_dutyTick) rfl 400 _ _ _ M).trans ?_
  show zw true zm_Wa_dutyTick (zV d) (zG d n_Wa_dutyTick) 400 5 [some (.ref a0), some (.int x1), some (.int x2), some (.int x3), some (.int x4)] [] M = _
  unfold zx_Wa_dutyTick_5
  refine zw_iload (p := 7) (Or.inl rfl) rfl rfl rfl ?_
  refine zw_aload_n (p := 8) (Or.inr rfl) rfl rfl rfl ?_
  refine zw_get_int (p := 11) (Or.inr rfl) rfl rfl ?_
  refine zw_icmp_ge (t := 47) (p := 14) (Or.inr rfl) rfl rfl rfl ?_ ?_
  · refine zw_iconst (p := 48) (x := (-1 : Int32)) (Or.inr rfl) rfl rfl rfl ?_
    exact zw_ireturn1 (Or.inr rfl) rfl rfl
  refine zw_aload_n (p := 15) (Or.inr rfl) rfl rfl rfl ?_
  refine zw_get_ref (p := 18) (Or.inr rfl) rfl rfl (fun q1 => ?_)
  refine zw_iload_n (p := 19) (Or.inr rfl) rfl rfl rfl ?_
  refine zw_laload (p := 20) (Or.inr rfl) rfl rfl ?_
  refine zw_iload (p := 22) (Or.inr rfl) rfl rfl rfl ?_
  refine zw_lushr (p := 23) (Or.inr rfl) rfl rfl ?_
  refine zw_lconst (p := 24) (x := (1 : Int64)) (Or.inr rfl) rfl rfl rfl ?_
  refine zw_land (p := 25) (Or.inr rfl) rfl rfl ?_
  refine zw_lconst (p := 26) (x := (0 : Int64)) (Or.inr rfl) rfl rfl rfl ?_
  refine zw_lcmp (p := 27) (Or.inr rfl) rfl rfl ?_
  refine zw_if_eq (t := 41) (p := 30) (Or.inr rfl) rfl rfl rfl ?_ ?_
  · refine zw_iinc (p := 44) (c := (1 : Int32)) (L2 := fun u1 => [some (.ref a0), some (.int x1), some (.int x2), some (.int x3), some (.int u1)]) (Or.inr rfl) rfl rfl rfl rfl (fun _ => rfl) rfl (fun u1 => ?_)
    refine zw_goto (t := 5) (Or.inr rfl) rfl rfl ?_
    exact zw_end rfl rfl
  refine zw_iload_n (p := 31) (Or.inr rfl) rfl rfl rfl ?_
  refine zw_iload_n (p := 32) (Or.inr rfl) rfl rfl rfl ?_
  refine zw_icmp_ne (t := 38) (p := 35) (Or.inr rfl) rfl rfl rfl ?_ ?_
  · refine zw_iinc (p := 41) (c := (1 : Int32)) (L2 := fun u2 => [some (.ref a0), some (.int x1), some (.int x2), some (.int u2), some (.int x4)]) (Or.inr rfl) rfl rfl rfl rfl (fun _ => rfl) rfl (fun u2 => ?_)
    refine zw_iinc (p := 44) (c := (1 : Int32)) (L2 := fun u3 => [some (.ref a0), some (.int x1), some (.int x2), some (.int u2), some (.int u3)]) (Or.inr rfl) rfl rfl rfl rfl (fun _ => rfl) rfl (fun u3 => ?_)
    refine zw_goto (t := 5) (Or.inr rfl) rfl rfl ?_
    exact zw_end rfl rfl
  refine zw_iload (p := 37) (Or.inr rfl) rfl rfl rfl ?_
  exact zw_ireturn1 (Or.inr rfl) rfl rfl
def zx_Wa_dutyState (E : zE0) (K : zKt) (a0 : Nat) (x1 : Int32) (M : zM) : zO :=
  zif ((zK M a0).1 = 9)
  (if (lg_cmp (((Int64.toUInt64 (zL M a0 6) >>> (Int64.toUInt64 (Int32.toInt64 x1) &&& Int64.toUInt64 63)).toInt64) &&& (1 : Int64)) (0 : Int64)) = 0 then (zif ((zK M a0).1 = 9)
    (if (lg_cmp (((Int64.toUInt64 (zL M a0 7) >>> (Int64.toUInt64 (Int32.toInt64 x1) &&& Int64.toUInt64 63)).toInt64) &&& (1 : Int64)) (0 : Int64)) = 0 then (some (some (.int (0 : Int32)), M))
    else some (some (.int (2 : Int32)), M)))
  else some (some (.int (1 : Int32)), M))
set_option maxRecDepth 20000 in
theorem ze_Wa_dutyState (d : Nat) (a0 : Nat) (x1 : Int32) (M : zM) : zV (d + 1) n_Wa_dutyState [.ref a0, .int x1] M = zx_Wa_dutyState (zV d) (zG d n_Wa_dutyState) a0 x1 M := by
  refine (zE_sg (m := zm_Wa_dutyState) rfl 400 _ rfl M).trans ?_
  show zw true zm_Wa_dutyState (zV d) (zG d n_Wa_dutyState) 400 0 [some (.ref a0), some (.int x1)] [] M = _
  unfold zx_Wa_dutyState
  refine zw_aload_n (p := 1) (Or.inl rfl) rfl rfl rfl ?_
  refine zw_get_long (p := 4) (Or.inr rfl) rfl rfl ?_
  refine zw_iload_n (p := 5) (Or.inr rfl) rfl rfl rfl ?_
  refine zw_lushr (p := 6) (Or.inr rfl) rfl rfl ?_
  refine zw_lconst (p := 7) (x := (1 : Int64)) (Or.inr rfl) rfl rfl rfl ?_
  refine zw_land (p := 8) (Or.inr rfl) rfl rfl ?_
  refine zw_lconst (p := 9) (x := (0 : Int64)) (Or.inr rfl) rfl rfl rfl ?_
  refine zw_lcmp (p := 10) (Or.inr rfl) rfl rfl ?_
  refine zw_if_eq (t := 15) (p := 13) (Or.inr rfl) rfl rfl rfl ?_ ?_
  · refine zw_aload_n (p := 16) (Or.inr rfl) rfl rfl rfl ?_
    refine zw_get_long (p := 19) (Or.inr rfl) rfl rfl ?_
    refine zw_iload_n (p := 20) (Or.inr rfl) rfl rfl rfl ?_
    refine zw_lushr (p := 21) (Or.inr rfl) rfl rfl ?_
    refine zw_lconst (p := 22) (x := (1 : Int64)) (Or.inr rfl) rfl rfl rfl ?_
    refine zw_land (p := 23) (Or.inr rfl) rfl rfl ?_
    refine zw_lconst (p := 24) (x := (0 : Int64)) (Or.inr rfl) rfl rfl rfl ?_
    refine zw_lcmp (p := 25) (Or.inr rfl) rfl rfl ?_
    refine zw_if_eq (t := 32) (p := 28) (Or.inr rfl) rfl rfl rfl ?_ ?_
    · refine zw_iconst (p := 33) (x := (0 : Int32)) (Or.inr rfl) rfl rfl rfl ?_
      exact zw_ireturn1 (Or.inr rfl) rfl rfl
    refine zw_iconst (p := 29) (x := (2 : Int32)) (Or.inr rfl) rfl rfl rfl ?_
    refine zw_goto (t := 33) (Or.inr rfl) rfl rfl ?_
    exact zw_ireturn1 (Or.inr rfl) rfl rfl
  refine zw_iconst (p := 14) (x := (1 : Int32)) (Or.inr rfl) rfl rfl rfl ?_
  exact zw_ireturn1 (Or.inr rfl) rfl rfl
def zx_JL_bitCount (E : zE0) (K : zKt) (l0 : Int64) (M : zM) : zO :=
  zbl (l0 - (((Int64.toUInt64 l0 >>> (Int64.toUInt64 (Int32.toInt64 (1 : Int32)) &&& Int64.toUInt64 63)).toInt64) &&& (6148914691236517205 : Int64))) fun w1 =>
  zbl ((w1 &&& (3689348814741910323 : Int64)) + (((Int64.toUInt64 w1 >>> (Int64.toUInt64 (Int32.toInt64 (2 : Int32)) &&& Int64.toUInt64 63)).toInt64) &&& (3689348814741910323 : Int64))) fun w2 =>
  zbl ((w2 + ((Int64.toUInt64 w2 >>> (Int64.toUInt64 (Int32.toInt64 (4 : Int32)) &&& Int64.toUInt64 63)).toInt64)) &&& (1085102592571150095 : Int64)) fun w3 =>
  zbl (w3 + ((Int64.toUInt64 w3 >>> (Int64.toUInt64 (Int32.toInt64 (8 : Int32)) &&& Int64.toUInt64 63)).toInt64)) fun w4 =>
  zbl (w4 + ((Int64.toUInt64 w4 >>> (Int64.toUInt64 (Int32.toInt64 (16 : Int32)) &&& Int64.toUInt64 63)).toInt64)) fun w5 =>
  zbl (w5 + ((Int64.toUInt64 w5 >>> (Int64.toUInt64 (Int32.toInt64 (32 : Int32)) &&& Int64.toUInt64 63)).toInt64)) fun w6 =>
  some (some (.int ((Int64.toInt32 w6) &&& (127 : Int32))), M)
set_option maxRecDepth 20000 in
theorem ze_JL_bitCount (d : Nat) (l0 : Int64) (M : zM) : zV (d + 1) n_JL_bitCount [.long l0] M = zx_JL_bitCount (zV d) (zG d n_JL_bitCount) l0 M := by
  refine (zE_sg (m := zm_JL_bitCount) rfl 400 _ rfl M).trans ?_
  show zw true zm_JL_bitCount (zV d) (zG d n_JL_bitCount) 400 0 [some (.long l0), none] [] M = _
  unfold zx_JL_bitCount
  refine zw_lload_n (p := 1) (Or.inl rfl) rfl rfl rfl ?_
  refine zw_lload_n (p := 2) (Or.inr rfl) rfl rfl rfl ?_
  refine zw_iconst (p := 3) (x := (1 : Int32)) (Or.inr rfl) rfl rfl rfl ?_
  refine zw_lushr (p := 4) (Or.inr rfl) rfl rfl ?_
  refine zw_ldc2_w (p := 7) (x := (6148914691236517205 : Int64)) (Or.inr rfl) rfl rfl rfl ?_
  refine zw_land (p := 8) (Or.inr rfl) rfl rfl ?_
  refine zw_lsub (p := 9) (Or.inr rfl) rfl rfl ?_
  refine zw_lstore_nN (p := 10) (L2 := fun w1 => [some (.long w1), none]) (Or.inr rfl) rfl rfl (fun _ => rfl) rfl (fun w1 => ?_)
  refine zw_lload_n (p := 11) (Or.inr rfl) rfl rfl rfl ?_
  refine zw_ldc2_w (p := 14) (x := (3689348814741910323 : Int64)) (Or.inr rfl) rfl rfl rfl ?_
  refine zw_land (p := 15) (Or.inr rfl) rfl rfl ?_
  refine zw_lload_n (p := 16) (Or.inr rfl) rfl rfl rfl ?_
  refine zw_iconst (p := 17) (x := (2 : Int32)) (Or.inr rfl) rfl rfl rfl ?_
  refine zw_lushr (p := 18) (Or.inr rfl) rfl rfl ?_
  refine zw_ldc2_w (p := 21) (x := (3689348814741910323 : Int64)) (Or.inr rfl) rfl rfl rfl ?_
  refine zw_land (p := 22) (Or.inr rfl) rfl rfl ?_
  refine zw_ladd (p := 23) (Or.inr rfl) rfl rfl ?_
  refine zw_lstore_nN (p := 24) (L2 := fun w2 => [some (.long w2), none]) (Or.inr rfl) rfl rfl (fun _ => rfl) rfl (fun w2 => ?_)
  refine zw_lload_n (p := 25) (Or.inr rfl) rfl rfl rfl ?_
  refine zw_lload_n (p := 26) (Or.inr rfl) rfl rfl rfl ?_
  refine zw_iconst (p := 27) (x := (4 : Int32)) (Or.inr rfl) rfl rfl rfl ?_
  refine zw_lushr (p := 28) (Or.inr rfl) rfl rfl ?_
  refine zw_ladd (p := 29) (Or.inr rfl) rfl rfl ?_
  refine zw_ldc2_w (p := 32) (x := (1085102592571150095 : Int64)) (Or.inr rfl) rfl rfl rfl ?_
  refine zw_land (p := 33) (Or.inr rfl) rfl rfl ?_
  refine zw_lstore_nN (p := 34) (L2 := fun w3 => [some (.long w3), none]) (Or.inr rfl) rfl rfl (fun _ => rfl) rfl (fun w3 => ?_)
  refine zw_lload_n (p := 35) (Or.inr rfl) rfl rfl rfl ?_
  refine zw_lload_n (p := 36) (Or.inr rfl) rfl rfl rfl ?_
  refine zw_bipush (p := 38) (x := (8 : Int32)) (Or.inr rfl) rfl rfl rfl ?_
  refine zw_lushr (p := 39) (Or.inr rfl) rfl rfl ?_
  refine zw_ladd (p := 40) (Or.inr rfl) rfl rfl ?_
  refine zw_lstore_nN (p := 41) (L2 := fun w4 => [some (.long w4), none]) (Or.inr rfl) rfl rfl (fun _ => rfl) rfl (fun w4 => ?_)
  refine zw_lload_n (p := 42) (Or.inr rfl) rfl rfl rfl ?_
  refine zw_lload_n (p := 43) (Or.inr rfl) rfl rfl rfl ?_
  refine zw_bipush (p := 45) (x := (16 : Int32)) (Or.inr rfl) rfl rfl rfl ?_
  refine zw_lushr (p := 46) (Or.inr rfl) rfl rfl ?_
  refine zw_ladd (p := 47) (Or.inr rfl) rfl rfl ?_
  refine zw_lstore_nN (p := 48) (L2 := fun w5 => [some (.long w5), none]) (Or.inr rfl) rfl rfl (fun _ => rfl) rfl (fun w5 => ?_)
  refine zw_lload_n (p := 49) (Or.inr rfl) rfl rfl rfl ?_
  refine zw_lload_n (p := 50) (Or.inr rfl) rfl rfl rfl ?_
  refine zw_bipush (p := 52) (x := (32 : Int32)) (Or.inr rfl) rfl rfl rfl ?_
  refine zw_lushr (p := 53) (Or.inr rfl) rfl rfl ?_
  refine zw_ladd (p := 54) (Or.inr rfl) rfl rfl ?_
  refine zw_lstore_nN (p := 55) (L2 := fun w6 => [some (.long w6), none]) (Or.inr rfl) rfl rfl (fun _ => rfl) rfl (fun w6 => ?_)
  refine zw_lload_n (p := 56) (Or.inr rfl) rfl rfl rfl ?_
  refine zw_l2i (p := 57) (Or.inr rfl) rfl rfl ?_
  refine zw_bipush (p := 59) (x := (127 : Int32)) (Or.inr rfl) rfl rfl rfl ?_
  refine zw_iand (p := 60) (Or.inr rfl) rfl rfl ?_
  exact zw_ireturn1 (Or.inr rfl) rfl rfl
