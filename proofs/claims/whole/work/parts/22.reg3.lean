def zx_Mo_in (E : zE0) (K : zKt) (l0 : Int64) (l2 : Int64) (l4 : Int64) (M : zM) : zO :=
  if (lg_cmp l0 l2) < 0 then (zif ((0 : Int32) = 0 ∨ (0 : Int32) = 1) (some (some (.int (0 : Int32)), M)))
  else if 0 < (lg_cmp l0 l4) then (zif ((0 : Int32) = 0 ∨ (0 : Int32) = 1) (some (some (.int (0 : Int32)), M)))
  else zif ((1 : Int32) = 0 ∨ (1 : Int32) = 1) (some (some (.int (1 : Int32)), M))
set_option maxRecDepth 20000 in
theorem ze_Mo_in (d : Nat) (l0 : Int64) (l2 : Int64) (l4 : Int64) (M : zM) : zV (d + 1) n_Mo_in [.long l0, .long l2, .long l4] M = zx_Mo_in (zV d) (zG d n_Mo_in) l0 l2 l4 M := by
  refine (zE_sg (m := zm_Mo_in) rfl 400 _ rfl M).trans ?_
  show zw true zm_Mo_in (zV d) (zG d n_Mo_in) 400 0 [some (.long l0), none, some (.long l2), none, some (.long l4), none] [] M = _
  unfold zx_Mo_in
  refine zw_lload_n (p := 1) (Or.inl rfl) rfl rfl rfl ?_
  refine zw_lload_n (p := 2) (Or.inr rfl) rfl rfl rfl ?_
  refine zw_lcmp (p := 3) (Or.inr rfl) rfl rfl ?_
  refine zw_if_lt (t := 17) (p := 6) (Or.inr rfl) rfl rfl rfl ?_ ?_
  · refine zw_iconst (p := 18) (x := (0 : Int32)) (Or.inr rfl) rfl rfl rfl ?_
    exact zw_ireturn2 (Or.inr rfl) rfl rfl
  refine zw_lload_n (p := 7) (Or.inr rfl) rfl rfl rfl ?_
  refine zw_lload (p := 9) (Or.inr rfl) rfl rfl rfl ?_
  refine zw_lcmp (p := 10) (Or.inr rfl) rfl rfl ?_
  refine zw_if_gt (t := 17) (p := 13) (Or.inr rfl) rfl rfl rfl ?_ ?_
  · refine zw_iconst (p := 18) (x := (0 : Int32)) (Or.inr rfl) rfl rfl rfl ?_
    exact zw_ireturn2 (Or.inr rfl) rfl rfl
  refine zw_iconst (p := 14) (x := (1 : Int32)) (Or.inr rfl) rfl rfl rfl ?_
  refine zw_goto (t := 18) (Or.inr rfl) rfl rfl ?_
  exact zw_ireturn2 (Or.inr rfl) rfl rfl
def zx_Mo_flag (E : zE0) (K : zKt) (x0 : Int32) (M : zM) : zO :=
  if x0 = 0 then (some (some (.int (0 : Int32)), M))
  else some (some (.int (1 : Int32)), M)
set_option maxRecDepth 20000 in
theorem ze_Mo_flag (d : Nat) (x0 : Int32) (M : zM) : zV (d + 1) n_Mo_flag [.int x0] M = zx_Mo_flag (zV d) (zG d n_Mo_flag) x0 M := by
  refine (zE_sg (m := zm_Mo_flag) rfl 400 _ rfl M).trans ?_
  show zw true zm_Mo_flag (zV d) (zG d n_Mo_flag) 400 0 [some (.int x0)] [] M = _
  unfold zx_Mo_flag
  refine zw_iload_n (p := 1) (Or.inl rfl) rfl rfl rfl ?_
  refine zw_if_eq (t := 8) (p := 4) (Or.inr rfl) rfl rfl rfl ?_ ?_
  · refine zw_iconst (p := 9) (x := (0 : Int32)) (Or.inr rfl) rfl rfl rfl ?_
    exact zw_ireturn1 (Or.inr rfl) rfl rfl
  refine zw_iconst (p := 5) (x := (1 : Int32)) (Or.inr rfl) rfl rfl rfl ?_
  refine zw_goto (t := 9) (Or.inr rfl) rfl rfl ?_
  exact zw_ireturn1 (Or.inr rfl) rfl rfl
def zx_Mo_least (E : zE0) (K : zKt) (x0 : Int32) (x1 : Int32) (M : zM) : zO :=
  if x1 ≤ x0 then (some (some (.int x1), M))
  else some (some (.int x0), M)
set_option maxRecDepth 20000 in
theorem ze_Mo_least (d : Nat) (x0 : Int32) (x1 : Int32) (M : zM) : zV (d + 1) n_Mo_least [.int x0, .int x1] M = zx_Mo_least (zV d) (zG d n_Mo_least) x0 x1 M := by
  refine (zE_sg (m := zm_Mo_least) rfl 400 _ rfl M).trans ?_
  show zw true zm_Mo_least (zV d) (zG d n_Mo_least) 400 0 [some (.int x0), some (.int x1)] [] M = _
  unfold zx_Mo_least
  refine zw_iload_n (p := 1) (Or.inl rfl) rfl rfl rfl ?_
  refine zw_iload_n (p := 2) (Or.inr rfl) rfl rfl rfl ?_
  refine zw_icmp_ge (t := 9) (p := 5) (Or.inr rfl) rfl rfl rfl ?_ ?_
  · refine zw_iload_n (p := 10) (Or.inr rfl) rfl rfl rfl ?_
    exact zw_ireturn1 (Or.inr rfl) rfl rfl
  refine zw_iload_n (p := 6) (Or.inr rfl) rfl rfl rfl ?_
  refine zw_goto (t := 10) (Or.inr rfl) rfl rfl ?_
  exact zw_ireturn1 (Or.inr rfl) rfl rfl
def zx_Mo_greatest (E : zE0) (K : zKt) (x0 : Int32) (x1 : Int32) (M : zM) : zO :=
  if x0 ≤ x1 then (some (some (.int x1), M))
  else some (some (.int x0), M)
set_option maxRecDepth 20000 in
theorem ze_Mo_greatest (d : Nat) (x0 : Int32) (x1 : Int32) (M : zM) : zV (d + 1) n_Mo_greatest [.int x0, .int x1] M = zx_Mo_greatest (zV d) (zG d n_Mo_greatest) x0 x1 M := by
  refine (zE_sg (m := zm_Mo_greatest) rfl 400 _ rfl M).trans ?_
  show zw true zm_Mo_greatest (zV d) (zG d n_Mo_greatest) 400 0 [some (.int x0), some (.int x1)] [] M = _
  unfold zx_Mo_greatest
  refine zw_iload_n (p := 1) (Or.inl rfl) rfl rfl rfl ?_
  refine zw_iload_n (p := 2) (Or.inr rfl) rfl rfl rfl ?_
  refine zw_icmp_le (t := 9) (p := 5) (Or.inr rfl) rfl rfl rfl ?_ ?_
  · refine zw_iload_n (p := 10) (Or.inr rfl) rfl rfl rfl ?_
    exact zw_ireturn1 (Or.inr rfl) rfl rfl
  refine zw_iload_n (p := 6) (Or.inr rfl) rfl rfl rfl ?_
  refine zw_goto (t := 10) (Or.inr rfl) rfl rfl ?_
  exact zw_ireturn1 (Or.inr rfl) rfl rfl
def zx_Mo_feed (E : zE0) (K : zKt) (a0 : Nat) (x1 : Int32) (M : zM) : zO :=
  zbI (E n_Mo_in [.long (Int32.toInt64 x1), .long (0 : Int64), .long (127 : Int64)] M) fun u1 M1 =>
  if u1 ≠ 0 then (zif ((zK M1 a0).1 = 11)
    (if (zI M1 a0 13) ≠ (200 : Int32) then (zif ((zK M1 a0).1 = 11)
      (zoR (zR M1 a0 12) fun q1 =>
      zif ((zK M1 a0).1 = 11)
      (zif ((zK M1 q1).1 = 20 ∧ zin (zI M1 a0 13) (zK M1 q1).2 = true)
      (zbm (zsI M1 q1 (Int32.toNatClampNeg (zI M1 a0 13)) x1) fun M2 =>
      zif ((zK M2 a0).1 = 11)
      (zif ((zK M2 a0).1 = 11)
      (zbm (zsI M2 a0 13 ((zI M2 a0 13) + (1 : Int32))) fun M3 =>
      zif ((zK M3 a0).1 = 11)
      (some (some (.int (zI M3 a0 13)), M3))))))))
    else some (some (.int (-3 : Int32)), M1)))
  else some (some (.int (-1 : Int32)), M1)
set_option maxRecDepth 20000 in
theorem ze_Mo_feed (d : Nat) (a0 : Nat) (x1 : Int32) (M : zM) : zV (d + 1) n_Mo_feed [.ref a0, .int x1] M = zx_Mo_feed (zV d) (zG d n_Mo_feed) a0 x1 M := by
  refine (zE_sg (m := zm_Mo_feed) rfl 400 _ rfl M).trans ?_
  show zw true zm_Mo_feed (zV d) (zG d n_Mo_feed) 400 0 [some (.ref a0), some (.int x1)] [] M = _
  unfold zx_Mo_feed
  refine zw_iload_n (p := 1) (Or.inl rfl) rfl rfl rfl ?_
  refine zw_i2l (p := 2) (Or.inr rfl) rfl rfl ?_
  refine zw_lconst (p := 3) (x := (0 : Int64)) (Or.inr rfl) rfl rfl rfl ?_
  refine zw_ldc2_w (p := 6) (x := (127 : Int64)) (Or.inr rfl) rfl rfl rfl ?_
  refine zw_staticI (p := 9) (as := [.long (Int32.toInt64 x1), .long (0 : Int64), .long (127 : Int64)]) (rest := []) (Or.inr rfl) rfl rfl rfl rfl rfl rfl (fun u1 M1 => ?_)
  refine zw_if_ne (t := 14) (p := 12) (Or.inr rfl) rfl rfl rfl ?_ ?_
  · refine zw_aload_n (p := 15) (Or.inr rfl) rfl rfl rfl ?_
    refine zw_get_int (p := 18) (Or.inr rfl) rfl rfl ?_
    refine zw_sipush (p := 21) (x := (200 : Int32)) (Or.inr rfl) rfl rfl rfl ?_
    refine zw_icmp_ne (t := 27) (p := 24) (Or.inr rfl) rfl rfl rfl ?_ ?_
    · refine zw_aload_n (p := 28) (Or.inr rfl) rfl rfl rfl ?_
      refine zw_get_ref (p := 31) (Or.inr rfl) rfl rfl (fun q1 => ?_)
      refine zw_aload_n (p := 32) (Or.inr rfl) rfl rfl rfl ?_
      refine zw_get_int (p := 35) (Or.inr rfl) rfl rfl ?_
      refine zw_iload_n (p := 36) (Or.inr rfl) rfl rfl rfl ?_
      refine zw_iastore (p := 37) (Or.inr rfl) rfl rfl (fun M2 => ?_)
      refine zw_aload_n (p := 38) (Or.inr rfl) rfl rfl rfl ?_
      refine zw_dup_ref (p := 39) (Or.inr rfl) rfl rfl ?_
      refine zw_get_int (p := 42) (Or.inr rfl) rfl rfl ?_
      refine zw_iconst (p := 43) (x := (1 : Int32)) (Or.inr rfl) rfl rfl rfl ?_
      refine zw_iadd (p := 44) (Or.inr rfl) rfl rfl ?_
      refine zw_put_int (p := 47) (Or.inr rfl) rfl rfl (fun M3 => ?_)
      refine zw_aload_n (p := 48) (Or.inr rfl) rfl rfl rfl ?_
      refine zw_get_int (p := 51) (Or.inr rfl) rfl rfl ?_
      exact zw_ireturn1 (Or.inr rfl) rfl rfl
    refine zw_bipush (p := 26) (x := (-3 : Int32)) (Or.inr rfl) rfl rfl rfl ?_
    exact zw_ireturn1 (Or.inr rfl) rfl rfl
  refine zw_iconst (p := 13) (x := (-1 : Int32)) (Or.inr rfl) rfl rfl rfl ?_
  exact zw_ireturn1 (Or.inr rfl) rfl rfl
def zx_Mo_end (E : zE0) (K : zKt) (a0 : Nat) (x1 : Int32) (M : zM) : zO :=
  zif ((zK M a0).1 = 11)
  (zbI (E n_Mo_in [.long (Int32.toInt64 x1), .long (0 : Int64), .long (Int32.toInt64 (zI M a0 13))] M) fun u1 M1 =>
  if u1 ≠ 0 then (zif ((zK M1 a0).1 = 11)
    (zbi (zI M1 a0 13) fun u2 =>
    zif ((zK M1 a0).1 = 11)
    (zbm (zsI M1 a0 13 x1) fun M2 =>
    some (some (.int u2), M2))))
  else some (some (.int (-1 : Int32)), M1))
set_option maxRecDepth 20000 in
theorem ze_Mo_end (d : Nat) (a0 : Nat) (x1 : Int32) (M : zM) : zV (d + 1) n_Mo_end [.ref a0, .int x1] M = zx_Mo_end (zV d) (zG d n_Mo_end) a0 x1 M := by
  refine (zE_sg (m := zm_Mo_end) rfl 400 _ rfl M).trans ?_
  show zw true zm_Mo_end (zV d) (zG d n_Mo_end) 400 0 [some (.ref a0), some (.int x1), none] [] M = _
  unfold zx_Mo_end
  refine zw_iload_n (p := 1) (Or.inl rfl) rfl rfl rfl ?_
  refine zw_i2l (p := 2) (Or.inr rfl) rfl rfl ?_
  refine zw_lconst (p := 3) (x := (0 : Int64)) (Or.inr rfl) rfl rfl rfl ?_
  refine zw_aload_n (p := 4) (Or.inr rfl) rfl rfl rfl ?_
  refine zw_get_int (p := 7) (Or.inr rfl) rfl rfl ?_
  refine zw_i2l (p := 8) (Or.inr rfl) rfl rfl ?_
  refine zw_staticI (p := 11) (as := [.long (Int32.toInt64 x1), .long (0 : Int64), .long (Int32.toInt64 (zI M a0 13))]) (rest := []) (Or.inr rfl) rfl rfl rfl rfl rfl rfl (fun u1 M1 => ?_)
  refine zw_if_ne (t := 16) (p := 14) (Or.inr rfl) rfl rfl rfl ?_ ?_
  · refine zw_aload_n (p := 17) (Or.inr rfl) rfl rfl rfl ?_
    refine zw_get_int (p := 20) (Or.inr rfl) rfl rfl ?_
    refine zw_istore_nN (p := 21) (L2 := fun u2 => [some (.ref a0), some (.int x1), some (.int u2)]) (Or.inr rfl) rfl rfl (fun _ => rfl) rfl (fun u2 => ?_)
    refine zw_aload_n (p := 22) (Or.inr rfl) rfl rfl rfl ?_
    refine zw_iload_n (p := 23) (Or.inr rfl) rfl rfl rfl ?_
    refine zw_put_int (p := 26) (Or.inr rfl) rfl rfl (fun M2 => ?_)
    refine zw_iload_n (p := 27) (Or.inr rfl) rfl rfl rfl ?_
    exact zw_ireturn1 (Or.inr rfl) rfl rfl
  refine zw_iconst (p := 15) (x := (-1 : Int32)) (Or.inr rfl) rfl rfl rfl ?_
  exact zw_ireturn1 (Or.inr rfl) rfl rfl
def zx_Mo_requires (E : zE0) (K : zKt) (a0 : Nat) (x1 : Int32) (x2 : Int32) (M : zM) : zO :=
  if x1 ≠ 0 then (some (none, M))
  else zif ((zK M a0).1 = 11)
  (if (zI M a0 18) ≠ 0 then (some (none, M))
  else zif ((zK M a0).1 = 11)
  (zbm (zsI M a0 18 x2) fun M1 =>
  zif ((zK M1 a0).1 = 11)
  (zif ((zK M1 a0).1 = 11)
  (zbm (zsI M1 a0 19 (zI M1 a0 15)) fun M2 =>
  some (none, M2)))))
set_option maxRecDepth 20000 in
theorem ze_Mo_requires (d : Nat) (a0 : Nat) (x1 : Int32) (x2 : Int32) (M : zM) : zV (d + 1) n_Mo_requires [.ref a0, .int x1, .int x2] M = zx_Mo_requires (zV d) (zG d n_Mo_requires) a0 x1 x2 M := by
  refine (zE_sg (m := zm_Mo_requires) rfl 400 _ rfl M).trans ?_
  show zw true zm_Mo_requires (zV d) (zG d n_Mo_requires) 400 0 [some (.ref a0), some (.int x1), some (.int x2)] [] M = _
  unfold zx_Mo_requires
  refine zw_iload_n (p := 1) (Or.inl rfl) rfl rfl rfl ?_
  refine zw_if_ne (t := 24) (p := 4) (Or.inr rfl) rfl rfl rfl ?_ ?_
  · exact zw_return (Or.inr rfl) rfl rfl
  refine zw_aload_n (p := 5) (Or.inr rfl) rfl rfl rfl ?_
  refine zw_get_int (p := 8) (Or.inr rfl) rfl rfl ?_
  refine zw_if_ne (t := 24) (p := 11) (Or.inr rfl) rfl rfl rfl ?_ ?_
  · exact zw_return (Or.inr rfl) rfl rfl
  refine zw_aload_n (p := 12) (Or.inr rfl) rfl rfl rfl ?_
  refine zw_iload_n (p := 13) (Or.inr rfl) rfl rfl rfl ?_
  refine zw_put_int (p := 16) (Or.inr rfl) rfl rfl (fun M1 => ?_)
  refine zw_aload_n (p := 17) (Or.inr rfl) rfl rfl rfl ?_
  refine zw_aload_n (p := 18) (Or.inr rfl) rfl rfl rfl ?_
  refine zw_get_int (p := 21) (Or.inr rfl) rfl rfl ?_
  refine zw_put_int (p := 24) (Or.inr rfl) rfl rfl (fun M2 => ?_)
  exact zw_return (Or.inr rfl) rfl rfl
def zx_Mo_byteAt (E : zE0) (K : zKt) (a0 : Nat) (x1 : Int32) (M : zM) : zO :=
  zif ((zK M a0).1 = 11)
  (if (zI M a0 13) ≤ x1 then (some (some (.int (-1 : Int32)), M))
  else zif ((zK M a0).1 = 11)
  (zoR (zR M a0 12) fun q1 =>
  zif (((zK M q1).1 = 20 ∨ (zK M q1).1 = 24) ∧ zin x1 (zK M q1).2 = true)
  (some (some (.int (zI M q1 (Int32.toNatClampNeg x1))), M))))
set_option maxRecDepth 20000 in
theorem ze_Mo_byteAt (d : Nat) (a0 : Nat) (x1 : Int32) (M : zM) : zV (d + 1) n_Mo_byteAt [.ref a0, .int x1] M = zx_Mo_byteAt (zV d) (zG d n_Mo_byteAt) a0 x1 M := by
  refine (zE_sg (m := zm_Mo_byteAt) rfl 400 _ rfl M).trans ?_
  show zw true zm_Mo_byteAt (zV d) (zG d n_Mo_byteAt) 400 0 [some (.ref a0), some (.int x1)] [] M = _
  unfold zx_Mo_byteAt
  refine zw_iload_n (p := 1) (Or.inl rfl) rfl rfl rfl ?_
  refine zw_aload_n (p := 2) (Or.inr rfl) rfl rfl rfl ?_
  refine zw_get_int (p := 5) (Or.inr rfl) rfl rfl ?_
  refine zw_icmp_ge (t := 17) (p := 8) (Or.inr rfl) rfl rfl rfl ?_ ?_
  · refine zw_iconst (p := 18) (x := (-1 : Int32)) (Or.inr rfl) rfl rfl rfl ?_
    exact zw_ireturn1 (Or.inr rfl) rfl rfl
  refine zw_aload_n (p := 9) (Or.inr rfl) rfl rfl rfl ?_
  refine zw_get_ref (p := 12) (Or.inr rfl) rfl rfl (fun q1 => ?_)
  refine zw_iload_n (p := 13) (Or.inr rfl) rfl rfl rfl ?_
  refine zw_iaload (p := 14) (Or.inr rfl) rfl rfl ?_
  refine zw_goto (t := 18) (Or.inr rfl) rfl rfl ?_
  exact zw_ireturn1 (Or.inr rfl) rfl rfl
def zx_Mo_isSignByte (E : zE0) (K : zKt) (x0 : Int32) (M : zM) : zO :=
  if x0 = (33 : Int32) then (zif ((1 : Int32) = 0 ∨ (1 : Int32) = 1) (some (some (.int (1 : Int32)), M)))
  else if x0 = (38 : Int32) then (zif ((1 : Int32) = 0 ∨ (1 : Int32) = 1) (some (some (.int (1 : Int32)), M)))
  else if x0 = (124 : Int32) then (zif ((1 : Int32) = 0 ∨ (1 : Int32) = 1) (some (some (.int (1 : Int32)), M)))
  else if x0 = (40 : Int32) then (zif ((1 : Int32) = 0 ∨ (1 : Int32) = 1) (some (some (.int (1 : Int32)), M)))
  else if x0 = (41 : Int32) then (zif ((1 : Int32) = 0 ∨ (1 : Int32) = 1) (some (some (.int (1 : Int32)), M)))
  else if x0 = (123 : Int32) then (zif ((1 : Int32) = 0 ∨ (1 : Int32) = 1) (some (some (.int (1 : Int32)), M)))
  else if x0 = (125 : Int32) then (zif ((1 : Int32) = 0 ∨ (1 : Int32) = 1) (some (some (.int (1 : Int32)), M)))
  else if x0 = (44 : Int32) then (zif ((1 : Int32) = 0 ∨ (1 : Int32) = 1) (some (some (.int (1 : Int32)), M)))
  else if x0 = (47 : Int32) then (zif ((1 : Int32) = 0 ∨ (1 : Int32) = 1) (some (some (.int (1 : Int32)), M)))
  else if x0 = (42 : Int32) then (zif ((1 : Int32) = 0 ∨ (1 : Int32) = 1) (some (some (.int (1 : Int32)), M)))
  else if x0 = (61 : Int32) then (zif ((1 : Int32) = 0 ∨ (1 : Int32) = 1) (some (some (.int (1 : Int32)), M)))
  else if x0 = (62 : Int32) then (zif ((1 : Int32) = 0 ∨ (1 : Int32) = 1) (some (some (.int (1 : Int32)), M)))
  else if x0 = (126 : Int32) then (zif ((1 : Int32) = 0 ∨ (1 : Int32) = 1) (some (some (.int (1 : Int32)), M)))
  else if x0 ≠ (59 : Int32) then (zif ((0 : Int32) = 0 ∨ (0 : Int32) = 1) (some (some (.int (0 : Int32)), M)))
  else zif ((1 : Int32) = 0 ∨ (1 : Int32) = 1) (some (some (.int (1 : Int32)), M))
set_option maxRecDepth 20000 in
theorem ze_Mo_isSignByte (d : Nat) (x0 : Int32) (M : zM) : zV (d + 1) n_Mo_isSignByte [.int x0] M = zx_Mo_isSignByte (zV d) (zG d n_Mo_isSignByte) x0 M := by
  refine (zE_sg (m := zm_Mo_isSignByte) rfl 400 _ rfl M).trans ?_
  show zw true zm_Mo_isSignByte (zV d) (zG d n_Mo_isSignByte) 400 0 [some (.int x0)] [] M = _
  unfold zx_Mo_isSignByte
  refine zw_iload_n (p := 1) (Or.inl rfl) rfl rfl rfl ?_
  refine zw_bipush (p := 3) (x := (33 : Int32)) (Or.inr rfl) rfl rfl rfl ?_
  refine zw_icmp_eq (t := 84) (p := 6) (Or.inr rfl) rfl rfl rfl ?_ ?_
  · refine zw_iconst (p := 85) (x := (1 : Int32)) (Or.inr rfl) rfl rfl rfl ?_
    refine zw_goto (t := 89) (Or.inr rfl) rfl rfl ?_
    exact zw_ireturn2 (Or.inr rfl) rfl rfl
  refine zw_iload_n (p := 7) (Or.inr rfl) rfl rfl rfl ?_
  refine zw_bipush (p := 9) (x := (38 : Int32)) (Or.inr rfl) rfl rfl rfl ?_
  refine zw_icmp_eq (t := 84) (p := 12) (Or.inr rfl) rfl rfl rfl ?_ ?_
  · refine zw_iconst (p := 85) (x := (1 : Int32)) (Or.inr rfl) rfl rfl rfl ?_
    refine zw_goto (t := 89) (Or.inr rfl) rfl rfl ?_
    exact zw_ireturn2 (Or.inr rfl) rfl rfl
  refine zw_iload_n (p := 13) (Or.inr rfl) rfl rfl rfl ?_
  refine zw_bipush (p := 15) (x := (124 : Int32)) (Or.inr rfl) rfl rfl rfl ?_
  refine zw_icmp_eq (t := 84) (p := 18) (Or.inr rfl) rfl rfl rfl ?_ ?_
  · refine zw_iconst (p := 85) (x := (1 : Int32)) (Or.inr rfl) rfl rfl rfl ?_
    refine zw_goto (t := 89) (Or.inr rfl) rfl rfl ?_
    exact zw_ireturn2 (Or.inr rfl) rfl rfl
  refine zw_iload_n (p := 19) (Or.inr rfl) rfl rfl rfl ?_
  refine zw_bipush (p := 21) (x := (40 : Int32)) (Or.inr rfl) rfl rfl rfl ?_
  refine zw_icmp_eq (t := 84) (p := 24) (Or.inr rfl) rfl rfl rfl ?_ ?_
  · refine zw_iconst (p := 85) (x := (1 : Int32)) (Or.inr rfl) rfl rfl rfl ?_
    refine zw_goto (t := 89) (Or.inr rfl) rfl rfl ?_
    exact zw_ireturn2 (Or.inr rfl) rfl rfl
  refine zw_iload_n (p := 25) (Or.inr rfl) rfl rfl rfl ?_
  refine zw_bipush (p := 27) (x := (41 : Int32)) (Or.inr rfl) rfl rfl rfl ?_
  refine zw_icmp_eq (t := 84) (p := 30) (Or.inr rfl) rfl rfl rfl ?_ ?_
  · refine zw_iconst (p := 85) (x := (1 : Int32)) (Or.inr rfl) rfl rfl rfl ?_
    refine zw_goto (t := 89) (Or.inr rfl) rfl rfl ?_
    exact zw_ireturn2 (Or.inr rfl) rfl rfl
  refine zw_iload_n (p := 31) (Or.inr rfl) rfl rfl rfl ?_
  refine zw_bipush (p := 33) (x := (123 : Int32)) (Or.inr rfl) rfl rfl rfl ?_
  refine zw_icmp_eq (t := 84) (p := 36) (Or.inr rfl) rfl rfl rfl ?_ ?_
  · refine zw_iconst (p := 85) (x := (1 : Int32)) (Or.inr rfl) rfl rfl rfl ?_
    refine zw_goto (t := 89) (Or.inr rfl) rfl rfl ?_
    exact zw_ireturn2 (Or.inr rfl) rfl rfl
  refine zw_iload_n (p := 37) (Or.inr rfl) rfl rfl rfl ?_
  refine zw_bipush (p := 39) (x := (125 : Int32)) (Or.inr rfl) rfl rfl rfl ?_
  refine zw_icmp_eq (t := 84) (p := 42) (Or.inr rfl) rfl rfl rfl ?_ ?_
  · refine zw_iconst (p := 85) (x := (1 : Int32)) (Or.inr rfl) rfl rfl rfl ?_
    refine zw_goto (t := 89) (Or.inr rfl) rfl rfl ?_
    exact zw_ireturn2 (Or.inr rfl) rfl rfl
  refine zw_iload_n (p := 43) (Or.inr rfl) rfl rfl rfl ?_
  refine zw_bipush (p := 45) (x := (44 : Int32)) (Or.inr rfl) rfl rfl rfl ?_
  refine zw_icmp_eq (t := 84) (p := 48) (Or.inr rfl) rfl rfl rfl ?_ ?_
  · refine zw_iconst (p := 85) (x := (1 : Int32)) (Or.inr rfl) rfl rfl rfl ?_
    refine zw_goto (t := 89) (Or.inr rfl) rfl rfl ?_
    exact zw_ireturn2 (Or.inr rfl) rfl rfl
  refine zw_iload_n (p := 49) (Or.inr rfl) rfl rfl rfl ?_
  refine zw_bipush (p := 51) (x := (47 : Int32)) (Or.inr rfl) rfl rfl rfl ?_
  refine zw_icmp_eq (t := 84) (p := 54) (Or.inr rfl) rfl rfl rfl ?_ ?_
  · refine zw_iconst (p := 85) (x := (1 : Int32)) (Or.inr rfl) rfl rfl rfl ?_
    refine zw_goto (t := 89) (Or.inr rfl) rfl rfl ?_
    exact zw_ireturn2 (Or.inr rfl) rfl rfl
  refine zw_iload_n (p := 55) (Or.inr rfl) rfl rfl rfl ?_
  refine zw_bipush (p := 57) (x := (42 : Int32)) (Or.inr rfl) rfl rfl rfl ?_
  refine zw_icmp_eq (t := 84) (p := 60) (Or.inr rfl) rfl rfl rfl ?_ ?_
  · refine zw_iconst (p := 85) (x := (1 : Int32)) (Or.inr rfl) rfl rfl rfl ?_
    refine zw_goto (t := 89) (Or.inr rfl) rfl rfl ?_
    exact zw_ireturn2 (Or.inr rfl) rfl rfl
  refine zw_iload_n (p := 61) (Or.inr rfl) rfl rfl rfl ?_
  refine zw_bipush (p := 63) (x := (61 : Int32)) (Or.inr rfl) rfl rfl rfl ?_
  refine zw_icmp_eq (t := 84) (p := 66) (Or.inr rfl) rfl rfl rfl ?_ ?_
  · refine zw_iconst (p := 85) (x := (1 : Int32)) (Or.inr rfl) rfl rfl rfl ?_
    refine zw_goto (t := 89) (Or.inr rfl) rfl rfl ?_
    exact zw_ireturn2 (Or.inr rfl) rfl rfl
  refine zw_iload_n (p := 67) (Or.inr rfl) rfl rfl rfl ?_
  refine zw_bipush (p := 69) (x := (62 : Int32)) (Or.inr rfl) rfl rfl rfl ?_
  refine zw_icmp_eq (t := 84) (p := 72) (Or.inr rfl) rfl rfl rfl ?_ ?_
  · refine zw_iconst (p := 85) (x := (1 : Int32)) (Or.inr rfl) rfl rfl rfl ?_
    refine zw_goto (t := 89) (Or.inr rfl) rfl rfl ?_
    exact zw_ireturn2 (Or.inr rfl) rfl rfl
  refine zw_iload_n (p := 73) (Or.inr rfl) rfl rfl rfl ?_
  refine zw_bipush (p := 75) (x := (126 : Int32)) (Or.inr rfl) rfl rfl rfl ?_
  refine zw_icmp_eq (t := 84) (p := 78) (Or.inr rfl) rfl rfl rfl ?_ ?_
  · refine zw_iconst (p := 85) (x := (1 : Int32)) (Or.inr rfl) rfl rfl rfl ?_
    refine zw_goto (t := 89) (Or.inr rfl) rfl rfl ?_
    exact zw_ireturn2 (Or.inr rfl) rfl rfl
  refine zw_iload_n (p := 79) (Or.inr rfl) rfl rfl rfl ?_
  refine zw_bipush (p := 81) (x := (59 : Int32)) (Or.inr rfl) rfl rfl rfl ?_
  refine zw_icmp_ne (t := 88) (p := 84) (Or.inr rfl) rfl rfl rfl ?_ ?_
  · refine zw_iconst (p := 89) (x := (0 : Int32)) (Or.inr rfl) rfl rfl rfl ?_
    exact zw_ireturn2 (Or.inr rfl) rfl rfl
  refine zw_iconst (p := 85) (x := (1 : Int32)) (Or.inr rfl) rfl rfl rfl ?_
  refine zw_goto (t := 89) (Or.inr rfl) rfl rfl ?_
  exact zw_ireturn2 (Or.inr rfl) rfl rfl
def zx_Mo_reads (E : zE0) (K : zKt) (a0 : Nat) (M : zM) : zO :=
  zif ((zK M a0).1 = 11)
  (if (zI M a0 18) ≤ 0 then (K 8 [some (.ref a0), none] [] M)
  else some (none, M))
set_option maxRecDepth 20000 in
theorem ze_Mo_reads (d : Nat) (a0 : Nat) (M : zM) : zV (d + 1) n_Mo_reads [.ref a0] M = zx_Mo_reads (zV d) (zG d n_Mo_reads) a0 M := by
  refine (zE_sg (m := zm_Mo_reads) rfl 400 _ rfl M).trans ?_
  show zw true zm_Mo_reads (zV d) (zG d n_Mo_reads) 400 0 [some (.ref a0), none] [] M = _
  unfold zx_Mo_reads
  refine zw_aload_n (p := 1) (Or.inl rfl) rfl rfl rfl ?_
  refine zw_get_int (p := 4) (Or.inr rfl) rfl rfl ?_
  refine zw_if_le (t := 8) (p := 7) (Or.inr rfl) rfl rfl rfl ?_ ?_
  · exact zw_end rfl rfl
  exact zw_return (Or.inr rfl) rfl rfl
def zx_Mo_reads_8 (E : zE0) (K : zKt) (a0 : Nat) (M : zM) : zO :=
  zif ((zK M a0).1 = 11)
  (zif ((zK M a0).1 = 11)
  (zbI (E n_Mo_byteAt [.ref a0, .int (zI M a0 14)] M) fun u1 M1 =>
  if u1 ≠ (32 : Int32) then (zif ((zK M1 a0).1 = 11)
    (zif ((zK M1 a0).1 = 11)
    (zbm (zsI M1 a0 15 (zI M1 a0 14)) fun M2 =>
    zif ((zK M2 a0).1 = 11)
    (zif ((zK M2 a0).1 = 11)
    (zbI (E n_Mo_byteAt [.ref a0, .int (zI M2 a0 14)] M2) fun u2 M3 =>
    if 0 ≤ u2 then (zbI (E n_Mo_in [.long (Int32.toInt64 u2), .long (48 : Int64), .long (57 : Int64)] M3) fun u3 M4 =>
      if u3 = 0 then (zbI (E n_Mo_in [.long (Int32.toInt64 u2), .long (97 : Int64), .long (104 : Int64)] M4) fun u4 M5 =>
        if u4 = 0 then (K 210 [some (.ref a0), some (.int u2)] [.int (3 : Int32), .ref a0] M5)
        else K 210 [some (.ref a0), some (.int u2)] [.int (1 : Int32), .ref a0] M5)
      else zif ((zK M4 a0).1 = 11)
      (zbm (zsI M4 a0 16 (2 : Int32)) fun M6 =>
      zif ((zK M6 a0).1 = 11)
      (zbm (zsI M6 a0 17 (0 : Int32)) fun M7 =>
      K 87 [some (.ref a0), none] [] M7)))
    else zif ((zK M3 a0).1 = 11)
    (zbm (zsI M3 a0 16 (0 : Int32)) fun M8 =>
    some (none, M8)))))))
  else zif ((zK M1 a0).1 = 11)
  (zif ((zK M1 a0).1 = 11)
  (zbm (zsI M1 a0 14 ((zI M1 a0 14) + (1 : Int32))) fun M9 =>
  K 8 [some (.ref a0), none] [] M9))))
set_option maxRecDepth 20000 in
theorem zg_Mo_reads_8 (d : Nat) (a0 : Nat) (M : zM) : zG d n_Mo_reads 8 [some (.ref a0), none] [] M = zx_Mo_reads_8 (zV d) (zG d n_Mo_reads) a0 M := by
  refine (zG_sg (m := zm_Mo_reads) rfl 400 _ _ _ M).trans ?_
  show zw true zm_Mo_reads (zV d) (zG d n_Mo_reads) 400 8 [some (.ref a0), none] [] M = _
  unfold zx_Mo_reads_8
  refine zw_aload_n (p := 9) (Or.inl rfl) rfl rfl rfl ?_
  refine zw_aload_n (p := 10) (Or.inr rfl) rfl rfl rfl ?_
  refine zw_get_int (p := 13) (Or.inr rfl) rfl rfl ?_
  refine zw_virtualI (p := 16) (as := [.ref a0, .int (zI M a0 14)]) (rest := []) (Or.inr rfl) rfl rfl rfl rfl rfl rfl rfl (fun u1 M1 => ?_)
  refine zw_bipush (p := 18) (x := (32 : Int32)) (Or.inr rfl) rfl rfl rfl ?_
  refine zw_icmp_ne (t := 34) (p := 21) (Or.inr rfl) rfl rfl rfl ?_ ?_
  · refine zw_aload_n (p := 35) (Or.inr rfl) rfl rfl rfl ?_
    refine zw_aload_n (p := 36) (Or.inr rfl) rfl rfl rfl ?_
    refine zw_get_int (p := 39) (Or.inr rfl) rfl rfl ?_
    refine zw_put_int (p := 42) (Or.inr rfl) rfl rfl (fun M2 => ?_)
    refine zw_aload_n (p := 43) (Or.inr rfl) rfl rfl rfl ?_
    refine zw_aload_n (p := 44) (Or.inr rfl) rfl rfl rfl ?_
    refine zw_get_int (p := 47) (Or.inr rfl) rfl rfl ?_
    refine zw_virtualI (p := 50) (as := [.ref a0, .int (zI M2 a0 14)]) (rest := []) (Or.inr rfl) rfl rfl rfl rfl rfl rfl rfl (fun u2 M3 => ?_)
    refine zw_istore_n (p := 51) (l2 := [some (.ref a0), some (.int u2)]) (Or.inr rfl) rfl rfl rfl rfl ?_
    refine zw_iload_n (p := 52) (Or.inr rfl) rfl rfl rfl ?_
    refine zw_if_ge (t := 63) (p := 55) (Or.inr rfl) rfl rfl rfl ?_ ?_
    · refine zw_iload_n (p := 64) (Or.inr rfl) rfl rfl rfl ?_
      refine zw_i2l (p := 65) (Or.inr rfl) rfl rfl ?_
      refine zw_ldc2_w (p := 68) (x := (48 : Int64)) (Or.inr rfl) rfl rfl rfl ?_
      refine zw_ldc2_w (p := 71) (x := (57 : Int64)) (Or.inr rfl) rfl rfl rfl ?_
      refine zw_staticI (p := 74) (as := [.long (Int32.toInt64 u2), .long (48 : Int64), .long (57 : Int64)]) (rest := []) (Or.inr rfl) rfl rfl rfl rfl rfl rfl (fun u3 M4 => ?_)
      refine zw_if_eq (t := 190) (p := 77) (Or.inr rfl) rfl rfl rfl ?_ ?_
      · refine zw_aload_n (p := 191) (Or.inr rfl) rfl rfl rfl ?_
        refine zw_iload_n (p := 192) (Or.inr rfl) rfl rfl rfl ?_
        refine zw_i2l (p := 193) (Or.inr rfl) rfl rfl ?_
        refine zw_ldc2_w (p := 196) (x := (97 : Int64)) (Or.inr rfl) rfl rfl rfl ?_
        refine zw_ldc2_w (p := 199) (x := (104 : Int64)) (Or.inr rfl) rfl rfl rfl ?_
        refine zw_staticI (p := 202) (as := [.long (Int32.toInt64 u2), .long (97 : Int64), .long (104 : Int64)]) (rest := [.ref a0]) (Or.inr rfl) rfl rfl rfl rfl rfl rfl (fun u4 M5 => ?_)
        refine zw_if_eq (t := 209) (p := 205) (Or.inr rfl) rfl rfl rfl ?_ ?_
        · refine zw_iconst (p := 210) (x := (3 : Int32)) (Or.inr rfl) rfl rfl rfl ?_
          exact zw_end rfl rfl
        refine zw_iconst (p := 206) (x := (1 : Int32)) (Or.inr rfl) rfl rfl rfl ?_
        refine zw_goto (t := 210) (Or.inr rfl) rfl rfl ?_
        exact zw_end rfl rfl
      refine zw_aload_n (p := 78) (Or.inr rfl) rfl rfl rfl ?_
      refine zw_iconst (p := 79) (x := (2 : Int32)) (Or.inr rfl) rfl rfl rfl ?_
      refine zw_put_int (p := 82) (Or.inr rfl) rfl rfl (fun M6 => ?_)
      refine zw_aload_n (p := 83) (Or.inr rfl) rfl rfl rfl ?_
      refine zw_iconst (p := 84) (x := (0 : Int32)) (Or.inr rfl) rfl rfl rfl ?_
      refine zw_put_int (p := 87) (Or.inr rfl) rfl rfl (fun M7 => ?_)
      exact zw_end rfl rfl
    refine zw_aload_n (p := 56) (Or.inr rfl) rfl rfl rfl ?_
    refine zw_iconst (p := 57) (x := (0 : Int32)) (Or.inr rfl) rfl rfl rfl ?_
    refine zw_put_int (p := 60) (Or.inr rfl) rfl rfl (fun M8 => ?_)
    refine zw_goto (t := 248) (Or.inr rfl) rfl rfl ?_
    exact zw_return (Or.inr rfl) rfl rfl
  refine zw_aload_n (p := 22) (Or.inr rfl) rfl rfl rfl ?_
  refine zw_dup_ref (p := 23) (Or.inr rfl) rfl rfl ?_
  refine zw_get_int (p := 26) (Or.inr rfl) rfl rfl ?_
  refine zw_iconst (p := 27) (x := (1 : Int32)) (Or.inr rfl) rfl rfl rfl ?_
  refine zw_iadd (p := 28) (Or.inr rfl) rfl rfl ?_
  refine zw_put_int (p := 31) (Or.inr rfl) rfl rfl (fun M9 => ?_)
  refine zw_goto (t := 8) (Or.inr rfl) rfl rfl ?_
  exact zw_end rfl rfl
def zx_Mo_reads_210 (E : zE0) (K : zKt) (a0 : Nat) (x1 : Int32) (s0 : Int32) (s1 : Nat) (M : zM) : zO :=
  zif ((zK M s1).1 = 11)
  (zbm (zsI M s1 16 s0) fun M1 =>
  zif ((zK M1 a0).1 = 11)
  (if (zI M1 a0 16) = (1 : Int32) then (zif ((zK M1 a0).1 = 11)
    (zbV (E n_Mo_requires [.ref a0, .int (1 : Int32), .int (1 : Int32)] M1) fun M2 =>
    zif ((zK M2 a0).1 = 11)
    (zif ((zK M2 a0).1 = 11)
    (zbm (zsI M2 a0 14 ((zI M2 a0 14) + (1 : Int32))) fun M3 =>
    some (none, M3)))))
  else zbI (E n_Mo_isSignByte [.int x1] M1) fun u1 M4 =>
  if u1 = 0 then (zif ((zK M4 a0).1 = 11)
    (zbV (E n_Mo_requires [.ref a0, .int (0 : Int32), .int (1 : Int32)] M4) fun M5 =>
    zif ((zK M5 a0).1 = 11)
    (zif ((zK M5 a0).1 = 11)
    (zbm (zsI M5 a0 14 ((zI M5 a0 14) + (1 : Int32))) fun M6 =>
    some (none, M6)))))
  else zif ((zK M4 a0).1 = 11)
  (zbV (E n_Mo_requires [.ref a0, .int (1 : Int32), .int (1 : Int32)] M4) fun M7 =>
  zif ((zK M7 a0).1 = 11)
  (zif ((zK M7 a0).1 = 11)
  (zbm (zsI M7 a0 14 ((zI M7 a0 14) + (1 : Int32))) fun M8 =>
  some (none, M8))))))
set_option maxRecDepth 20000 in
theorem zg_Mo_reads_210 (d : Nat) (a0 : Nat) (x1 : Int32) (s0 : Int32) (s1 : Nat) (M : zM) : zG d n_Mo_reads 210 [some (.ref a0), some (.int x1)] [.int s0, .ref s1] M = zx_Mo_reads_210 (zV d) (zG d n_Mo_reads) a0 x1 s0 s1 M := by
  refine (zG_sg (m := zm_Mo_reads) rfl 400 _ _ _ M).trans ?_
  show zw true zm_Mo_reads (zV d) (zG d n_Mo_reads) 400 210 [some (.ref a0), some (.int x1)] [.int s0, .ref s1] M = _
  unfold zx_Mo_reads_210
  refine zw_put_int (p := 213) (Or.inl rfl) rfl rfl (fun M1 => ?_)
  refine zw_aload_n (p := 214) (Or.inr rfl) rfl rfl rfl ?_
  refine zw_aload_n (p := 215) (Or.inr rfl) rfl rfl rfl ?_
  refine zw_get_int (p := 218) (Or.inr rfl) rfl rfl ?_
  refine zw_iconst (p := 219) (x := (1 : Int32)) (Or.inr rfl) rfl rfl rfl ?_
  refine zw_icmp_eq (t := 229) (p := 222) (Or.inr rfl) rfl rfl rfl ?_ ?_
  · refine zw_iconst (p := 230) (x := (1 : Int32)) (Or.inr rfl) rfl rfl rfl ?_
    refine zw_goto (t := 234) (Or.inr rfl) rfl rfl ?_
    refine zw_iconst (p := 235) (x := (1 : Int32)) (Or.inr rfl) rfl rfl rfl ?_
    refine zw_virtualV (p := 238) (as := [.ref a0, .int (1 : Int32), .int (1 : Int32)]) (rest := []) (Or.inr rfl) rfl rfl rfl rfl rfl rfl rfl (fun M2 => ?_)
    refine zw_aload_n (p := 239) (Or.inr rfl) rfl rfl rfl ?_
    refine zw_dup_ref (p := 240) (Or.inr rfl) rfl rfl ?_
    refine zw_get_int (p := 243) (Or.inr rfl) rfl rfl ?_
    refine zw_iconst (p := 244) (x := (1 : Int32)) (Or.inr rfl) rfl rfl rfl ?_
    refine zw_iadd (p := 245) (Or.inr rfl) rfl rfl ?_
    refine zw_put_int (p := 248) (Or.inr rfl) rfl rfl (fun M3 => ?_)
    exact zw_return (Or.inr rfl) rfl rfl
  refine zw_iload_n (p := 223) (Or.inr rfl) rfl rfl rfl ?_
  refine zw_staticI (p := 226) (as := [.int x1]) (rest := [.ref a0]) (Or.inr rfl) rfl rfl rfl rfl rfl rfl (fun u1 M4 => ?_)
  refine zw_if_eq (t := 233) (p := 229) (Or.inr rfl) rfl rfl rfl ?_ ?_
  · refine zw_iconst (p := 234) (x := (0 : Int32)) (Or.inr rfl) rfl rfl rfl ?_
    refine zw_iconst (p := 235) (x := (1 : Int32)) (Or.inr rfl) rfl rfl rfl ?_
    refine zw_virtualV (p := 238) (as := [.ref a0, .int (0 : Int32), .int (1 : Int32)]) (rest := []) (Or.inr rfl) rfl rfl rfl rfl rfl rfl rfl (fun M5 => ?_)
    refine zw_aload_n (p := 239) (Or.inr rfl) rfl rfl rfl ?_
    refine zw_dup_ref (p := 240) (Or.inr rfl) rfl rfl ?_
    refine zw_get_int (p := 243) (Or.inr rfl) rfl rfl ?_
    refine zw_iconst (p := 244) (x := (1 : Int32)) (Or.inr rfl) rfl rfl rfl ?_
    refine zw_iadd (p := 245) (Or.inr rfl) rfl rfl ?_
    refine zw_put_int (p := 248) (Or.inr rfl) rfl rfl (fun M6 => ?_)
    exact zw_return (Or.inr rfl) rfl rfl
  refine zw_iconst (p := 230) (x := (1 : Int32)) (Or.inr rfl) rfl rfl rfl ?_
  refine zw_goto (t := 234) (Or.inr rfl) rfl rfl ?_
  refine zw_iconst (p := 235) (x := (1 : Int32)) (Or.inr rfl) rfl rfl rfl ?_
  refine zw_virtualV (p := 238) (as := [.ref a0, .int (1 : Int32), .int (1 : Int32)]) (rest := []) (Or.inr rfl) rfl rfl rfl rfl rfl rfl rfl (fun M7 => ?_)
  refine zw_aload_n (p := 239) (Or.inr rfl) rfl rfl rfl ?_
  refine zw_dup_ref (p := 240) (Or.inr rfl) rfl rfl ?_
  refine zw_get_int (p := 243) (Or.inr rfl) rfl rfl ?_
  refine zw_iconst (p := 244) (x := (1 : Int32)) (Or.inr rfl) rfl rfl rfl ?_
  refine zw_iadd (p := 245) (Or.inr rfl) rfl rfl ?_
  refine zw_put_int (p := 248) (Or.inr rfl) rfl rfl (fun M8 => ?_)
  exact zw_return (Or.inr rfl) rfl rfl
def zx_Mo_reads_87 (E : zE0) (K : zKt) (a0 : Nat) (M : zM) : zO :=
  zif ((zK M a0).1 = 11)
  (zif ((zK M a0).1 = 11)
  (zbI (E n_Mo_byteAt [.ref a0, .int (zI M a0 14)] M) fun u1 M1 =>
  zbI (E n_Mo_in [.long (Int32.toInt64 u1), .long (48 : Int64), .long (57 : Int64)] M1) fun u2 M2 =>
  if u2 = 0 then (zif ((zK M2 a0).1 = 11)
    (zif ((zK M2 a0).1 = 11)
    (if (2 : Int32) < ((zI M2 a0 14) - (zI M2 a0 15)) then (zif ((zK M2 a0).1 = 11)
      (zbV (E n_Mo_requires [.ref a0, .int (0 : Int32), .int (1 : Int32)] M2) fun M3 =>
      some (none, M3)))
    else zif ((zK M2 a0).1 = 11)
    (zbV (E n_Mo_requires [.ref a0, .int (1 : Int32), .int (1 : Int32)] M2) fun M4 =>
    some (none, M4)))))
  else zif ((zK M2 a0).1 = 11)
  (zif ((zK M2 a0).1 = 11)
  (if (2 : Int32) ≤ ((zI M2 a0 14) - (zI M2 a0 15)) then (zif ((zK M2 a0).1 = 11)
    (zif ((zK M2 a0).1 = 11)
    (zbm (zsI M2 a0 17 (zI M2 a0 17)) fun M5 =>
    zif ((zK M5 a0).1 = 11)
    (zif ((zK M5 a0).1 = 11)
    (zbm (zsI M5 a0 14 ((zI M5 a0 14) + (1 : Int32))) fun M6 =>
    K 87 [some (.ref a0), none] [] M6)))))
  else zif ((zK M2 a0).1 = 11)
  (zif ((zK M2 a0).1 = 11)
  (zif ((zK M2 a0).1 = 11)
  (zbI (E n_Mo_byteAt [.ref a0, .int (zI M2 a0 14)] M2) fun u3 M7 =>
  zif ((zK M7 a0).1 = 11)
  (zbm (zsI M7 a0 17 ((((10 : Int32) * (zI M2 a0 17)) + u3) - (48 : Int32))) fun M8 =>
  zif ((zK M8 a0).1 = 11)
  (zif ((zK M8 a0).1 = 11)
  (zbm (zsI M8 a0 14 ((zI M8 a0 14) + (1 : Int32))) fun M9 =>
  K 87 [some (.ref a0), none] [] M9))))))))))
set_option maxRecDepth 20000 in
theorem zg_Mo_reads_87 (d : Nat) (a0 : Nat) (M : zM) : zG d n_Mo_reads 87 [some (.ref a0), none] [] M = zx_Mo_reads_87 (zV d) (zG d n_Mo_reads) a0 M := by
  refine (zG_sg (m := zm_Mo_reads) rfl 400 _ _ _ M).trans ?_
  show zw true zm_Mo_reads (zV d) (zG d n_Mo_reads) 400 87 [some (.ref a0), none] [] M = _
  unfold zx_Mo_reads_87
  refine zw_aload_n (p := 88) (Or.inl rfl) rfl rfl rfl ?_
  refine zw_aload_n (p := 89) (Or.inr rfl) rfl rfl rfl ?_
  refine zw_get_int (p := 92) (Or.inr rfl) rfl rfl ?_
  refine zw_virtualI (p := 95) (as := [.ref a0, .int (zI M a0 14)]) (rest := []) (Or.inr rfl) rfl rfl rfl rfl rfl rfl rfl (fun u1 M1 => ?_)
  refine zw_i2l (p := 96) (Or.inr rfl) rfl rfl ?_
  refine zw_ldc2_w (p := 99) (x := (48 : Int64)) (Or.inr rfl) rfl rfl rfl ?_
  refine zw_ldc2_w (p := 102) (x := (57 : Int64)) (Or.inr rfl) rfl rfl rfl ?_
  refine zw_staticI (p := 105) (as := [.long (Int32.toInt64 u1), .long (48 : Int64), .long (57 : Int64)]) (rest := []) (Or.inr rfl) rfl rfl rfl rfl rfl rfl (fun u2 M2 => ?_)
  refine zw_if_eq (t := 164) (p := 108) (Or.inr rfl) rfl rfl rfl ?_ ?_
  · refine zw_aload_n (p := 165) (Or.inr rfl) rfl rfl rfl ?_
    refine zw_aload_n (p := 166) (Or.inr rfl) rfl rfl rfl ?_
    refine zw_get_int (p := 169) (Or.inr rfl) rfl rfl ?_
    refine zw_aload_n (p := 170) (Or.inr rfl) rfl rfl rfl ?_
    refine zw_get_int (p := 173) (Or.inr rfl) rfl rfl ?_
    refine zw_isub (p := 174) (Or.inr rfl) rfl rfl ?_
    refine zw_iconst (p := 175) (x := (2 : Int32)) (Or.inr rfl) rfl rfl rfl ?_
    refine zw_icmp_gt (t := 182) (p := 178) (Or.inr rfl) rfl rfl rfl ?_ ?_
    · refine zw_iconst (p := 183) (x := (0 : Int32)) (Or.inr rfl) rfl rfl rfl ?_
      refine zw_iconst (p := 184) (x := (1 : Int32)) (Or.inr rfl) rfl rfl rfl ?_
      refine zw_virtualV (p := 187) (as := [.ref a0, .int (0 : Int32), .int (1 : Int32)]) (rest := []) (Or.inr rfl) rfl rfl rfl rfl rfl rfl rfl (fun M3 => ?_)
      refine zw_goto (t := 248) (Or.inr rfl) rfl rfl ?_
      exact zw_return (Or.inr rfl) rfl rfl
    refine zw_iconst (p := 179) (x := (1 : Int32)) (Or.inr rfl) rfl rfl rfl ?_
    refine zw_goto (t := 183) (Or.inr rfl) rfl rfl ?_
    refine zw_iconst (p := 184) (x := (1 : Int32)) (Or.inr rfl) rfl rfl rfl ?_
    refine zw_virtualV (p := 187) (as := [.ref a0, .int (1 : Int32), .int (1 : Int32)]) (rest := []) (Or.inr rfl) rfl rfl rfl rfl rfl rfl rfl (fun M4 => ?_)
    refine zw_goto (t := 248) (Or.inr rfl) rfl rfl ?_
    exact zw_return (Or.inr rfl) rfl rfl
  refine zw_aload_n (p := 109) (Or.inr rfl) rfl rfl rfl ?_
  refine zw_aload_n (p := 110) (Or.inr rfl) rfl rfl rfl ?_
  refine zw_get_int (p := 113) (Or.inr rfl) rfl rfl ?_
  refine zw_aload_n (p := 114) (Or.inr rfl) rfl rfl rfl ?_
  refine zw_get_int (p := 117) (Or.inr rfl) rfl rfl ?_
  refine zw_isub (p := 118) (Or.inr rfl) rfl rfl ?_
  refine zw_iconst (p := 119) (x := (2 : Int32)) (Or.inr rfl) rfl rfl rfl ?_
  refine zw_icmp_ge (t := 144) (p := 122) (Or.inr rfl) rfl rfl rfl ?_ ?_
  · refine zw_aload_n (p := 145) (Or.inr rfl) rfl rfl rfl ?_
    refine zw_get_int (p := 148) (Or.inr rfl) rfl rfl ?_
    refine zw_put_int (p := 151) (Or.inr rfl) rfl rfl (fun M5 => ?_)
    refine zw_aload_n (p := 152) (Or.inr rfl) rfl rfl rfl ?_
    refine zw_dup_ref (p := 153) (Or.inr rfl) rfl rfl ?_
    refine zw_get_int (p := 156) (Or.inr rfl) rfl rfl ?_
    refine zw_iconst (p := 157) (x := (1 : Int32)) (Or.inr rfl) rfl rfl rfl ?_
    refine zw_iadd (p := 158) (Or.inr rfl) rfl rfl ?_
    refine zw_put_int (p := 161) (Or.inr rfl) rfl rfl (fun M6 => ?_)
    refine zw_goto (t := 87) (Or.inr rfl) rfl rfl ?_
    exact zw_end rfl rfl
  refine zw_bipush (p := 124) (x := (10 : Int32)) (Or.inr rfl) rfl rfl rfl ?_
  refine zw_aload_n (p := 125) (Or.inr rfl) rfl rfl rfl ?_
  refine zw_get_int (p := 128) (Or.inr rfl) rfl rfl ?_
  refine zw_imul (p := 129) (Or.inr rfl) rfl rfl ?_
  refine zw_aload_n (p := 130) (Or.inr rfl) rfl rfl rfl ?_
  refine zw_aload_n (p := 131) (Or.inr rfl) rfl rfl rfl ?_
  refine zw_get_int (p := 134) (Or.inr rfl) rfl rfl ?_
  refine zw_virtualI (p := 137) (as := [.ref a0, .int (zI M2 a0 14)]) (rest := [.int ((10 : Int32) * (zI M2 a0 17)), .ref a0]) (Or.inr rfl) rfl rfl rfl rfl rfl rfl rfl (fun u3 M7 => ?_)
  refine zw_iadd (p := 138) (Or.inr rfl) rfl rfl ?_
  refine zw_bipush (p := 140) (x := (48 : Int32)) (Or.inr rfl) rfl rfl rfl ?_
  refine zw_isub (p := 141) (Or.inr rfl) rfl rfl ?_
  refine zw_goto (t := 148) (Or.inr rfl) rfl rfl ?_
  refine zw_put_int (p := 151) (Or.inr rfl) rfl rfl (fun M8 => ?_)
  refine zw_aload_n (p := 152) (Or.inr rfl) rfl rfl rfl ?_
  refine zw_dup_ref (p := 153) (Or.inr rfl) rfl rfl ?_
  refine zw_get_int (p := 156) (Or.inr rfl) rfl rfl ?_
  refine zw_iconst (p := 157) (x := (1 : Int32)) (Or.inr rfl) rfl rfl rfl ?_
  refine zw_iadd (p := 158) (Or.inr rfl) rfl rfl ?_
  refine zw_put_int (p := 161) (Or.inr rfl) rfl rfl (fun M9 => ?_)
  refine zw_goto (t := 87) (Or.inr rfl) rfl rfl ?_
  exact zw_end rfl rfl
def zx_Mo_isSign (E : zE0) (K : zKt) (a0 : Nat) (x1 : Int32) (M : zM) : zO :=
  zif ((zK M a0).1 = 11)
  (if (zI M a0 18) ≠ 0 then (zif ((0 : Int32) = 0 ∨ (0 : Int32) = 1) (some (some (.int (0 : Int32)), M)))
  else zif ((zK M a0).1 = 11)
  (if (zI M a0 16) ≠ (3 : Int32) then (zif ((0 : Int32) = 0 ∨ (0 : Int32) = 1) (some (some (.int (0 : Int32)), M)))
  else zif ((zK M a0).1 = 11)
  (zif ((zK M a0).1 = 11)
  (zbI (E n_Mo_byteAt [.ref a0, .int (zI M a0 15)] M) fun u1 M1 =>
  if u1 ≠ x1 then (zif ((0 : Int32) = 0 ∨ (0 : Int32) = 1) (some (some (.int (0 : Int32)), M1)))
  else zif ((1 : Int32) = 0 ∨ (1 : Int32) = 1) (some (some (.int (1 : Int32)), M1))))))
set_option maxRecDepth 20000 in
theorem ze_Mo_isSign (d : Nat) (a0 : Nat) (x1 : Int32) (M : zM) : zV (d + 1) n_Mo_isSign [.ref a0, .int x1] M = zx_Mo_isSign (zV d) (zG d n_Mo_isSign) a0 x1 M := by
  refine (zE_sg (m := zm_Mo_isSign) rfl 400 _ rfl M).trans ?_
  show zw true zm_Mo_isSign (zV d) (zG d n_Mo_isSign) 400 0 [some (.ref a0), some (.int x1)] [] M = _
  unfold zx_Mo_isSign
  refine zw_aload_n (p := 1) (Or.inl rfl) rfl rfl rfl ?_
  refine zw_get_int (p := 4) (Or.inr rfl) rfl rfl ?_
  refine zw_if_ne (t := 31) (p := 7) (Or.inr rfl) rfl rfl rfl ?_ ?_
  · refine zw_iconst (p := 32) (x := (0 : Int32)) (Or.inr rfl) rfl rfl rfl ?_
    exact zw_ireturn2 (Or.inr rfl) rfl rfl
  refine zw_aload_n (p := 8) (Or.inr rfl) rfl rfl rfl ?_
  refine zw_get_int (p := 11) (Or.inr rfl) rfl rfl ?_
  refine zw_iconst (p := 12) (x := (3 : Int32)) (Or.inr rfl) rfl rfl rfl ?_
  refine zw_icmp_ne (t := 31) (p := 15) (Or.inr rfl) rfl rfl rfl ?_ ?_
  · refine zw_iconst (p := 32) (x := (0 : Int32)) (Or.inr rfl) rfl rfl rfl ?_
    exact zw_ireturn2 (Or.inr rfl) rfl rfl
  refine zw_aload_n (p := 16) (Or.inr rfl) rfl rfl rfl ?_
  refine zw_aload_n (p := 17) (Or.inr rfl) rfl rfl rfl ?_
  refine zw_get_int (p := 20) (Or.inr rfl) rfl rfl ?_
  refine zw_virtualI (p := 23) (as := [.ref a0, .int (zI M a0 15)]) (rest := []) (Or.inr rfl) rfl rfl rfl rfl rfl rfl rfl (fun u1 M1 => ?_)
  refine zw_iload_n (p := 24) (Or.inr rfl) rfl rfl rfl ?_
  refine zw_icmp_ne (t := 31) (p := 27) (Or.inr rfl) rfl rfl rfl ?_ ?_
  · refine zw_iconst (p := 32) (x := (0 : Int32)) (Or.inr rfl) rfl rfl rfl ?_
    exact zw_ireturn2 (Or.inr rfl) rfl rfl
  refine zw_iconst (p := 28) (x := (1 : Int32)) (Or.inr rfl) rfl rfl rfl ?_
  refine zw_goto (t := 32) (Or.inr rfl) rfl rfl ?_
  exact zw_ireturn2 (Or.inr rfl) rfl rfl
def zx_Mo_readNumber (E : zE0) (K : zKt) (a0 : Nat) (x1 : Int32) (x2 : Int32) (M : zM) : zO :=
  zif ((zK M a0).1 = 11)
  (if (zI M a0 18) ≠ 0 then (K 25 [some (.ref a0), some (.int x1), some (.int x2), none] [] M)
  else zif ((zK M a0).1 = 11)
  (if (zI M a0 16) ≠ (2 : Int32) then (zif ((zK M a0).1 = 11)
    (zbV (E n_Mo_requires [.ref a0, .int (0 : Int32), .int (2 : Int32)] M) fun M1 =>
    K 25 [some (.ref a0), some (.int x1), some (.int x2), none] [] M1))
  else zif ((zK M a0).1 = 11)
  (zbV (E n_Mo_requires [.ref a0, .int (1 : Int32), .int (2 : Int32)] M) fun M2 =>
  K 25 [some (.ref a0), some (.int x1), some (.int x2), none] [] M2)))
set_option maxRecDepth 20000 in
theorem ze_Mo_readNumber (d : Nat) (a0 : Nat) (x1 : Int32) (x2 : Int32) (M : zM) : zV (d + 1) n_Mo_readNumber [.ref a0, .int x1, .int x2] M = zx_Mo_readNumber (zV d) (zG d n_Mo_readNumber) a0 x1 x2 M := by
  refine (zE_sg (m := zm_Mo_readNumber) rfl 400 _ rfl M).trans ?_
  show zw true zm_Mo_readNumber (zV d) (zG d n_Mo_readNumber) 400 0 [some (.ref a0), some (.int x1), some (.int x2), none] [] M = _
  unfold zx_Mo_readNumber
  refine zw_aload_n (p := 1) (Or.inl rfl) rfl rfl rfl ?_
  refine zw_get_int (p := 4) (Or.inr rfl) rfl rfl ?_
  refine zw_if_ne (t := 25) (p := 7) (Or.inr rfl) rfl rfl rfl ?_ ?_
  · exact zw_end rfl rfl
  refine zw_aload_n (p := 8) (Or.inr rfl) rfl rfl rfl ?_
  refine zw_aload_n (p := 9) (Or.inr rfl) rfl rfl rfl ?_
  refine zw_get_int (p := 12) (Or.inr rfl) rfl rfl ?_
  refine zw_iconst (p := 13) (x := (2 : Int32)) (Or.inr rfl) rfl rfl rfl ?_
  refine zw_icmp_ne (t := 20) (p := 16) (Or.inr rfl) rfl rfl rfl ?_ ?_
  · refine zw_iconst (p := 21) (x := (0 : Int32)) (Or.inr rfl) rfl rfl rfl ?_
    refine zw_iconst (p := 22) (x := (2 : Int32)) (Or.inr rfl) rfl rfl rfl ?_
    refine zw_virtualV (p := 25) (as := [.ref a0, .int (0 : Int32), .int (2 : Int32)]) (rest := []) (Or.inr rfl) rfl rfl rfl rfl rfl rfl rfl (fun M1 => ?_)
    exact zw_end rfl rfl
  refine zw_iconst (p := 17) (x := (1 : Int32)) (Or.inr rfl) rfl rfl rfl ?_
  refine zw_goto (t := 21) (Or.inr rfl) rfl rfl ?_
  refine zw_iconst (p := 22) (x := (2 : Int32)) (Or.inr rfl) rfl rfl rfl ?_
  refine zw_virtualV (p := 25) (as := [.ref a0, .int (1 : Int32), .int (2 : Int32)]) (rest := []) (Or.inr rfl) rfl rfl rfl rfl rfl rfl rfl (fun M2 => ?_)
  exact zw_end rfl rfl
def zx_Mo_readNumber_25 (E : zE0) (K : zKt) (a0 : Nat) (x1 : Int32) (x2 : Int32) (M : zM) : zO :=
  zif ((zK M a0).1 = 11)
  (if (zI M a0 18) ≠ 0 then (zif ((zK M a0).1 = 11)
    (if (zI M a0 18) ≠ 0 then (zif ((zK M a0).1 = 11)
      (zbV (E n_Mo_reads [.ref a0] M) fun M1 =>
      some (some (.int (0 : Int32)), M1)))
    else zif ((zK M a0).1 = 11)
    (zbi (zI M a0 17) fun u1 =>
    zif ((zK M a0).1 = 11)
    (zbV (E n_Mo_reads [.ref a0] M) fun M2 =>
    some (some (.int u1), M2)))))
  else zif ((zK M a0).1 = 11)
  (zbI (E n_Mo_in [.long (Int32.toInt64 (zI M a0 17)), .long (Int32.toInt64 x1), .long (Int32.toInt64 x2)] M) fun u2 M3 =>
  zif ((zK M3 a0).1 = 11)
  (zbV (E n_Mo_requires [.ref a0, .int u2, .int (3 : Int32)] M3) fun M4 =>
  zif ((zK M4 a0).1 = 11)
  (if (zI M4 a0 18) ≠ 0 then (zif ((zK M4 a0).1 = 11)
    (zbV (E n_Mo_reads [.ref a0] M4) fun M5 =>
    some (some (.int (0 : Int32)), M5)))
  else zif ((zK M4 a0).1 = 11)
  (zbi (zI M4 a0 17) fun u3 =>
  zif ((zK M4 a0).1 = 11)
  (zbV (E n_Mo_reads [.ref a0] M4) fun M6 =>
  some (some (.int u3), M6)))))))
set_option maxRecDepth 20000 in
theorem zg_Mo_readNumber_25 (d : Nat) (a0 : Nat) (x1 : Int32) (x2 : Int32) (M : zM) : zG d n_Mo_readNumber 25 [some (.ref a0), some (.int x1), some (.int x2), none] [] M = zx_Mo_readNumber_25 (zV d) (zG d n_Mo_readNumber) a0 x1 x2 M := by
  refine (zG_sg (m := zm_Mo_readNumber) rfl 400 _ _ _ M).trans ?_
  show zw true zm_Mo_readNumber (zV d) (zG d n_Mo_readNumber) 400 25 [some (.ref a0), some (.int x1), some (.int x2), none] [] M = _
  unfold zx_Mo_readNumber_25
  refine zw_aload_n (p := 26) (Or.inl rfl) rfl rfl rfl ?_
  refine zw_get_int (p := 29) (Or.inr rfl) rfl rfl ?_
  refine zw_if_ne (t := 49) (p := 32) (Or.inr rfl) rfl rfl rfl ?_ ?_
  · refine zw_aload_n (p := 50) (Or.inr rfl) rfl rfl rfl ?_
    refine zw_get_int (p := 53) (Or.inr rfl) rfl rfl ?_
    refine zw_if_ne (t := 63) (p := 56) (Or.inr rfl) rfl rfl rfl ?_ ?_
    · refine zw_iconst (p := 64) (x := (0 : Int32)) (Or.inr rfl) rfl rfl rfl ?_
      refine zw_istore_n (p := 65) (l2 := [some (.ref a0), some (.int x1), some (.int x2), some (.int (0 : Int32))]) (Or.inr rfl) rfl rfl rfl rfl ?_
      refine zw_aload_n (p := 66) (Or.inr rfl) rfl rfl rfl ?_
      refine zw_virtualV (p := 69) (as := [.ref a0]) (rest := []) (Or.inr rfl) rfl rfl rfl rfl rfl rfl rfl (fun M1 => ?_)
      refine zw_iload_n (p := 70) (Or.inr rfl) rfl rfl rfl ?_
      exact zw_ireturn1 (Or.inr rfl) rfl rfl
    refine zw_aload_n (p := 57) (Or.inr rfl) rfl rfl rfl ?_
    refine zw_get_int (p := 60) (Or.inr rfl) rfl rfl ?_
    refine zw_goto (t := 64) (Or.inr rfl) rfl rfl ?_
    refine zw_istore_nN (p := 65) (L2 := fun u1 => [some (.ref a0), some (.int x1), some (.int x2), some (.int u1)]) (Or.inr rfl) rfl rfl (fun _ => rfl) rfl (fun u1 => ?_)
    refine zw_aload_n (p := 66) (Or.inr rfl) rfl rfl rfl ?_
    refine zw_virtualV (p := 69) (as := [.ref a0]) (rest := []) (Or.inr rfl) rfl rfl rfl rfl rfl rfl rfl (fun M2 => ?_)
    refine zw_iload_n (p := 70) (Or.inr rfl) rfl rfl rfl ?_
    exact zw_ireturn1 (Or.inr rfl) rfl rfl
  refine zw_aload_n (p := 33) (Or.inr rfl) rfl rfl rfl ?_
  refine zw_aload_n (p := 34) (Or.inr rfl) rfl rfl rfl ?_
  refine zw_get_int (p := 37) (Or.inr rfl) rfl rfl ?_
  refine zw_i2l (p := 38) (Or.inr rfl) rfl rfl ?_
  refine zw_iload_n (p := 39) (Or.inr rfl) rfl rfl rfl ?_
  refine zw_i2l (p := 40) (Or.inr rfl) rfl rfl ?_
  refine zw_iload_n (p := 41) (Or.inr rfl) rfl rfl rfl ?_
  refine zw_i2l (p := 42) (Or.inr rfl) rfl rfl ?_
  refine zw_staticI (p := 45) (as := [.long (Int32.toInt64 (zI M a0 17)), .long (Int32.toInt64 x1), .long (Int32.toInt64 x2)]) (rest := [.ref a0]) (Or.inr rfl) rfl rfl rfl rfl rfl rfl (fun u2 M3 => ?_)
  refine zw_iconst (p := 46) (x := (3 : Int32)) (Or.inr rfl) rfl rfl rfl ?_
  refine zw_virtualV (p := 49) (as := [.ref a0, .int u2, .int (3 : Int32)]) (rest := []) (Or.inr rfl) rfl rfl rfl rfl rfl rfl rfl (fun M4 => ?_)
  refine zw_aload_n (p := 50) (Or.inr rfl) rfl rfl rfl ?_
  refine zw_get_int (p := 53) (Or.inr rfl) rfl rfl ?_
  refine zw_if_ne (t := 63) (p := 56) (Or.inr rfl) rfl rfl rfl ?_ ?_
  · refine zw_iconst (p := 64) (x := (0 : Int32)) (Or.inr rfl) rfl rfl rfl ?_
    refine zw_istore_n (p := 65) (l2 := [some (.ref a0), some (.int x1), some (.int x2), some (.int (0 : Int32))]) (Or.inr rfl) rfl rfl rfl rfl ?_
    refine zw_aload_n (p := 66) (Or.inr rfl) rfl rfl rfl ?_
    refine zw_virtualV (p := 69) (as := [.ref a0]) (rest := []) (Or.inr rfl) rfl rfl rfl rfl rfl rfl rfl (fun M5 => ?_)
    refine zw_iload_n (p := 70) (Or.inr rfl) rfl rfl rfl ?_
    exact zw_ireturn1 (Or.inr rfl) rfl rfl
  refine zw_aload_n (p := 57) (Or.inr rfl) rfl rfl rfl ?_
  refine zw_get_int (p := 60) (Or.inr rfl) rfl rfl ?_
  refine zw_goto (t := 64) (Or.inr rfl) rfl rfl ?_
  refine zw_istore_nN (p := 65) (L2 := fun u3 => [some (.ref a0), some (.int x1), some (.int x2), some (.int u3)]) (Or.inr rfl) rfl rfl (fun _ => rfl) rfl (fun u3 => ?_)
  refine zw_aload_n (p := 66) (Or.inr rfl) rfl rfl rfl ?_
  refine zw_virtualV (p := 69) (as := [.ref a0]) (rest := []) (Or.inr rfl) rfl rfl rfl rfl rfl rfl rfl (fun M6 => ?_)
  refine zw_iload_n (p := 70) (Or.inr rfl) rfl rfl rfl ?_
  exact zw_ireturn1 (Or.inr rfl) rfl rfl
def zx_Mo_nests (E : zE0) (K : zKt) (a0 : Nat) (M : zM) : zO :=
  zif ((zK M a0).1 = 11)
  (if (8 : Int32) ≤ (zI M a0 20) then (zif ((zK M a0).1 = 11)
    (zbV (E n_Mo_requires [.ref a0, .int (0 : Int32), .int (4 : Int32)] M) fun M1 =>
    zif ((zK M1 a0).1 = 11)
    (zif ((zK M1 a0).1 = 11)
    (zbm (zsI M1 a0 20 ((zI M1 a0 20) + (1 : Int32))) fun M2 =>
    zif ((zK M2 a0).1 = 11)
    (zbV (E n_Mo_reads [.ref a0] M2) fun M3 =>
    some (none, M3))))))
  else zif ((zK M a0).1 = 11)
  (zbV (E n_Mo_requires [.ref a0, .int (1 : Int32), .int (4 : Int32)] M) fun M4 =>
  zif ((zK M4 a0).1 = 11)
  (zif ((zK M4 a0).1 = 11)
  (zbm (zsI M4 a0 20 ((zI M4 a0 20) + (1 : Int32))) fun M5 =>
  zif ((zK M5 a0).1 = 11)
  (zbV (E n_Mo_reads [.ref a0] M5) fun M6 =>
  some (none, M6))))))
set_option maxRecDepth 20000 in
theorem ze_Mo_nests (d : Nat) (a0 : Nat) (M : zM) : zV (d + 1) n_Mo_nests [.ref a0] M = zx_Mo_nests (zV d) (zG d n_Mo_nests) a0 M := by
  refine (zE_sg (m := zm_Mo_nests) rfl 400 _ rfl M).trans ?_
  show zw true zm_Mo_nests (zV d) (zG d n_Mo_nests) 400 0 [some (.ref a0)] [] M = _
  unfold zx_Mo_nests
  refine zw_aload_n (p := 1) (Or.inl rfl) rfl rfl rfl ?_
  refine zw_aload_n (p := 2) (Or.inr rfl) rfl rfl rfl ?_
  refine zw_get_int (p := 5) (Or.inr rfl) rfl rfl ?_
  refine zw_bipush (p := 7) (x := (8 : Int32)) (Or.inr rfl) rfl rfl rfl ?_
  refine zw_icmp_ge (t := 14) (p := 10) (Or.inr rfl) rfl rfl rfl ?_ ?_
  · refine zw_iconst (p := 15) (x := (0 : Int32)) (Or.inr rfl) rfl rfl rfl ?_
    refine zw_iconst (p := 16) (x := (4 : Int32)) (Or.inr rfl) rfl rfl rfl ?_
    refine zw_virtualV (p := 19) (as := [.ref a0, .int (0 : Int32), .int (4 : Int32)]) (rest := []) (Or.inr rfl) rfl rfl rfl rfl rfl rfl rfl (fun M1 => ?_)
    refine zw_aload_n (p := 20) (Or.inr rfl) rfl rfl rfl ?_
    refine zw_dup_ref (p := 21) (Or.inr rfl) rfl rfl ?_
    refine zw_get_int (p := 24) (Or.inr rfl) rfl rfl ?_
    refine zw_iconst (p := 25) (x := (1 : Int32)) (Or.inr rfl) rfl rfl rfl ?_
    refine zw_iadd (p := 26) (Or.inr rfl) rfl rfl ?_
    refine zw_put_int (p := 29) (Or.inr rfl) rfl rfl (fun M2 => ?_)
    refine zw_aload_n (p := 30) (Or.inr rfl) rfl rfl rfl ?_
    refine zw_virtualV (p := 33) (as := [.ref a0]) (rest := []) (Or.inr rfl) rfl rfl rfl rfl rfl rfl rfl (fun M3 => ?_)
    exact zw_return (Or.inr rfl) rfl rfl
  refine zw_iconst (p := 11) (x := (1 : Int32)) (Or.inr rfl) rfl rfl rfl ?_
  refine zw_goto (t := 15) (Or.inr rfl) rfl rfl ?_
  refine zw_iconst (p := 16) (x := (4 : Int32)) (Or.inr rfl) rfl rfl rfl ?_
  refine zw_virtualV (p := 19) (as := [.ref a0, .int (1 : Int32), .int (4 : Int32)]) (rest := []) (Or.inr rfl) rfl rfl rfl rfl rfl rfl rfl (fun M4 => ?_)
  refine zw_aload_n (p := 20) (Or.inr rfl) rfl rfl rfl ?_
  refine zw_dup_ref (p := 21) (Or.inr rfl) rfl rfl ?_
  refine zw_get_int (p := 24) (Or.inr rfl) rfl rfl ?_
  refine zw_iconst (p := 25) (x := (1 : Int32)) (Or.inr rfl) rfl rfl rfl ?_
  refine zw_iadd (p := 26) (Or.inr rfl) rfl rfl ?_
  refine zw_put_int (p := 29) (Or.inr rfl) rfl rfl (fun M5 => ?_)
  refine zw_aload_n (p := 30) (Or.inr rfl) rfl rfl rfl ?_
  refine zw_virtualV (p := 33) (as := [.ref a0]) (rest := []) (Or.inr rfl) rfl rfl rfl rfl rfl rfl rfl (fun M6 => ?_)
  exact zw_return (Or.inr rfl) rfl rfl
def zx_Mo_wires (E : zE0) (K : zKt) (a0 : Nat) (x1 : Int32) (M : zM) : zO :=
  K 2 [some (.ref a0), some (.int x1), some (.int (0 : Int32))] [] M
set_option maxRecDepth 20000 in
theorem ze_Mo_wires (d : Nat) (a0 : Nat) (x1 : Int32) (M : zM) : zV (d + 1) n_Mo_wires [.ref a0, .int x1] M = zx_Mo_wires (zV d) (zG d n_Mo_wires) a0 x1 M := by
  refine (zE_sg (m := zm_Mo_wires) rfl 400 _ rfl M).trans ?_
  show zw true zm_Mo_wires (zV d) (zG d n_Mo_wires) 400 0 [some (.ref a0), some (.int x1), none] [] M = _
  unfold zx_Mo_wires
  refine zw_iconst (p := 1) (x := (0 : Int32)) (Or.inl rfl) rfl rfl rfl ?_
  refine zw_istore_n (p := 2) (l2 := [some (.ref a0), some (.int x1), some (.int (0 : Int32))]) (Or.inr rfl) rfl rfl rfl rfl ?_
  exact zw_end rfl rfl
def zx_Mo_wires_2 (E : zE0) (K : zKt) (a0 : Nat) (x1 : Int32) (x2 : Int32) (M : zM) : zO :=
  if (4 : Int32) ≤ x2 then (some (none, M))
  else zif ((zK M a0).1 = 11)
  (zoR (zR M a0 26) fun q1 =>
  if (6 : Int32) ≤ x1 then (if ((x2 >>> ((x1 - (6 : Int32)) &&& 31)) &&& (1 : Int32)) ≠ (1 : Int32) then (zif ((zK M q1).1 = 23 ∧ zin x2 (zK M q1).2 = true)
      (zbm (zsL M q1 (Int32.toNatClampNeg x2) (0 : Int64)) fun M1 =>
      zbi (x2 + (1 : Int32)) fun u1 =>
      K 2 [some (.ref a0), some (.int x1), some (.int u1)] [] M1))
    else zif ((zK M q1).1 = 23 ∧ zin x2 (zK M q1).2 = true)
    (zbm (zsL M q1 (Int32.toNatClampNeg x2) (-1 : Int64)) fun M2 =>
    zbi (x2 + (1 : Int32)) fun u2 =>
    K 2 [some (.ref a0), some (.int x1), some (.int u2)] [] M2))
  else zif ((zK M a0).1 = 11)
  (zoR (zR M a0 28) fun q2 =>
  zif (((zK M q2).1 = 23 ∨ (zK M q2).1 = 25) ∧ zin x1 (zK M q2).2 = true)
  (zif ((zK M q1).1 = 23 ∧ zin x2 (zK M q1).2 = true)
  (zbm (zsL M q1 (Int32.toNatClampNeg x2) (zL M q2 (Int32.toNatClampNeg x1))) fun M3 =>
  zbi (x2 + (1 : Int32)) fun u3 =>
  K 2 [some (.ref a0), some (.int x1), some (.int u3)] [] M3))))
set_option maxRecDepth 20000 in
theorem zg_Mo_wires_2 (d : Nat) (a0 : Nat) (x1 : Int32) (x2 : Int32) (M : zM) : zG d n_Mo_wires 2 [some (.ref a0), some (.int x1), some (.int x2)] [] M = zx_Mo_wires_2 (zV d) (zG d n_Mo_wires) a0 x1 x2 M := by
  refine (zG_sg (m := zm_Mo_wires) rfl 400 _ _ _ M).trans ?_
  show zw true zm_Mo_wires (zV d) (zG d n_Mo_wires) 400 2 [some (.ref a0), some (.int x1), some (.int x2)] [] M = _
  unfold zx_Mo_wires_2
  refine zw_iload_n (p := 3) (Or.inl rfl) rfl rfl rfl ?_
  refine zw_iconst (p := 4) (x := (4 : Int32)) (Or.inr rfl) rfl rfl rfl ?_
  refine zw_icmp_ge (t := 53) (p := 7) (Or.inr rfl) rfl rfl rfl ?_ ?_
  · exact zw_return (Or.inr rfl) rfl rfl
  refine zw_aload_n (p := 8) (Or.inr rfl) rfl rfl rfl ?_
  refine zw_get_ref (p := 11) (Or.inr rfl) rfl rfl (fun q1 => ?_)
  refine zw_iload_n (p := 12) (Or.inr rfl) rfl rfl rfl ?_
  refine zw_iload_n (p := 13) (Or.inr rfl) rfl rfl rfl ?_
  refine zw_bipush (p := 15) (x := (6 : Int32)) (Or.inr rfl) rfl rfl rfl ?_
  refine zw_icmp_ge (t := 27) (p := 18) (Or.inr rfl) rfl rfl rfl ?_ ?_
  · refine zw_iload_n (p := 28) (Or.inr rfl) rfl rfl rfl ?_
    refine zw_iload_n (p := 29) (Or.inr rfl) rfl rfl rfl ?_
    refine zw_bipush (p := 31) (x := (6 : Int32)) (Or.inr rfl) rfl rfl rfl ?_
    refine zw_isub (p := 32) (Or.inr rfl) rfl rfl ?_
    refine zw_ishr (p := 33) (Or.inr rfl) rfl rfl ?_
    refine zw_iconst (p := 34) (x := (1 : Int32)) (Or.inr rfl) rfl rfl rfl ?_
    refine zw_iand (p := 35) (Or.inr rfl) rfl rfl ?_
    refine zw_iconst (p := 36) (x := (1 : Int32)) (Or.inr rfl) rfl rfl rfl ?_
    refine zw_icmp_ne (t := 45) (p := 39) (Or.inr rfl) rfl rfl rfl ?_ ?_
    · refine zw_lconst (p := 46) (x := (0 : Int64)) (Or.inr rfl) rfl rfl rfl ?_
      refine zw_lastore (p := 47) (Or.inr rfl) rfl rfl (fun M1 => ?_)
      refine zw_iinc (p := 50) (c := (1 : Int32)) (L2 := fun u1 => [some (.ref a0), some (.int x1), some (.int u1)]) (Or.inr rfl) rfl rfl rfl rfl (fun _ => rfl) rfl (fun u1 => ?_)
      refine zw_goto (t := 2) (Or.inr rfl) rfl rfl ?_
      exact zw_end rfl rfl
    refine zw_ldc2_w (p := 42) (x := (-1 : Int64)) (Or.inr rfl) rfl rfl rfl ?_
    refine zw_goto (t := 46) (Or.inr rfl) rfl rfl ?_
    refine zw_lastore (p := 47) (Or.inr rfl) rfl rfl (fun M2 => ?_)
    refine zw_iinc (p := 50) (c := (1 : Int32)) (L2 := fun u2 => [some (.ref a0), some (.int x1), some (.int u2)]) (Or.inr rfl) rfl rfl rfl rfl (fun _ => rfl) rfl (fun u2 => ?_)
    refine zw_goto (t := 2) (Or.inr rfl) rfl rfl ?_
    exact zw_end rfl rfl
  refine zw_aload_n (p := 19) (Or.inr rfl) rfl rfl rfl ?_
  refine zw_get_ref (p := 22) (Or.inr rfl) rfl rfl (fun q2 => ?_)
  refine zw_iload_n (p := 23) (Or.inr rfl) rfl rfl rfl ?_
  refine zw_laload (p := 24) (Or.inr rfl) rfl rfl ?_
  refine zw_goto (t := 46) (Or.inr rfl) rfl rfl ?_
  refine zw_lastore (p := 47) (Or.inr rfl) rfl rfl (fun M3 => ?_)
  refine zw_iinc (p := 50) (c := (1 : Int32)) (L2 := fun u3 => [some (.ref a0), some (.int x1), some (.int u3)]) (Or.inr rfl) rfl rfl rfl rfl (fun _ => rfl) rfl (fun u3 => ?_)
  refine zw_goto (t := 2) (Or.inr rfl) rfl rfl ?_
  exact zw_end rfl rfl
def zx_Mo_opensDepth (E : zE0) (K : zKt) (a0 : Nat) (M : zM) : zO :=
  zif ((zK M a0).1 = 11)
  (zoR (zR M a0 23) fun q1 =>
  zif ((zK M a0).1 = 11)
  (zbast M q1 (zI M a0 27) (0 : Int32) fun M1 =>
  zif ((zK M1 a0).1 = 11)
  (zoR (zR M1 a0 24) fun q2 =>
  zif ((zK M1 a0).1 = 11)
  (zbast M1 q2 (zI M1 a0 27) (0 : Int32) fun M2 =>
  zif ((zK M2 a0).1 = 11)
  (zoR (zR M2 a0 25) fun q3 =>
  zif ((zK M2 a0).1 = 11)
  (zbast M2 q3 (zI M2 a0 27) (0 : Int32) fun M3 =>
  some (none, M3)))))))
set_option maxRecDepth 20000 in
theorem ze_Mo_opensDepth (d : Nat) (a0 : Nat) (M : zM) : zV (d + 1) n_Mo_opensDepth [.ref a0] M = zx_Mo_opensDepth (zV d) (zG d n_Mo_opensDepth) a0 M := by
  refine (zE_sg (m := zm_Mo_opensDepth) rfl 400 _ rfl M).trans ?_
  show zw true zm_Mo_opensDepth (zV d) (zG d n_Mo_opensDepth) 400 0 [some (.ref a0)] [] M = _
  unfold zx_Mo_opensDepth
  refine zw_aload_n (p := 1) (Or.inl rfl) rfl rfl rfl ?_
  refine zw_get_ref (p := 4) (Or.inr rfl) rfl rfl (fun q1 => ?_)
  refine zw_aload_n (p := 5) (Or.inr rfl) rfl rfl rfl ?_
  refine zw_get_int (p := 8) (Or.inr rfl) rfl rfl ?_
  refine zw_iconst (p := 9) (x := (0 : Int32)) (Or.inr rfl) rfl rfl rfl ?_
  refine zw_bastore (p := 10) (Or.inr rfl) rfl rfl (fun M1 => ?_)
  refine zw_aload_n (p := 11) (Or.inr rfl) rfl rfl rfl ?_
  refine zw_get_ref (p := 14) (Or.inr rfl) rfl rfl (fun q2 => ?_)
  refine zw_aload_n (p := 15) (Or.inr rfl) rfl rfl rfl ?_
  refine zw_get_int (p := 18) (Or.inr rfl) rfl rfl ?_
  refine zw_iconst (p := 19) (x := (0 : Int32)) (Or.inr rfl) rfl rfl rfl ?_
  refine zw_bastore (p := 20) (Or.inr rfl) rfl rfl (fun M2 => ?_)
  refine zw_aload_n (p := 21) (Or.inr rfl) rfl rfl rfl ?_
  refine zw_get_ref (p := 24) (Or.inr rfl) rfl rfl (fun q3 => ?_)
  refine zw_aload_n (p := 25) (Or.inr rfl) rfl rfl rfl ?_
  refine zw_get_int (p := 28) (Or.inr rfl) rfl rfl ?_
  refine zw_iconst (p := 29) (x := (0 : Int32)) (Or.inr rfl) rfl rfl rfl ?_
  refine zw_bastore (p := 30) (Or.inr rfl) rfl rfl (fun M3 => ?_)
  exact zw_return (Or.inr rfl) rfl rfl
def zx_Mo_joinsAnds (E : zE0) (K : zKt) (a0 : Nat) (M : zM) : zO :=
  K 2 [some (.ref a0), some (.int (0 : Int32)), none, none] [] M
set_option maxRecDepth 20000 in
theorem ze_Mo_joinsAnds (d : Nat) (a0 : Nat) (M : zM) : zV (d + 1) n_Mo_joinsAnds [.ref a0] M = zx_Mo_joinsAnds (zV d) (zG d n_Mo_joinsAnds) a0 M := by
  refine (zE_sg (m := zm_Mo_joinsAnds) rfl 400 _ rfl M).trans ?_
  show zw true zm_Mo_joinsAnds (zV d) (zG d n_Mo_joinsAnds) 400 0 [some (.ref a0), none, none, none] [] M = _
  unfold zx_Mo_joinsAnds
  refine zw_iconst (p := 1) (x := (0 : Int32)) (Or.inl rfl) rfl rfl rfl ?_
  refine zw_istore_n (p := 2) (l2 := [some (.ref a0), some (.int (0 : Int32)), none, none]) (Or.inr rfl) rfl rfl rfl rfl ?_
  exact zw_end rfl rfl
def zx_Mo_joinsAnds_2 (E : zE0) (K : zKt) (a0 : Nat) (x1 : Int32) (M : zM) : zO :=
  if (4 : Int32) ≤ x1 then (zif ((zK M a0).1 = 11)
    (zoR (zR M a0 24) fun q1 =>
    zif ((zK M a0).1 = 11)
    (zbast M q1 (zI M a0 27) (1 : Int32) fun M1 =>
    zif ((zK M1 a0).1 = 11)
    (zoR (zR M1 a0 25) fun q2 =>
    zif ((zK M1 a0).1 = 11)
    (zbast M1 q2 (zI M1 a0 27) (0 : Int32) fun M2 =>
    some (none, M2))))))
  else zif ((zK M a0).1 = 11)
  (zoR (zR M a0 25) fun q3 =>
  zif ((zK M a0).1 = 11)
  (zif (((zK M q3).1 = 21 ∨ (zK M q3).1 = 22) ∧ zin (zI M a0 27) (zK M q3).2 = true)
  (if (zI M q3 (Int32.toNatClampNeg (zI M a0 27))) = 0 then (zif ((zK M a0).1 = 11)
    (zoR (zR M a0 26) fun q4 =>
    zif (((zK M q4).1 = 23 ∨ (zK M q4).1 = 25) ∧ zin x1 (zK M q4).2 = true)
    (K 38 [some (.ref a0), some (.int x1), none, none] [.long (zL M q4 (Int32.toNatClampNeg x1))] M)))
  else zif ((zK M a0).1 = 11)
  (zoR (zR M a0 26) fun q5 =>
  zif (((zK M q5).1 = 23 ∨ (zK M q5).1 = 25) ∧ zin x1 (zK M q5).2 = true)
  (K 38 [some (.ref a0), some (.int x1), none, none] [.long ((zL M q5 (Int32.toNatClampNeg x1)) ^^^ (-1 : Int64))] M)))))
set_option maxRecDepth 20000 in
theorem zg_Mo_joinsAnds_2 (d : Nat) (a0 : Nat) (x1 : Int32) (M : zM) : zG d n_Mo_joinsAnds 2 [some (.ref a0), some (.int x1), none, none] [] M = zx_Mo_joinsAnds_2 (zV d) (zG d n_Mo_joinsAnds) a0 x1 M := by
  refine (zG_sg (m := zm_Mo_joinsAnds) rfl 400 _ _ _ M).trans ?_
  show zw true zm_Mo_joinsAnds (zV d) (zG d n_Mo_joinsAnds) 400 2 [some (.ref a0), some (.int x1), none, none] [] M = _
  unfold zx_Mo_joinsAnds_2
  refine zw_iload_n (p := 3) (Or.inl rfl) rfl rfl rfl ?_
  refine zw_iconst (p := 4) (x := (4 : Int32)) (Or.inr rfl) rfl rfl rfl ?_
  refine zw_icmp_ge (t := 89) (p := 7) (Or.inr rfl) rfl rfl rfl ?_ ?_
  · refine zw_aload_n (p := 90) (Or.inr rfl) rfl rfl rfl ?_
    refine zw_get_ref (p := 93) (Or.inr rfl) rfl rfl (fun q1 => ?_)
    refine zw_aload_n (p := 94) (Or.inr rfl) rfl rfl rfl ?_
    refine zw_get_int (p := 97) (Or.inr rfl) rfl rfl ?_
    refine zw_iconst (p := 98) (x := (1 : Int32)) (Or.inr rfl) rfl rfl rfl ?_
    refine zw_bastore (p := 99) (Or.inr rfl) rfl rfl (fun M1 => ?_)
    refine zw_aload_n (p := 100) (Or.inr rfl) rfl rfl rfl ?_
    refine zw_get_ref (p := 103) (Or.inr rfl) rfl rfl (fun q2 => ?_)
    refine zw_aload_n (p := 104) (Or.inr rfl) rfl rfl rfl ?_
    refine zw_get_int (p := 107) (Or.inr rfl) rfl rfl ?_
    refine zw_iconst (p := 108) (x := (0 : Int32)) (Or.inr rfl) rfl rfl rfl ?_
    refine zw_bastore (p := 109) (Or.inr rfl) rfl rfl (fun M2 => ?_)
    exact zw_return (Or.inr rfl) rfl rfl
  refine zw_aload_n (p := 8) (Or.inr rfl) rfl rfl rfl ?_
  refine zw_get_ref (p := 11) (Or.inr rfl) rfl rfl (fun q3 => ?_)
  refine zw_aload_n (p := 12) (Or.inr rfl) rfl rfl rfl ?_
  refine zw_get_int (p := 15) (Or.inr rfl) rfl rfl ?_
  refine zw_baload (p := 16) (Or.inr rfl) rfl rfl ?_
  refine zw_if_eq (t := 32) (p := 19) (Or.inr rfl) rfl rfl rfl ?_ ?_
  · refine zw_aload_n (p := 33) (Or.inr rfl) rfl rfl rfl ?_
    refine zw_get_ref (p := 36) (Or.inr rfl) rfl rfl (fun q4 => ?_)
    refine zw_iload_n (p := 37) (Or.inr rfl) rfl rfl rfl ?_
    refine zw_laload (p := 38) (Or.inr rfl) rfl rfl ?_
    exact zw_end rfl rfl
  refine zw_aload_n (p := 20) (Or.inr rfl) rfl rfl rfl ?_
  refine zw_get_ref (p := 23) (Or.inr rfl) rfl rfl (fun q5 => ?_)
  refine zw_iload_n (p := 24) (Or.inr rfl) rfl rfl rfl ?_
  refine zw_laload (p := 25) (Or.inr rfl) rfl rfl ?_
  refine zw_ldc2_w (p := 28) (x := (-1 : Int64)) (Or.inr rfl) rfl rfl rfl ?_
  refine zw_lxor (p := 29) (Or.inr rfl) rfl rfl ?_
  refine zw_goto (t := 38) (Or.inr rfl) rfl rfl ?_
  exact zw_end rfl rfl
def zx_Mo_joinsAnds_38 (E : zE0) (K : zKt) (a0 : Nat) (x1 : Int32) (s0 : Int64) (M : zM) : zO :=
  zif ((zK M a0).1 = 11)
  (zoR (zR M a0 22) fun q1 =>
  zif ((zK M a0).1 = 11)
  (zif ((zK M a0).1 = 11)
  (zoR (zR M a0 24) fun q2 =>
  zif ((zK M a0).1 = 11)
  (zif (((zK M q2).1 = 21 ∨ (zK M q2).1 = 22) ∧ zin (zI M a0 27) (zK M q2).2 = true)
  (if (zI M q2 (Int32.toNatClampNeg (zI M a0 27))) = 0 then (zif ((zK M q1).1 = 23 ∧ zin (((4 : Int32) * (zI M a0 27)) + x1) (zK M q1).2 = true)
    (zbm (zsL M q1 (Int32.toNatClampNeg (((4 : Int32) * (zI M a0 27)) + x1)) s0) fun M1 =>
    zbi (x1 + (1 : Int32)) fun u1 =>
    K 2 [some (.ref a0), some (.int u1), none, none] [] M1))
  else zif ((zK M a0).1 = 11)
  (zoR (zR M a0 22) fun q3 =>
  zif ((zK M a0).1 = 11)
  (zif (((zK M q3).1 = 23 ∨ (zK M q3).1 = 25) ∧ zin (((4 : Int32) * (zI M a0 27)) + x1) (zK M q3).2 = true)
  (zif ((zK M q1).1 = 23 ∧ zin (((4 : Int32) * (zI M a0 27)) + x1) (zK M q1).2 = true)
  (zbm (zsL M q1 (Int32.toNatClampNeg (((4 : Int32) * (zI M a0 27)) + x1)) ((zL M q3 (Int32.toNatClampNeg (((4 : Int32) * (zI M a0 27)) + x1))) &&& s0)) fun M2 =>
  zbi (x1 + (1 : Int32)) fun u2 =>
  K 2 [some (.ref a0), some (.int u2), none, none] [] M2)))))))))
set_option maxRecDepth 20000 in
theorem zg_Mo_joinsAnds_38 (d : Nat) (a0 : Nat) (x1 : Int32) (s0 : Int64) (M : zM) : zG d n_Mo_joinsAnds 38 [some (.ref a0), some (.int x1), none, none] [.long s0] M = zx_Mo_joinsAnds_38 (zV d) (zG d n_Mo_joinsAnds) a0 x1 s0 M := by
  refine (zG_sg (m := zm_Mo_joinsAnds) rfl 400 _ _ _ M).trans ?_
  show zw true zm_Mo_joinsAnds (zV d) (zG d n_Mo_joinsAnds) 400 38 [some (.ref a0), some (.int x1), none, none] [.long s0] M = _
  unfold zx_Mo_joinsAnds_38
  refine zw_lstore_n (p := 39) (l2 := [some (.ref a0), some (.int x1), some (.long s0), none]) (Or.inl rfl) rfl rfl rfl rfl ?_
  refine zw_aload_n (p := 40) (Or.inr rfl) rfl rfl rfl ?_
  refine zw_get_ref (p := 43) (Or.inr rfl) rfl rfl (fun q1 => ?_)
  refine zw_iconst (p := 44) (x := (4 : Int32)) (Or.inr rfl) rfl rfl rfl ?_
  refine zw_aload_n (p := 45) (Or.inr rfl) rfl rfl rfl ?_
  refine zw_get_int (p := 48) (Or.inr rfl) rfl rfl ?_
  refine zw_imul (p := 49) (Or.inr rfl) rfl rfl ?_
  refine zw_iload_n (p := 50) (Or.inr rfl) rfl rfl rfl ?_
  refine zw_iadd (p := 51) (Or.inr rfl) rfl rfl ?_
  refine zw_aload_n (p := 52) (Or.inr rfl) rfl rfl rfl ?_
  refine zw_get_ref (p := 55) (Or.inr rfl) rfl rfl (fun q2 => ?_)
  refine zw_aload_n (p := 56) (Or.inr rfl) rfl rfl rfl ?_
  refine zw_get_int (p := 59) (Or.inr rfl) rfl rfl ?_
  refine zw_baload (p := 60) (Or.inr rfl) rfl rfl ?_
  refine zw_if_eq (t := 81) (p := 63) (Or.inr rfl) rfl rfl rfl ?_ ?_
  · refine zw_lload_n (p := 82) (Or.inr rfl) rfl rfl rfl ?_
    refine zw_lastore (p := 83) (Or.inr rfl) rfl rfl (fun M1 => ?_)
    refine zw_iinc (p := 86) (c := (1 : Int32)) (L2 := fun u1 => [some (.ref a0), some (.int u1), some (.long s0), none]) (Or.inr rfl) rfl rfl rfl rfl (fun _ => rfl) rfl (fun u1 => ?_)
    refine zw_goto (t := 2) (Or.inr rfl) rfl rfl ?_
    exact zw_end rfl rfl
  refine zw_aload_n (p := 64) (Or.inr rfl) rfl rfl rfl ?_
  refine zw_get_ref (p := 67) (Or.inr rfl) rfl rfl (fun q3 => ?_)
  refine zw_iconst (p := 68) (x := (4 : Int32)) (Or.inr rfl) rfl rfl rfl ?_
  refine zw_aload_n (p := 69) (Or.inr rfl) rfl rfl rfl ?_
  refine zw_get_int (p := 72) (Or.inr rfl) rfl rfl ?_
  refine zw_imul (p := 73) (Or.inr rfl) rfl rfl ?_
  refine zw_iload_n (p := 74) (Or.inr rfl) rfl rfl rfl ?_
  refine zw_iadd (p := 75) (Or.inr rfl) rfl rfl ?_
  refine zw_laload (p := 76) (Or.inr rfl) rfl rfl ?_
  refine zw_lload_n (p := 77) (Or.inr rfl) rfl rfl rfl ?_
  refine zw_land (p := 78) (Or.inr rfl) rfl rfl ?_
  refine zw_goto (t := 82) (Or.inr rfl) rfl rfl ?_
  refine zw_lastore (p := 83) (Or.inr rfl) rfl rfl (fun M2 => ?_)
  refine zw_iinc (p := 86) (c := (1 : Int32)) (L2 := fun u2 => [some (.ref a0), some (.int u2), some (.long s0), none]) (Or.inr rfl) rfl rfl rfl rfl (fun _ => rfl) rfl (fun u2 => ?_)
  refine zw_goto (t := 2) (Or.inr rfl) rfl rfl ?_
  exact zw_end rfl rfl
def zx_Mo_joinsOrs (E : zE0) (K : zKt) (a0 : Nat) (M : zM) : zO :=
  K 2 [some (.ref a0), some (.int (0 : Int32))] [] M
set_option maxRecDepth 20000 in
theorem ze_Mo_joinsOrs (d : Nat) (a0 : Nat) (M : zM) : zV (d + 1) n_Mo_joinsOrs [.ref a0] M = zx_Mo_joinsOrs (zV d) (zG d n_Mo_joinsOrs) a0 M := by
  refine (zE_sg (m := zm_Mo_joinsOrs) rfl 400 _ rfl M).trans ?_
  show zw true zm_Mo_joinsOrs (zV d) (zG d n_Mo_joinsOrs) 400 0 [some (.ref a0), none] [] M = _
  unfold zx_Mo_joinsOrs
  refine zw_iconst (p := 1) (x := (0 : Int32)) (Or.inl rfl) rfl rfl rfl ?_
  refine zw_istore_n (p := 2) (l2 := [some (.ref a0), some (.int (0 : Int32))]) (Or.inr rfl) rfl rfl rfl rfl ?_
  exact zw_end rfl rfl
def zx_Mo_joinsOrs_2 (E : zE0) (K : zKt) (a0 : Nat) (x1 : Int32) (M : zM) : zO :=
  if (4 : Int32) ≤ x1 then (zif ((zK M a0).1 = 11)
    (zoR (zR M a0 23) fun q1 =>
    zif ((zK M a0).1 = 11)
    (zbast M q1 (zI M a0 27) (1 : Int32) fun M1 =>
    zif ((zK M1 a0).1 = 11)
    (zoR (zR M1 a0 24) fun q2 =>
    zif ((zK M1 a0).1 = 11)
    (zbast M1 q2 (zI M1 a0 27) (0 : Int32) fun M2 =>
    some (none, M2))))))
  else zif ((zK M a0).1 = 11)
  (zoR (zR M a0 21) fun q3 =>
  zif ((zK M a0).1 = 11)
  (zif ((zK M a0).1 = 11)
  (zoR (zR M a0 23) fun q4 =>
  zif ((zK M a0).1 = 11)
  (zif (((zK M q4).1 = 21 ∨ (zK M q4).1 = 22) ∧ zin (zI M a0 27) (zK M q4).2 = true)
  (if (zI M q4 (Int32.toNatClampNeg (zI M a0 27))) = 0 then (zif ((zK M a0).1 = 11)
    (zoR (zR M a0 22) fun q5 =>
    zif ((zK M a0).1 = 11)
    (zif (((zK M q5).1 = 23 ∨ (zK M q5).1 = 25) ∧ zin (((4 : Int32) * (zI M a0 27)) + x1) (zK M q5).2 = true)
    (zif ((zK M q3).1 = 23 ∧ zin (((4 : Int32) * (zI M a0 27)) + x1) (zK M q3).2 = true)
    (zbm (zsL M q3 (Int32.toNatClampNeg (((4 : Int32) * (zI M a0 27)) + x1)) (zL M q5 (Int32.toNatClampNeg (((4 : Int32) * (zI M a0 27)) + x1)))) fun M3 =>
    zbi (x1 + (1 : Int32)) fun u1 =>
    K 2 [some (.ref a0), some (.int u1)] [] M3)))))
  else zif ((zK M a0).1 = 11)
  (zoR (zR M a0 21) fun q6 =>
  zif ((zK M a0).1 = 11)
  (zif (((zK M q6).1 = 23 ∨ (zK M q6).1 = 25) ∧ zin (((4 : Int32) * (zI M a0 27)) + x1) (zK M q6).2 = true)
  (zif ((zK M a0).1 = 11)
  (zoR (zR M a0 22) fun q7 =>
  zif ((zK M a0).1 = 11)
  (zif (((zK M q7).1 = 23 ∨ (zK M q7).1 = 25) ∧ zin (((4 : Int32) * (zI M a0 27)) + x1) (zK M q7).2 = true)
  (zif ((zK M q3).1 = 23 ∧ zin (((4 : Int32) * (zI M a0 27)) + x1) (zK M q3).2 = true)
  (zbm (zsL M q3 (Int32.toNatClampNeg (((4 : Int32) * (zI M a0 27)) + x1)) ((zL M q6 (Int32.toNatClampNeg (((4 : Int32) * (zI M a0 27)) + x1))) ||| (zL M q7 (Int32.toNatClampNeg (((4 : Int32) * (zI M a0 27)) + x1))))) fun M4 =>
  zbi (x1 + (1 : Int32)) fun u2 =>
  K 2 [some (.ref a0), some (.int u2)] [] M4))))))))))))
set_option maxRecDepth 20000 in
theorem zg_Mo_joinsOrs_2 (d : Nat) (a0 : Nat) (x1 : Int32) (M : zM) : zG d n_Mo_joinsOrs 2 [some (.ref a0), some (.int x1)] [] M = zx_Mo_joinsOrs_2 (zV d) (zG d n_Mo_joinsOrs) a0 x1 M := by
  refine (zG_sg (m := zm_Mo_joinsOrs) rfl 400 _ _ _ M).trans ?_
  show zw true zm_Mo_joinsOrs (zV d) (zG d n_Mo_joinsOrs) 400 2 [some (.ref a0), some (.int x1)] [] M = _
  unfold zx_Mo_joinsOrs_2
  refine zw_iload_n (p := 3) (Or.inl rfl) rfl rfl rfl ?_
  refine zw_iconst (p := 4) (x := (4 : Int32)) (Or.inr rfl) rfl rfl rfl ?_
  refine zw_icmp_ge (t := 81) (p := 7) (Or.inr rfl) rfl rfl rfl ?_ ?_
  · refine zw_aload_n (p := 82) (Or.inr rfl) rfl rfl rfl ?_
    refine zw_get_ref (p := 85) (Or.inr rfl) rfl rfl (fun q1 => ?_)
    refine zw_aload_n (p := 86) (Or.inr rfl) rfl rfl rfl ?_
    refine zw_get_int (p := 89) (Or.inr rfl) rfl rfl ?_
    refine zw_iconst (p := 90) (x := (1 : Int32)) (Or.inr rfl) rfl rfl rfl ?_
    refine zw_bastore (p := 91) (Or.inr rfl) rfl rfl (fun M1 => ?_)
    refine zw_aload_n (p := 92) (Or.inr rfl) rfl rfl rfl ?_
    refine zw_get_ref (p := 95) (Or.inr rfl) rfl rfl (fun q2 => ?_)
    refine zw_aload_n (p := 96) (Or.inr rfl) rfl rfl rfl ?_
    refine zw_get_int (p := 99) (Or.inr rfl) rfl rfl ?_
    refine zw_iconst (p := 100) (x := (0 : Int32)) (Or.inr rfl) rfl rfl rfl ?_
    refine zw_bastore (p := 101) (Or.inr rfl) rfl rfl (fun M2 => ?_)
    exact zw_return (Or.inr rfl) rfl rfl
  refine zw_aload_n (p := 8) (Or.inr rfl) rfl rfl rfl ?_
  refine zw_get_ref (p := 11) (Or.inr rfl) rfl rfl (fun q3 => ?_)
  refine zw_iconst (p := 12) (x := (4 : Int32)) (Or.inr rfl) rfl rfl rfl ?_
  refine zw_aload_n (p := 13) (Or.inr rfl) rfl rfl rfl ?_
  refine zw_get_int (p := 16) (Or.inr rfl) rfl rfl ?_
  refine zw_imul (p := 17) (Or.inr rfl) rfl rfl ?_
  refine zw_iload_n (p := 18) (Or.inr rfl) rfl rfl rfl ?_
  refine zw_iadd (p := 19) (Or.inr rfl) rfl rfl ?_
  refine zw_aload_n (p := 20) (Or.inr rfl) rfl rfl rfl ?_
  refine zw_get_ref (p := 23) (Or.inr rfl) rfl rfl (fun q4 => ?_)
  refine zw_aload_n (p := 24) (Or.inr rfl) rfl rfl rfl ?_
  refine zw_get_int (p := 27) (Or.inr rfl) rfl rfl ?_
  refine zw_baload (p := 28) (Or.inr rfl) rfl rfl ?_
  refine zw_if_eq (t := 61) (p := 31) (Or.inr rfl) rfl rfl rfl ?_ ?_
  · refine zw_aload_n (p := 62) (Or.inr rfl) rfl rfl rfl ?_
    refine zw_get_ref (p := 65) (Or.inr rfl) rfl rfl (fun q5 => ?_)
    refine zw_iconst (p := 66) (x := (4 : Int32)) (Or.inr rfl) rfl rfl rfl ?_
    refine zw_aload_n (p := 67) (Or.inr rfl) rfl rfl rfl ?_
    refine zw_get_int (p := 70) (Or.inr rfl) rfl rfl ?_
    refine zw_imul (p := 71) (Or.inr rfl) rfl rfl ?_
    refine zw_iload_n (p := 72) (Or.inr rfl) rfl rfl rfl ?_
    refine zw_iadd (p := 73) (Or.inr rfl) rfl rfl ?_
    refine zw_laload (p := 74) (Or.inr rfl) rfl rfl ?_
    refine zw_lastore (p := 75) (Or.inr rfl) rfl rfl (fun M3 => ?_)
    refine zw_iinc (p := 78) (c := (1 : Int32)) (L2 := fun u1 => [some (.ref a0), some (.int u1)]) (Or.inr rfl) rfl rfl rfl rfl (fun _ => rfl) rfl (fun u1 => ?_)
    refine zw_goto (t := 2) (Or.inr rfl) rfl rfl ?_
    exact zw_end rfl rfl
  refine zw_aload_n (p := 32) (Or.inr rfl) rfl rfl rfl ?_
  refine zw_get_ref (p := 35) (Or.inr rfl) rfl rfl (fun q6 => ?_)
  refine zw_iconst (p := 36) (x := (4 : Int32)) (Or.inr rfl) rfl rfl rfl ?_
  refine zw_aload_n (p := 37) (Or.inr rfl) rfl rfl rfl ?_
  refine zw_get_int (p := 40) (Or.inr rfl) rfl rfl ?_
  refine zw_imul (p := 41) (Or.inr rfl) rfl rfl ?_
  refine zw_iload_n (p := 42) (Or.inr rfl) rfl rfl rfl ?_
  refine zw_iadd (p := 43) (Or.inr rfl) rfl rfl ?_
  refine zw_laload (p := 44) (Or.inr rfl) rfl rfl ?_
  refine zw_aload_n (p := 45) (Or.inr rfl) rfl rfl rfl ?_
  refine zw_get_ref (p := 48) (Or.inr rfl) rfl rfl (fun q7 => ?_)
  refine zw_iconst (p := 49) (x := (4 : Int32)) (Or.inr rfl) rfl rfl rfl ?_
  refine zw_aload_n (p := 50) (Or.inr rfl) rfl rfl rfl ?_
  refine zw_get_int (p := 53) (Or.inr rfl) rfl rfl ?_
  refine zw_imul (p := 54) (Or.inr rfl) rfl rfl ?_
  refine zw_iload_n (p := 55) (Or.inr rfl) rfl rfl rfl ?_
  refine zw_iadd (p := 56) (Or.inr rfl) rfl rfl ?_
  refine zw_laload (p := 57) (Or.inr rfl) rfl rfl ?_
  refine zw_lor (p := 58) (Or.inr rfl) rfl rfl ?_
  refine zw_goto (t := 74) (Or.inr rfl) rfl rfl ?_
  refine zw_lastore (p := 75) (Or.inr rfl) rfl rfl (fun M4 => ?_)
  refine zw_iinc (p := 78) (c := (1 : Int32)) (L2 := fun u2 => [some (.ref a0), some (.int u2)]) (Or.inr rfl) rfl rfl rfl rfl (fun _ => rfl) rfl (fun u2 => ?_)
  refine zw_goto (t := 2) (Or.inr rfl) rfl rfl ?_
  exact zw_end rfl rfl
def zx_Mo_readOperand (E : zE0) (K : zKt) (a0 : Nat) (M : zM) : zO :=
  K 2 [some (.ref a0), some (.int (1 : Int32))] [] M
set_option maxRecDepth 20000 in
theorem ze_Mo_readOperand (d : Nat) (a0 : Nat) (M : zM) : zV (d + 1) n_Mo_readOperand [.ref a0] M = zx_Mo_readOperand (zV d) (zG d n_Mo_readOperand) a0 M := by
  refine (zE_sg (m := zm_Mo_readOperand) rfl 400 _ rfl M).trans ?_
  show zw true zm_Mo_readOperand (zV d) (zG d n_Mo_readOperand) 400 0 [some (.ref a0), none] [] M = _
  unfold zx_Mo_readOperand
  refine zw_iconst (p := 1) (x := (1 : Int32)) (Or.inl rfl) rfl rfl rfl ?_
  refine zw_istore_n (p := 2) (l2 := [some (.ref a0), some (.int (1 : Int32))]) (Or.inr rfl) rfl rfl rfl rfl ?_
  exact zw_end rfl rfl
def zx_Mo_readOperand_2 (E : zE0) (K : zKt) (a0 : Nat) (x1 : Int32) (M : zM) : zO :=
  if x1 = 0 then (zif ((zK M a0).1 = 11)
    (if (zI M a0 18) ≠ 0 then (zif ((zK M a0).1 = 11)
      (if (zI M a0 18) ≠ 0 then (zif ((zK M a0).1 = 11)
        (zbV (E n_Mo_reads [.ref a0] M) fun M1 =>
        some (none, M1)))
      else zif ((zK M a0).1 = 11)
      (zif ((zK M a0).1 = 11)
      (zbI (E n_Mo_byteAt [.ref a0, .int (zI M a0 15)] M) fun u1 M2 =>
      zif ((zK M2 a0).1 = 11)
      (zbV (E n_Mo_wires [.ref a0, .int (u1 - (97 : Int32))] M2) fun M3 =>
      zif ((zK M3 a0).1 = 11)
      (zbV (E n_Mo_joinsAnds [.ref a0] M3) fun M4 =>
      zif ((zK M4 a0).1 = 11)
      (zbV (E n_Mo_reads [.ref a0] M4) fun M5 =>
      some (none, M5))))))))
    else zif ((zK M a0).1 = 11)
    (if (zI M a0 16) ≠ (1 : Int32) then (zif ((zK M a0).1 = 11)
      (zbV (E n_Mo_requires [.ref a0, .int (0 : Int32), .int (2 : Int32)] M) fun M6 =>
      zif ((zK M6 a0).1 = 11)
      (if (zI M6 a0 18) ≠ 0 then (zif ((zK M6 a0).1 = 11)
        (zbV (E n_Mo_reads [.ref a0] M6) fun M7 =>
        some (none, M7)))
      else zif ((zK M6 a0).1 = 11)
      (zif ((zK M6 a0).1 = 11)
      (zbI (E n_Mo_byteAt [.ref a0, .int (zI M6 a0 15)] M6) fun u2 M8 =>
      zif ((zK M8 a0).1 = 11)
      (zbV (E n_Mo_wires [.ref a0, .int (u2 - (97 : Int32))] M8) fun M9 =>
      zif ((zK M9 a0).1 = 11)
      (zbV (E n_Mo_joinsAnds [.ref a0] M9) fun M10 =>
      zif ((zK M10 a0).1 = 11)
      (zbV (E n_Mo_reads [.ref a0] M10) fun M11 =>
      some (none, M11)))))))))
    else zif ((zK M a0).1 = 11)
    (zbV (E n_Mo_requires [.ref a0, .int (1 : Int32), .int (2 : Int32)] M) fun M12 =>
    zif ((zK M12 a0).1 = 11)
    (if (zI M12 a0 18) ≠ 0 then (zif ((zK M12 a0).1 = 11)
      (zbV (E n_Mo_reads [.ref a0] M12) fun M13 =>
      some (none, M13)))
    else zif ((zK M12 a0).1 = 11)
    (zif ((zK M12 a0).1 = 11)
    (zbI (E n_Mo_byteAt [.ref a0, .int (zI M12 a0 15)] M12) fun u3 M14 =>
    zif ((zK M14 a0).1 = 11)
    (zbV (E n_Mo_wires [.ref a0, .int (u3 - (97 : Int32))] M14) fun M15 =>
    zif ((zK M15 a0).1 = 11)
    (zbV (E n_Mo_joinsAnds [.ref a0] M15) fun M16 =>
    zif ((zK M16 a0).1 = 11)
    (zbV (E n_Mo_reads [.ref a0] M16) fun M17 =>
    some (none, M17)))))))))))
  else zif ((zK M a0).1 = 11)
  (zbI (E n_Mo_isSign [.ref a0, .int (33 : Int32)] M) fun u4 M18 =>
  if u4 = 0 then (zif ((zK M18 a0).1 = 11)
    (zbI (E n_Mo_isSign [.ref a0, .int (40 : Int32)] M18) fun u5 M19 =>
    if u5 = 0 then (K 2 [some (.ref a0), some (.int (0 : Int32))] [] M19)
    else zif ((zK M19 a0).1 = 11)
    (zbV (E n_Mo_nests [.ref a0] M19) fun M20 =>
    zif ((zK M20 a0).1 = 11)
    (zif ((zK M20 a0).1 = 11)
    (if (zI M20 a0 18) ≠ 0 then (K 78 [some (.ref a0), none] [.int (0 : Int32), .int (zI M20 a0 27), .ref a0] M20)
    else K 78 [some (.ref a0), none] [.int (1 : Int32), .int (zI M20 a0 27), .ref a0] M20)))))
  else zif ((zK M18 a0).1 = 11)
  (zoR (zR M18 a0 25) fun q1 =>
  zif ((zK M18 a0).1 = 11)
  (zif ((zK M18 a0).1 = 11)
  (zoR (zR M18 a0 25) fun q2 =>
  zif ((zK M18 a0).1 = 11)
  (zif (((zK M18 q2).1 = 21 ∨ (zK M18 q2).1 = 22) ∧ zin (zI M18 a0 27) (zK M18 q2).2 = true)
  (if (zI M18 q2 (Int32.toNatClampNeg (zI M18 a0 27))) ≠ 0 then (zbast M18 q1 (zI M18 a0 27) (0 : Int32) fun M21 =>
    zif ((zK M21 a0).1 = 11)
    (zbV (E n_Mo_reads [.ref a0] M21) fun M22 =>
    K 2 [some (.ref a0), some (.int x1)] [] M22))
  else zbast M18 q1 (zI M18 a0 27) (1 : Int32) fun M23 =>
  zif ((zK M23 a0).1 = 11)
  (zbV (E n_Mo_reads [.ref a0] M23) fun M24 =>
  K 2 [some (.ref a0), some (.int x1)] [] M24)))))))
set_option maxRecDepth 20000 in
theorem zg_Mo_readOperand_2 (d : Nat) (a0 : Nat) (x1 : Int32) (M : zM) : zG d n_Mo_readOperand 2 [some (.ref a0), some (.int x1)] [] M = zx_Mo_readOperand_2 (zV d) (zG d n_Mo_readOperand) a0 x1 M := by
  refine (zG_sg (m := zm_Mo_readOperand) rfl 400 _ _ _ M).trans ?_
  show zw true zm_Mo_readOperand (zV d) (zG d n_Mo_readOperand) 400 2 [some (.ref a0), some (.int x1)] [] M = _
  unfold zx_Mo_readOperand_2
  refine zw_iload_n (p := 3) (Or.inl rfl) rfl rfl rfl ?_
  refine zw_if_eq (t := 114) (p := 6) (Or.inr rfl) rfl rfl rfl ?_ ?_
  · refine zw_aload_n (p := 115) (Or.inr rfl) rfl rfl rfl ?_
    refine zw_get_int (p := 118) (Or.inr rfl) rfl rfl ?_
    refine zw_if_ne (t := 139) (p := 121) (Or.inr rfl) rfl rfl rfl ?_ ?_
    · refine zw_aload_n (p := 140) (Or.inr rfl) rfl rfl rfl ?_
      refine zw_get_int (p := 143) (Or.inr rfl) rfl rfl ?_
      refine zw_if_ne (t := 165) (p := 146) (Or.inr rfl) rfl rfl rfl ?_ ?_
      · refine zw_aload_n (p := 166) (Or.inr rfl) rfl rfl rfl ?_
        refine zw_virtualV (p := 169) (as := [.ref a0]) (rest := []) (Or.inr rfl) rfl rfl rfl rfl rfl rfl rfl (fun M1 => ?_)
        exact zw_return (Or.inr rfl) rfl rfl
      refine zw_aload_n (p := 147) (Or.inr rfl) rfl rfl rfl ?_
      refine zw_aload_n (p := 148) (Or.inr rfl) rfl rfl rfl ?_
      refine zw_aload_n (p := 149) (Or.inr rfl) rfl rfl rfl ?_
      refine zw_get_int (p := 152) (Or.inr rfl) rfl rfl ?_
      refine zw_virtualI (p := 155) (as := [.ref a0, .int (zI M a0 15)]) (rest := [.ref a0]) (Or.inr rfl) rfl rfl rfl rfl rfl rfl rfl (fun u1 M2 => ?_)
      refine zw_bipush (p := 157) (x := (97 : Int32)) (Or.inr rfl) rfl rfl rfl ?_
      refine zw_isub (p := 158) (Or.inr rfl) rfl rfl ?_
      refine zw_virtualV (p := 161) (as := [.ref a0, .int (u1 - (97 : Int32))]) (rest := []) (Or.inr rfl) rfl rfl rfl rfl rfl rfl rfl (fun M3 => ?_)
      refine zw_aload_n (p := 162) (Or.inr rfl) rfl rfl rfl ?_
      refine zw_virtualV (p := 165) (as := [.ref a0]) (rest := []) (Or.inr rfl) rfl rfl rfl rfl rfl rfl rfl (fun M4 => ?_)
      refine zw_aload_n (p := 166) (Or.inr rfl) rfl rfl rfl ?_
      refine zw_virtualV (p := 169) (as := [.ref a0]) (rest := []) (Or.inr rfl) rfl rfl rfl rfl rfl rfl rfl (fun M5 => ?_)
      exact zw_return (Or.inr rfl) rfl rfl
    refine zw_aload_n (p := 122) (Or.inr rfl) rfl rfl rfl ?_
    refine zw_aload_n (p := 123) (Or.inr rfl) rfl rfl rfl ?_
    refine zw_get_int (p := 126) (Or.inr rfl) rfl rfl ?_
    refine zw_iconst (p := 127) (x := (1 : Int32)) (Or.inr rfl) rfl rfl rfl ?_
    refine zw_icmp_ne (t := 134) (p := 130) (Or.inr rfl) rfl rfl rfl ?_ ?_
    · refine zw_iconst (p := 135) (x := (0 : Int32)) (Or.inr rfl) rfl rfl rfl ?_
      refine zw_iconst (p := 136) (x := (2 : Int32)) (Or.inr rfl) rfl rfl rfl ?_
      refine zw_virtualV (p := 139) (as := [.ref a0, .int (0 : Int32), .int (2 : Int32)]) (rest := []) (Or.inr rfl) rfl rfl rfl rfl rfl rfl rfl (fun M6 => ?_)
      refine zw_aload_n (p := 140) (Or.inr rfl) rfl rfl rfl ?_
      refine zw_get_int (p := 143) (Or.inr rfl) rfl rfl ?_
      refine zw_if_ne (t := 165) (p := 146) (Or.inr rfl) rfl rfl rfl ?_ ?_
      · refine zw_aload_n (p := 166) (Or.inr rfl) rfl rfl rfl ?_
        refine zw_virtualV (p := 169) (as := [.ref a0]) (rest := []) (Or.inr rfl) rfl rfl rfl rfl rfl rfl rfl (fun M7 => ?_)
        exact zw_return (Or.inr rfl) rfl rfl
      refine zw_aload_n (p := 147) (Or.inr rfl) rfl rfl rfl ?_
      refine zw_aload_n (p := 148) (Or.inr rfl) rfl rfl rfl ?_
      refine zw_aload_n (p := 149) (Or.inr rfl) rfl rfl rfl ?_
      refine zw_get_int (p := 152) (Or.inr rfl) rfl rfl ?_
      refine zw_virtualI (p := 155) (as := [.ref a0, .int (zI M6 a0 15)]) (rest := [.ref a0]) (Or.inr rfl) rfl rfl rfl rfl rfl rfl rfl (fun u2 M8 => ?_)
      refine zw_bipush (p := 157) (x := (97 : Int32)) (Or.inr rfl) rfl rfl rfl ?_
      refine zw_isub (p := 158) (Or.inr rfl) rfl rfl ?_
      refine zw_virtualV (p := 161) (as := [.ref a0, .int (u2 - (97 : Int32))]) (rest := []) (Or.inr rfl) rfl rfl rfl rfl rfl rfl rfl (fun M9 => ?_)
      refine zw_aload_n (p := 162) (Or.inr rfl) rfl rfl rfl ?_
      refine zw_virtualV (p := 165) (as := [.ref a0]) (rest := []) (Or.inr rfl) rfl rfl rfl rfl rfl rfl rfl (fun M10 => ?_)
      refine zw_aload_n (p := 166) (Or.inr rfl) rfl rfl rfl ?_
      refine zw_virtualV (p := 169) (as := [.ref a0]) (rest := []) (Or.inr rfl) rfl rfl rfl rfl rfl rfl rfl (fun M11 => ?_)
      exact zw_return (Or.inr rfl) rfl rfl
    refine zw_iconst (p := 131) (x := (1 : Int32)) (Or.inr rfl) rfl rfl rfl ?_
    refine zw_goto (t := 135) (Or.inr rfl) rfl rfl ?_
    refine zw_iconst (p := 136) (x := (2 : Int32)) (Or.inr rfl) rfl rfl rfl ?_
    refine zw_virtualV (p := 139) (as := [.ref a0, .int (1 : Int32), .int (2 : Int32)]) (rest := []) (Or.inr rfl) rfl rfl rfl rfl rfl rfl rfl (fun M12 => ?_)
    refine zw_aload_n (p := 140) (Or.inr rfl) rfl rfl rfl ?_
    refine zw_get_int (p := 143) (Or.inr rfl) rfl rfl ?_
    refine zw_if_ne (t := 165) (p := 146) (Or.inr rfl) rfl rfl rfl ?_ ?_
    · refine zw_aload_n (p := 166) (Or.inr rfl) rfl rfl rfl ?_
      refine zw_virtualV (p := 169) (as := [.ref a0]) (rest := []) (Or.inr rfl) rfl rfl rfl rfl rfl rfl rfl (fun M13 => ?_)
      exact zw_return (Or.inr rfl) rfl rfl
    refine zw_aload_n (p := 147) (Or.inr rfl) rfl rfl rfl ?_
    refine zw_aload_n (p := 148) (Or.inr rfl) rfl rfl rfl ?_
    refine zw_aload_n (p := 149) (Or.inr rfl) rfl rfl rfl ?_
    refine zw_get_int (p := 152) (Or.inr rfl) rfl rfl ?_
    refine zw_virtualI (p := 155) (as := [.ref a0, .int (zI M12 a0 15)]) (rest := [.ref a0]) (Or.inr rfl) rfl rfl rfl rfl rfl rfl rfl (fun u3 M14 => ?_)
    refine zw_bipush (p := 157) (x := (97 : Int32)) (Or.inr rfl) rfl rfl rfl ?_
    refine zw_isub (p := 158) (Or.inr rfl) rfl rfl ?_
    refine zw_virtualV (p := 161) (as := [.ref a0, .int (u3 - (97 : Int32))]) (rest := []) (Or.inr rfl) rfl rfl rfl rfl rfl rfl rfl (fun M15 => ?_)
    refine zw_aload_n (p := 162) (Or.inr rfl) rfl rfl rfl ?_
    refine zw_virtualV (p := 165) (as := [.ref a0]) (rest := []) (Or.inr rfl) rfl rfl rfl rfl rfl rfl rfl (fun M16 => ?_)
    refine zw_aload_n (p := 166) (Or.inr rfl) rfl rfl rfl ?_
    refine zw_virtualV (p := 169) (as := [.ref a0]) (rest := []) (Or.inr rfl) rfl rfl rfl rfl rfl rfl rfl (fun M17 => ?_)
    exact zw_return (Or.inr rfl) rfl rfl
  refine zw_aload_n (p := 7) (Or.inr rfl) rfl rfl rfl ?_
  refine zw_bipush (p := 9) (x := (33 : Int32)) (Or.inr rfl) rfl rfl rfl ?_
  refine zw_virtualI (p := 12) (as := [.ref a0, .int (33 : Int32)]) (rest := []) (Or.inr rfl) rfl rfl rfl rfl rfl rfl rfl (fun u4 M18 => ?_)
  refine zw_if_eq (t := 48) (p := 15) (Or.inr rfl) rfl rfl rfl ?_ ?_
  · refine zw_aload_n (p := 49) (Or.inr rfl) rfl rfl rfl ?_
    refine zw_bipush (p := 51) (x := (40 : Int32)) (Or.inr rfl) rfl rfl rfl ?_
    refine zw_virtualI (p := 54) (as := [.ref a0, .int (40 : Int32)]) (rest := []) (Or.inr rfl) rfl rfl rfl rfl rfl rfl rfl (fun u5 M19 => ?_)
    refine zw_if_eq (t := 109) (p := 57) (Or.inr rfl) rfl rfl rfl ?_ ?_
    · refine zw_iconst (p := 110) (x := (0 : Int32)) (Or.inr rfl) rfl rfl rfl ?_
      refine zw_istore_n (p := 111) (l2 := [some (.ref a0), some (.int (0 : Int32))]) (Or.inr rfl) rfl rfl rfl rfl ?_
      refine zw_goto (t := 2) (Or.inr rfl) rfl rfl ?_
      exact zw_end rfl rfl
    refine zw_aload_n (p := 58) (Or.inr rfl) rfl rfl rfl ?_
    refine zw_virtualV (p := 61) (as := [.ref a0]) (rest := []) (Or.inr rfl) rfl rfl rfl rfl rfl rfl rfl (fun M20 => ?_)
    refine zw_aload_n (p := 62) (Or.inr rfl) rfl rfl rfl ?_
    refine zw_dup_ref (p := 63) (Or.inr rfl) rfl rfl ?_
    refine zw_get_int (p := 66) (Or.inr rfl) rfl rfl ?_
    refine zw_aload_n (p := 67) (Or.inr rfl) rfl rfl rfl ?_
    refine zw_get_int (p := 70) (Or.inr rfl) rfl rfl ?_
    refine zw_if_ne (t := 77) (p := 73) (Or.inr rfl) rfl rfl rfl ?_ ?_
    · refine zw_iconst (p := 78) (x := (0 : Int32)) (Or.inr rfl) rfl rfl rfl ?_
      exact zw_end rfl rfl
    refine zw_iconst (p := 74) (x := (1 : Int32)) (Or.inr rfl) rfl rfl rfl ?_
    refine zw_goto (t := 78) (Or.inr rfl) rfl rfl ?_
    exact zw_end rfl rfl
  refine zw_aload_n (p := 16) (Or.inr rfl) rfl rfl rfl ?_
  refine zw_get_ref (p := 19) (Or.inr rfl) rfl rfl (fun q1 => ?_)
  refine zw_aload_n (p := 20) (Or.inr rfl) rfl rfl rfl ?_
  refine zw_get_int (p := 23) (Or.inr rfl) rfl rfl ?_
  refine zw_aload_n (p := 24) (Or.inr rfl) rfl rfl rfl ?_
  refine zw_get_ref (p := 27) (Or.inr rfl) rfl rfl (fun q2 => ?_)
  refine zw_aload_n (p := 28) (Or.inr rfl) rfl rfl rfl ?_
  refine zw_get_int (p := 31) (Or.inr rfl) rfl rfl ?_
  refine zw_baload (p := 32) (Or.inr rfl) rfl rfl ?_
  refine zw_if_ne (t := 39) (p := 35) (Or.inr rfl) rfl rfl rfl ?_ ?_
  · refine zw_iconst (p := 40) (x := (0 : Int32)) (Or.inr rfl) rfl rfl rfl ?_
    refine zw_bastore (p := 41) (Or.inr rfl) rfl rfl (fun M21 => ?_)
    refine zw_aload_n (p := 42) (Or.inr rfl) rfl rfl rfl ?_
    refine zw_virtualV (p := 45) (as := [.ref a0]) (rest := []) (Or.inr rfl) rfl rfl rfl rfl rfl rfl rfl (fun M22 => ?_)
    refine zw_goto (t := 2) (Or.inr rfl) rfl rfl ?_
    exact zw_end rfl rfl
  refine zw_iconst (p := 36) (x := (1 : Int32)) (Or.inr rfl) rfl rfl rfl ?_
  refine zw_goto (t := 40) (Or.inr rfl) rfl rfl ?_
  refine zw_bastore (p := 41) (Or.inr rfl) rfl rfl (fun M23 => ?_)
  refine zw_aload_n (p := 42) (Or.inr rfl) rfl rfl rfl ?_
  refine zw_virtualV (p := 45) (as := [.ref a0]) (rest := []) (Or.inr rfl) rfl rfl rfl rfl rfl rfl rfl (fun M24 => ?_)
  refine zw_goto (t := 2) (Or.inr rfl) rfl rfl ?_
  exact zw_end rfl rfl
def zx_Mo_readOperand_78 (E : zE0) (K : zKt) (a0 : Nat) (s0 : Int32) (s1 : Int32) (s2 : Nat) (M : zM) : zO :=
  zbI (E n_Mo_flag [.int s0] M) fun u1 M1 =>
  zif ((zK M1 s2).1 = 11)
  (zbm (zsI M1 s2 27 (s1 + u1)) fun M2 =>
  zif ((zK M2 a0).1 = 11)
  (if (zI M2 a0 18) ≠ 0 then (if (0 : Int32) = 0 then (K 2 [some (.ref a0), some (.int (0 : Int32))] [] M2)
    else zif ((zK M2 a0).1 = 11)
    (zbV (E n_Mo_opensDepth [.ref a0] M2) fun M3 =>
    K 2 [some (.ref a0), some (.int (0 : Int32))] [] M3))
  else if (1 : Int32) = 0 then (K 2 [some (.ref a0), some (.int (1 : Int32))] [] M2)
  else zif ((zK M2 a0).1 = 11)
  (zbV (E n_Mo_opensDepth [.ref a0] M2) fun M4 =>
  K 2 [some (.ref a0), some (.int (1 : Int32))] [] M4)))
set_option maxRecDepth 20000 in
theorem zg_Mo_readOperand_78 (d : Nat) (a0 : Nat) (s0 : Int32) (s1 : Int32) (s2 : Nat) (M : zM) : zG d n_Mo_readOperand 78 [some (.ref a0), none] [.int s0, .int s1, .ref s2] M = zx_Mo_readOperand_78 (zV d) (zG d n_Mo_readOperand) a0 s0 s1 s2 M := by
  refine (zG_sg (m := zm_Mo_readOperand) rfl 400 _ _ _ M).trans ?_
  show zw true zm_Mo_readOperand (zV d) (zG d n_Mo_readOperand) 400 78 [some (.ref a0), none] [.int s0, .int s1, .ref s2] M = _
  unfold zx_Mo_readOperand_78
  refine zw_staticI (p := 81) (as := [.int s0]) (rest := [.int s1, .ref s2]) (Or.inl rfl) rfl rfl rfl rfl rfl rfl (fun u1 M1 => ?_)
  refine zw_iadd (p := 82) (Or.inr rfl) rfl rfl ?_
  refine zw_put_int (p := 85) (Or.inr rfl) rfl rfl (fun M2 => ?_)
  refine zw_aload_n (p := 86) (Or.inr rfl) rfl rfl rfl ?_
  refine zw_get_int (p := 89) (Or.inr rfl) rfl rfl ?_
  refine zw_if_ne (t := 96) (p := 92) (Or.inr rfl) rfl rfl rfl ?_ ?_
  · refine zw_iconst (p := 97) (x := (0 : Int32)) (Or.inr rfl) rfl rfl rfl ?_
    refine zw_istore_n (p := 98) (l2 := [some (.ref a0), some (.int (0 : Int32))]) (Or.inr rfl) rfl rfl rfl rfl ?_
    refine zw_iload_n (p := 99) (Or.inr rfl) rfl rfl rfl ?_
    refine zw_if_eq (t := 2) (p := 102) (Or.inr rfl) rfl rfl rfl ?_ ?_
    · exact zw_end rfl rfl
    refine zw_aload_n (p := 103) (Or.inr rfl) rfl rfl rfl ?_
    refine zw_virtualV (p := 106) (as := [.ref a0]) (rest := []) (Or.inr rfl) rfl rfl rfl rfl rfl rfl rfl (fun M3 => ?_)
    refine zw_goto (t := 2) (Or.inr rfl) rfl rfl ?_
    exact zw_end rfl rfl
  refine zw_iconst (p := 93) (x := (1 : Int32)) (Or.inr rfl) rfl rfl rfl ?_
  refine zw_goto (t := 97) (Or.inr rfl) rfl rfl ?_
  refine zw_istore_n (p := 98) (l2 := [some (.ref a0), some (.int (1 : Int32))]) (Or.inr rfl) rfl rfl rfl rfl ?_
  refine zw_iload_n (p := 99) (Or.inr rfl) rfl rfl rfl ?_
  refine zw_if_eq (t := 2) (p := 102) (Or.inr rfl) rfl rfl rfl ?_ ?_
  · exact zw_end rfl rfl
  refine zw_aload_n (p := 103) (Or.inr rfl) rfl rfl rfl ?_
  refine zw_virtualV (p := 106) (as := [.ref a0]) (rest := []) (Or.inr rfl) rfl rfl rfl rfl rfl rfl rfl (fun M4 => ?_)
  refine zw_goto (t := 2) (Or.inr rfl) rfl rfl ?_
  exact zw_end rfl rfl
def zx_Mo_readCondition (E : zE0) (K : zKt) (a0 : Nat) (x1 : Int32) (M : zM) : zO :=
  zif ((zK M a0).1 = 11)
  (zbm (zsI M a0 27 (0 : Int32)) fun M1 =>
  zif ((zK M1 a0).1 = 11)
  (zbV (E n_Mo_opensDepth [.ref a0] M1) fun M2 =>
  zif ((zK M2 a0).1 = 11)
  (if (zI M2 a0 18) ≠ 0 then (K 22 [some (.ref a0), some (.int x1), some (.int (0 : Int32)), none, none] [] M2)
  else K 22 [some (.ref a0), some (.int x1), some (.int (1 : Int32)), none, none] [] M2)))
set_option maxRecDepth 20000 in
theorem ze_Mo_readCondition (d : Nat) (a0 : Nat) (x1 : Int32) (M : zM) : zV (d + 1) n_Mo_readCondition [.ref a0, .int x1] M = zx_Mo_readCondition (zV d) (zG d n_Mo_readCondition) a0 x1 M := by
  refine (zE_sg (m := zm_Mo_readCondition) rfl 400 _ rfl M).trans ?_
  show zw true zm_Mo_readCondition (zV d) (zG d n_Mo_readCondition) 400 0 [some (.ref a0), some (.int x1), none, none, none] [] M = _
  unfold zx_Mo_readCondition
  refine zw_aload_n (p := 1) (Or.inl rfl) rfl rfl rfl ?_
  refine zw_iconst (p := 2) (x := (0 : Int32)) (Or.inr rfl) rfl rfl rfl ?_
  refine zw_put_int (p := 5) (Or.inr rfl) rfl rfl (fun M1 => ?_)
  refine zw_aload_n (p := 6) (Or.inr rfl) rfl rfl rfl ?_
  refine zw_virtualV (p := 9) (as := [.ref a0]) (rest := []) (Or.inr rfl) rfl rfl rfl rfl rfl rfl rfl (fun M2 => ?_)
  refine zw_aload_n (p := 10) (Or.inr rfl) rfl rfl rfl ?_
  refine zw_get_int (p := 13) (Or.inr rfl) rfl rfl ?_
  refine zw_if_ne (t := 20) (p := 16) (Or.inr rfl) rfl rfl rfl ?_ ?_
  · refine zw_iconst (p := 21) (x := (0 : Int32)) (Or.inr rfl) rfl rfl rfl ?_
    refine zw_istore_n (p := 22) (l2 := [some (.ref a0), some (.int x1), some (.int (0 : Int32)), none, none]) (Or.inr rfl) rfl rfl rfl rfl ?_
    exact zw_end rfl rfl
  refine zw_iconst (p := 17) (x := (1 : Int32)) (Or.inr rfl) rfl rfl rfl ?_
  refine zw_goto (t := 21) (Or.inr rfl) rfl rfl ?_
  refine zw_istore_n (p := 22) (l2 := [some (.ref a0), some (.int x1), some (.int (1 : Int32)), none, none]) (Or.inr rfl) rfl rfl rfl rfl ?_
  exact zw_end rfl rfl
def zx_Mo_readCondition_22 (E : zE0) (K : zKt) (a0 : Nat) (x1 : Int32) (x2 : Int32) (M : zM) : zO :=
  if x2 = 0 then (zif ((zK M a0).1 = 11)
    (if (zI M a0 18) ≠ 0 then (zif ((zK M a0).1 = 11)
      (if (zI M a0 18) ≠ 0 then (some (none, M))
      else zif ((zK M a0).1 = 11)
      (zbV (E n_Mo_joinsOrs [.ref a0] M) fun M1 =>
      K 261 [some (.ref a0), none, none, some (.int (0 : Int32)), none] [] M1)))
    else zif ((zK M a0).1 = 11)
    (if (zI M a0 27) ≠ 0 then (zif ((zK M a0).1 = 11)
      (zbV (E n_Mo_requires [.ref a0, .int (0 : Int32), .int (2 : Int32)] M) fun M2 =>
      zif ((zK M2 a0).1 = 11)
      (if (zI M2 a0 18) ≠ 0 then (some (none, M2))
      else zif ((zK M2 a0).1 = 11)
      (zbV (E n_Mo_joinsOrs [.ref a0] M2) fun M3 =>
      K 261 [some (.ref a0), none, none, some (.int (0 : Int32)), none] [] M3))))
    else zif ((zK M a0).1 = 11)
    (zbV (E n_Mo_requires [.ref a0, .int (1 : Int32), .int (2 : Int32)] M) fun M4 =>
    zif ((zK M4 a0).1 = 11)
    (if (zI M4 a0 18) ≠ 0 then (some (none, M4))
    else zif ((zK M4 a0).1 = 11)
    (zbV (E n_Mo_joinsOrs [.ref a0] M4) fun M5 =>
    K 261 [some (.ref a0), none, none, some (.int (0 : Int32)), none] [] M5))))))
  else zif ((zK M a0).1 = 11)
  (zbV (E n_Mo_readOperand [.ref a0] M) fun M6 =>
  K 32 [some (.ref a0), some (.int x1), none, some (.int (1 : Int32)), none] [] M6)
set_option maxRecDepth 20000 in
theorem zg_Mo_readCondition_22 (d : Nat) (a0 : Nat) (x1 : Int32) (x2 : Int32) (M : zM) : zG d n_Mo_readCondition 22 [some (.ref a0), some (.int x1), some (.int x2), none, none] [] M = zx_Mo_readCondition_22 (zV d) (zG d n_Mo_readCondition) a0 x1 x2 M := by
  refine (zG_sg (m := zm_Mo_readCondition) rfl 400 _ _ _ M).trans ?_
  show zw true zm_Mo_readCondition (zV d) (zG d n_Mo_readCondition) 400 22 [some (.ref a0), some (.int x1), some (.int x2), none, none] [] M = _
  unfold zx_Mo_readCondition_22
  refine zw_iload_n (p := 23) (Or.inl rfl) rfl rfl rfl ?_
  refine zw_if_eq (t := 224) (p := 26) (Or.inr rfl) rfl rfl rfl ?_ ?_
  · refine zw_aload_n (p := 225) (Or.inr rfl) rfl rfl rfl ?_
    refine zw_get_int (p := 228) (Or.inr rfl) rfl rfl ?_
    refine zw_if_ne (t := 248) (p := 231) (Or.inr rfl) rfl rfl rfl ?_ ?_
    · refine zw_aload_n (p := 249) (Or.inr rfl) rfl rfl rfl ?_
      refine zw_get_int (p := 252) (Or.inr rfl) rfl rfl ?_
      refine zw_if_ne (t := 284) (p := 255) (Or.inr rfl) rfl rfl rfl ?_ ?_
      · exact zw_return (Or.inr rfl) rfl rfl
      refine zw_aload_n (p := 256) (Or.inr rfl) rfl rfl rfl ?_
      refine zw_virtualV (p := 259) (as := [.ref a0]) (rest := []) (Or.inr rfl) rfl rfl rfl rfl rfl rfl rfl (fun M1 => ?_)
      refine zw_iconst (p := 260) (x := (0 : Int32)) (Or.inr rfl) rfl rfl rfl ?_
      refine zw_istore_n (p := 261) (l2 := [some (.ref a0), some (.int x1), some (.int x2), some (.int (0 : Int32)), none]) (Or.inr rfl) rfl rfl rfl rfl ?_
      exact zw_end rfl rfl
    refine zw_aload_n (p := 232) (Or.inr rfl) rfl rfl rfl ?_
    refine zw_aload_n (p := 233) (Or.inr rfl) rfl rfl rfl ?_
    refine zw_get_int (p := 236) (Or.inr rfl) rfl rfl ?_
    refine zw_if_ne (t := 243) (p := 239) (Or.inr rfl) rfl rfl rfl ?_ ?_
    · refine zw_iconst (p := 244) (x := (0 : Int32)) (Or.inr rfl) rfl rfl rfl ?_
      refine zw_iconst (p := 245) (x := (2 : Int32)) (Or.inr rfl) rfl rfl rfl ?_
      refine zw_virtualV (p := 248) (as := [.ref a0, .int (0 : Int32), .int (2 : Int32)]) (rest := []) (Or.inr rfl) rfl rfl rfl rfl rfl rfl rfl (fun M2 => ?_)
      refine zw_aload_n (p := 249) (Or.inr rfl) rfl rfl rfl ?_
      refine zw_get_int (p := 252) (Or.inr rfl) rfl rfl ?_
      refine zw_if_ne (t := 284) (p := 255) (Or.inr rfl) rfl rfl rfl ?_ ?_
      · exact zw_return (Or.inr rfl) rfl rfl
      refine zw_aload_n (p := 256) (Or.inr rfl) rfl rfl rfl ?_
      refine zw_virtualV (p := 259) (as := [.ref a0]) (rest := []) (Or.inr rfl) rfl rfl rfl rfl rfl rfl rfl (fun M3 => ?_)
      refine zw_iconst (p := 260) (x := (0 : Int32)) (Or.inr rfl) rfl rfl rfl ?_
      refine zw_istore_n (p := 261) (l2 := [some (.ref a0), some (.int x1), some (.int x2), some (.int (0 : Int32)), none]) (Or.inr rfl) rfl rfl rfl rfl ?_
      exact zw_end rfl rfl
    refine zw_iconst (p := 240) (x := (1 : Int32)) (Or.inr rfl) rfl rfl rfl ?_
    refine zw_goto (t := 244) (Or.inr rfl) rfl rfl ?_
    refine zw_iconst (p := 245) (x := (2 : Int32)) (Or.inr rfl) rfl rfl rfl ?_
    refine zw_virtualV (p := 248) (as := [.ref a0, .int (1 : Int32), .int (2 : Int32)]) (rest := []) (Or.inr rfl) rfl rfl rfl rfl rfl rfl rfl (fun M4 => ?_)
    refine zw_aload_n (p := 249) (Or.inr rfl) rfl rfl rfl ?_
    refine zw_get_int (p := 252) (Or.inr rfl) rfl rfl ?_
    refine zw_if_ne (t := 284) (p := 255) (Or.inr rfl) rfl rfl rfl ?_ ?_
    · exact zw_return (Or.inr rfl) rfl rfl
    refine zw_aload_n (p := 256) (Or.inr rfl) rfl rfl rfl ?_
    refine zw_virtualV (p := 259) (as := [.ref a0]) (rest := []) (Or.inr rfl) rfl rfl rfl rfl rfl rfl rfl (fun M5 => ?_)
    refine zw_iconst (p := 260) (x := (0 : Int32)) (Or.inr rfl) rfl rfl rfl ?_
    refine zw_istore_n (p := 261) (l2 := [some (.ref a0), some (.int x1), some (.int x2), some (.int (0 : Int32)), none]) (Or.inr rfl) rfl rfl rfl rfl ?_
    exact zw_end rfl rfl
  refine zw_aload_n (p := 27) (Or.inr rfl) rfl rfl rfl ?_
  refine zw_virtualV (p := 30) (as := [.ref a0]) (rest := []) (Or.inr rfl) rfl rfl rfl rfl rfl rfl rfl (fun M6 => ?_)
  refine zw_iconst (p := 31) (x := (1 : Int32)) (Or.inr rfl) rfl rfl rfl ?_
  refine zw_istore_n (p := 32) (l2 := [some (.ref a0), some (.int x1), some (.int x2), some (.int (1 : Int32)), none]) (Or.inr rfl) rfl rfl rfl rfl ?_
  exact zw_end rfl rfl
def zx_Mo_readCondition_261 (E : zE0) (K : zKt) (a0 : Nat) (x3 : Int32) (M : zM) : zO :=
  if (4 : Int32) ≤ x3 then (some (none, M))
  else zif ((zK M a0).1 = 11)
  (zoR (zR M a0 26) fun q1 =>
  zif ((zK M a0).1 = 11)
  (zoR (zR M a0 21) fun q2 =>
  zif (((zK M q2).1 = 23 ∨ (zK M q2).1 = 25) ∧ zin x3 (zK M q2).2 = true)
  (zif ((zK M q1).1 = 23 ∧ zin x3 (zK M q1).2 = true)
  (zbm (zsL M q1 (Int32.toNatClampNeg x3) (zL M q2 (Int32.toNatClampNeg x3))) fun M1 =>
  zbi (x3 + (1 : Int32)) fun u1 =>
  K 261 [some (.ref a0), none, none, some (.int u1), none] [] M1))))
set_option maxRecDepth 20000 in
theorem zg_Mo_readCondition_261 (d : Nat) (a0 : Nat) (x3 : Int32) (M : zM) : zG d n_Mo_readCondition 261 [some (.ref a0), none, none, some (.int x3), none] [] M = zx_Mo_readCondition_261 (zV d) (zG d n_Mo_readCondition) a0 x3 M := by
  refine (zG_sg (m := zm_Mo_readCondition) rfl 400 _ _ _ M).trans ?_
  show zw true zm_Mo_readCondition (zV d) (zG d n_Mo_readCondition) 400 261 [some (.ref a0), none, none, some (.int x3), none] [] M = _
  unfold zx_Mo_readCondition_261
  refine zw_iload_n (p := 262) (Or.inl rfl) rfl rfl rfl ?_
  refine zw_iconst (p := 263) (x := (4 : Int32)) (Or.inr rfl) rfl rfl rfl ?_
  refine zw_icmp_ge (t := 284) (p := 266) (Or.inr rfl) rfl rfl rfl ?_ ?_
  · exact zw_return (Or.inr rfl) rfl rfl
  refine zw_aload_n (p := 267) (Or.inr rfl) rfl rfl rfl ?_
  refine zw_get_ref (p := 270) (Or.inr rfl) rfl rfl (fun q1 => ?_)
  refine zw_iload_n (p := 271) (Or.inr rfl) rfl rfl rfl ?_
  refine zw_aload_n (p := 272) (Or.inr rfl) rfl rfl rfl ?_
  refine zw_get_ref (p := 275) (Or.inr rfl) rfl rfl (fun q2 => ?_)
  refine zw_iload_n (p := 276) (Or.inr rfl) rfl rfl rfl ?_
  refine zw_laload (p := 277) (Or.inr rfl) rfl rfl ?_
  refine zw_lastore (p := 278) (Or.inr rfl) rfl rfl (fun M1 => ?_)
  refine zw_iinc (p := 281) (c := (1 : Int32)) (L2 := fun u1 => [some (.ref a0), none, none, some (.int u1), none]) (Or.inr rfl) rfl rfl rfl rfl (fun _ => rfl) rfl (fun u1 => ?_)
  refine zw_goto (t := 261) (Or.inr rfl) rfl rfl ?_
  exact zw_end rfl rfl
def zx_Mo_readCondition_32 (E : zE0) (K : zKt) (a0 : Nat) (x1 : Int32) (x3 : Int32) (M : zM) : zO :=
  if x3 = 0 then (K 140 [some (.ref a0), some (.int x1), none, none, none] [] M)
  else zif ((zK M a0).1 = 11)
  (if (zI M a0 18) ≠ 0 then (K 140 [some (.ref a0), some (.int x1), none, none, none] [] M)
  else zif ((zK M a0).1 = 11)
  (if (zI M a0 27) ≤ 0 then (if (0 : Int32) = 0 then (K 32 [some (.ref a0), some (.int x1), none, some (.int (0 : Int32)), none] [] M)
    else zif ((zK M a0).1 = 11)
    (zbV (E n_Mo_joinsOrs [.ref a0] M) fun M1 =>
    K 76 [some (.ref a0), some (.int x1), none, some (.int (0 : Int32)), some (.int (0 : Int32))] [] M1))
  else zif ((zK M a0).1 = 11)
  (zbI (E n_Mo_isSign [.ref a0, .int (41 : Int32)] M) fun u1 M2 =>
  if u1 = 0 then (if (0 : Int32) = 0 then (K 32 [some (.ref a0), some (.int x1), none, some (.int (0 : Int32)), none] [] M2)
    else zif ((zK M2 a0).1 = 11)
    (zbV (E n_Mo_joinsOrs [.ref a0] M2) fun M3 =>
    K 76 [some (.ref a0), some (.int x1), none, some (.int (0 : Int32)), some (.int (0 : Int32))] [] M3))
  else if (1 : Int32) = 0 then (K 32 [some (.ref a0), some (.int x1), none, some (.int (1 : Int32)), none] [] M2)
  else zif ((zK M2 a0).1 = 11)
  (zbV (E n_Mo_joinsOrs [.ref a0] M2) fun M4 =>
  K 76 [some (.ref a0), some (.int x1), none, some (.int (1 : Int32)), some (.int (0 : Int32))] [] M4))))
set_option maxRecDepth 20000 in
theorem zg_Mo_readCondition_32 (d : Nat) (a0 : Nat) (x1 : Int32) (x3 : Int32) (M : zM) : zG d n_Mo_readCondition 32 [some (.ref a0), some (.int x1), none, some (.int x3), none] [] M = zx_Mo_readCondition_32 (zV d) (zG d n_Mo_readCondition) a0 x1 x3 M := by
  refine (zG_sg (m := zm_Mo_readCondition) rfl 400 _ _ _ M).trans ?_
  show zw true zm_Mo_readCondition (zV d) (zG d n_Mo_readCondition) 400 32 [some (.ref a0), some (.int x1), none, some (.int x3), none] [] M = _
  unfold zx_Mo_readCondition_32
  refine zw_iload_n (p := 33) (Or.inl rfl) rfl rfl rfl ?_
  refine zw_if_eq (t := 140) (p := 36) (Or.inr rfl) rfl rfl rfl ?_ ?_
  · exact zw_end rfl rfl
  refine zw_aload_n (p := 37) (Or.inr rfl) rfl rfl rfl ?_
  refine zw_get_int (p := 40) (Or.inr rfl) rfl rfl ?_
  refine zw_if_ne (t := 140) (p := 43) (Or.inr rfl) rfl rfl rfl ?_ ?_
  · exact zw_end rfl rfl
  refine zw_aload_n (p := 44) (Or.inr rfl) rfl rfl rfl ?_
  refine zw_get_int (p := 47) (Or.inr rfl) rfl rfl ?_
  refine zw_if_le (t := 63) (p := 50) (Or.inr rfl) rfl rfl rfl ?_ ?_
  · refine zw_iconst (p := 64) (x := (0 : Int32)) (Or.inr rfl) rfl rfl rfl ?_
    refine zw_istore_n (p := 65) (l2 := [some (.ref a0), some (.int x1), none, some (.int (0 : Int32)), none]) (Or.inr rfl) rfl rfl rfl rfl ?_
    refine zw_iload_n (p := 66) (Or.inr rfl) rfl rfl rfl ?_
    refine zw_if_eq (t := 32) (p := 69) (Or.inr rfl) rfl rfl rfl ?_ ?_
    · exact zw_end rfl rfl
    refine zw_aload_n (p := 70) (Or.inr rfl) rfl rfl rfl ?_
    refine zw_virtualV (p := 73) (as := [.ref a0]) (rest := []) (Or.inr rfl) rfl rfl rfl rfl rfl rfl rfl (fun M1 => ?_)
    refine zw_iconst (p := 74) (x := (0 : Int32)) (Or.inr rfl) rfl rfl rfl ?_
    refine zw_istore (p := 76) (l2 := [some (.ref a0), some (.int x1), none, some (.int (0 : Int32)), some (.int (0 : Int32))]) (Or.inr rfl) rfl rfl rfl rfl ?_
    exact zw_end rfl rfl
  refine zw_aload_n (p := 51) (Or.inr rfl) rfl rfl rfl ?_
  refine zw_bipush (p := 53) (x := (41 : Int32)) (Or.inr rfl) rfl rfl rfl ?_
  refine zw_virtualI (p := 56) (as := [.ref a0, .int (41 : Int32)]) (rest := []) (Or.inr rfl) rfl rfl rfl rfl rfl rfl rfl (fun u1 M2 => ?_)
  refine zw_if_eq (t := 63) (p := 59) (Or.inr rfl) rfl rfl rfl ?_ ?_
  · refine zw_iconst (p := 64) (x := (0 : Int32)) (Or.inr rfl) rfl rfl rfl ?_
    refine zw_istore_n (p := 65) (l2 := [some (.ref a0), some (.int x1), none, some (.int (0 : Int32)), none]) (Or.inr rfl) rfl rfl rfl rfl ?_
    refine zw_iload_n (p := 66) (Or.inr rfl) rfl rfl rfl ?_
    refine zw_if_eq (t := 32) (p := 69) (Or.inr rfl) rfl rfl rfl ?_ ?_
    · exact zw_end rfl rfl
    refine zw_aload_n (p := 70) (Or.inr rfl) rfl rfl rfl ?_
    refine zw_virtualV (p := 73) (as := [.ref a0]) (rest := []) (Or.inr rfl) rfl rfl rfl rfl rfl rfl rfl (fun M3 => ?_)
    refine zw_iconst (p := 74) (x := (0 : Int32)) (Or.inr rfl) rfl rfl rfl ?_
    refine zw_istore (p := 76) (l2 := [some (.ref a0), some (.int x1), none, some (.int (0 : Int32)), some (.int (0 : Int32))]) (Or.inr rfl) rfl rfl rfl rfl ?_
    exact zw_end rfl rfl
  refine zw_iconst (p := 60) (x := (1 : Int32)) (Or.inr rfl) rfl rfl rfl ?_
  refine zw_goto (t := 64) (Or.inr rfl) rfl rfl ?_
  refine zw_istore_n (p := 65) (l2 := [some (.ref a0), some (.int x1), none, some (.int (1 : Int32)), none]) (Or.inr rfl) rfl rfl rfl rfl ?_
  refine zw_iload_n (p := 66) (Or.inr rfl) rfl rfl rfl ?_
  refine zw_if_eq (t := 32) (p := 69) (Or.inr rfl) rfl rfl rfl ?_ ?_
  · exact zw_end rfl rfl
  refine zw_aload_n (p := 70) (Or.inr rfl) rfl rfl rfl ?_
  refine zw_virtualV (p := 73) (as := [.ref a0]) (rest := []) (Or.inr rfl) rfl rfl rfl rfl rfl rfl rfl (fun M4 => ?_)
  refine zw_iconst (p := 74) (x := (0 : Int32)) (Or.inr rfl) rfl rfl rfl ?_
  refine zw_istore (p := 76) (l2 := [some (.ref a0), some (.int x1), none, some (.int (1 : Int32)), some (.int (0 : Int32))]) (Or.inr rfl) rfl rfl rfl rfl ?_
  exact zw_end rfl rfl
def zx_Mo_readCondition_140 (E : zE0) (K : zKt) (a0 : Nat) (x1 : Int32) (M : zM) : zO :=
  zif ((zK M a0).1 = 11)
  (if 0 < (zI M a0 27) then (if (1 : Int32) = 0 then (K 186 [some (.ref a0), some (.int x1), none, none, none] [.int (0 : Int32)] M)
    else zif ((zK M a0).1 = 11)
    (zbI (E n_Mo_isSign [.ref a0, .int (38 : Int32)] M) fun u1 M1 =>
    if u1 ≠ 0 then (K 186 [some (.ref a0), some (.int x1), none, none, none] [.int (1 : Int32)] M1)
    else zif ((zK M1 a0).1 = 11)
    (zbI (E n_Mo_isSign [.ref a0, .int (124 : Int32)] M1) fun u2 M2 =>
    if u2 = 0 then (K 186 [some (.ref a0), some (.int x1), none, none, none] [.int (0 : Int32)] M2)
    else K 186 [some (.ref a0), some (.int x1), none, none, none] [.int (1 : Int32)] M2)))
  else if x1 = 0 then (if (0 : Int32) = 0 then (K 186 [some (.ref a0), some (.int x1), none, none, none] [.int (0 : Int32)] M)
    else zif ((zK M a0).1 = 11)
    (zbI (E n_Mo_isSign [.ref a0, .int (38 : Int32)] M) fun u3 M3 =>
    if u3 ≠ 0 then (K 186 [some (.ref a0), some (.int x1), none, none, none] [.int (1 : Int32)] M3)
    else zif ((zK M3 a0).1 = 11)
    (zbI (E n_Mo_isSign [.ref a0, .int (124 : Int32)] M3) fun u4 M4 =>
    if u4 = 0 then (K 186 [some (.ref a0), some (.int x1), none, none, none] [.int (0 : Int32)] M4)
    else K 186 [some (.ref a0), some (.int x1), none, none, none] [.int (1 : Int32)] M4)))
  else if (1 : Int32) = 0 then (K 186 [some (.ref a0), some (.int x1), none, none, none] [.int (0 : Int32)] M)
  else zif ((zK M a0).1 = 11)
  (zbI (E n_Mo_isSign [.ref a0, .int (38 : Int32)] M) fun u5 M5 =>
  if u5 ≠ 0 then (K 186 [some (.ref a0), some (.int x1), none, none, none] [.int (1 : Int32)] M5)
  else zif ((zK M5 a0).1 = 11)
  (zbI (E n_Mo_isSign [.ref a0, .int (124 : Int32)] M5) fun u6 M6 =>
  if u6 = 0 then (K 186 [some (.ref a0), some (.int x1), none, none, none] [.int (0 : Int32)] M6)
  else K 186 [some (.ref a0), some (.int x1), none, none, none] [.int (1 : Int32)] M6)))
set_option maxRecDepth 20000 in
theorem zg_Mo_readCondition_140 (d : Nat) (a0 : Nat) (x1 : Int32) (M : zM) : zG d n_Mo_readCondition 140 [some (.ref a0), some (.int x1), none, none, none] [] M = zx_Mo_readCondition_140 (zV d) (zG d n_Mo_readCondition) a0 x1 M := by
  refine (zG_sg (m := zm_Mo_readCondition) rfl 400 _ _ _ M).trans ?_
  show zw true zm_Mo_readCondition (zV d) (zG d n_Mo_readCondition) 400 140 [some (.ref a0), some (.int x1), none, none, none] [] M = _
  unfold zx_Mo_readCondition_140
  refine zw_aload_n (p := 141) (Or.inl rfl) rfl rfl rfl ?_
  refine zw_get_int (p := 144) (Or.inr rfl) rfl rfl ?_
  refine zw_if_gt (t := 151) (p := 147) (Or.inr rfl) rfl rfl rfl ?_ ?_
  · refine zw_iconst (p := 152) (x := (1 : Int32)) (Or.inr rfl) rfl rfl rfl ?_
    refine zw_goto (t := 156) (Or.inr rfl) rfl rfl ?_
    refine zw_istore (p := 158) (l2 := [some (.ref a0), some (.int x1), none, none, some (.int (1 : Int32))]) (Or.inr rfl) rfl rfl rfl rfl ?_
    refine zw_iload (p := 160) (Or.inr rfl) rfl rfl rfl ?_
    refine zw_if_eq (t := 185) (p := 163) (Or.inr rfl) rfl rfl rfl ?_ ?_
    · refine zw_iconst (p := 186) (x := (0 : Int32)) (Or.inr rfl) rfl rfl rfl ?_
      exact zw_end rfl rfl
    refine zw_aload_n (p := 164) (Or.inr rfl) rfl rfl rfl ?_
    refine zw_bipush (p := 166) (x := (38 : Int32)) (Or.inr rfl) rfl rfl rfl ?_
    refine zw_virtualI (p := 169) (as := [.ref a0, .int (38 : Int32)]) (rest := []) (Or.inr rfl) rfl rfl rfl rfl rfl rfl rfl (fun u1 M1 => ?_)
    refine zw_if_ne (t := 181) (p := 172) (Or.inr rfl) rfl rfl rfl ?_ ?_
    · refine zw_iconst (p := 182) (x := (1 : Int32)) (Or.inr rfl) rfl rfl rfl ?_
      refine zw_goto (t := 186) (Or.inr rfl) rfl rfl ?_
      exact zw_end rfl rfl
    refine zw_aload_n (p := 173) (Or.inr rfl) rfl rfl rfl ?_
    refine zw_bipush (p := 175) (x := (124 : Int32)) (Or.inr rfl) rfl rfl rfl ?_
    refine zw_virtualI (p := 178) (as := [.ref a0, .int (124 : Int32)]) (rest := []) (Or.inr rfl) rfl rfl rfl rfl rfl rfl rfl (fun u2 M2 => ?_)
    refine zw_if_eq (t := 185) (p := 181) (Or.inr rfl) rfl rfl rfl ?_ ?_
    · refine zw_iconst (p := 186) (x := (0 : Int32)) (Or.inr rfl) rfl rfl rfl ?_
      exact zw_end rfl rfl
    refine zw_iconst (p := 182) (x := (1 : Int32)) (Or.inr rfl) rfl rfl rfl ?_
    refine zw_goto (t := 186) (Or.inr rfl) rfl rfl ?_
    exact zw_end rfl rfl
  refine zw_iload_n (p := 148) (Or.inr rfl) rfl rfl rfl ?_
  refine zw_if_eq (t := 155) (p := 151) (Or.inr rfl) rfl rfl rfl ?_ ?_
  · refine zw_iconst (p := 156) (x := (0 : Int32)) (Or.inr rfl) rfl rfl rfl ?_
    refine zw_istore (p := 158) (l2 := [some (.ref a0), some (.int x1), none, none, some (.int (0 : Int32))]) (Or.inr rfl) rfl rfl rfl rfl ?_
    refine zw_iload (p := 160) (Or.inr rfl) rfl rfl rfl ?_
    refine zw_if_eq (t := 185) (p := 163) (Or.inr rfl) rfl rfl rfl ?_ ?_
    · refine zw_iconst (p := 186) (x := (0 : Int32)) (Or.inr rfl) rfl rfl rfl ?_
      exact zw_end rfl rfl
    refine zw_aload_n (p := 164) (Or.inr rfl) rfl rfl rfl ?_
    refine zw_bipush (p := 166) (x := (38 : Int32)) (Or.inr rfl) rfl rfl rfl ?_
    refine zw_virtualI (p := 169) (as := [.ref a0, .int (38 : Int32)]) (rest := []) (Or.inr rfl) rfl rfl rfl rfl rfl rfl rfl (fun u3 M3 => ?_)
    refine zw_if_ne (t := 181) (p := 172) (Or.inr rfl) rfl rfl rfl ?_ ?_
    · refine zw_iconst (p := 182) (x := (1 : Int32)) (Or.inr rfl) rfl rfl rfl ?_
      refine zw_goto (t := 186) (Or.inr rfl) rfl rfl ?_
      exact zw_end rfl rfl
    refine zw_aload_n (p := 173) (Or.inr rfl) rfl rfl rfl ?_
    refine zw_bipush (p := 175) (x := (124 : Int32)) (Or.inr rfl) rfl rfl rfl ?_
    refine zw_virtualI (p := 178) (as := [.ref a0, .int (124 : Int32)]) (rest := []) (Or.inr rfl) rfl rfl rfl rfl rfl rfl rfl (fun u4 M4 => ?_)
    refine zw_if_eq (t := 185) (p := 181) (Or.inr rfl) rfl rfl rfl ?_ ?_
    · refine zw_iconst (p := 186) (x := (0 : Int32)) (Or.inr rfl) rfl rfl rfl ?_
      exact zw_end rfl rfl
    refine zw_iconst (p := 182) (x := (1 : Int32)) (Or.inr rfl) rfl rfl rfl ?_
    refine zw_goto (t := 186) (Or.inr rfl) rfl rfl ?_
    exact zw_end rfl rfl
  refine zw_iconst (p := 152) (x := (1 : Int32)) (Or.inr rfl) rfl rfl rfl ?_
  refine zw_goto (t := 156) (Or.inr rfl) rfl rfl ?_
  refine zw_istore (p := 158) (l2 := [some (.ref a0), some (.int x1), none, none, some (.int (1 : Int32))]) (Or.inr rfl) rfl rfl rfl rfl ?_
  refine zw_iload (p := 160) (Or.inr rfl) rfl rfl rfl ?_
  refine zw_if_eq (t := 185) (p := 163) (Or.inr rfl) rfl rfl rfl ?_ ?_
  · refine zw_iconst (p := 186) (x := (0 : Int32)) (Or.inr rfl) rfl rfl rfl ?_
    exact zw_end rfl rfl
  refine zw_aload_n (p := 164) (Or.inr rfl) rfl rfl rfl ?_
  refine zw_bipush (p := 166) (x := (38 : Int32)) (Or.inr rfl) rfl rfl rfl ?_
  refine zw_virtualI (p := 169) (as := [.ref a0, .int (38 : Int32)]) (rest := []) (Or.inr rfl) rfl rfl rfl rfl rfl rfl rfl (fun u5 M5 => ?_)
  refine zw_if_ne (t := 181) (p := 172) (Or.inr rfl) rfl rfl rfl ?_ ?_
  · refine zw_iconst (p := 182) (x := (1 : Int32)) (Or.inr rfl) rfl rfl rfl ?_
    refine zw_goto (t := 186) (Or.inr rfl) rfl rfl ?_
    exact zw_end rfl rfl
  refine zw_aload_n (p := 173) (Or.inr rfl) rfl rfl rfl ?_
  refine zw_bipush (p := 175) (x := (124 : Int32)) (Or.inr rfl) rfl rfl rfl ?_
  refine zw_virtualI (p := 178) (as := [.ref a0, .int (124 : Int32)]) (rest := []) (Or.inr rfl) rfl rfl rfl rfl rfl rfl rfl (fun u6 M6 => ?_)
  refine zw_if_eq (t := 185) (p := 181) (Or.inr rfl) rfl rfl rfl ?_ ?_
  · refine zw_iconst (p := 186) (x := (0 : Int32)) (Or.inr rfl) rfl rfl rfl ?_
    exact zw_end rfl rfl
  refine zw_iconst (p := 182) (x := (1 : Int32)) (Or.inr rfl) rfl rfl rfl ?_
  refine zw_goto (t := 186) (Or.inr rfl) rfl rfl ?_
  exact zw_end rfl rfl
def zx_Mo_readCondition_76 (E : zE0) (K : zKt) (a0 : Nat) (x1 : Int32) (x3 : Int32) (x4 : Int32) (M : zM) : zO :=
  if (4 : Int32) ≤ x4 then (zif ((zK M a0).1 = 11)
    (zif ((zK M a0).1 = 11)
    (zbm (zsI M a0 27 ((zI M a0 27) - (1 : Int32))) fun M1 =>
    zif ((zK M1 a0).1 = 11)
    (zif ((zK M1 a0).1 = 11)
    (zbm (zsI M1 a0 20 ((zI M1 a0 20) - (1 : Int32))) fun M2 =>
    zif ((zK M2 a0).1 = 11)
    (zbV (E n_Mo_joinsAnds [.ref a0] M2) fun M3 =>
    zif ((zK M3 a0).1 = 11)
    (zbV (E n_Mo_reads [.ref a0] M3) fun M4 =>
    K 32 [some (.ref a0), some (.int x1), none, some (.int x3), none] [] M4)))))))
  else zif ((zK M a0).1 = 11)
  (zoR (zR M a0 26) fun q1 =>
  zif ((zK M a0).1 = 11)
  (zoR (zR M a0 21) fun q2 =>
  zif ((zK M a0).1 = 11)
  (zif (((zK M q2).1 = 23 ∨ (zK M q2).1 = 25) ∧ zin (((4 : Int32) * (zI M a0 27)) + x4) (zK M q2).2 = true)
  (zif ((zK M q1).1 = 23 ∧ zin x4 (zK M q1).2 = true)
  (zbm (zsL M q1 (Int32.toNatClampNeg x4) (zL M q2 (Int32.toNatClampNeg (((4 : Int32) * (zI M a0 27)) + x4)))) fun M5 =>
  zbi (x4 + (1 : Int32)) fun u1 =>
  K 76 [some (.ref a0), some (.int x1), none, some (.int x3), some (.int u1)] [] M5)))))
set_option maxRecDepth 20000 in
theorem zg_Mo_readCondition_76 (d : Nat) (a0 : Nat) (x1 : Int32) (x3 : Int32) (x4 : Int32) (M : zM) : zG d n_Mo_readCondition 76 [some (.ref a0), some (.int x1), none, some (.int x3), some (.int x4)] [] M = zx_Mo_readCondition_76 (zV d) (zG d n_Mo_readCondition) a0 x1 x3 x4 M := by
  refine (zG_sg (m := zm_Mo_readCondition) rfl 400 _ _ _ M).trans ?_
  show zw true zm_Mo_readCondition (zV d) (zG d n_Mo_readCondition) 400 76 [some (.ref a0), some (.int x1), none, some (.int x3), some (.int x4)] [] M = _
  unfold zx_Mo_readCondition_76
  refine zw_iload (p := 78) (Or.inl rfl) rfl rfl rfl ?_
  refine zw_iconst (p := 79) (x := (4 : Int32)) (Or.inr rfl) rfl rfl rfl ?_
  refine zw_icmp_ge (t := 109) (p := 82) (Or.inr rfl) rfl rfl rfl ?_ ?_
  · refine zw_aload_n (p := 110) (Or.inr rfl) rfl rfl rfl ?_
    refine zw_dup_ref (p := 111) (Or.inr rfl) rfl rfl ?_
    refine zw_get_int (p := 114) (Or.inr rfl) rfl rfl ?_
    refine zw_iconst (p := 115) (x := (1 : Int32)) (Or.inr rfl) rfl rfl rfl ?_
    refine zw_isub (p := 116) (Or.inr rfl) rfl rfl ?_
    refine zw_put_int (p := 119) (Or.inr rfl) rfl rfl (fun M1 => ?_)
    refine zw_aload_n (p := 120) (Or.inr rfl) rfl rfl rfl ?_
    refine zw_dup_ref (p := 121) (Or.inr rfl) rfl rfl ?_
    refine zw_get_int (p := 124) (Or.inr rfl) rfl rfl ?_
    refine zw_iconst (p := 125) (x := (1 : Int32)) (Or.inr rfl) rfl rfl rfl ?_
    refine zw_isub (p := 126) (Or.inr rfl) rfl rfl ?_
    refine zw_put_int (p := 129) (Or.inr rfl) rfl rfl (fun M2 => ?_)
    refine zw_aload_n (p := 130) (Or.inr rfl) rfl rfl rfl ?_
    refine zw_virtualV (p := 133) (as := [.ref a0]) (rest := []) (Or.inr rfl) rfl rfl rfl rfl rfl rfl rfl (fun M3 => ?_)
    refine zw_aload_n (p := 134) (Or.inr rfl) rfl rfl rfl ?_
    refine zw_virtualV (p := 137) (as := [.ref a0]) (rest := []) (Or.inr rfl) rfl rfl rfl rfl rfl rfl rfl (fun M4 => ?_)
    refine zw_goto (t := 32) (Or.inr rfl) rfl rfl ?_
    exact zw_end rfl rfl
  refine zw_aload_n (p := 83) (Or.inr rfl) rfl rfl rfl ?_
  refine zw_get_ref (p := 86) (Or.inr rfl) rfl rfl (fun q1 => ?_)
  refine zw_iload (p := 88) (Or.inr rfl) rfl rfl rfl ?_
  refine zw_aload_n (p := 89) (Or.inr rfl) rfl rfl rfl ?_
  refine zw_get_ref (p := 92) (Or.inr rfl) rfl rfl (fun q2 => ?_)
  refine zw_iconst (p := 93) (x := (4 : Int32)) (Or.inr rfl) rfl rfl rfl ?_
  refine zw_aload_n (p := 94) (Or.inr rfl) rfl rfl rfl ?_
  refine zw_get_int (p := 97) (Or.inr rfl) rfl rfl ?_
  refine zw_imul (p := 98) (Or.inr rfl) rfl rfl ?_
  refine zw_iload (p := 100) (Or.inr rfl) rfl rfl rfl ?_
  refine zw_iadd (p := 101) (Or.inr rfl) rfl rfl ?_
  refine zw_laload (p := 102) (Or.inr rfl) rfl rfl ?_
  refine zw_lastore (p := 103) (Or.inr rfl) rfl rfl (fun M5 => ?_)
  refine zw_iinc (p := 106) (c := (1 : Int32)) (L2 := fun u1 => [some (.ref a0), some (.int x1), none, some (.int x3), some (.int u1)]) (Or.inr rfl) rfl rfl rfl rfl (fun _ => rfl) rfl (fun u1 => ?_)
  refine zw_goto (t := 76) (Or.inr rfl) rfl rfl ?_
  exact zw_end rfl rfl
def zx_Mo_readCondition_186 (E : zE0) (K : zKt) (a0 : Nat) (x1 : Int32) (s0 : Int32) (M : zM) : zO :=
  if s0 = 0 then (K 22 [some (.ref a0), some (.int x1), some (.int s0), none, none] [] M)
  else zif ((zK M a0).1 = 11)
  (zbI (E n_Mo_isSign [.ref a0, .int (124 : Int32)] M) fun u1 M1 =>
  if u1 = 0 then (zif ((zK M1 a0).1 = 11)
    (zbV (E n_Mo_reads [.ref a0] M1) fun M2 =>
    zif ((zK M2 a0).1 = 11)
    (if (zI M2 a0 18) ≠ 0 then (K 22 [some (.ref a0), some (.int x1), some (.int (0 : Int32)), none, none] [] M2)
    else K 22 [some (.ref a0), some (.int x1), some (.int (1 : Int32)), none, none] [] M2)))
  else zif ((zK M1 a0).1 = 11)
  (zbV (E n_Mo_joinsOrs [.ref a0] M1) fun M3 =>
  zif ((zK M3 a0).1 = 11)
  (zbV (E n_Mo_reads [.ref a0] M3) fun M4 =>
  zif ((zK M4 a0).1 = 11)
  (if (zI M4 a0 18) ≠ 0 then (K 22 [some (.ref a0), some (.int x1), some (.int (0 : Int32)), none, none] [] M4)
  else K 22 [some (.ref a0), some (.int x1), some (.int (1 : Int32)), none, none] [] M4))))
set_option maxRecDepth 20000 in
theorem zg_Mo_readCondition_186 (d : Nat) (a0 : Nat) (x1 : Int32) (s0 : Int32) (M : zM) : zG d n_Mo_readCondition 186 [some (.ref a0), some (.int x1), none, none, none] [.int s0] M = zx_Mo_readCondition_186 (zV d) (zG d n_Mo_readCondition) a0 x1 s0 M := by
  refine (zG_sg (m := zm_Mo_readCondition) rfl 400 _ _ _ M).trans ?_
  show zw true zm_Mo_readCondition (zV d) (zG d n_Mo_readCondition) 400 186 [some (.ref a0), some (.int x1), none, none, none] [.int s0] M = _
  unfold zx_Mo_readCondition_186
  refine zw_istore_n (p := 187) (l2 := [some (.ref a0), some (.int x1), some (.int s0), none, none]) (Or.inl rfl) rfl rfl rfl rfl ?_
  refine zw_iload_n (p := 188) (Or.inr rfl) rfl rfl rfl ?_
  refine zw_if_eq (t := 221) (p := 191) (Or.inr rfl) rfl rfl rfl ?_ ?_
  · refine zw_goto (t := 22) (Or.inr rfl) rfl rfl ?_
    exact zw_end rfl rfl
  refine zw_aload_n (p := 192) (Or.inr rfl) rfl rfl rfl ?_
  refine zw_bipush (p := 194) (x := (124 : Int32)) (Or.inr rfl) rfl rfl rfl ?_
  refine zw_virtualI (p := 197) (as := [.ref a0, .int (124 : Int32)]) (rest := []) (Or.inr rfl) rfl rfl rfl rfl rfl rfl rfl (fun u1 M1 => ?_)
  refine zw_if_eq (t := 204) (p := 200) (Or.inr rfl) rfl rfl rfl ?_ ?_
  · refine zw_aload_n (p := 205) (Or.inr rfl) rfl rfl rfl ?_
    refine zw_virtualV (p := 208) (as := [.ref a0]) (rest := []) (Or.inr rfl) rfl rfl rfl rfl rfl rfl rfl (fun M2 => ?_)
    refine zw_aload_n (p := 209) (Or.inr rfl) rfl rfl rfl ?_
    refine zw_get_int (p := 212) (Or.inr rfl) rfl rfl ?_
    refine zw_if_ne (t := 219) (p := 215) (Or.inr rfl) rfl rfl rfl ?_ ?_
    · refine zw_iconst (p := 220) (x := (0 : Int32)) (Or.inr rfl) rfl rfl rfl ?_
      refine zw_istore_n (p := 221) (l2 := [some (.ref a0), some (.int x1), some (.int (0 : Int32)), none, none]) (Or.inr rfl) rfl rfl rfl rfl ?_
      refine zw_goto (t := 22) (Or.inr rfl) rfl rfl ?_
      exact zw_end rfl rfl
    refine zw_iconst (p := 216) (x := (1 : Int32)) (Or.inr rfl) rfl rfl rfl ?_
    refine zw_goto (t := 220) (Or.inr rfl) rfl rfl ?_
    refine zw_istore_n (p := 221) (l2 := [some (.ref a0), some (.int x1), some (.int (1 : Int32)), none, none]) (Or.inr rfl) rfl rfl rfl rfl ?_
    refine zw_goto (t := 22) (Or.inr rfl) rfl rfl ?_
    exact zw_end rfl rfl
  refine zw_aload_n (p := 201) (Or.inr rfl) rfl rfl rfl ?_
  refine zw_virtualV (p := 204) (as := [.ref a0]) (rest := []) (Or.inr rfl) rfl rfl rfl rfl rfl rfl rfl (fun M3 => ?_)
  refine zw_aload_n (p := 205) (Or.inr rfl) rfl rfl rfl ?_
  refine zw_virtualV (p := 208) (as := [.ref a0]) (rest := []) (Or.inr rfl) rfl rfl rfl rfl rfl rfl rfl (fun M4 => ?_)
  refine zw_aload_n (p := 209) (Or.inr rfl) rfl rfl rfl ?_
  refine zw_get_int (p := 212) (Or.inr rfl) rfl rfl ?_
  refine zw_if_ne (t := 219) (p := 215) (Or.inr rfl) rfl rfl rfl ?_ ?_
  · refine zw_iconst (p := 220) (x := (0 : Int32)) (Or.inr rfl) rfl rfl rfl ?_
    refine zw_istore_n (p := 221) (l2 := [some (.ref a0), some (.int x1), some (.int (0 : Int32)), none, none]) (Or.inr rfl) rfl rfl rfl rfl ?_
    refine zw_goto (t := 22) (Or.inr rfl) rfl rfl ?_
    exact zw_end rfl rfl
  refine zw_iconst (p := 216) (x := (1 : Int32)) (Or.inr rfl) rfl rfl rfl ?_
  refine zw_goto (t := 220) (Or.inr rfl) rfl rfl ?_
  refine zw_istore_n (p := 221) (l2 := [some (.ref a0), some (.int x1), some (.int (1 : Int32)), none, none]) (Or.inr rfl) rfl rfl rfl rfl ?_
  refine zw_goto (t := 22) (Or.inr rfl) rfl rfl ?_
  exact zw_end rfl rfl
def zx_Mo_placesNow (E : zE0) (K : zKt) (a0 : Nat) (M : zM) : zO :=
  zif ((zK M a0).1 = 11)
  (zoR (zR M a0 1) fun q1 =>
  zif ((zK M a0).1 = 11)
  (zif (((zK M q1).1 = 20 ∨ (zK M q1).1 = 24) ∧ zin (((45 : Int32) * (zI M a0 38)) + (0 : Int32)) (zK M q1).2 = true)
  (some (some (.int (zI M q1 (Int32.toNatClampNeg (((45 : Int32) * (zI M a0 38)) + (0 : Int32))))), M))))
set_option maxRecDepth 20000 in
theorem ze_Mo_placesNow (d : Nat) (a0 : Nat) (M : zM) : zV (d + 1) n_Mo_placesNow [.ref a0] M = zx_Mo_placesNow (zV d) (zG d n_Mo_placesNow) a0 M := by
  refine (zE_sg (m := zm_Mo_placesNow) rfl 400 _ rfl M).trans ?_
  show zw true zm_Mo_placesNow (zV d) (zG d n_Mo_placesNow) 400 0 [some (.ref a0)] [] M = _
  unfold zx_Mo_placesNow
  refine zw_aload_n (p := 1) (Or.inl rfl) rfl rfl rfl ?_
  refine zw_get_ref (p := 4) (Or.inr rfl) rfl rfl (fun q1 => ?_)
  refine zw_bipush (p := 6) (x := (45 : Int32)) (Or.inr rfl) rfl rfl rfl ?_
  refine zw_aload_n (p := 7) (Or.inr rfl) rfl rfl rfl ?_
  refine zw_get_int (p := 10) (Or.inr rfl) rfl rfl ?_
  refine zw_imul (p := 11) (Or.inr rfl) rfl rfl ?_
  refine zw_iconst (p := 12) (x := (0 : Int32)) (Or.inr rfl) rfl rfl rfl ?_
  refine zw_iadd (p := 13) (Or.inr rfl) rfl rfl ?_
  refine zw_iaload (p := 14) (Or.inr rfl) rfl rfl ?_
  exact zw_ireturn1 (Or.inr rfl) rfl rfl
def zx_Mo_takes (E : zE0) (K : zKt) (a0 : Nat) (x1 : Int32) (x2 : Int32) (M : zM) : zO :=
  zif ((zK M a0).1 = 11)
  (zoR (zR M a0 29) fun q1 =>
  zif ((zK M a0).1 = 11)
  (zoR (zR M a0 29) fun q2 =>
  zif (((zK M q2).1 = 20 ∨ (zK M q2).1 = 24) ∧ zin x1 (zK M q2).2 = true)
  (zif ((zK M q1).1 = 20 ∧ zin x2 (zK M q1).2 = true)
  (zbm (zsI M q1 (Int32.toNatClampNeg x2) (zI M q2 (Int32.toNatClampNeg x1))) fun M1 =>
  zif ((zK M1 a0).1 = 11)
  (zoR (zR M1 a0 30) fun q3 =>
  zif ((zK M1 a0).1 = 11)
  (zoR (zR M1 a0 30) fun q4 =>
  zif (((zK M1 q4).1 = 23 ∨ (zK M1 q4).1 = 25) ∧ zin x1 (zK M1 q4).2 = true)
  (zif ((zK M1 q3).1 = 23 ∧ zin x2 (zK M1 q3).2 = true)
  (zbm (zsL M1 q3 (Int32.toNatClampNeg x2) (zL M1 q4 (Int32.toNatClampNeg x1))) fun M2 =>
  zif ((zK M2 a0).1 = 11)
  (zoR (zR M2 a0 31) fun q5 =>
  zif ((zK M2 a0).1 = 11)
  (zoR (zR M2 a0 31) fun q6 =>
  zif (((zK M2 q6).1 = 23 ∨ (zK M2 q6).1 = 25) ∧ zin x1 (zK M2 q6).2 = true)
  (zif ((zK M2 q5).1 = 23 ∧ zin x2 (zK M2 q5).2 = true)
  (zbm (zsL M2 q5 (Int32.toNatClampNeg x2) (zL M2 q6 (Int32.toNatClampNeg x1))) fun M3 =>
  zif ((zK M3 a0).1 = 11)
  (zoR (zR M3 a0 32) fun q7 =>
  zif ((zK M3 a0).1 = 11)
  (zoR (zR M3 a0 32) fun q8 =>
  zif (((zK M3 q8).1 = 21 ∨ (zK M3 q8).1 = 22) ∧ zin x1 (zK M3 q8).2 = true)
  (zbast M3 q7 x2 (zI M3 q8 (Int32.toNatClampNeg x1)) fun M4 =>
  zif ((zK M4 a0).1 = 11)
  (zoR (zR M4 a0 33) fun q9 =>
  zif ((zK M4 a0).1 = 11)
  (zoR (zR M4 a0 33) fun q10 =>
  zif (((zK M4 q10).1 = 20 ∨ (zK M4 q10).1 = 24) ∧ zin x1 (zK M4 q10).2 = true)
  (zif ((zK M4 q9).1 = 20 ∧ zin x2 (zK M4 q9).2 = true)
  (zbm (zsI M4 q9 (Int32.toNatClampNeg x2) (zI M4 q10 (Int32.toNatClampNeg x1))) fun M5 =>
  zif ((zK M5 a0).1 = 11)
  (zoR (zR M5 a0 34) fun q11 =>
  zif ((zK M5 a0).1 = 11)
  (zoR (zR M5 a0 34) fun q12 =>
  zif (((zK M5 q12).1 = 20 ∨ (zK M5 q12).1 = 24) ∧ zin x1 (zK M5 q12).2 = true)
  (zif ((zK M5 q11).1 = 20 ∧ zin x2 (zK M5 q11).2 = true)
  (zbm (zsI M5 q11 (Int32.toNatClampNeg x2) (zI M5 q12 (Int32.toNatClampNeg x1))) fun M6 =>
  zif ((zK M6 a0).1 = 11)
  (zoR (zR M6 a0 35) fun q13 =>
  zif ((zK M6 a0).1 = 11)
  (zoR (zR M6 a0 35) fun q14 =>
  zif (((zK M6 q14).1 = 20 ∨ (zK M6 q14).1 = 24) ∧ zin x1 (zK M6 q14).2 = true)
  (zif ((zK M6 q13).1 = 20 ∧ zin x2 (zK M6 q13).2 = true)
  (zbm (zsI M6 q13 (Int32.toNatClampNeg x2) (zI M6 q14 (Int32.toNatClampNeg x1))) fun M7 =>
  zif ((zK M7 a0).1 = 11)
  (zoR (zR M7 a0 36) fun q15 =>
  zbast M7 q15 x2 (1 : Int32) fun M8 =>
  some (none, M8)))))))))))))))))))))))))))))
set_option maxRecDepth 20000 in
theorem ze_Mo_takes (d : Nat) (a0 : Nat) (x1 : Int32) (x2 : Int32) (M : zM) : zV (d + 1) n_Mo_takes [.ref a0, .int x1, .int x2] M = zx_Mo_takes (zV d) (zG d n_Mo_takes) a0 x1 x2 M := by
  refine (zE_sg (m := zm_Mo_takes) rfl 400 _ rfl M).trans ?_
  show zw true zm_Mo_takes (zV d) (zG d n_Mo_takes) 400 0 [some (.ref a0), some (.int x1), some (.int x2)] [] M = _
  unfold zx_Mo_takes
  refine zw_aload_n (p := 1) (Or.inl rfl) rfl rfl rfl ?_
  refine zw_get_ref (p := 4) (Or.inr rfl) rfl rfl (fun q1 => ?_)
  refine zw_iload_n (p := 5) (Or.inr rfl) rfl rfl rfl ?_
  refine zw_aload_n (p := 6) (Or.inr rfl) rfl rfl rfl ?_
  refine zw_get_ref (p := 9) (Or.inr rfl) rfl rfl (fun q2 => ?_)
  refine zw_iload_n (p := 10) (Or.inr rfl) rfl rfl rfl ?_
  refine zw_iaload (p := 11) (Or.inr rfl) rfl rfl ?_
  refine zw_iastore (p := 12) (Or.inr rfl) rfl rfl (fun M1 => ?_)
  refine zw_aload_n (p := 13) (Or.inr rfl) rfl rfl rfl ?_
  refine zw_get_ref (p := 16) (Or.inr rfl) rfl rfl (fun q3 => ?_)
  refine zw_iload_n (p := 17) (Or.inr rfl) rfl rfl rfl ?_
  refine zw_aload_n (p := 18) (Or.inr rfl) rfl rfl rfl ?_
  refine zw_get_ref (p := 21) (Or.inr rfl) rfl rfl (fun q4 => ?_)
  refine zw_iload_n (p := 22) (Or.inr rfl) rfl rfl rfl ?_
  refine zw_laload (p := 23) (Or.inr rfl) rfl rfl ?_
  refine zw_lastore (p := 24) (Or.inr rfl) rfl rfl (fun M2 => ?_)
  refine zw_aload_n (p := 25) (Or.inr rfl) rfl rfl rfl ?_
  refine zw_get_ref (p := 28) (Or.inr rfl) rfl rfl (fun q5 => ?_)
  refine zw_iload_n (p := 29) (Or.inr rfl) rfl rfl rfl ?_
  refine zw_aload_n (p := 30) (Or.inr rfl) rfl rfl rfl ?_
  refine zw_get_ref (p := 33) (Or.inr rfl) rfl rfl (fun q6 => ?_)
  refine zw_iload_n (p := 34) (Or.inr rfl) rfl rfl rfl ?_
  refine zw_laload (p := 35) (Or.inr rfl) rfl rfl ?_
  refine zw_lastore (p := 36) (Or.inr rfl) rfl rfl (fun M3 => ?_)
  refine zw_aload_n (p := 37) (Or.inr rfl) rfl rfl rfl ?_
  refine zw_get_ref (p := 40) (Or.inr rfl) rfl rfl (fun q7 => ?_)
  refine zw_iload_n (p := 41) (Or.inr rfl) rfl rfl rfl ?_
  refine zw_aload_n (p := 42) (Or.inr rfl) rfl rfl rfl ?_
  refine zw_get_ref (p := 45) (Or.inr rfl) rfl rfl (fun q8 => ?_)
  refine zw_iload_n (p := 46) (Or.inr rfl) rfl rfl rfl ?_
  refine zw_baload (p := 47) (Or.inr rfl) rfl rfl ?_
  refine zw_bastore (p := 48) (Or.inr rfl) rfl rfl (fun M4 => ?_)
  refine zw_aload_n (p := 49) (Or.inr rfl) rfl rfl rfl ?_
  refine zw_get_ref (p := 52) (Or.inr rfl) rfl rfl (fun q9 => ?_)
  refine zw_iload_n (p := 53) (Or.inr rfl) rfl rfl rfl ?_
  refine zw_aload_n (p := 54) (Or.inr rfl) rfl rfl rfl ?_
  refine zw_get_ref (p := 57) (Or.inr rfl) rfl rfl (fun q10 => ?_)
  refine zw_iload_n (p := 58) (Or.inr rfl) rfl rfl rfl ?_
  refine zw_iaload (p := 59) (Or.inr rfl) rfl rfl ?_
  refine zw_iastore (p := 60) (Or.inr rfl) rfl rfl (fun M5 => ?_)
  refine zw_aload_n (p := 61) (Or.inr rfl) rfl rfl rfl ?_
  refine zw_get_ref (p := 64) (Or.inr rfl) rfl rfl (fun q11 => ?_)
  refine zw_iload_n (p := 65) (Or.inr rfl) rfl rfl rfl ?_
  refine zw_aload_n (p := 66) (Or.inr rfl) rfl rfl rfl ?_
  refine zw_get_ref (p := 69) (Or.inr rfl) rfl rfl (fun q12 => ?_)
  refine zw_iload_n (p := 70) (Or.inr rfl) rfl rfl rfl ?_
  refine zw_iaload (p := 71) (Or.inr rfl) rfl rfl ?_
  refine zw_iastore (p := 72) (Or.inr rfl) rfl rfl (fun M6 => ?_)
  refine zw_aload_n (p := 73) (Or.inr rfl) rfl rfl rfl ?_
  refine zw_get_ref (p := 76) (Or.inr rfl) rfl rfl (fun q13 => ?_)
  refine zw_iload_n (p := 77) (Or.inr rfl) rfl rfl rfl ?_
  refine zw_aload_n (p := 78) (Or.inr rfl) rfl rfl rfl ?_
  refine zw_get_ref (p := 81) (Or.inr rfl) rfl rfl (fun q14 => ?_)
  refine zw_iload_n (p := 82) (Or.inr rfl) rfl rfl rfl ?_
  refine zw_iaload (p := 83) (Or.inr rfl) rfl rfl ?_
  refine zw_iastore (p := 84) (Or.inr rfl) rfl rfl (fun M7 => ?_)
  refine zw_aload_n (p := 85) (Or.inr rfl) rfl rfl rfl ?_
  refine zw_get_ref (p := 88) (Or.inr rfl) rfl rfl (fun q15 => ?_)
  refine zw_iload_n (p := 89) (Or.inr rfl) rfl rfl rfl ?_
  refine zw_iconst (p := 90) (x := (1 : Int32)) (Or.inr rfl) rfl rfl rfl ?_
  refine zw_bastore (p := 91) (Or.inr rfl) rfl rfl (fun M8 => ?_)
  exact zw_return (Or.inr rfl) rfl rfl
def zx_Mo_sum (E : zE0) (K : zKt) (x0 : Int32) (x1 : Int32) (M : zM) : zO :=
  zbI (E n_Mo_least [.int (x0 + x1), .int (1000000 : Int32)] M) fun u1 M1 =>
  some (some (.int u1), M1)
set_option maxRecDepth 20000 in
theorem ze_Mo_sum (d : Nat) (x0 : Int32) (x1 : Int32) (M : zM) : zV (d + 1) n_Mo_sum [.int x0, .int x1] M = zx_Mo_sum (zV d) (zG d n_Mo_sum) x0 x1 M := by
  refine (zE_sg (m := zm_Mo_sum) rfl 400 _ rfl M).trans ?_
  show zw true zm_Mo_sum (zV d) (zG d n_Mo_sum) 400 0 [some (.int x0), some (.int x1)] [] M = _
  unfold zx_Mo_sum
  refine zw_iload_n (p := 1) (Or.inl rfl) rfl rfl rfl ?_
  refine zw_iload_n (p := 2) (Or.inr rfl) rfl rfl rfl ?_
  refine zw_iadd (p := 3) (Or.inr rfl) rfl rfl ?_
  refine zw_ldc (p := 5) (x := (1000000 : Int32)) (Or.inr rfl) rfl rfl rfl ?_
  refine zw_staticI (p := 8) (as := [.int (x0 + x1), .int (1000000 : Int32)]) (rest := []) (Or.inr rfl) rfl rfl rfl rfl rfl rfl (fun u1 M1 => ?_)
  exact zw_ireturn1 (Or.inr rfl) rfl rfl
def zx_Mo_follows (E : zE0) (K : zKt) (a0 : Nat) (l1 : Int64) (l3 : Int64) (M : zM) : zO :=
  K 3 [some (.ref a0), some (.long l1), none, some (.long l3), none, some (.int (0 : Int32))] [] M
set_option maxRecDepth 20000 in
theorem ze_Mo_follows (d : Nat) (a0 : Nat) (l1 : Int64) (l3 : Int64) (M : zM) : zV (d + 1) n_Mo_follows [.ref a0, .long l1, .long l3] M = zx_Mo_follows (zV d) (zG d n_Mo_follows) a0 l1 l3 M := by
  refine (zE_sg (m := zm_Mo_follows) rfl 400 _ rfl M).trans ?_
  show zw true zm_Mo_follows (zV d) (zG d n_Mo_follows) 400 0 [some (.ref a0), some (.long l1), none, some (.long l3), none, none] [] M = _
  unfold zx_Mo_follows
  refine zw_iconst (p := 1) (x := (0 : Int32)) (Or.inl rfl) rfl rfl rfl ?_
  refine zw_istore (p := 3) (l2 := [some (.ref a0), some (.long l1), none, some (.long l3), none, some (.int (0 : Int32))]) (Or.inr rfl) rfl rfl rfl rfl ?_
  exact zw_end rfl rfl
def zx_Mo_follows_3 (E : zE0) (K : zKt) (a0 : Nat) (l1 : Int64) (l3 : Int64) (x5 : Int32) (M : zM) : zO :=
  if (40 : Int32) ≤ x5 then (some (none, M))
  else if (lg_cmp ((l1 >>> (Int32.toInt64 x5 &&& 63)) &&& (1 : Int64)) (1 : Int64)) ≠ 0 then (zbi (x5 + (1 : Int32)) fun u1 =>
    K 3 [some (.ref a0), some (.long l1), none, some (.long l3), none, some (.int u1)] [] M)
  else zif ((zK M a0).1 = 11)
  (zoR (zR M a0 3) fun q1 =>
  zif ((zK M a0).1 = 11)
  (zif (((zK M q1).1 = 23 ∨ (zK M q1).1 = 25) ∧ zin ((((203 : Int32) * (zI M a0 38)) + (3 : Int32)) + x5) (zK M q1).2 = true)
  (zif ((zK M q1).1 = 23 ∧ zin ((((203 : Int32) * (zI M a0 38)) + (3 : Int32)) + x5) (zK M q1).2 = true)
  (zbm (zsL M q1 (Int32.toNatClampNeg ((((203 : Int32) * (zI M a0 38)) + (3 : Int32)) + x5)) ((zL M q1 (Int32.toNatClampNeg ((((203 : Int32) * (zI M a0 38)) + (3 : Int32)) + x5))) ||| l3)) fun M1 =>
  zbi (x5 + (1 : Int32)) fun u2 =>
  K 3 [some (.ref a0), some (.long l1), none, some (.long l3), none, some (.int u2)] [] M1))))
set_option maxRecDepth 20000 in
theorem zg_Mo_follows_3 (d : Nat) (a0 : Nat) (l1 : Int64) (l3 : Int64) (x5 : Int32) (M : zM) : zG d n_Mo_follows 3 [some (.ref a0), some (.long l1), none, some (.long l3), none, some (.int x5)] [] M = zx_Mo_follows_3 (zV d) (zG d n_Mo_follows) a0 l1 l3 x5 M := by
  refine (zG_sg (m := zm_Mo_follows) rfl 400 _ _ _ M).trans ?_
  show zw true zm_Mo_follows (zV d) (zG d n_Mo_follows) 400 3 [some (.ref a0), some (.long l1), none, some (.long l3), none, some (.int x5)] [] M = _
  unfold zx_Mo_follows_3
  refine zw_iload (p := 5) (Or.inl rfl) rfl rfl rfl ?_
  refine zw_bipush (p := 7) (x := (40 : Int32)) (Or.inr rfl) rfl rfl rfl ?_
  refine zw_icmp_ge (t := 49) (p := 10) (Or.inr rfl) rfl rfl rfl ?_ ?_
  · exact zw_return (Or.inr rfl) rfl rfl
  refine zw_lload_n (p := 11) (Or.inr rfl) rfl rfl rfl ?_
  refine zw_iload (p := 13) (Or.inr rfl) rfl rfl rfl ?_
  refine zw_lshr (p := 14) (Or.inr rfl) rfl rfl ?_
  refine zw_lconst (p := 15) (x := (1 : Int64)) (Or.inr rfl) rfl rfl rfl ?_
  refine zw_land (p := 16) (Or.inr rfl) rfl rfl ?_
  refine zw_lconst (p := 17) (x := (1 : Int64)) (Or.inr rfl) rfl rfl rfl ?_
  refine zw_lcmp (p := 18) (Or.inr rfl) rfl rfl ?_
  refine zw_if_ne (t := 43) (p := 21) (Or.inr rfl) rfl rfl rfl ?_ ?_
  · refine zw_iinc (p := 46) (c := (1 : Int32)) (L2 := fun u1 => [some (.ref a0), some (.long l1), none, some (.long l3), none, some (.int u1)]) (Or.inr rfl) rfl rfl rfl rfl (fun _ => rfl) rfl (fun u1 => ?_)
    refine zw_goto (t := 3) (Or.inr rfl) rfl rfl ?_
    exact zw_end rfl rfl
  refine zw_aload_n (p := 22) (Or.inr rfl) rfl rfl rfl ?_
  refine zw_get_ref (p := 25) (Or.inr rfl) rfl rfl (fun q1 => ?_)
  refine zw_sipush (p := 28) (x := (203 : Int32)) (Or.inr rfl) rfl rfl rfl ?_
  refine zw_aload_n (p := 29) (Or.inr rfl) rfl rfl rfl ?_
  refine zw_get_int (p := 32) (Or.inr rfl) rfl rfl ?_
  refine zw_imul (p := 33) (Or.inr rfl) rfl rfl ?_
  refine zw_iconst (p := 34) (x := (3 : Int32)) (Or.inr rfl) rfl rfl rfl ?_
  refine zw_iadd (p := 35) (Or.inr rfl) rfl rfl ?_
  refine zw_iload (p := 37) (Or.inr rfl) rfl rfl rfl ?_
  refine zw_iadd (p := 38) (Or.inr rfl) rfl rfl ?_
  refine zw_dup2_ir (p := 39) (Or.inr rfl) rfl rfl ?_
  refine zw_laload (p := 40) (Or.inr rfl) rfl rfl ?_
  refine zw_lload_n (p := 41) (Or.inr rfl) rfl rfl rfl ?_
  refine zw_lor (p := 42) (Or.inr rfl) rfl rfl ?_
  refine zw_lastore (p := 43) (Or.inr rfl) rfl rfl (fun M1 => ?_)
  refine zw_iinc (p := 46) (c := (1 : Int32)) (L2 := fun u2 => [some (.ref a0), some (.long l1), none, some (.long l3), none, some (.int u2)]) (Or.inr rfl) rfl rfl rfl rfl (fun _ => rfl) rfl (fun u2 => ?_)
  refine zw_goto (t := 3) (Or.inr rfl) rfl rfl ?_
  exact zw_end rfl rfl
def zx_Mo_chains (E : zE0) (K : zKt) (a0 : Nat) (x1 : Int32) (x2 : Int32) (M : zM) : zO :=
  zif ((zK M a0).1 = 11)
  (zoR (zR M a0 36) fun q1 =>
  zif (((zK M q1).1 = 21 ∨ (zK M q1).1 = 22) ∧ zin x1 (zK M q1).2 = true)
  (if (zI M q1 (Int32.toNatClampNeg x1)) ≠ 0 then (zif ((zK M a0).1 = 11)
    (zoR (zR M a0 31) fun q2 =>
    zif (((zK M q2).1 = 23 ∨ (zK M q2).1 = 25) ∧ zin x1 (zK M q2).2 = true)
    (zif ((zK M a0).1 = 11)
    (zoR (zR M a0 30) fun q3 =>
    zif (((zK M q3).1 = 23 ∨ (zK M q3).1 = 25) ∧ zin x2 (zK M q3).2 = true)
    (zif ((zK M a0).1 = 11)
    (zbV (E n_Mo_follows [.ref a0, .long (zL M q2 (Int32.toNatClampNeg x1)), .long (zL M q3 (Int32.toNatClampNeg x2))] M) fun M1 =>
    zif ((zK M1 a0).1 = 11)
    (zoR (zR M1 a0 30) fun q4 =>
    zif (((zK M1 q4).1 = 23 ∨ (zK M1 q4).1 = 25) ∧ zin x1 (zK M1 q4).2 = true)
    (zif ((zK M1 a0).1 = 11)
    (zoR (zR M1 a0 32) fun q5 =>
    zif (((zK M1 q5).1 = 21 ∨ (zK M1 q5).1 = 22) ∧ zin x1 (zK M1 q5).2 = true)
    (if (zI M1 q5 (Int32.toNatClampNeg x1)) = 0 then (K 58 [some (.ref a0), some (.int x1), some (.int x2)] [.long (0 : Int64), .long (zL M1 q4 (Int32.toNatClampNeg x1)), .int x1, .ref q4] M1)
    else zif ((zK M1 a0).1 = 11)
    (zoR (zR M1 a0 30) fun q6 =>
    zif (((zK M1 q6).1 = 23 ∨ (zK M1 q6).1 = 25) ∧ zin x2 (zK M1 q6).2 = true)
    (K 58 [some (.ref a0), some (.int x1), some (.int x2)] [.long (zL M1 q6 (Int32.toNatClampNeg x2)), .long (zL M1 q4 (Int32.toNatClampNeg x1)), .int x1, .ref q4] M1))))))))))))
  else zif ((zK M a0).1 = 11)
  (zbV (E n_Mo_takes [.ref a0, .int x2, .int x1] M) fun M2 =>
  some (none, M2))))
set_option maxRecDepth 20000 in
theorem ze_Mo_chains (d : Nat) (a0 : Nat) (x1 : Int32) (x2 : Int32) (M : zM) : zV (d + 1) n_Mo_chains [.ref a0, .int x1, .int x2] M = zx_Mo_chains (zV d) (zG d n_Mo_chains) a0 x1 x2 M := by
  refine (zE_sg (m := zm_Mo_chains) rfl 400 _ rfl M).trans ?_
  show zw true zm_Mo_chains (zV d) (zG d n_Mo_chains) 400 0 [some (.ref a0), some (.int x1), some (.int x2)] [] M = _
  unfold zx_Mo_chains
  refine zw_aload_n (p := 1) (Or.inl rfl) rfl rfl rfl ?_
  refine zw_get_ref (p := 4) (Or.inr rfl) rfl rfl (fun q1 => ?_)
  refine zw_iload_n (p := 5) (Or.inr rfl) rfl rfl rfl ?_
  refine zw_baload (p := 6) (Or.inr rfl) rfl rfl ?_
  refine zw_if_ne (t := 16) (p := 9) (Or.inr rfl) rfl rfl rfl ?_ ?_
  · refine zw_aload_n (p := 17) (Or.inr rfl) rfl rfl rfl ?_
    refine zw_aload_n (p := 18) (Or.inr rfl) rfl rfl rfl ?_
    refine zw_get_ref (p := 21) (Or.inr rfl) rfl rfl (fun q2 => ?_)
    refine zw_iload_n (p := 22) (Or.inr rfl) rfl rfl rfl ?_
    refine zw_laload (p := 23) (Or.inr rfl) rfl rfl ?_
    refine zw_aload_n (p := 24) (Or.inr rfl) rfl rfl rfl ?_
    refine zw_get_ref (p := 27) (Or.inr rfl) rfl rfl (fun q3 => ?_)
    refine zw_iload_n (p := 28) (Or.inr rfl) rfl rfl rfl ?_
    refine zw_laload (p := 29) (Or.inr rfl) rfl rfl ?_
    refine zw_virtualV (p := 32) (as := [.ref a0, .long (zL M q2 (Int32.toNatClampNeg x1)), .long (zL M q3 (Int32.toNatClampNeg x2))]) (rest := []) (Or.inr rfl) rfl rfl rfl rfl rfl rfl rfl (fun M1 => ?_)
    refine zw_aload_n (p := 33) (Or.inr rfl) rfl rfl rfl ?_
    refine zw_get_ref (p := 36) (Or.inr rfl) rfl rfl (fun q4 => ?_)
    refine zw_iload_n (p := 37) (Or.inr rfl) rfl rfl rfl ?_
    refine zw_dup2_ir (p := 38) (Or.inr rfl) rfl rfl ?_
    refine zw_laload (p := 39) (Or.inr rfl) rfl rfl ?_
    refine zw_aload_n (p := 40) (Or.inr rfl) rfl rfl rfl ?_
    refine zw_get_ref (p := 43) (Or.inr rfl) rfl rfl (fun q5 => ?_)
    refine zw_iload_n (p := 44) (Or.inr rfl) rfl rfl rfl ?_
    refine zw_baload (p := 45) (Or.inr rfl) rfl rfl ?_
    refine zw_if_eq (t := 57) (p := 48) (Or.inr rfl) rfl rfl rfl ?_ ?_
    · refine zw_lconst (p := 58) (x := (0 : Int64)) (Or.inr rfl) rfl rfl rfl ?_
      exact zw_end rfl rfl
    refine zw_aload_n (p := 49) (Or.inr rfl) rfl rfl rfl ?_
    refine zw_get_ref (p := 52) (Or.inr rfl) rfl rfl (fun q6 => ?_)
    refine zw_iload_n (p := 53) (Or.inr rfl) rfl rfl rfl ?_
    refine zw_laload (p := 54) (Or.inr rfl) rfl rfl ?_
    refine zw_goto (t := 58) (Or.inr rfl) rfl rfl ?_
    exact zw_end rfl rfl
  refine zw_aload_n (p := 10) (Or.inr rfl) rfl rfl rfl ?_
  refine zw_iload_n (p := 11) (Or.inr rfl) rfl rfl rfl ?_
  refine zw_iload_n (p := 12) (Or.inr rfl) rfl rfl rfl ?_
  refine zw_virtualV (p := 15) (as := [.ref a0, .int x2, .int x1]) (rest := []) (Or.inr rfl) rfl rfl rfl rfl rfl rfl rfl (fun M2 => ?_)
  exact zw_return (Or.inr rfl) rfl rfl
def zx_Mo_chains_58 (E : zE0) (K : zKt) (a0 : Nat) (x1 : Int32) (x2 : Int32) (s0 : Int64) (s1 : Int64) (s2 : Int32) (s3 : Nat) (M : zM) : zO :=
  zif ((zK M s3).1 = 23 ∧ zin s2 (zK M s3).2 = true)
  (zbm (zsL M s3 (Int32.toNatClampNeg s2) (s1 ||| s0)) fun M1 =>
  zif ((zK M1 a0).1 = 11)
  (zoR (zR M1 a0 31) fun q1 =>
  zif ((zK M1 a0).1 = 11)
  (zoR (zR M1 a0 31) fun q2 =>
  zif (((zK M1 q2).1 = 23 ∨ (zK M1 q2).1 = 25) ∧ zin x2 (zK M1 q2).2 = true)
  (zif ((zK M1 a0).1 = 11)
  (zoR (zR M1 a0 32) fun q3 =>
  zif (((zK M1 q3).1 = 21 ∨ (zK M1 q3).1 = 22) ∧ zin x2 (zK M1 q3).2 = true)
  (if (zI M1 q3 (Int32.toNatClampNeg x2)) = 0 then (zif ((zK M1 q1).1 = 23 ∧ zin x1 (zK M1 q1).2 = true)
    (zbm (zsL M1 q1 (Int32.toNatClampNeg x1) ((zL M1 q2 (Int32.toNatClampNeg x2)) ||| (0 : Int64))) fun M2 =>
    zif ((zK M2 a0).1 = 11)
    (zoR (zR M2 a0 32) fun q4 =>
    zif ((zK M2 a0).1 = 11)
    (zoR (zR M2 a0 32) fun q5 =>
    zif (((zK M2 q5).1 = 21 ∨ (zK M2 q5).1 = 22) ∧ zin x1 (zK M2 q5).2 = true)
    (if (zI M2 q5 (Int32.toNatClampNeg x1)) = 0 then (K 120 [some (.ref a0), some (.int x1), some (.int x2)] [.int (0 : Int32), .int x1, .ref q4] M2)
    else zif ((zK M2 a0).1 = 11)
    (zoR (zR M2 a0 32) fun q6 =>
    zif (((zK M2 q6).1 = 21 ∨ (zK M2 q6).1 = 22) ∧ zin x2 (zK M2 q6).2 = true)
    (if (zI M2 q6 (Int32.toNatClampNeg x2)) = 0 then (K 120 [some (.ref a0), some (.int x1), some (.int x2)] [.int (0 : Int32), .int x1, .ref q4] M2)
    else K 120 [some (.ref a0), some (.int x1), some (.int x2)] [.int (1 : Int32), .int x1, .ref q4] M2)))))))
  else zif ((zK M1 a0).1 = 11)
  (zoR (zR M1 a0 31) fun q7 =>
  zif (((zK M1 q7).1 = 23 ∨ (zK M1 q7).1 = 25) ∧ zin x1 (zK M1 q7).2 = true)
  (zif ((zK M1 q1).1 = 23 ∧ zin x1 (zK M1 q1).2 = true)
  (zbm (zsL M1 q1 (Int32.toNatClampNeg x1) ((zL M1 q2 (Int32.toNatClampNeg x2)) ||| (zL M1 q7 (Int32.toNatClampNeg x1)))) fun M3 =>
  zif ((zK M3 a0).1 = 11)
  (zoR (zR M3 a0 32) fun q8 =>
  zif ((zK M3 a0).1 = 11)
  (zoR (zR M3 a0 32) fun q9 =>
  zif (((zK M3 q9).1 = 21 ∨ (zK M3 q9).1 = 22) ∧ zin x1 (zK M3 q9).2 = true)
  (if (zI M3 q9 (Int32.toNatClampNeg x1)) = 0 then (K 120 [some (.ref a0), some (.int x1), some (.int x2)] [.int (0 : Int32), .int x1, .ref q8] M3)
  else zif ((zK M3 a0).1 = 11)
  (zoR (zR M3 a0 32) fun q10 =>
  zif (((zK M3 q10).1 = 21 ∨ (zK M3 q10).1 = 22) ∧ zin x2 (zK M3 q10).2 = true)
  (if (zI M3 q10 (Int32.toNatClampNeg x2)) = 0 then (K 120 [some (.ref a0), some (.int x1), some (.int x2)] [.int (0 : Int32), .int x1, .ref q8] M3)
  else K 120 [some (.ref a0), some (.int x1), some (.int x2)] [.int (1 : Int32), .int x1, .ref q8] M3))))))))))))))
set_option maxRecDepth 20000 in
theorem zg_Mo_chains_58 (d : Nat) (a0 : Nat) (x1 : Int32) (x2 : Int32) (s0 : Int64) (s1 : Int64) (s2 : Int32) (s3 : Nat) (M : zM) : zG d n_Mo_chains 58 [some (.ref a0), some (.int x1), some (.int x2)] [.long s0, .long s1, .int s2, .ref s3] M = zx_Mo_chains_58 (zV d) (zG d n_Mo_chains) a0 x1 x2 s0 s1 s2 s3 M := by
  refine (zG_sg (m := zm_Mo_chains) rfl 400 _ _ _ M).trans ?_
  show zw true zm_Mo_chains (zV d) (zG d n_Mo_chains) 400 58 [some (.ref a0), some (.int x1), some (.int x2)] [.long s0, .long s1, .int s2, .ref s3] M = _
  unfold zx_Mo_chains_58
  refine zw_lor (p := 59) (Or.inl rfl) rfl rfl ?_
  refine zw_lastore (p := 60) (Or.inr rfl) rfl rfl (fun M1 => ?_)
  refine zw_aload_n (p := 61) (Or.inr rfl) rfl rfl rfl ?_
  refine zw_get_ref (p := 64) (Or.inr rfl) rfl rfl (fun q1 => ?_)
  refine zw_iload_n (p := 65) (Or.inr rfl) rfl rfl rfl ?_
  refine zw_aload_n (p := 66) (Or.inr rfl) rfl rfl rfl ?_
  refine zw_get_ref (p := 69) (Or.inr rfl) rfl rfl (fun q2 => ?_)
  refine zw_iload_n (p := 70) (Or.inr rfl) rfl rfl rfl ?_
  refine zw_laload (p := 71) (Or.inr rfl) rfl rfl ?_
  refine zw_aload_n (p := 72) (Or.inr rfl) rfl rfl rfl ?_
  refine zw_get_ref (p := 75) (Or.inr rfl) rfl rfl (fun q3 => ?_)
  refine zw_iload_n (p := 76) (Or.inr rfl) rfl rfl rfl ?_
  refine zw_baload (p := 77) (Or.inr rfl) rfl rfl ?_
  refine zw_if_eq (t := 89) (p := 80) (Or.inr rfl) rfl rfl rfl ?_ ?_
  · refine zw_lconst (p := 90) (x := (0 : Int64)) (Or.inr rfl) rfl rfl rfl ?_
    refine zw_lor (p := 91) (Or.inr rfl) rfl rfl ?_
    refine zw_lastore (p := 92) (Or.inr rfl) rfl rfl (fun M2 => ?_)
    refine zw_aload_n (p := 93) (Or.inr rfl) rfl rfl rfl ?_
    refine zw_get_ref (p := 96) (Or.inr rfl) rfl rfl (fun q4 => ?_)
    refine zw_iload_n (p := 97) (Or.inr rfl) rfl rfl rfl ?_
    refine zw_aload_n (p := 98) (Or.inr rfl) rfl rfl rfl ?_
    refine zw_get_ref (p := 101) (Or.inr rfl) rfl rfl (fun q5 => ?_)
    refine zw_iload_n (p := 102) (Or.inr rfl) rfl rfl rfl ?_
    refine zw_baload (p := 103) (Or.inr rfl) rfl rfl ?_
    refine zw_if_eq (t := 119) (p := 106) (Or.inr rfl) rfl rfl rfl ?_ ?_
    · refine zw_iconst (p := 120) (x := (0 : Int32)) (Or.inr rfl) rfl rfl rfl ?_
      exact zw_end rfl rfl
    refine zw_aload_n (p := 107) (Or.inr rfl) rfl rfl rfl ?_
    refine zw_get_ref (p := 110) (Or.inr rfl) rfl rfl (fun q6 => ?_)
    refine zw_iload_n (p := 111) (Or.inr rfl) rfl rfl rfl ?_
    refine zw_baload (p := 112) (Or.inr rfl) rfl rfl ?_
    refine zw_if_eq (t := 119) (p := 115) (Or.inr rfl) rfl rfl rfl ?_ ?_
    · refine zw_iconst (p := 120) (x := (0 : Int32)) (Or.inr rfl) rfl rfl rfl ?_
      exact zw_end rfl rfl
    refine zw_iconst (p := 116) (x := (1 : Int32)) (Or.inr rfl) rfl rfl rfl ?_
    refine zw_goto (t := 120) (Or.inr rfl) rfl rfl ?_
    exact zw_end rfl rfl
  refine zw_aload_n (p := 81) (Or.inr rfl) rfl rfl rfl ?_
  refine zw_get_ref (p := 84) (Or.inr rfl) rfl rfl (fun q7 => ?_)
  refine zw_iload_n (p := 85) (Or.inr rfl) rfl rfl rfl ?_
  refine zw_laload (p := 86) (Or.inr rfl) rfl rfl ?_
  refine zw_goto (t := 90) (Or.inr rfl) rfl rfl ?_
  refine zw_lor (p := 91) (Or.inr rfl) rfl rfl ?_
  refine zw_lastore (p := 92) (Or.inr rfl) rfl rfl (fun M3 => ?_)
  refine zw_aload_n (p := 93) (Or.inr rfl) rfl rfl rfl ?_
  refine zw_get_ref (p := 96) (Or.inr rfl) rfl rfl (fun q8 => ?_)
  refine zw_iload_n (p := 97) (Or.inr rfl) rfl rfl rfl ?_
  refine zw_aload_n (p := 98) (Or.inr rfl) rfl rfl rfl ?_
  refine zw_get_ref (p := 101) (Or.inr rfl) rfl rfl (fun q9 => ?_)
  refine zw_iload_n (p := 102) (Or.inr rfl) rfl rfl rfl ?_
  refine zw_baload (p := 103) (Or.inr rfl) rfl rfl ?_
  refine zw_if_eq (t := 119) (p := 106) (Or.inr rfl) rfl rfl rfl ?_ ?_
  · refine zw_iconst (p := 120) (x := (0 : Int32)) (Or.inr rfl) rfl rfl rfl ?_
    exact zw_end rfl rfl
  refine zw_aload_n (p := 107) (Or.inr rfl) rfl rfl rfl ?_
  refine zw_get_ref (p := 110) (Or.inr rfl) rfl rfl (fun q10 => ?_)
  refine zw_iload_n (p := 111) (Or.inr rfl) rfl rfl rfl ?_
  refine zw_baload (p := 112) (Or.inr rfl) rfl rfl ?_
  refine zw_if_eq (t := 119) (p := 115) (Or.inr rfl) rfl rfl rfl ?_ ?_
  · refine zw_iconst (p := 120) (x := (0 : Int32)) (Or.inr rfl) rfl rfl rfl ?_
    exact zw_end rfl rfl
  refine zw_iconst (p := 116) (x := (1 : Int32)) (Or.inr rfl) rfl rfl rfl ?_
  refine zw_goto (t := 120) (Or.inr rfl) rfl rfl ?_
  exact zw_end rfl rfl
def zx_Mo_chains_120 (E : zE0) (K : zKt) (a0 : Nat) (x1 : Int32) (x2 : Int32) (s0 : Int32) (s1 : Int32) (s2 : Nat) (M : zM) : zO :=
  zbast M s2 s1 s0 fun M1 =>
  zif ((zK M1 a0).1 = 11)
  (zoR (zR M1 a0 33) fun q1 =>
  zif ((zK M1 a0).1 = 11)
  (zoR (zR M1 a0 33) fun q2 =>
  zif (((zK M1 q2).1 = 20 ∨ (zK M1 q2).1 = 24) ∧ zin x1 (zK M1 q2).2 = true)
  (zif ((zK M1 a0).1 = 11)
  (zoR (zR M1 a0 33) fun q3 =>
  zif (((zK M1 q3).1 = 20 ∨ (zK M1 q3).1 = 24) ∧ zin x2 (zK M1 q3).2 = true)
  (zbI (E n_Mo_sum [.int (zI M1 q2 (Int32.toNatClampNeg x1)), .int (zI M1 q3 (Int32.toNatClampNeg x2))] M1) fun u1 M2 =>
  zif ((zK M2 q1).1 = 20 ∧ zin x1 (zK M2 q1).2 = true)
  (zbm (zsI M2 q1 (Int32.toNatClampNeg x1) u1) fun M3 =>
  zif ((zK M3 a0).1 = 11)
  (zoR (zR M3 a0 34) fun q4 =>
  zif ((zK M3 a0).1 = 11)
  (zoR (zR M3 a0 34) fun q5 =>
  zif (((zK M3 q5).1 = 20 ∨ (zK M3 q5).1 = 24) ∧ zin x1 (zK M3 q5).2 = true)
  (zif ((zK M3 a0).1 = 11)
  (zoR (zR M3 a0 34) fun q6 =>
  zif (((zK M3 q6).1 = 20 ∨ (zK M3 q6).1 = 24) ∧ zin x2 (zK M3 q6).2 = true)
  (zbI (E n_Mo_sum [.int (zI M3 q5 (Int32.toNatClampNeg x1)), .int (zI M3 q6 (Int32.toNatClampNeg x2))] M3) fun u2 M4 =>
  zif ((zK M4 q4).1 = 20 ∧ zin x1 (zK M4 q4).2 = true)
  (zbm (zsI M4 q4 (Int32.toNatClampNeg x1) u2) fun M5 =>
  zif ((zK M5 a0).1 = 11)
  (zoR (zR M5 a0 35) fun q7 =>
  zif ((zK M5 a0).1 = 11)
  (zoR (zR M5 a0 35) fun q8 =>
  zif (((zK M5 q8).1 = 20 ∨ (zK M5 q8).1 = 24) ∧ zin x1 (zK M5 q8).2 = true)
  (zif ((zK M5 a0).1 = 11)
  (zoR (zR M5 a0 35) fun q9 =>
  zif (((zK M5 q9).1 = 20 ∨ (zK M5 q9).1 = 24) ∧ zin x2 (zK M5 q9).2 = true)
  (zbI (E n_Mo_sum [.int (zI M5 q8 (Int32.toNatClampNeg x1)), .int (zI M5 q9 (Int32.toNatClampNeg x2))] M5) fun u3 M6 =>
  zif ((zK M6 q7).1 = 20 ∧ zin x1 (zK M6 q7).2 = true)
  (zbm (zsI M6 q7 (Int32.toNatClampNeg x1) u3) fun M7 =>
  some (none, M7)))))))))))))))))))
set_option maxRecDepth 20000 in
theorem zg_Mo_chains_120 (d : Nat) (a0 : Nat) (x1 : Int32) (x2 : Int32) (s0 : Int32) (s1 : Int32) (s2 : Nat) (M : zM) : zG d n_Mo_chains 120 [some (.ref a0), some (.int x1), some (.int x2)] [.int s0, .int s1, .ref s2] M = zx_Mo_chains_120 (zV d) (zG d n_Mo_chains) a0 x1 x2 s0 s1 s2 M := by
  refine (zG_sg (m := zm_Mo_chains) rfl 400 _ _ _ M).trans ?_
  show zw true zm_Mo_chains (zV d) (zG d n_Mo_chains) 400 120 [some (.ref a0), some (.int x1), some (.int x2)] [.int s0, .int s1, .ref s2] M = _
  unfold zx_Mo_chains_120
  refine zw_bastore (p := 121) (Or.inl rfl) rfl rfl (fun M1 => ?_)
  refine zw_aload_n (p := 122) (Or.inr rfl) rfl rfl rfl ?_
  refine zw_get_ref (p := 125) (Or.inr rfl) rfl rfl (fun q1 => ?_)
  refine zw_iload_n (p := 126) (Or.inr rfl) rfl rfl rfl ?_
  refine zw_aload_n (p := 127) (Or.inr rfl) rfl rfl rfl ?_
  refine zw_get_ref (p := 130) (Or.inr rfl) rfl rfl (fun q2 => ?_)
  refine zw_iload_n (p := 131) (Or.inr rfl) rfl rfl rfl ?_
  refine zw_iaload (p := 132) (Or.inr rfl) rfl rfl ?_
  refine zw_aload_n (p := 133) (Or.inr rfl) rfl rfl rfl ?_
  refine zw_get_ref (p := 136) (Or.inr rfl) rfl rfl (fun q3 => ?_)
  refine zw_iload_n (p := 137) (Or.inr rfl) rfl rfl rfl ?_
  refine zw_iaload (p := 138) (Or.inr rfl) rfl rfl ?_
  refine zw_staticI (p := 141) (as := [.int (zI M1 q2 (Int32.toNatClampNeg x1)), .int (zI M1 q3 (Int32.toNatClampNeg x2))]) (rest := [.int x1, .ref q1]) (Or.inr rfl) rfl rfl rfl rfl rfl rfl (fun u1 M2 => ?_)
  refine zw_iastore (p := 142) (Or.inr rfl) rfl rfl (fun M3 => ?_)
  refine zw_aload_n (p := 143) (Or.inr rfl) rfl rfl rfl ?_
  refine zw_get_ref (p := 146) (Or.inr rfl) rfl rfl (fun q4 => ?_)
  refine zw_iload_n (p := 147) (Or.inr rfl) rfl rfl rfl ?_
  refine zw_aload_n (p := 148) (Or.inr rfl) rfl rfl rfl ?_
  refine zw_get_ref (p := 151) (Or.inr rfl) rfl rfl (fun q5 => ?_)
  refine zw_iload_n (p := 152) (Or.inr rfl) rfl rfl rfl ?_
  refine zw_iaload (p := 153) (Or.inr rfl) rfl rfl ?_
  refine zw_aload_n (p := 154) (Or.inr rfl) rfl rfl rfl ?_
  refine zw_get_ref (p := 157) (Or.inr rfl) rfl rfl (fun q6 => ?_)
  refine zw_iload_n (p := 158) (Or.inr rfl) rfl rfl rfl ?_
  refine zw_iaload (p := 159) (Or.inr rfl) rfl rfl ?_
  refine zw_staticI (p := 162) (as := [.int (zI M3 q5 (Int32.toNatClampNeg x1)), .int (zI M3 q6 (Int32.toNatClampNeg x2))]) (rest := [.int x1, .ref q4]) (Or.inr rfl) rfl rfl rfl rfl rfl rfl (fun u2 M4 => ?_)
  refine zw_iastore (p := 163) (Or.inr rfl) rfl rfl (fun M5 => ?_)
  refine zw_aload_n (p := 164) (Or.inr rfl) rfl rfl rfl ?_
  refine zw_get_ref (p := 167) (Or.inr rfl) rfl rfl (fun q7 => ?_)
  refine zw_iload_n (p := 168) (Or.inr rfl) rfl rfl rfl ?_
  refine zw_aload_n (p := 169) (Or.inr rfl) rfl rfl rfl ?_
  refine zw_get_ref (p := 172) (Or.inr rfl) rfl rfl (fun q8 => ?_)
  refine zw_iload_n (p := 173) (Or.inr rfl) rfl rfl rfl ?_
  refine zw_iaload (p := 174) (Or.inr rfl) rfl rfl ?_
  refine zw_aload_n (p := 175) (Or.inr rfl) rfl rfl rfl ?_
  refine zw_get_ref (p := 178) (Or.inr rfl) rfl rfl (fun q9 => ?_)
  refine zw_iload_n (p := 179) (Or.inr rfl) rfl rfl rfl ?_
  refine zw_iaload (p := 180) (Or.inr rfl) rfl rfl ?_
  refine zw_staticI (p := 183) (as := [.int (zI M5 q8 (Int32.toNatClampNeg x1)), .int (zI M5 q9 (Int32.toNatClampNeg x2))]) (rest := [.int x1, .ref q7]) (Or.inr rfl) rfl rfl rfl rfl rfl rfl (fun u3 M6 => ?_)
  refine zw_iastore (p := 184) (Or.inr rfl) rfl rfl (fun M7 => ?_)
  exact zw_return (Or.inr rfl) rfl rfl
def zx_Mo_chooses (E : zE0) (K : zKt) (a0 : Nat) (x1 : Int32) (x2 : Int32) (M : zM) : zO :=
  zif ((zK M a0).1 = 11)
  (zoR (zR M a0 36) fun q1 =>
  zif (((zK M q1).1 = 21 ∨ (zK M q1).1 = 22) ∧ zin x1 (zK M q1).2 = true)
  (if (zI M q1 (Int32.toNatClampNeg x1)) ≠ 0 then (zif ((zK M a0).1 = 11)
    (zoR (zR M a0 30) fun q2 =>
    zif (((zK M q2).1 = 23 ∨ (zK M q2).1 = 25) ∧ zin x1 (zK M q2).2 = true)
    (zif ((zK M a0).1 = 11)
    (zoR (zR M a0 30) fun q3 =>
    zif (((zK M q3).1 = 23 ∨ (zK M q3).1 = 25) ∧ zin x2 (zK M q3).2 = true)
    (zif ((zK M q2).1 = 23 ∧ zin x1 (zK M q2).2 = true)
    (zbm (zsL M q2 (Int32.toNatClampNeg x1) ((zL M q2 (Int32.toNatClampNeg x1)) ||| (zL M q3 (Int32.toNatClampNeg x2)))) fun M1 =>
    zif ((zK M1 a0).1 = 11)
    (zoR (zR M1 a0 31) fun q4 =>
    zif (((zK M1 q4).1 = 23 ∨ (zK M1 q4).1 = 25) ∧ zin x1 (zK M1 q4).2 = true)
    (zif ((zK M1 a0).1 = 11)
    (zoR (zR M1 a0 31) fun q5 =>
    zif (((zK M1 q5).1 = 23 ∨ (zK M1 q5).1 = 25) ∧ zin x2 (zK M1 q5).2 = true)
    (zif ((zK M1 q4).1 = 23 ∧ zin x1 (zK M1 q4).2 = true)
    (zbm (zsL M1 q4 (Int32.toNatClampNeg x1) ((zL M1 q4 (Int32.toNatClampNeg x1)) ||| (zL M1 q5 (Int32.toNatClampNeg x2)))) fun M2 =>
    zif ((zK M2 a0).1 = 11)
    (zoR (zR M2 a0 32) fun q6 =>
    zif ((zK M2 a0).1 = 11)
    (zoR (zR M2 a0 32) fun q7 =>
    zif (((zK M2 q7).1 = 21 ∨ (zK M2 q7).1 = 22) ∧ zin x1 (zK M2 q7).2 = true)
    (if (zI M2 q7 (Int32.toNatClampNeg x1)) ≠ 0 then (K 74 [some (.ref a0), some (.int x1), some (.int x2)] [.int (1 : Int32), .int x1, .ref q6] M2)
    else zif ((zK M2 a0).1 = 11)
    (zoR (zR M2 a0 32) fun q8 =>
    zif (((zK M2 q8).1 = 21 ∨ (zK M2 q8).1 = 22) ∧ zin x2 (zK M2 q8).2 = true)
    (if (zI M2 q8 (Int32.toNatClampNeg x2)) = 0 then (K 74 [some (.ref a0), some (.int x1), some (.int x2)] [.int (0 : Int32), .int x1, .ref q6] M2)
    else K 74 [some (.ref a0), some (.int x1), some (.int x2)] [.int (1 : Int32), .int x1, .ref q6] M2))))))))))))))))
  else zif ((zK M a0).1 = 11)
  (zbV (E n_Mo_takes [.ref a0, .int x2, .int x1] M) fun M3 =>
  some (none, M3))))
set_option maxRecDepth 20000 in
theorem ze_Mo_chooses (d : Nat) (a0 : Nat) (x1 : Int32) (x2 : Int32) (M : zM) : zV (d + 1) n_Mo_chooses [.ref a0, .int x1, .int x2] M = zx_Mo_chooses (zV d) (zG d n_Mo_chooses) a0 x1 x2 M := by
  refine (zE_sg (m := zm_Mo_chooses) rfl 400 _ rfl M).trans ?_
  show zw true zm_Mo_chooses (zV d) (zG d n_Mo_chooses) 400 0 [some (.ref a0), some (.int x1), some (.int x2)] [] M = _
  unfold zx_Mo_chooses
  refine zw_aload_n (p := 1) (Or.inl rfl) rfl rfl rfl ?_
  refine zw_get_ref (p := 4) (Or.inr rfl) rfl rfl (fun q1 => ?_)
  refine zw_iload_n (p := 5) (Or.inr rfl) rfl rfl rfl ?_
  refine zw_baload (p := 6) (Or.inr rfl) rfl rfl ?_
  refine zw_if_ne (t := 16) (p := 9) (Or.inr rfl) rfl rfl rfl ?_ ?_
  · refine zw_aload_n (p := 17) (Or.inr rfl) rfl rfl rfl ?_
    refine zw_get_ref (p := 20) (Or.inr rfl) rfl rfl (fun q2 => ?_)
    refine zw_iload_n (p := 21) (Or.inr rfl) rfl rfl rfl ?_
    refine zw_dup2_ir (p := 22) (Or.inr rfl) rfl rfl ?_
    refine zw_laload (p := 23) (Or.inr rfl) rfl rfl ?_
    refine zw_aload_n (p := 24) (Or.inr rfl) rfl rfl rfl ?_
    refine zw_get_ref (p := 27) (Or.inr rfl) rfl rfl (fun q3 => ?_)
    refine zw_iload_n (p := 28) (Or.inr rfl) rfl rfl rfl ?_
    refine zw_laload (p := 29) (Or.inr rfl) rfl rfl ?_
    refine zw_lor (p := 30) (Or.inr rfl) rfl rfl ?_
    refine zw_lastore (p := 31) (Or.inr rfl) rfl rfl (fun M1 => ?_)
    refine zw_aload_n (p := 32) (Or.inr rfl) rfl rfl rfl ?_
    refine zw_get_ref (p := 35) (Or.inr rfl) rfl rfl (fun q4 => ?_)
    refine zw_iload_n (p := 36) (Or.inr rfl) rfl rfl rfl ?_
    refine zw_dup2_ir (p := 37) (Or.inr rfl) rfl rfl ?_
    refine zw_laload (p := 38) (Or.inr rfl) rfl rfl ?_
    refine zw_aload_n (p := 39) (Or.inr rfl) rfl rfl rfl ?_
    refine zw_get_ref (p := 42) (Or.inr rfl) rfl rfl (fun q5 => ?_)
    refine zw_iload_n (p := 43) (Or.inr rfl) rfl rfl rfl ?_
    refine zw_laload (p := 44) (Or.inr rfl) rfl rfl ?_
    refine zw_lor (p := 45) (Or.inr rfl) rfl rfl ?_
    refine zw_lastore (p := 46) (Or.inr rfl) rfl rfl (fun M2 => ?_)
    refine zw_aload_n (p := 47) (Or.inr rfl) rfl rfl rfl ?_
    refine zw_get_ref (p := 50) (Or.inr rfl) rfl rfl (fun q6 => ?_)
    refine zw_iload_n (p := 51) (Or.inr rfl) rfl rfl rfl ?_
    refine zw_aload_n (p := 52) (Or.inr rfl) rfl rfl rfl ?_
    refine zw_get_ref (p := 55) (Or.inr rfl) rfl rfl (fun q7 => ?_)
    refine zw_iload_n (p := 56) (Or.inr rfl) rfl rfl rfl ?_
    refine zw_baload (p := 57) (Or.inr rfl) rfl rfl ?_
    refine zw_if_ne (t := 69) (p := 60) (Or.inr rfl) rfl rfl rfl ?_ ?_
    · refine zw_iconst (p := 70) (x := (1 : Int32)) (Or.inr rfl) rfl rfl rfl ?_
      refine zw_goto (t := 74) (Or.inr rfl) rfl rfl ?_
      exact zw_end rfl rfl
    refine zw_aload_n (p := 61) (Or.inr rfl) rfl rfl rfl ?_
    refine zw_get_ref (p := 64) (Or.inr rfl) rfl rfl (fun q8 => ?_)
    refine zw_iload_n (p := 65) (Or.inr rfl) rfl rfl rfl ?_
    refine zw_baload (p := 66) (Or.inr rfl) rfl rfl ?_
    refine zw_if_eq (t := 73) (p := 69) (Or.inr rfl) rfl rfl rfl ?_ ?_
    · refine zw_iconst (p := 74) (x := (0 : Int32)) (Or.inr rfl) rfl rfl rfl ?_
      exact zw_end rfl rfl
    refine zw_iconst (p := 70) (x := (1 : Int32)) (Or.inr rfl) rfl rfl rfl ?_
    refine zw_goto (t := 74) (Or.inr rfl) rfl rfl ?_
    exact zw_end rfl rfl
  refine zw_aload_n (p := 10) (Or.inr rfl) rfl rfl rfl ?_
  refine zw_iload_n (p := 11) (Or.inr rfl) rfl rfl rfl ?_
  refine zw_iload_n (p := 12) (Or.inr rfl) rfl rfl rfl ?_
  refine zw_virtualV (p := 15) (as := [.ref a0, .int x2, .int x1]) (rest := []) (Or.inr rfl) rfl rfl rfl rfl rfl rfl rfl (fun M3 => ?_)
  exact zw_return (Or.inr rfl) rfl rfl
def zx_Mo_chooses_74 (E : zE0) (K : zKt) (a0 : Nat) (x1 : Int32) (x2 : Int32) (s0 : Int32) (s1 : Int32) (s2 : Nat) (M : zM) : zO :=
  zbast M s2 s1 s0 fun M1 =>
  zif ((zK M1 a0).1 = 11)
  (zoR (zR M1 a0 33) fun q1 =>
  zif ((zK M1 a0).1 = 11)
  (zoR (zR M1 a0 33) fun q2 =>
  zif (((zK M1 q2).1 = 20 ∨ (zK M1 q2).1 = 24) ∧ zin x1 (zK M1 q2).2 = true)
  (zif ((zK M1 a0).1 = 11)
  (zoR (zR M1 a0 33) fun q3 =>
  zif (((zK M1 q3).1 = 20 ∨ (zK M1 q3).1 = 24) ∧ zin x2 (zK M1 q3).2 = true)
  (zbI (E n_Mo_sum [.int (zI M1 q2 (Int32.toNatClampNeg x1)), .int (zI M1 q3 (Int32.toNatClampNeg x2))] M1) fun u1 M2 =>
  zif ((zK M2 q1).1 = 20 ∧ zin x1 (zK M2 q1).2 = true)
  (zbm (zsI M2 q1 (Int32.toNatClampNeg x1) u1) fun M3 =>
  zif ((zK M3 a0).1 = 11)
  (zoR (zR M3 a0 34) fun q4 =>
  zif ((zK M3 a0).1 = 11)
  (zoR (zR M3 a0 34) fun q5 =>
  zif (((zK M3 q5).1 = 20 ∨ (zK M3 q5).1 = 24) ∧ zin x1 (zK M3 q5).2 = true)
  (zif ((zK M3 a0).1 = 11)
  (zoR (zR M3 a0 34) fun q6 =>
  zif (((zK M3 q6).1 = 20 ∨ (zK M3 q6).1 = 24) ∧ zin x2 (zK M3 q6).2 = true)
  (zbI (E n_Mo_least [.int (zI M3 q5 (Int32.toNatClampNeg x1)), .int (zI M3 q6 (Int32.toNatClampNeg x2))] M3) fun u2 M4 =>
  zif ((zK M4 q4).1 = 20 ∧ zin x1 (zK M4 q4).2 = true)
  (zbm (zsI M4 q4 (Int32.toNatClampNeg x1) u2) fun M5 =>
  zif ((zK M5 a0).1 = 11)
  (zoR (zR M5 a0 35) fun q7 =>
  zif ((zK M5 a0).1 = 11)
  (zoR (zR M5 a0 35) fun q8 =>
  zif (((zK M5 q8).1 = 20 ∨ (zK M5 q8).1 = 24) ∧ zin x1 (zK M5 q8).2 = true)
  (zif ((zK M5 a0).1 = 11)
  (zoR (zR M5 a0 35) fun q9 =>
  zif (((zK M5 q9).1 = 20 ∨ (zK M5 q9).1 = 24) ∧ zin x2 (zK M5 q9).2 = true)
  (zbI (E n_Mo_greatest [.int (zI M5 q8 (Int32.toNatClampNeg x1)), .int (zI M5 q9 (Int32.toNatClampNeg x2))] M5) fun u3 M6 =>
  zif ((zK M6 q7).1 = 20 ∧ zin x1 (zK M6 q7).2 = true)
  (zbm (zsI M6 q7 (Int32.toNatClampNeg x1) u3) fun M7 =>
  some (none, M7)))))))))))))))))))
set_option maxRecDepth 20000 in
theorem zg_Mo_chooses_74 (d : Nat) (a0 : Nat) (x1 : Int32) (x2 : Int32) (s0 : Int32) (s1 : Int32) (s2 : Nat) (M : zM) : zG d n_Mo_chooses 74 [some (.ref a0), some (.int x1), some (.int x2)] [.int s0, .int s1, .ref s2] M = zx_Mo_chooses_74 (zV d) (zG d n_Mo_chooses) a0 x1 x2 s0 s1 s2 M := by
  refine (zG_sg (m := zm_Mo_chooses) rfl 400 _ _ _ M).trans ?_
  show zw true zm_Mo_chooses (zV d) (zG d n_Mo_chooses) 400 74 [some (.ref a0), some (.int x1), some (.int x2)] [.int s0, .int s1, .ref s2] M = _
  unfold zx_Mo_chooses_74
  refine zw_bastore (p := 75) (Or.inl rfl) rfl rfl (fun M1 => ?_)
  refine zw_aload_n (p := 76) (Or.inr rfl) rfl rfl rfl ?_
  refine zw_get_ref (p := 79) (Or.inr rfl) rfl rfl (fun q1 => ?_)
  refine zw_iload_n (p := 80) (Or.inr rfl) rfl rfl rfl ?_
  refine zw_aload_n (p := 81) (Or.inr rfl) rfl rfl rfl ?_
  refine zw_get_ref (p := 84) (Or.inr rfl) rfl rfl (fun q2 => ?_)
  refine zw_iload_n (p := 85) (Or.inr rfl) rfl rfl rfl ?_
  refine zw_iaload (p := 86) (Or.inr rfl) rfl rfl ?_
  refine zw_aload_n (p := 87) (Or.inr rfl) rfl rfl rfl ?_
  refine zw_get_ref (p := 90) (Or.inr rfl) rfl rfl (fun q3 => ?_)
  refine zw_iload_n (p := 91) (Or.inr rfl) rfl rfl rfl ?_
  refine zw_iaload (p := 92) (Or.inr rfl) rfl rfl ?_
  refine zw_staticI (p := 95) (as := [.int (zI M1 q2 (Int32.toNatClampNeg x1)), .int (zI M1 q3 (Int32.toNatClampNeg x2))]) (rest := [.int x1, .ref q1]) (Or.inr rfl) rfl rfl rfl rfl rfl rfl (fun u1 M2 => ?_)
  refine zw_iastore (p := 96) (Or.inr rfl) rfl rfl (fun M3 => ?_)
  refine zw_aload_n (p := 97) (Or.inr rfl) rfl rfl rfl ?_
  refine zw_get_ref (p := 100) (Or.inr rfl) rfl rfl (fun q4 => ?_)
  refine zw_iload_n (p := 101) (Or.inr rfl) rfl rfl rfl ?_
  refine zw_aload_n (p := 102) (Or.inr rfl) rfl rfl rfl ?_
  refine zw_get_ref (p := 105) (Or.inr rfl) rfl rfl (fun q5 => ?_)
  refine zw_iload_n (p := 106) (Or.inr rfl) rfl rfl rfl ?_
  refine zw_iaload (p := 107) (Or.inr rfl) rfl rfl ?_
  refine zw_aload_n (p := 108) (Or.inr rfl) rfl rfl rfl ?_
  refine zw_get_ref (p := 111) (Or.inr rfl) rfl rfl (fun q6 => ?_)
  refine zw_iload_n (p := 112) (Or.inr rfl) rfl rfl rfl ?_
  refine zw_iaload (p := 113) (Or.inr rfl) rfl rfl ?_
  refine zw_staticI (p := 116) (as := [.int (zI M3 q5 (Int32.toNatClampNeg x1)), .int (zI M3 q6 (Int32.toNatClampNeg x2))]) (rest := [.int x1, .ref q4]) (Or.inr rfl) rfl rfl rfl rfl rfl rfl (fun u2 M4 => ?_)
  refine zw_iastore (p := 117) (Or.inr rfl) rfl rfl (fun M5 => ?_)
  refine zw_aload_n (p := 118) (Or.inr rfl) rfl rfl rfl ?_
  refine zw_get_ref (p := 121) (Or.inr rfl) rfl rfl (fun q7 => ?_)
  refine zw_iload_n (p := 122) (Or.inr rfl) rfl rfl rfl ?_
  refine zw_aload_n (p := 123) (Or.inr rfl) rfl rfl rfl ?_
  refine zw_get_ref (p := 126) (Or.inr rfl) rfl rfl (fun q8 => ?_)
  refine zw_iload_n (p := 127) (Or.inr rfl) rfl rfl rfl ?_
  refine zw_iaload (p := 128) (Or.inr rfl) rfl rfl ?_
  refine zw_aload_n (p := 129) (Or.inr rfl) rfl rfl rfl ?_
  refine zw_get_ref (p := 132) (Or.inr rfl) rfl rfl (fun q9 => ?_)
  refine zw_iload_n (p := 133) (Or.inr rfl) rfl rfl rfl ?_
  refine zw_iaload (p := 134) (Or.inr rfl) rfl rfl ?_
  refine zw_staticI (p := 137) (as := [.int (zI M5 q8 (Int32.toNatClampNeg x1)), .int (zI M5 q9 (Int32.toNatClampNeg x2))]) (rest := [.int x1, .ref q7]) (Or.inr rfl) rfl rfl rfl rfl rfl rfl (fun u3 M6 => ?_)
  refine zw_iastore (p := 138) (Or.inr rfl) rfl rfl (fun M7 => ?_)
  exact zw_return (Or.inr rfl) rfl rfl
def zx_Mo_onePlace (E : zE0) (K : zKt) (a0 : Nat) (M : zM) : zO :=
  zif ((zK M a0).1 = 11)
  (zbi ((45 : Int32) * (zI M a0 38)) fun u1 =>
  zif ((zK M a0).1 = 11)
  (zoR (zR M a0 1) fun q1 =>
  zif (((zK M q1).1 = 20 ∨ (zK M q1).1 = 24) ∧ zin (u1 + (0 : Int32)) (zK M q1).2 = true)
  (zbi (zI M q1 (Int32.toNatClampNeg (u1 + (0 : Int32)))) fun u2 =>
  zif ((zK M a0).1 = 11)
  (zoR (zR M a0 1) fun q2 =>
  zif (((zK M q2).1 = 20 ∨ (zK M q2).1 = 24) ∧ zin (u1 + (1 : Int32)) (zK M q2).2 = true)
  (zbi (zI M q2 (Int32.toNatClampNeg (u1 + (1 : Int32)))) fun u3 =>
  zif ((zK M a0).1 = 11)
  (zoR (zR M a0 29) fun q3 =>
  zif ((zK M q3).1 = 20 ∧ zin (0 : Int32) (zK M q3).2 = true)
  (zbm (zsI M q3 (Int32.toNatClampNeg (0 : Int32)) u2) fun M1 =>
  zif ((zK M1 a0).1 = 11)
  (if (zI M1 a0 39) ≠ 0 then (zif ((zK M1 a0).1 = 11 ∧ ((1 : Int32) = 0 ∨ (1 : Int32) = 1))
    (zbm (zsI M1 a0 39 (1 : Int32)) fun M2 =>
    zif ((zK M2 a0).1 = 11)
    (zoR (zR M2 a0 30) fun q4 =>
    zif ((zK M2 a0).1 = 11)
    (if (zI M2 a0 39) = 0 then (K 80 [some (.ref a0), some (.int u1), some (.int u2), some (.int u3), none] [.long ((1 : Int64) <<< (Int32.toInt64 u2 &&& 63)), .int (0 : Int32), .ref q4] M2)
    else K 80 [some (.ref a0), some (.int u1), some (.int u2), some (.int u3), none] [.long (0 : Int64), .int (0 : Int32), .ref q4] M2))))
  else if u2 = (40 : Int32) then (zif ((zK M1 a0).1 = 11 ∧ ((1 : Int32) = 0 ∨ (1 : Int32) = 1))
    (zbm (zsI M1 a0 39 (1 : Int32)) fun M3 =>
    zif ((zK M3 a0).1 = 11)
    (zoR (zR M3 a0 30) fun q5 =>
    zif ((zK M3 a0).1 = 11)
    (if (zI M3 a0 39) = 0 then (K 80 [some (.ref a0), some (.int u1), some (.int u2), some (.int u3), none] [.long ((1 : Int64) <<< (Int32.toInt64 u2 &&& 63)), .int (0 : Int32), .ref q5] M3)
    else K 80 [some (.ref a0), some (.int u1), some (.int u2), some (.int u3), none] [.long (0 : Int64), .int (0 : Int32), .ref q5] M3))))
  else if u3 ≠ (40 : Int32) then (zif ((zK M1 a0).1 = 11 ∧ ((0 : Int32) = 0 ∨ (0 : Int32) = 1))
    (zbm (zsI M1 a0 39 (0 : Int32)) fun M4 =>
    zif ((zK M4 a0).1 = 11)
    (zoR (zR M4 a0 30) fun q6 =>
    zif ((zK M4 a0).1 = 11)
    (if (zI M4 a0 39) = 0 then (K 80 [some (.ref a0), some (.int u1), some (.int u2), some (.int u3), none] [.long ((1 : Int64) <<< (Int32.toInt64 u2 &&& 63)), .int (0 : Int32), .ref q6] M4)
    else K 80 [some (.ref a0), some (.int u1), some (.int u2), some (.int u3), none] [.long (0 : Int64), .int (0 : Int32), .ref q6] M4))))
  else zif ((zK M1 a0).1 = 11 ∧ ((1 : Int32) = 0 ∨ (1 : Int32) = 1))
  (zbm (zsI M1 a0 39 (1 : Int32)) fun M5 =>
  zif ((zK M5 a0).1 = 11)
  (zoR (zR M5 a0 30) fun q7 =>
  zif ((zK M5 a0).1 = 11)
  (if (zI M5 a0 39) = 0 then (K 80 [some (.ref a0), some (.int u1), some (.int u2), some (.int u3), none] [.long ((1 : Int64) <<< (Int32.toInt64 u2 &&& 63)), .int (0 : Int32), .ref q7] M5)
  else K 80 [some (.ref a0), some (.int u1), some (.int u2), some (.int u3), none] [.long (0 : Int64), .int (0 : Int32), .ref q7] M5)))))))))))
set_option maxRecDepth 20000 in
theorem ze_Mo_onePlace (d : Nat) (a0 : Nat) (M : zM) : zV (d + 1) n_Mo_onePlace [.ref a0] M = zx_Mo_onePlace (zV d) (zG d n_Mo_onePlace) a0 M := by
  refine (zE_sg (m := zm_Mo_onePlace) rfl 400 _ rfl M).trans ?_
  show zw true zm_Mo_onePlace (zV d) (zG d n_Mo_onePlace) 400 0 [some (.ref a0), none, none, none, none] [] M = _
  unfold zx_Mo_onePlace
  refine zw_bipush (p := 2) (x := (45 : Int32)) (Or.inl rfl) rfl rfl rfl ?_
  refine zw_aload_n (p := 3) (Or.inr rfl) rfl rfl rfl ?_
  refine zw_get_int (p := 6) (Or.inr rfl) rfl rfl ?_
  refine zw_imul (p := 7) (Or.inr rfl) rfl rfl ?_
  refine zw_istore_nN (p := 8) (L2 := fun u1 => [some (.ref a0), some (.int u1), none, none, none]) (Or.inr rfl) rfl rfl (fun _ => rfl) rfl (fun u1 => ?_)
  refine zw_aload_n (p := 9) (Or.inr rfl) rfl rfl rfl ?_
  refine zw_get_ref (p := 12) (Or.inr rfl) rfl rfl (fun q1 => ?_)
  refine zw_iload_n (p := 13) (Or.inr rfl) rfl rfl rfl ?_
  refine zw_iconst (p := 14) (x := (0 : Int32)) (Or.inr rfl) rfl rfl rfl ?_
  refine zw_iadd (p := 15) (Or.inr rfl) rfl rfl ?_
  refine zw_iaload (p := 16) (Or.inr rfl) rfl rfl ?_
  refine zw_istore_nN (p := 17) (L2 := fun u2 => [some (.ref a0), some (.int u1), some (.int u2), none, none]) (Or.inr rfl) rfl rfl (fun _ => rfl) rfl (fun u2 => ?_)
  refine zw_aload_n (p := 18) (Or.inr rfl) rfl rfl rfl ?_
  refine zw_get_ref (p := 21) (Or.inr rfl) rfl rfl (fun q2 => ?_)
  refine zw_iload_n (p := 22) (Or.inr rfl) rfl rfl rfl ?_
  refine zw_iconst (p := 23) (x := (1 : Int32)) (Or.inr rfl) rfl rfl rfl ?_
  refine zw_iadd (p := 24) (Or.inr rfl) rfl rfl ?_
  refine zw_iaload (p := 25) (Or.inr rfl) rfl rfl ?_
  refine zw_istore_nN (p := 26) (L2 := fun u3 => [some (.ref a0), some (.int u1), some (.int u2), some (.int u3), none]) (Or.inr rfl) rfl rfl (fun _ => rfl) rfl (fun u3 => ?_)
  refine zw_aload_n (p := 27) (Or.inr rfl) rfl rfl rfl ?_
  refine zw_get_ref (p := 30) (Or.inr rfl) rfl rfl (fun q3 => ?_)
  refine zw_iconst (p := 31) (x := (0 : Int32)) (Or.inr rfl) rfl rfl rfl ?_
  refine zw_iload_n (p := 32) (Or.inr rfl) rfl rfl rfl ?_
  refine zw_iastore (p := 33) (Or.inr rfl) rfl rfl (fun M1 => ?_)
  refine zw_aload_n (p := 34) (Or.inr rfl) rfl rfl rfl ?_
  refine zw_aload_n (p := 35) (Or.inr rfl) rfl rfl rfl ?_
  refine zw_get_int (p := 38) (Or.inr rfl) rfl rfl ?_
  refine zw_if_ne (t := 53) (p := 41) (Or.inr rfl) rfl rfl rfl ?_ ?_
  · refine zw_iconst (p := 54) (x := (1 : Int32)) (Or.inr rfl) rfl rfl rfl ?_
    refine zw_goto (t := 58) (Or.inr rfl) rfl rfl ?_
    refine zw_put_boo (p := 61) (Or.inr rfl) rfl rfl (fun M2 => ?_)
    refine zw_aload_n (p := 62) (Or.inr rfl) rfl rfl rfl ?_
    refine zw_get_ref (p := 65) (Or.inr rfl) rfl rfl (fun q4 => ?_)
    refine zw_iconst (p := 66) (x := (0 : Int32)) (Or.inr rfl) rfl rfl rfl ?_
    refine zw_aload_n (p := 67) (Or.inr rfl) rfl rfl rfl ?_
    refine zw_get_int (p := 70) (Or.inr rfl) rfl rfl ?_
    refine zw_if_eq (t := 77) (p := 73) (Or.inr rfl) rfl rfl rfl ?_ ?_
    · refine zw_lconst (p := 78) (x := (1 : Int64)) (Or.inr rfl) rfl rfl rfl ?_
      refine zw_iload_n (p := 79) (Or.inr rfl) rfl rfl rfl ?_
      refine zw_lshl (p := 80) (Or.inr rfl) rfl rfl ?_
      exact zw_end rfl rfl
    refine zw_lconst (p := 74) (x := (0 : Int64)) (Or.inr rfl) rfl rfl rfl ?_
    refine zw_goto (t := 80) (Or.inr rfl) rfl rfl ?_
    exact zw_end rfl rfl
  refine zw_iload_n (p := 42) (Or.inr rfl) rfl rfl rfl ?_
  refine zw_bipush (p := 44) (x := (40 : Int32)) (Or.inr rfl) rfl rfl rfl ?_
  refine zw_icmp_eq (t := 53) (p := 47) (Or.inr rfl) rfl rfl rfl ?_ ?_
  · refine zw_iconst (p := 54) (x := (1 : Int32)) (Or.inr rfl) rfl rfl rfl ?_
    refine zw_goto (t := 58) (Or.inr rfl) rfl rfl ?_
    refine zw_put_boo (p := 61) (Or.inr rfl) rfl rfl (fun M3 => ?_)
    refine zw_aload_n (p := 62) (Or.inr rfl) rfl rfl rfl ?_
    refine zw_get_ref (p := 65) (Or.inr rfl) rfl rfl (fun q5 => ?_)
    refine zw_iconst (p := 66) (x := (0 : Int32)) (Or.inr rfl) rfl rfl rfl ?_
    refine zw_aload_n (p := 67) (Or.inr rfl) rfl rfl rfl ?_
    refine zw_get_int (p := 70) (Or.inr rfl) rfl rfl ?_
    refine zw_if_eq (t := 77) (p := 73) (Or.inr rfl) rfl rfl rfl ?_ ?_
    · refine zw_lconst (p := 78) (x := (1 : Int64)) (Or.inr rfl) rfl rfl rfl ?_
      refine zw_iload_n (p := 79) (Or.inr rfl) rfl rfl rfl ?_
      refine zw_lshl (p := 80) (Or.inr rfl) rfl rfl ?_
      exact zw_end rfl rfl
    refine zw_lconst (p := 74) (x := (0 : Int64)) (Or.inr rfl) rfl rfl rfl ?_
    refine zw_goto (t := 80) (Or.inr rfl) rfl rfl ?_
    exact zw_end rfl rfl
  refine zw_iload_n (p := 48) (Or.inr rfl) rfl rfl rfl ?_
  refine zw_bipush (p := 50) (x := (40 : Int32)) (Or.inr rfl) rfl rfl rfl ?_
  refine zw_icmp_ne (t := 57) (p := 53) (Or.inr rfl) rfl rfl rfl ?_ ?_
  · refine zw_iconst (p := 58) (x := (0 : Int32)) (Or.inr rfl) rfl rfl rfl ?_
    refine zw_put_boo (p := 61) (Or.inr rfl) rfl rfl (fun M4 => ?_)
    refine zw_aload_n (p := 62) (Or.inr rfl) rfl rfl rfl ?_
    refine zw_get_ref (p := 65) (Or.inr rfl) rfl rfl (fun q6 => ?_)
    refine zw_iconst (p := 66) (x := (0 : Int32)) (Or.inr rfl) rfl rfl rfl ?_
    refine zw_aload_n (p := 67) (Or.inr rfl) rfl rfl rfl ?_
    refine zw_get_int (p := 70) (Or.inr rfl) rfl rfl ?_
    refine zw_if_eq (t := 77) (p := 73) (Or.inr rfl) rfl rfl rfl ?_ ?_
    · refine zw_lconst (p := 78) (x := (1 : Int64)) (Or.inr rfl) rfl rfl rfl ?_
      refine zw_iload_n (p := 79) (Or.inr rfl) rfl rfl rfl ?_
      refine zw_lshl (p := 80) (Or.inr rfl) rfl rfl ?_
      exact zw_end rfl rfl
    refine zw_lconst (p := 74) (x := (0 : Int64)) (Or.inr rfl) rfl rfl rfl ?_
    refine zw_goto (t := 80) (Or.inr rfl) rfl rfl ?_
    exact zw_end rfl rfl
  refine zw_iconst (p := 54) (x := (1 : Int32)) (Or.inr rfl) rfl rfl rfl ?_
  refine zw_goto (t := 58) (Or.inr rfl) rfl rfl ?_
  refine zw_put_boo (p := 61) (Or.inr rfl) rfl rfl (fun M5 => ?_)
  refine zw_aload_n (p := 62) (Or.inr rfl) rfl rfl rfl ?_
  refine zw_get_ref (p := 65) (Or.inr rfl) rfl rfl (fun q7 => ?_)
  refine zw_iconst (p := 66) (x := (0 : Int32)) (Or.inr rfl) rfl rfl rfl ?_
  refine zw_aload_n (p := 67) (Or.inr rfl) rfl rfl rfl ?_
  refine zw_get_int (p := 70) (Or.inr rfl) rfl rfl ?_
  refine zw_if_eq (t := 77) (p := 73) (Or.inr rfl) rfl rfl rfl ?_ ?_
  · refine zw_lconst (p := 78) (x := (1 : Int64)) (Or.inr rfl) rfl rfl rfl ?_
    refine zw_iload_n (p := 79) (Or.inr rfl) rfl rfl rfl ?_
    refine zw_lshl (p := 80) (Or.inr rfl) rfl rfl ?_
    exact zw_end rfl rfl
  refine zw_lconst (p := 74) (x := (0 : Int64)) (Or.inr rfl) rfl rfl rfl ?_
  refine zw_goto (t := 80) (Or.inr rfl) rfl rfl ?_
  exact zw_end rfl rfl
def zx_Mo_onePlace_80 (E : zE0) (K : zKt) (a0 : Nat) (x1 : Int32) (x2 : Int32) (x3 : Int32) (s0 : Int64) (s1 : Int32) (s2 : Nat) (M : zM) : zO :=
  zif ((zK M s2).1 = 23 ∧ zin s1 (zK M s2).2 = true)
  (zbm (zsL M s2 (Int32.toNatClampNeg s1) s0) fun M1 =>
  zif ((zK M1 a0).1 = 11)
  (zoR (zR M1 a0 31) fun q1 =>
  zif ((zK M1 a0).1 = 11)
  (zoR (zR M1 a0 30) fun q2 =>
  zif (((zK M1 q2).1 = 23 ∨ (zK M1 q2).1 = 25) ∧ zin (0 : Int32) (zK M1 q2).2 = true)
  (zif ((zK M1 q1).1 = 23 ∧ zin (0 : Int32) (zK M1 q1).2 = true)
  (zbm (zsL M1 q1 (Int32.toNatClampNeg (0 : Int32)) (zL M1 q2 (Int32.toNatClampNeg (0 : Int32)))) fun M2 =>
  zif ((zK M2 a0).1 = 11)
  (zoR (zR M2 a0 32) fun q3 =>
  zbast M2 q3 (0 : Int32) (0 : Int32) fun M3 =>
  zif ((zK M3 a0).1 = 11)
  (zoR (zR M3 a0 33) fun q4 =>
  zif ((zK M3 q4).1 = 20 ∧ zin (0 : Int32) (zK M3 q4).2 = true)
  (zbm (zsI M3 q4 (Int32.toNatClampNeg (0 : Int32)) (1 : Int32)) fun M4 =>
  zif ((zK M4 a0).1 = 11)
  (zoR (zR M4 a0 34) fun q5 =>
  zif ((zK M4 q5).1 = 20 ∧ zin (0 : Int32) (zK M4 q5).2 = true)
  (zbm (zsI M4 q5 (Int32.toNatClampNeg (0 : Int32)) (1 : Int32)) fun M5 =>
  zif ((zK M5 a0).1 = 11)
  (zoR (zR M5 a0 35) fun q6 =>
  zif ((zK M5 q6).1 = 20 ∧ zin (0 : Int32) (zK M5 q6).2 = true)
  (zbm (zsI M5 q6 (Int32.toNatClampNeg (0 : Int32)) (1 : Int32)) fun M6 =>
  zif ((zK M6 a0).1 = 11)
  (if (zI M6 a0 39) ≠ 0 then (zif ((zK M6 a0).1 = 11)
    (zoR (zR M6 a0 1) fun q7 =>
    zif (((zK M6 q7).1 = 20 ∨ (zK M6 q7).1 = 24) ∧ zin (x1 + (1 : Int32)) (zK M6 q7).2 = true)
    (zif ((zK M6 a0).1 = 11)
    (if (zI M6 a0 39) ≠ 0 then (zbI (E n_Mo_flag [.int (0 : Int32)] M6) fun u1 M7 =>
      zif ((zK M7 q7).1 = 20 ∧ zin (x1 + (1 : Int32)) (zK M7 q7).2 = true)
      (zbm (zsI M7 q7 (Int32.toNatClampNeg (x1 + (1 : Int32))) ((zI M6 q7 (Int32.toNatClampNeg (x1 + (1 : Int32)))) + u1)) fun M8 =>
      some (none, M8)))
    else zbI (E n_Mo_flag [.int (1 : Int32)] M6) fun u2 M9 =>
    zif ((zK M9 q7).1 = 20 ∧ zin (x1 + (1 : Int32)) (zK M9 q7).2 = true)
    (zbm (zsI M9 q7 (Int32.toNatClampNeg (x1 + (1 : Int32))) ((zI M6 q7 (Int32.toNatClampNeg (x1 + (1 : Int32)))) + u2)) fun M10 =>
    some (none, M10))))))
  else zif ((zK M6 a0).1 = 11)
  (zoR (zR M6 a0 1) fun q8 =>
  zif ((zK M6 q8).1 = 20 ∧ zin ((x1 + (5 : Int32)) + x2) (zK M6 q8).2 = true)
  (zbm (zsI M6 q8 (Int32.toNatClampNeg ((x1 + (5 : Int32)) + x2)) x3) fun M11 =>
  zif ((zK M11 a0).1 = 11)
  (zoR (zR M11 a0 1) fun q9 =>
  zif (((zK M11 q9).1 = 20 ∨ (zK M11 q9).1 = 24) ∧ zin (x1 + (0 : Int32)) (zK M11 q9).2 = true)
  (zif ((zK M11 q9).1 = 20 ∧ zin (x1 + (0 : Int32)) (zK M11 q9).2 = true)
  (zbm (zsI M11 q9 (Int32.toNatClampNeg (x1 + (0 : Int32))) ((zI M11 q9 (Int32.toNatClampNeg (x1 + (0 : Int32)))) + (1 : Int32))) fun M12 =>
  K 154 [some (.ref a0), some (.int x1), none, some (.int x3), some (.int (0 : Int32))] [] M12))))))))))))))))))
set_option maxRecDepth 20000 in
theorem zg_Mo_onePlace_80 (d : Nat) (a0 : Nat) (x1 : Int32) (x2 : Int32) (x3 : Int32) (s0 : Int64) (s1 : Int32) (s2 : Nat) (M : zM) : zG d n_Mo_onePlace 80 [some (.ref a0), some (.int x1), some (.int x2), some (.int x3), none] [.long s0, .int s1, .ref s2] M = zx_Mo_onePlace_80 (zV d) (zG d n_Mo_onePlace) a0 x1 x2 x3 s0 s1 s2 M := by
  refine (zG_sg (m := zm_Mo_onePlace) rfl 400 _ _ _ M).trans ?_
  show zw true zm_Mo_onePlace (zV d) (zG d n_Mo_onePlace) 400 80 [some (.ref a0), some (.int x1), some (.int x2), some (.int x3), none] [.long s0, .int s1, .ref s2] M = _
  unfold zx_Mo_onePlace_80
  refine zw_lastore (p := 81) (Or.inl rfl) rfl rfl (fun M1 => ?_)
  refine zw_aload_n (p := 82) (Or.inr rfl) rfl rfl rfl ?_
  refine zw_get_ref (p := 85) (Or.inr rfl) rfl rfl (fun q1 => ?_)
  refine zw_iconst (p := 86) (x := (0 : Int32)) (Or.inr rfl) rfl rfl rfl ?_
  refine zw_aload_n (p := 87) (Or.inr rfl) rfl rfl rfl ?_
  refine zw_get_ref (p := 90) (Or.inr rfl) rfl rfl (fun q2 => ?_)
  refine zw_iconst (p := 91) (x := (0 : Int32)) (Or.inr rfl) rfl rfl rfl ?_
  refine zw_laload (p := 92) (Or.inr rfl) rfl rfl ?_
  refine zw_lastore (p := 93) (Or.inr rfl) rfl rfl (fun M2 => ?_)
  refine zw_aload_n (p := 94) (Or.inr rfl) rfl rfl rfl ?_
  refine zw_get_ref (p := 97) (Or.inr rfl) rfl rfl (fun q3 => ?_)
  refine zw_iconst (p := 98) (x := (0 : Int32)) (Or.inr rfl) rfl rfl rfl ?_
  refine zw_iconst (p := 99) (x := (0 : Int32)) (Or.inr rfl) rfl rfl rfl ?_
  refine zw_bastore (p := 100) (Or.inr rfl) rfl rfl (fun M3 => ?_)
  refine zw_aload_n (p := 101) (Or.inr rfl) rfl rfl rfl ?_
  refine zw_get_ref (p := 104) (Or.inr rfl) rfl rfl (fun q4 => ?_)
  refine zw_iconst (p := 105) (x := (0 : Int32)) (Or.inr rfl) rfl rfl rfl ?_
  refine zw_iconst (p := 106) (x := (1 : Int32)) (Or.inr rfl) rfl rfl rfl ?_
  refine zw_iastore (p := 107) (Or.inr rfl) rfl rfl (fun M4 => ?_)
  refine zw_aload_n (p := 108) (Or.inr rfl) rfl rfl rfl ?_
  refine zw_get_ref (p := 111) (Or.inr rfl) rfl rfl (fun q5 => ?_)
  refine zw_iconst (p := 112) (x := (0 : Int32)) (Or.inr rfl) rfl rfl rfl ?_
  refine zw_iconst (p := 113) (x := (1 : Int32)) (Or.inr rfl) rfl rfl rfl ?_
  refine zw_iastore (p := 114) (Or.inr rfl) rfl rfl (fun M5 => ?_)
  refine zw_aload_n (p := 115) (Or.inr rfl) rfl rfl rfl ?_
  refine zw_get_ref (p := 118) (Or.inr rfl) rfl rfl (fun q6 => ?_)
  refine zw_iconst (p := 119) (x := (0 : Int32)) (Or.inr rfl) rfl rfl rfl ?_
  refine zw_iconst (p := 120) (x := (1 : Int32)) (Or.inr rfl) rfl rfl rfl ?_
  refine zw_iastore (p := 121) (Or.inr rfl) rfl rfl (fun M6 => ?_)
  refine zw_aload_n (p := 122) (Or.inr rfl) rfl rfl rfl ?_
  refine zw_get_int (p := 125) (Or.inr rfl) rfl rfl ?_
  refine zw_if_ne (t := 196) (p := 128) (Or.inr rfl) rfl rfl rfl ?_ ?_
  · refine zw_aload_n (p := 197) (Or.inr rfl) rfl rfl rfl ?_
    refine zw_get_ref (p := 200) (Or.inr rfl) rfl rfl (fun q7 => ?_)
    refine zw_iload_n (p := 201) (Or.inr rfl) rfl rfl rfl ?_
    refine zw_iconst (p := 202) (x := (1 : Int32)) (Or.inr rfl) rfl rfl rfl ?_
    refine zw_iadd (p := 203) (Or.inr rfl) rfl rfl ?_
    refine zw_dup2_ir (p := 204) (Or.inr rfl) rfl rfl ?_
    refine zw_iaload (p := 205) (Or.inr rfl) rfl rfl ?_
    refine zw_aload_n (p := 206) (Or.inr rfl) rfl rfl rfl ?_
    refine zw_get_int (p := 209) (Or.inr rfl) rfl rfl ?_
    refine zw_if_ne (t := 216) (p := 212) (Or.inr rfl) rfl rfl rfl ?_ ?_
    · refine zw_iconst (p := 217) (x := (0 : Int32)) (Or.inr rfl) rfl rfl rfl ?_
      refine zw_staticI (p := 220) (as := [.int (0 : Int32)]) (rest := [.int (zI M6 q7 (Int32.toNatClampNeg (x1 + (1 : Int32)))), .int (x1 + (1 : Int32)), .ref q7]) (Or.inr rfl) rfl rfl rfl rfl rfl rfl (fun u1 M7 => ?_)
      refine zw_iadd (p := 221) (Or.inr rfl) rfl rfl ?_
      refine zw_iastore (p := 222) (Or.inr rfl) rfl rfl (fun M8 => ?_)
      exact zw_return (Or.inr rfl) rfl rfl
    refine zw_iconst (p := 213) (x := (1 : Int32)) (Or.inr rfl) rfl rfl rfl ?_
    refine zw_goto (t := 217) (Or.inr rfl) rfl rfl ?_
    refine zw_staticI (p := 220) (as := [.int (1 : Int32)]) (rest := [.int (zI M6 q7 (Int32.toNatClampNeg (x1 + (1 : Int32)))), .int (x1 + (1 : Int32)), .ref q7]) (Or.inr rfl) rfl rfl rfl rfl rfl rfl (fun u2 M9 => ?_)
    refine zw_iadd (p := 221) (Or.inr rfl) rfl rfl ?_
    refine zw_iastore (p := 222) (Or.inr rfl) rfl rfl (fun M10 => ?_)
    exact zw_return (Or.inr rfl) rfl rfl
  refine zw_aload_n (p := 129) (Or.inr rfl) rfl rfl rfl ?_
  refine zw_get_ref (p := 132) (Or.inr rfl) rfl rfl (fun q8 => ?_)
  refine zw_iload_n (p := 133) (Or.inr rfl) rfl rfl rfl ?_
  refine zw_iconst (p := 134) (x := (5 : Int32)) (Or.inr rfl) rfl rfl rfl ?_
  refine zw_iadd (p := 135) (Or.inr rfl) rfl rfl ?_
  refine zw_iload_n (p := 136) (Or.inr rfl) rfl rfl rfl ?_
  refine zw_iadd (p := 137) (Or.inr rfl) rfl rfl ?_
  refine zw_iload_n (p := 138) (Or.inr rfl) rfl rfl rfl ?_
  refine zw_iastore (p := 139) (Or.inr rfl) rfl rfl (fun M11 => ?_)
  refine zw_aload_n (p := 140) (Or.inr rfl) rfl rfl rfl ?_
  refine zw_get_ref (p := 143) (Or.inr rfl) rfl rfl (fun q9 => ?_)
  refine zw_iload_n (p := 144) (Or.inr rfl) rfl rfl rfl ?_
  refine zw_iconst (p := 145) (x := (0 : Int32)) (Or.inr rfl) rfl rfl rfl ?_
  refine zw_iadd (p := 146) (Or.inr rfl) rfl rfl ?_
  refine zw_dup2_ir (p := 147) (Or.inr rfl) rfl rfl ?_
  refine zw_iaload (p := 148) (Or.inr rfl) rfl rfl ?_
  refine zw_iconst (p := 149) (x := (1 : Int32)) (Or.inr rfl) rfl rfl rfl ?_
  refine zw_iadd (p := 150) (Or.inr rfl) rfl rfl ?_
  refine zw_iastore (p := 151) (Or.inr rfl) rfl rfl (fun M12 => ?_)
  refine zw_iconst (p := 152) (x := (0 : Int32)) (Or.inr rfl) rfl rfl rfl ?_
  refine zw_istore (p := 154) (l2 := [some (.ref a0), some (.int x1), some (.int x2), some (.int x3), some (.int (0 : Int32))]) (Or.inr rfl) rfl rfl rfl rfl ?_
  exact zw_end rfl rfl
def zx_Mo_onePlace_154 (E : zE0) (K : zKt) (a0 : Nat) (x1 : Int32) (x3 : Int32) (x4 : Int32) (M : zM) : zO :=
  if (4 : Int32) ≤ x4 then (zif ((zK M a0).1 = 11)
    (zoR (zR M a0 1) fun q1 =>
    zif (((zK M q1).1 = 20 ∨ (zK M q1).1 = 24) ∧ zin (x1 + (1 : Int32)) (zK M q1).2 = true)
    (zif ((zK M a0).1 = 11)
    (if (zI M a0 39) ≠ 0 then (zbI (E n_Mo_flag [.int (0 : Int32)] M) fun u1 M1 =>
      zif ((zK M1 q1).1 = 20 ∧ zin (x1 + (1 : Int32)) (zK M1 q1).2 = true)
      (zbm (zsI M1 q1 (Int32.toNatClampNeg (x1 + (1 : Int32))) ((zI M q1 (Int32.toNatClampNeg (x1 + (1 : Int32)))) + u1)) fun M2 =>
      some (none, M2)))
    else zbI (E n_Mo_flag [.int (1 : Int32)] M) fun u2 M3 =>
    zif ((zK M3 q1).1 = 20 ∧ zin (x1 + (1 : Int32)) (zK M3 q1).2 = true)
    (zbm (zsI M3 q1 (Int32.toNatClampNeg (x1 + (1 : Int32))) ((zI M q1 (Int32.toNatClampNeg (x1 + (1 : Int32)))) + u2)) fun M4 =>
    some (none, M4))))))
  else zif ((zK M a0).1 = 11)
  (zoR (zR M a0 3) fun q2 =>
  zif ((zK M a0).1 = 11)
  (zif ((zK M a0).1 = 11)
  (zoR (zR M a0 26) fun q3 =>
  zif (((zK M q3).1 = 23 ∨ (zK M q3).1 = 25) ∧ zin x4 (zK M q3).2 = true)
  (zif ((zK M q2).1 = 23 ∧ zin (((((203 : Int32) * (zI M a0 38)) + (43 : Int32)) + ((4 : Int32) * x3)) + x4) (zK M q2).2 = true)
  (zbm (zsL M q2 (Int32.toNatClampNeg (((((203 : Int32) * (zI M a0 38)) + (43 : Int32)) + ((4 : Int32) * x3)) + x4)) (zL M q3 (Int32.toNatClampNeg x4))) fun M5 =>
  zbi (x4 + (1 : Int32)) fun u3 =>
  K 154 [some (.ref a0), some (.int x1), none, some (.int x3), some (.int u3)] [] M5)))))
set_option maxRecDepth 20000 in
theorem zg_Mo_onePlace_154 (d : Nat) (a0 : Nat) (x1 : Int32) (x3 : Int32) (x4 : Int32) (M : zM) : zG d n_Mo_onePlace 154 [some (.ref a0), some (.int x1), none, some (.int x3), some (.int x4)] [] M = zx_Mo_onePlace_154 (zV d) (zG d n_Mo_onePlace) a0 x1 x3 x4 M := by
  refine (zG_sg (m := zm_Mo_onePlace) rfl 400 _ _ _ M).trans ?_
  show zw true zm_Mo_onePlace (zV d) (zG d n_Mo_onePlace) 400 154 [some (.ref a0), some (.int x1), none, some (.int x3), some (.int x4)] [] M = _
  unfold zx_Mo_onePlace_154
  refine zw_iload (p := 156) (Or.inl rfl) rfl rfl rfl ?_
  refine zw_iconst (p := 157) (x := (4 : Int32)) (Or.inr rfl) rfl rfl rfl ?_
  refine zw_icmp_ge (t := 196) (p := 160) (Or.inr rfl) rfl rfl rfl ?_ ?_
  · refine zw_aload_n (p := 197) (Or.inr rfl) rfl rfl rfl ?_
    refine zw_get_ref (p := 200) (Or.inr rfl) rfl rfl (fun q1 => ?_)
    refine zw_iload_n (p := 201) (Or.inr rfl) rfl rfl rfl ?_
    refine zw_iconst (p := 202) (x := (1 : Int32)) (Or.inr rfl) rfl rfl rfl ?_
    refine zw_iadd (p := 203) (Or.inr rfl) rfl rfl ?_
    refine zw_dup2_ir (p := 204) (Or.inr rfl) rfl rfl ?_
    refine zw_iaload (p := 205) (Or.inr rfl) rfl rfl ?_
    refine zw_aload_n (p := 206) (Or.inr rfl) rfl rfl rfl ?_
    refine zw_get_int (p := 209) (Or.inr rfl) rfl rfl ?_
    refine zw_if_ne (t := 216) (p := 212) (Or.inr rfl) rfl rfl rfl ?_ ?_
    · refine zw_iconst (p := 217) (x := (0 : Int32)) (Or.inr rfl) rfl rfl rfl ?_
      refine zw_staticI (p := 220) (as := [.int (0 : Int32)]) (rest := [.int (zI M q1 (Int32.toNatClampNeg (x1 + (1 : Int32)))), .int (x1 + (1 : Int32)), .ref q1]) (Or.inr rfl) rfl rfl rfl rfl rfl rfl (fun u1 M1 => ?_)
      refine zw_iadd (p := 221) (Or.inr rfl) rfl rfl ?_
      refine zw_iastore (p := 222) (Or.inr rfl) rfl rfl (fun M2 => ?_)
      exact zw_return (Or.inr rfl) rfl rfl
    refine zw_iconst (p := 213) (x := (1 : Int32)) (Or.inr rfl) rfl rfl rfl ?_
    refine zw_goto (t := 217) (Or.inr rfl) rfl rfl ?_
    refine zw_staticI (p := 220) (as := [.int (1 : Int32)]) (rest := [.int (zI M q1 (Int32.toNatClampNeg (x1 + (1 : Int32)))), .int (x1 + (1 : Int32)), .ref q1]) (Or.inr rfl) rfl rfl rfl rfl rfl rfl (fun u2 M3 => ?_)
    refine zw_iadd (p := 221) (Or.inr rfl) rfl rfl ?_
    refine zw_iastore (p := 222) (Or.inr rfl) rfl rfl (fun M4 => ?_)
    exact zw_return (Or.inr rfl) rfl rfl
  refine zw_aload_n (p := 161) (Or.inr rfl) rfl rfl rfl ?_
  refine zw_get_ref (p := 164) (Or.inr rfl) rfl rfl (fun q2 => ?_)
  refine zw_sipush (p := 167) (x := (203 : Int32)) (Or.inr rfl) rfl rfl rfl ?_
  refine zw_aload_n (p := 168) (Or.inr rfl) rfl rfl rfl ?_
  refine zw_get_int (p := 171) (Or.inr rfl) rfl rfl ?_
  refine zw_imul (p := 172) (Or.inr rfl) rfl rfl ?_
  refine zw_bipush (p := 174) (x := (43 : Int32)) (Or.inr rfl) rfl rfl rfl ?_
  refine zw_iadd (p := 175) (Or.inr rfl) rfl rfl ?_
  refine zw_iconst (p := 176) (x := (4 : Int32)) (Or.inr rfl) rfl rfl rfl ?_
  refine zw_iload_n (p := 177) (Or.inr rfl) rfl rfl rfl ?_
  refine zw_imul (p := 178) (Or.inr rfl) rfl rfl ?_
  refine zw_iadd (p := 179) (Or.inr rfl) rfl rfl ?_
  refine zw_iload (p := 181) (Or.inr rfl) rfl rfl rfl ?_
  refine zw_iadd (p := 182) (Or.inr rfl) rfl rfl ?_
  refine zw_aload_n (p := 183) (Or.inr rfl) rfl rfl rfl ?_
  refine zw_get_ref (p := 186) (Or.inr rfl) rfl rfl (fun q3 => ?_)
  refine zw_iload (p := 188) (Or.inr rfl) rfl rfl rfl ?_
  refine zw_laload (p := 189) (Or.inr rfl) rfl rfl ?_
  refine zw_lastore (p := 190) (Or.inr rfl) rfl rfl (fun M5 => ?_)
  refine zw_iinc (p := 193) (c := (1 : Int32)) (L2 := fun u3 => [some (.ref a0), some (.int x1), none, some (.int x3), some (.int u3)]) (Or.inr rfl) rfl rfl rfl rfl (fun _ => rfl) rfl (fun u3 => ?_)
  refine zw_goto (t := 154) (Or.inr rfl) rfl rfl ?_
  exact zw_end rfl rfl
def zx_Mo_repeats (E : zE0) (K : zKt) (a0 : Nat) (x1 : Int32) (x2 : Int32) (M : zM) : zO :=
  zif ((zK M a0).1 = 11)
  (zoR (zR M a0 29) fun q1 =>
  zif (((zK M q1).1 = 20 ∨ (zK M q1).1 = 24) ∧ zin (0 : Int32) (zK M q1).2 = true)
  (zbi (zI M q1 (Int32.toNatClampNeg (0 : Int32))) fun u1 =>
  zif ((zK M a0).1 = 11)
  (zbI (E n_Mo_placesNow [.ref a0] M) fun u2 M1 =>
  zbi (u2 - u1) fun u3 =>
  zif ((zK M1 a0).1 = 11)
  (zoR (zR M1 a0 30) fun q2 =>
  zif (((zK M1 q2).1 = 23 ∨ (zK M1 q2).1 = 25) ∧ zin (0 : Int32) (zK M1 q2).2 = true)
  (zbl (zL M1 q2 (Int32.toNatClampNeg (0 : Int32))) fun w1 =>
  zif ((zK M1 a0).1 = 11)
  (zoR (zR M1 a0 31) fun q3 =>
  zif (((zK M1 q3).1 = 23 ∨ (zK M1 q3).1 = 25) ∧ zin (0 : Int32) (zK M1 q3).2 = true)
  (zbl (zL M1 q3 (Int32.toNatClampNeg (0 : Int32))) fun w2 =>
  zif ((zK M1 a0).1 = 11)
  (zoR (zR M1 a0 32) fun q4 =>
  zif (((zK M1 q4).1 = 21 ∨ (zK M1 q4).1 = 22) ∧ zin (0 : Int32) (zK M1 q4).2 = true)
  (zbi (zI M1 q4 (Int32.toNatClampNeg (0 : Int32))) fun u4 =>
  zif ((zK M1 a0).1 = 11)
  (if (zI M1 a0 39) ≠ 0 then (zif ((zK M1 a0).1 = 11 ∧ ((1 : Int32) = 0 ∨ (1 : Int32) = 1))
    (zbm (zsI M1 a0 39 (1 : Int32)) fun M2 =>
    zif ((zK M2 a0).1 = 11)
    (if (zI M2 a0 39) ≠ 0 then (zif ((zK M2 a0).1 = 11)
      (zoR (zR M2 a0 32) fun q5 =>
      if u4 ≠ 0 then (K 366 [some (.ref a0), some (.int x1), some (.int x2), none, none, none, none, none, none, none, none, none, none, none, none, none, none] [.int (1 : Int32), .int (0 : Int32), .ref q5] M2)
      else if x1 ≠ 0 then (K 366 [some (.ref a0), some (.int x1), some (.int x2), none, none, none, none, none, none, none, none, none, none, none, none, none, none] [.int (0 : Int32), .int (0 : Int32), .ref q5] M2)
      else K 366 [some (.ref a0), some (.int x1), some (.int x2), none, none, none, none, none, none, none, none, none, none, none, none, none, none] [.int (1 : Int32), .int (0 : Int32), .ref q5] M2))
    else K 77 [some (.ref a0), some (.int x1), some (.int x2), some (.int u1), some (.int u3), some (.long w1), none, some (.long w2), none, some (.int u4), some (.int u3), none, none, none, none, none, none] [] M2)))
  else if (u1 + (x2 * u3)) ≤ (40 : Int32) then (zif ((zK M1 a0).1 = 11 ∧ ((0 : Int32) = 0 ∨ (0 : Int32) = 1))
    (zbm (zsI M1 a0 39 (0 : Int32)) fun M3 =>
    zif ((zK M3 a0).1 = 11)
    (if (zI M3 a0 39) ≠ 0 then (zif ((zK M3 a0).1 = 11)
      (zoR (zR M3 a0 32) fun q6 =>
      if u4 ≠ 0 then (K 366 [some (.ref a0), some (.int x1), some (.int x2), none, none, none, none, none, none, none, none, none, none, none, none, none, none] [.int (1 : Int32), .int (0 : Int32), .ref q6] M3)
      else if x1 ≠ 0 then (K 366 [some (.ref a0), some (.int x1), some (.int x2), none, none, none, none, none, none, none, none, none, none, none, none, none, none] [.int (0 : Int32), .int (0 : Int32), .ref q6] M3)
      else K 366 [some (.ref a0), some (.int x1), some (.int x2), none, none, none, none, none, none, none, none, none, none, none, none, none, none] [.int (1 : Int32), .int (0 : Int32), .ref q6] M3))
    else K 77 [some (.ref a0), some (.int x1), some (.int x2), some (.int u1), some (.int u3), some (.long w1), none, some (.long w2), none, some (.int u4), some (.int u3), none, none, none, none, none, none] [] M3)))
  else zif ((zK M1 a0).1 = 11 ∧ ((1 : Int32) = 0 ∨ (1 : Int32) = 1))
  (zbm (zsI M1 a0 39 (1 : Int32)) fun M4 =>
  zif ((zK M4 a0).1 = 11)
  (if (zI M4 a0 39) ≠ 0 then (zif ((zK M4 a0).1 = 11)
    (zoR (zR M4 a0 32) fun q7 =>
    if u4 ≠ 0 then (K 366 [some (.ref a0), some (.int x1), some (.int x2), none, none, none, none, none, none, none, none, none, none, none, none, none, none] [.int (1 : Int32), .int (0 : Int32), .ref q7] M4)
    else if x1 ≠ 0 then (K 366 [some (.ref a0), some (.int x1), some (.int x2), none, none, none, none, none, none, none, none, none, none, none, none, none, none] [.int (0 : Int32), .int (0 : Int32), .ref q7] M4)
    else K 366 [some (.ref a0), some (.int x1), some (.int x2), none, none, none, none, none, none, none, none, none, none, none, none, none, none] [.int (1 : Int32), .int (0 : Int32), .ref q7] M4))
  else K 77 [some (.ref a0), some (.int x1), some (.int x2), some (.int u1), some (.int u3), some (.long w1), none, some (.long w2), none, some (.int u4), some (.int u3), none, none, none, none, none, none] [] M4))))))))))))
set_option maxRecDepth 20000 in
theorem ze_Mo_repeats (d : Nat) (a0 : Nat) (x1 : Int32) (x2 : Int32) (M : zM) : zV (d + 1) n_Mo_repeats [.ref a0, .int x1, .int x2] M = zx_Mo_repeats (zV d) (zG d n_Mo_repeats) a0 x1 x2 M := by
  refine (zE_sg (m := zm_Mo_repeats) rfl 400 _ rfl M).trans ?_
  show zw true zm_Mo_repeats (zV d) (zG d n_Mo_repeats) 400 0 [some (.ref a0), some (.int x1), some (.int x2), none, none, none, none, none, none, none, none, none, none, none, none, none, none] [] M = _
  unfold zx_Mo_repeats
  refine zw_aload_n (p := 1) (Or.inl rfl) rfl rfl rfl ?_
  refine zw_get_ref (p := 4) (Or.inr rfl) rfl rfl (fun q1 => ?_)
  refine zw_iconst (p := 5) (x := (0 : Int32)) (Or.inr rfl) rfl rfl rfl ?_
  refine zw_iaload (p := 6) (Or.inr rfl) rfl rfl ?_
  refine zw_istore_nN (p := 7) (L2 := fun u1 => [some (.ref a0), some (.int x1), some (.int x2), some (.int u1), none, none, none, none, none, none, none, none, none, none, none, none, none]) (Or.inr rfl) rfl rfl (fun _ => rfl) rfl (fun u1 => ?_)
  refine zw_aload_n (p := 8) (Or.inr rfl) rfl rfl rfl ?_
  refine zw_virtualI (p := 11) (as := [.ref a0]) (rest := []) (Or.inr rfl) rfl rfl rfl rfl rfl rfl rfl (fun u2 M1 => ?_)
  refine zw_iload_n (p := 12) (Or.inr rfl) rfl rfl rfl ?_
  refine zw_isub (p := 13) (Or.inr rfl) rfl rfl ?_
  refine zw_istoreN (p := 15) (L2 := fun u3 => [some (.ref a0), some (.int x1), some (.int x2), some (.int u1), some (.int u3), none, none, none, none, none, none, none, none, none, none, none, none]) (Or.inr rfl) rfl rfl (fun _ => rfl) rfl (fun u3 => ?_)
  refine zw_aload_n (p := 16) (Or.inr rfl) rfl rfl rfl ?_
  refine zw_get_ref (p := 19) (Or.inr rfl) rfl rfl (fun q2 => ?_)
  refine zw_iconst (p := 20) (x := (0 : Int32)) (Or.inr rfl) rfl rfl rfl ?_
  refine zw_laload (p := 21) (Or.inr rfl) rfl rfl ?_
  refine zw_lstoreN (p := 23) (L2 := fun w1 => [some (.ref a0), some (.int x1), some (.int x2), some (.int u1), some (.int u3), some (.long w1), none, none, none, none, none, none, none, none, none, none, none]) (Or.inr rfl) rfl rfl (fun _ => rfl) rfl (fun w1 => ?_)
  refine zw_aload_n (p := 24) (Or.inr rfl) rfl rfl rfl ?_
  refine zw_get_ref (p := 27) (Or.inr rfl) rfl rfl (fun q3 => ?_)
  refine zw_iconst (p := 28) (x := (0 : Int32)) (Or.inr rfl) rfl rfl rfl ?_
  refine zw_laload (p := 29) (Or.inr rfl) rfl rfl ?_
  refine zw_lstoreN (p := 31) (L2 := fun w2 => [some (.ref a0), some (.int x1), some (.int x2), some (.int u1), some (.int u3), some (.long w1), none, some (.long w2), none, none, none, none, none, none, none, none, none]) (Or.inr rfl) rfl rfl (fun _ => rfl) rfl (fun w2 => ?_)
  refine zw_aload_n (p := 32) (Or.inr rfl) rfl rfl rfl ?_
  refine zw_get_ref (p := 35) (Or.inr rfl) rfl rfl (fun q4 => ?_)
  refine zw_iconst (p := 36) (x := (0 : Int32)) (Or.inr rfl) rfl rfl rfl ?_
  refine zw_baload (p := 37) (Or.inr rfl) rfl rfl ?_
  refine zw_istoreN (p := 39) (L2 := fun u4 => [some (.ref a0), some (.int x1), some (.int x2), some (.int u1), some (.int u3), some (.long w1), none, some (.long w2), none, some (.int u4), none, none, none, none, none, none, none]) (Or.inr rfl) rfl rfl (fun _ => rfl) rfl (fun u4 => ?_)
  refine zw_aload_n (p := 40) (Or.inr rfl) rfl rfl rfl ?_
  refine zw_aload_n (p := 41) (Or.inr rfl) rfl rfl rfl ?_
  refine zw_get_int (p := 44) (Or.inr rfl) rfl rfl ?_
  refine zw_if_ne (t := 58) (p := 47) (Or.inr rfl) rfl rfl rfl ?_ ?_
  · refine zw_iconst (p := 59) (x := (1 : Int32)) (Or.inr rfl) rfl rfl rfl ?_
    refine zw_goto (t := 63) (Or.inr rfl) rfl rfl ?_
    refine zw_put_boo (p := 66) (Or.inr rfl) rfl rfl (fun M2 => ?_)
    refine zw_aload_n (p := 67) (Or.inr rfl) rfl rfl rfl ?_
    refine zw_get_int (p := 70) (Or.inr rfl) rfl rfl ?_
    refine zw_if_ne (t := 347) (p := 73) (Or.inr rfl) rfl rfl rfl ?_ ?_
    · refine zw_aload_n (p := 348) (Or.inr rfl) rfl rfl rfl ?_
      refine zw_get_ref (p := 351) (Or.inr rfl) rfl rfl (fun q5 => ?_)
      refine zw_iconst (p := 352) (x := (0 : Int32)) (Or.inr rfl) rfl rfl rfl ?_
      refine zw_iload (p := 354) (Or.inr rfl) rfl rfl rfl ?_
      refine zw_if_ne (t := 361) (p := 357) (Or.inr rfl) rfl rfl rfl ?_ ?_
      · refine zw_iconst (p := 362) (x := (1 : Int32)) (Or.inr rfl) rfl rfl rfl ?_
        refine zw_goto (t := 366) (Or.inr rfl) rfl rfl ?_
        exact zw_end rfl rfl
      refine zw_iload_n (p := 358) (Or.inr rfl) rfl rfl rfl ?_
      refine zw_if_ne (t := 365) (p := 361) (Or.inr rfl) rfl rfl rfl ?_ ?_
      · refine zw_iconst (p := 366) (x := (0 : Int32)) (Or.inr rfl) rfl rfl rfl ?_
        exact zw_end rfl rfl
      refine zw_iconst (p := 362) (x := (1 : Int32)) (Or.inr rfl) rfl rfl rfl ?_
      refine zw_goto (t := 366) (Or.inr rfl) rfl rfl ?_
      exact zw_end rfl rfl
    refine zw_iload (p := 75) (Or.inr rfl) rfl rfl rfl ?_
    refine zw_istore (p := 77) (l2 := [some (.ref a0), some (.int x1), some (.int x2), some (.int u1), some (.int u3), some (.long w1), none, some (.long w2), none, some (.int u4), some (.int u3), none, none, none, none, none, none]) (Or.inr rfl) rfl rfl rfl rfl ?_
    exact zw_end rfl rfl
  refine zw_iload_n (p := 48) (Or.inr rfl) rfl rfl rfl ?_
  refine zw_iload_n (p := 49) (Or.inr rfl) rfl rfl rfl ?_
  refine zw_iload (p := 51) (Or.inr rfl) rfl rfl rfl ?_
  refine zw_imul (p := 52) (Or.inr rfl) rfl rfl ?_
  refine zw_iadd (p := 53) (Or.inr rfl) rfl rfl ?_
  refine zw_bipush (p := 55) (x := (40 : Int32)) (Or.inr rfl) rfl rfl rfl ?_
  refine zw_icmp_le (t := 62) (p := 58) (Or.inr rfl) rfl rfl rfl ?_ ?_
  · refine zw_iconst (p := 63) (x := (0 : Int32)) (Or.inr rfl) rfl rfl rfl ?_
    refine zw_put_boo (p := 66) (Or.inr rfl) rfl rfl (fun M3 => ?_)
    refine zw_aload_n (p := 67) (Or.inr rfl) rfl rfl rfl ?_
    refine zw_get_int (p := 70) (Or.inr rfl) rfl rfl ?_
    refine zw_if_ne (t := 347) (p := 73) (Or.inr rfl) rfl rfl rfl ?_ ?_
    · refine zw_aload_n (p := 348) (Or.inr rfl) rfl rfl rfl ?_
      refine zw_get_ref (p := 351) (Or.inr rfl) rfl rfl (fun q6 => ?_)
      refine zw_iconst (p := 352) (x := (0 : Int32)) (Or.inr rfl) rfl rfl rfl ?_
      refine zw_iload (p := 354) (Or.inr rfl) rfl rfl rfl ?_
      refine zw_if_ne (t := 361) (p := 357) (Or.inr rfl) rfl rfl rfl ?_ ?_
      · refine zw_iconst (p := 362) (x := (1 : Int32)) (Or.inr rfl) rfl rfl rfl ?_
        refine zw_goto (t := 366) (Or.inr rfl) rfl rfl ?_
        exact zw_end rfl rfl
      refine zw_iload_n (p := 358) (Or.inr rfl) rfl rfl rfl ?_
      refine zw_if_ne (t := 365) (p := 361) (Or.inr rfl) rfl rfl rfl ?_ ?_
      · refine zw_iconst (p := 366) (x := (0 : Int32)) (Or.inr rfl) rfl rfl rfl ?_
        exact zw_end rfl rfl
      refine zw_iconst (p := 362) (x := (1 : Int32)) (Or.inr rfl) rfl rfl rfl ?_
      refine zw_goto (t := 366) (Or.inr rfl) rfl rfl ?_
      exact zw_end rfl rfl
    refine zw_iload (p := 75) (Or.inr rfl) rfl rfl rfl ?_
    refine zw_istore (p := 77) (l2 := [some (.ref a0), some (.int x1), some (.int x2), some (.int u1), some (.int u3), some (.long w1), none, some (.long w2), none, some (.int u4), some (.int u3), none, none, none, none, none, none]) (Or.inr rfl) rfl rfl rfl rfl ?_
    exact zw_end rfl rfl
  refine zw_iconst (p := 59) (x := (1 : Int32)) (Or.inr rfl) rfl rfl rfl ?_
  refine zw_goto (t := 63) (Or.inr rfl) rfl rfl ?_
  refine zw_put_boo (p := 66) (Or.inr rfl) rfl rfl (fun M4 => ?_)
  refine zw_aload_n (p := 67) (Or.inr rfl) rfl rfl rfl ?_
  refine zw_get_int (p := 70) (Or.inr rfl) rfl rfl ?_
  refine zw_if_ne (t := 347) (p := 73) (Or.inr rfl) rfl rfl rfl ?_ ?_
  · refine zw_aload_n (p := 348) (Or.inr rfl) rfl rfl rfl ?_
    refine zw_get_ref (p := 351) (Or.inr rfl) rfl rfl (fun q7 => ?_)
    refine zw_iconst (p := 352) (x := (0 : Int32)) (Or.inr rfl) rfl rfl rfl ?_
    refine zw_iload (p := 354) (Or.inr rfl) rfl rfl rfl ?_
    refine zw_if_ne (t := 361) (p := 357) (Or.inr rfl) rfl rfl rfl ?_ ?_
    · refine zw_iconst (p := 362) (x := (1 : Int32)) (Or.inr rfl) rfl rfl rfl ?_
      refine zw_goto (t := 366) (Or.inr rfl) rfl rfl ?_
      exact zw_end rfl rfl
    refine zw_iload_n (p := 358) (Or.inr rfl) rfl rfl rfl ?_
    refine zw_if_ne (t := 365) (p := 361) (Or.inr rfl) rfl rfl rfl ?_ ?_
    · refine zw_iconst (p := 366) (x := (0 : Int32)) (Or.inr rfl) rfl rfl rfl ?_
      exact zw_end rfl rfl
    refine zw_iconst (p := 362) (x := (1 : Int32)) (Or.inr rfl) rfl rfl rfl ?_
    refine zw_goto (t := 366) (Or.inr rfl) rfl rfl ?_
    exact zw_end rfl rfl
  refine zw_iload (p := 75) (Or.inr rfl) rfl rfl rfl ?_
  refine zw_istore (p := 77) (l2 := [some (.ref a0), some (.int x1), some (.int x2), some (.int u1), some (.int u3), some (.long w1), none, some (.long w2), none, some (.int u4), some (.int u3), none, none, none, none, none, none]) (Or.inr rfl) rfl rfl rfl rfl ?_
  exact zw_end rfl rfl
def zx_Mo_repeats_366 (E : zE0) (K : zKt) (a0 : Nat) (x1 : Int32) (x2 : Int32) (s0 : Int32) (s1 : Int32) (s2 : Nat) (M : zM) : zO :=
  zbast M s2 s1 s0 fun M1 =>
  zif ((zK M1 a0).1 = 11)
  (zoR (zR M1 a0 33) fun q1 =>
  zif ((zK M1 a0).1 = 11)
  (zoR (zR M1 a0 33) fun q2 =>
  zif (((zK M1 q2).1 = 20 ∨ (zK M1 q2).1 = 24) ∧ zin (0 : Int32) (zK M1 q2).2 = true)
  (zbI (E n_Mo_least [.int (x2 * (zI M1 q2 (Int32.toNatClampNeg (0 : Int32)))), .int (1000000 : Int32)] M1) fun u1 M2 =>
  zif ((zK M2 q1).1 = 20 ∧ zin (0 : Int32) (zK M2 q1).2 = true)
  (zbm (zsI M2 q1 (Int32.toNatClampNeg (0 : Int32)) u1) fun M3 =>
  zif ((zK M3 a0).1 = 11)
  (zoR (zR M3 a0 34) fun q3 =>
  zif ((zK M3 a0).1 = 11)
  (zoR (zR M3 a0 34) fun q4 =>
  zif (((zK M3 q4).1 = 20 ∨ (zK M3 q4).1 = 24) ∧ zin (0 : Int32) (zK M3 q4).2 = true)
  (zbI (E n_Mo_least [.int (x1 * (zI M3 q4 (Int32.toNatClampNeg (0 : Int32)))), .int (1000000 : Int32)] M3) fun u2 M4 =>
  zif ((zK M4 q3).1 = 20 ∧ zin (0 : Int32) (zK M4 q3).2 = true)
  (zbm (zsI M4 q3 (Int32.toNatClampNeg (0 : Int32)) u2) fun M5 =>
  zif ((zK M5 a0).1 = 11)
  (zoR (zR M5 a0 35) fun q5 =>
  zif ((zK M5 a0).1 = 11)
  (zoR (zR M5 a0 35) fun q6 =>
  zif (((zK M5 q6).1 = 20 ∨ (zK M5 q6).1 = 24) ∧ zin (0 : Int32) (zK M5 q6).2 = true)
  (zbI (E n_Mo_least [.int (x2 * (zI M5 q6 (Int32.toNatClampNeg (0 : Int32)))), .int (1000000 : Int32)] M5) fun u3 M6 =>
  zif ((zK M6 q5).1 = 20 ∧ zin (0 : Int32) (zK M6 q5).2 = true)
  (zbm (zsI M6 q5 (Int32.toNatClampNeg (0 : Int32)) u3) fun M7 =>
  some (none, M7)))))))))))))
set_option maxRecDepth 20000 in
theorem zg_Mo_repeats_366 (d : Nat) (a0 : Nat) (x1 : Int32) (x2 : Int32) (s0 : Int32) (s1 : Int32) (s2 : Nat) (M : zM) : zG d n_Mo_repeats 366 [some (.ref a0), some (.int x1), some (.int x2), none, none, none, none, none, none, none, none, none, none, none, none, none, none] [.int s0, .int s1, .ref s2] M = zx_Mo_repeats_366 (zV d) (zG d n_Mo_repeats) a0 x1 x2 s0 s1 s2 M := by
  refine (zG_sg (m := zm_Mo_repeats) rfl 400 _ _ _ M).trans ?_
  show zw true zm_Mo_repeats (zV d) (zG d n_Mo_repeats) 400 366 [some (.ref a0), some (.int x1), some (.int x2), none, none, none, none, none, none, none, none, none, none, none, none, none, none] [.int s0, .int s1, .ref s2] M = _
  unfold zx_Mo_repeats_366
  refine zw_bastore (p := 367) (Or.inl rfl) rfl rfl (fun M1 => ?_)
  refine zw_aload_n (p := 368) (Or.inr rfl) rfl rfl rfl ?_
  refine zw_get_ref (p := 371) (Or.inr rfl) rfl rfl (fun q1 => ?_)
  refine zw_iconst (p := 372) (x := (0 : Int32)) (Or.inr rfl) rfl rfl rfl ?_
  refine zw_iload_n (p := 373) (Or.inr rfl) rfl rfl rfl ?_
  refine zw_aload_n (p := 374) (Or.inr rfl) rfl rfl rfl ?_
  refine zw_get_ref (p := 377) (Or.inr rfl) rfl rfl (fun q2 => ?_)
  refine zw_iconst (p := 378) (x := (0 : Int32)) (Or.inr rfl) rfl rfl rfl ?_
  refine zw_iaload (p := 379) (Or.inr rfl) rfl rfl ?_
  refine zw_imul (p := 380) (Or.inr rfl) rfl rfl ?_
  refine zw_ldc (p := 382) (x := (1000000 : Int32)) (Or.inr rfl) rfl rfl rfl ?_
  refine zw_staticI (p := 385) (as := [.int (x2 * (zI M1 q2 (Int32.toNatClampNeg (0 : Int32)))), .int (1000000 : Int32)]) (rest := [.int (0 : Int32), .ref q1]) (Or.inr rfl) rfl rfl rfl rfl rfl rfl (fun u1 M2 => ?_)
  refine zw_iastore (p := 386) (Or.inr rfl) rfl rfl (fun M3 => ?_)
  refine zw_aload_n (p := 387) (Or.inr rfl) rfl rfl rfl ?_
  refine zw_get_ref (p := 390) (Or.inr rfl) rfl rfl (fun q3 => ?_)
  refine zw_iconst (p := 391) (x := (0 : Int32)) (Or.inr rfl) rfl rfl rfl ?_
  refine zw_iload_n (p := 392) (Or.inr rfl) rfl rfl rfl ?_
  refine zw_aload_n (p := 393) (Or.inr rfl) rfl rfl rfl ?_
  refine zw_get_ref (p := 396) (Or.inr rfl) rfl rfl (fun q4 => ?_)
  refine zw_iconst (p := 397) (x := (0 : Int32)) (Or.inr rfl) rfl rfl rfl ?_
  refine zw_iaload (p := 398) (Or.inr rfl) rfl rfl ?_
  refine zw_imul (p := 399) (Or.inr rfl) rfl rfl ?_
  refine zw_ldc (p := 401) (x := (1000000 : Int32)) (Or.inr rfl) rfl rfl rfl ?_
  refine zw_staticI (p := 404) (as := [.int (x1 * (zI M3 q4 (Int32.toNatClampNeg (0 : Int32)))), .int (1000000 : Int32)]) (rest := [.int (0 : Int32), .ref q3]) (Or.inr rfl) rfl rfl rfl rfl rfl rfl (fun u2 M4 => ?_)
  refine zw_iastore (p := 405) (Or.inr rfl) rfl rfl (fun M5 => ?_)
  refine zw_aload_n (p := 406) (Or.inr rfl) rfl rfl rfl ?_
  refine zw_get_ref (p := 409) (Or.inr rfl) rfl rfl (fun q5 => ?_)
  refine zw_iconst (p := 410) (x := (0 : Int32)) (Or.inr rfl) rfl rfl rfl ?_
  refine zw_iload_n (p := 411) (Or.inr rfl) rfl rfl rfl ?_
  refine zw_aload_n (p := 412) (Or.inr rfl) rfl rfl rfl ?_
  refine zw_get_ref (p := 415) (Or.inr rfl) rfl rfl (fun q6 => ?_)
  refine zw_iconst (p := 416) (x := (0 : Int32)) (Or.inr rfl) rfl rfl rfl ?_
  refine zw_iaload (p := 417) (Or.inr rfl) rfl rfl ?_
  refine zw_imul (p := 418) (Or.inr rfl) rfl rfl ?_
  refine zw_ldc (p := 420) (x := (1000000 : Int32)) (Or.inr rfl) rfl rfl rfl ?_
  refine zw_staticI (p := 423) (as := [.int (x2 * (zI M5 q6 (Int32.toNatClampNeg (0 : Int32)))), .int (1000000 : Int32)]) (rest := [.int (0 : Int32), .ref q5]) (Or.inr rfl) rfl rfl rfl rfl rfl rfl (fun u3 M6 => ?_)
  refine zw_iastore (p := 424) (Or.inr rfl) rfl rfl (fun M7 => ?_)
  exact zw_return (Or.inr rfl) rfl rfl
def zx_Mo_repeats_77 (E : zE0) (K : zKt) (a0 : Nat) (x1 : Int32) (x2 : Int32) (x3 : Int32) (x4 : Int32) (l5 : Int64) (l7 : Int64) (x9 : Int32) (x10 : Int32) (M : zM) : zO :=
  if (x2 * x4) ≤ x10 then (zif ((zK M a0).1 = 11)
    (zoR (zR M a0 1) fun q1 =>
    zif ((zK M a0).1 = 11)
    (zif ((zK M q1).1 = 20 ∧ zin (((45 : Int32) * (zI M a0 38)) + (0 : Int32)) (zK M q1).2 = true)
    (zbm (zsI M q1 (Int32.toNatClampNeg (((45 : Int32) * (zI M a0 38)) + (0 : Int32))) (x3 + (x2 * x4))) fun M1 =>
    if x9 ≠ 0 then (K 226 [some (.ref a0), some (.int x1), some (.int x2), none, some (.int x4), some (.long l5), none, some (.long l7), none, some (.int x9), some (.long l5), none, some (.long l7), none, some (.int (1 : Int32)), some (.int (1 : Int32)), none] [] M1)
    else if x1 ≠ 0 then (K 226 [some (.ref a0), some (.int x1), some (.int x2), none, some (.int x4), some (.long l5), none, some (.long l7), none, some (.int x9), some (.long l5), none, some (.long l7), none, some (.int (0 : Int32)), some (.int (1 : Int32)), none] [] M1)
    else K 226 [some (.ref a0), some (.int x1), some (.int x2), none, some (.int x4), some (.long l5), none, some (.long l7), none, some (.int x9), some (.long l5), none, some (.long l7), none, some (.int (1 : Int32)), some (.int (1 : Int32)), none] [] M1))))
  else zif ((zK M a0).1 = 11)
  (zbi ((((203 : Int32) * (zI M a0 38)) + (3 : Int32)) + x3) fun u1 =>
  zif ((zK M a0).1 = 11)
  (zoR (zR M a0 3) fun q2 =>
  zif ((zK M a0).1 = 11)
  (zoR (zR M a0 3) fun q3 =>
  zif (¬ x4 = 0) (zif (((zK M q3).1 = 23 ∨ (zK M q3).1 = 25) ∧ zin (u1 + (x10 - x10 / x4 * x4)) (zK M q3).2 = true)
  (zif (¬ x4 = 0) (zif ((zK M q2).1 = 23 ∧ zin (u1 + x10) (zK M q2).2 = true)
  (zbm (zsL M q2 (Int32.toNatClampNeg (u1 + x10)) ((zL M q3 (Int32.toNatClampNeg (u1 + (x10 - x10 / x4 * x4)))) <<< (Int32.toInt64 ((x10 / x4) * x4) &&& 63))) fun M2 =>
  zif ((zK M2 a0).1 = 11)
  (zoR (zR M2 a0 1) fun q4 =>
  zif ((zK M2 a0).1 = 11)
  (zif ((zK M2 a0).1 = 11)
  (zoR (zR M2 a0 1) fun q5 =>
  zif ((zK M2 a0).1 = 11)
  (zif (¬ x4 = 0) (zif (((zK M2 q5).1 = 20 ∨ (zK M2 q5).1 = 24) ∧ zin (((((45 : Int32) * (zI M2 a0 38)) + (5 : Int32)) + x3) + (x10 - x10 / x4 * x4)) (zK M2 q5).2 = true)
  (zif ((zK M2 q4).1 = 20 ∧ zin (((((45 : Int32) * (zI M2 a0 38)) + (5 : Int32)) + x3) + x10) (zK M2 q4).2 = true)
  (zbm (zsI M2 q4 (Int32.toNatClampNeg (((((45 : Int32) * (zI M2 a0 38)) + (5 : Int32)) + x3) + x10)) (zI M2 q5 (Int32.toNatClampNeg (((((45 : Int32) * (zI M2 a0 38)) + (5 : Int32)) + x3) + (x10 - x10 / x4 * x4))))) fun M3 =>
  zbi (x10 + (1 : Int32)) fun u2 =>
  K 77 [some (.ref a0), some (.int x1), some (.int x2), some (.int x3), some (.int x4), some (.long l5), none, some (.long l7), none, some (.int x9), some (.int u2), none, none, none, none, none, none] [] M3))))))))))))))
set_option maxRecDepth 20000 in
theorem zg_Mo_repeats_77 (d : Nat) (a0 : Nat) (x1 : Int32) (x2 : Int32) (x3 : Int32) (x4 : Int32) (l5 : Int64) (l7 : Int64) (x9 : Int32) (x10 : Int32) (M : zM) : zG d n_Mo_repeats 77 [some (.ref a0), some (.int x1), some (.int x2), some (.int x3), some (.int x4), some (.long l5), none, some (.long l7), none, some (.int x9), some (.int x10), none, none, none, none, none, none] [] M = zx_Mo_repeats_77 (zV d) (zG d n_Mo_repeats) a0 x1 x2 x3 x4 l5 l7 x9 x10 M := by
  refine (zG_sg (m := zm_Mo_repeats) rfl 400 _ _ _ M).trans ?_
  show zw true zm_Mo_repeats (zV d) (zG d n_Mo_repeats) 400 77 [some (.ref a0), some (.int x1), some (.int x2), some (.int x3), some (.int x4), some (.long l5), none, some (.long l7), none, some (.int x9), some (.int x10), none, none, none, none, none, none] [] M = _
  unfold zx_Mo_repeats_77
  refine zw_iload (p := 79) (Or.inl rfl) rfl rfl rfl ?_
  refine zw_iload_n (p := 80) (Or.inr rfl) rfl rfl rfl ?_
  refine zw_iload (p := 82) (Or.inr rfl) rfl rfl rfl ?_
  refine zw_imul (p := 83) (Or.inr rfl) rfl rfl ?_
  refine zw_icmp_ge (t := 179) (p := 86) (Or.inr rfl) rfl rfl rfl ?_ ?_
  · refine zw_aload_n (p := 180) (Or.inr rfl) rfl rfl rfl ?_
    refine zw_get_ref (p := 183) (Or.inr rfl) rfl rfl (fun q1 => ?_)
    refine zw_bipush (p := 185) (x := (45 : Int32)) (Or.inr rfl) rfl rfl rfl ?_
    refine zw_aload_n (p := 186) (Or.inr rfl) rfl rfl rfl ?_
    refine zw_get_int (p := 189) (Or.inr rfl) rfl rfl ?_
    refine zw_imul (p := 190) (Or.inr rfl) rfl rfl ?_
    refine zw_iconst (p := 191) (x := (0 : Int32)) (Or.inr rfl) rfl rfl rfl ?_
    refine zw_iadd (p := 192) (Or.inr rfl) rfl rfl ?_
    refine zw_iload_n (p := 193) (Or.inr rfl) rfl rfl rfl ?_
    refine zw_iload_n (p := 194) (Or.inr rfl) rfl rfl rfl ?_
    refine zw_iload (p := 196) (Or.inr rfl) rfl rfl rfl ?_
    refine zw_imul (p := 197) (Or.inr rfl) rfl rfl ?_
    refine zw_iadd (p := 198) (Or.inr rfl) rfl rfl ?_
    refine zw_iastore (p := 199) (Or.inr rfl) rfl rfl (fun M1 => ?_)
    refine zw_lload (p := 201) (Or.inr rfl) rfl rfl rfl ?_
    refine zw_lstore (p := 203) (l2 := [some (.ref a0), some (.int x1), some (.int x2), some (.int x3), some (.int x4), some (.long l5), none, some (.long l7), none, some (.int x9), some (.long l5), none, none, none, none, none, none]) (Or.inr rfl) rfl rfl rfl rfl ?_
    refine zw_lload (p := 205) (Or.inr rfl) rfl rfl rfl ?_
    refine zw_lstore (p := 207) (l2 := [some (.ref a0), some (.int x1), some (.int x2), some (.int x3), some (.int x4), some (.long l5), none, some (.long l7), none, some (.int x9), some (.long l5), none, some (.long l7), none, none, none, none]) (Or.inr rfl) rfl rfl rfl rfl ?_
    refine zw_iload (p := 209) (Or.inr rfl) rfl rfl rfl ?_
    refine zw_if_ne (t := 216) (p := 212) (Or.inr rfl) rfl rfl rfl ?_ ?_
    · refine zw_iconst (p := 217) (x := (1 : Int32)) (Or.inr rfl) rfl rfl rfl ?_
      refine zw_goto (t := 221) (Or.inr rfl) rfl rfl ?_
      refine zw_istore (p := 223) (l2 := [some (.ref a0), some (.int x1), some (.int x2), some (.int x3), some (.int x4), some (.long l5), none, some (.long l7), none, some (.int x9), some (.long l5), none, some (.long l7), none, some (.int (1 : Int32)), none, none]) (Or.inr rfl) rfl rfl rfl rfl ?_
      refine zw_iconst (p := 224) (x := (1 : Int32)) (Or.inr rfl) rfl rfl rfl ?_
      refine zw_istore (p := 226) (l2 := [some (.ref a0), some (.int x1), some (.int x2), some (.int x3), some (.int x4), some (.long l5), none, some (.long l7), none, some (.int x9), some (.long l5), none, some (.long l7), none, some (.int (1 : Int32)), some (.int (1 : Int32)), none]) (Or.inr rfl) rfl rfl rfl rfl ?_
      exact zw_end rfl rfl
    refine zw_iload_n (p := 213) (Or.inr rfl) rfl rfl rfl ?_
    refine zw_if_ne (t := 220) (p := 216) (Or.inr rfl) rfl rfl rfl ?_ ?_
    · refine zw_iconst (p := 221) (x := (0 : Int32)) (Or.inr rfl) rfl rfl rfl ?_
      refine zw_istore (p := 223) (l2 := [some (.ref a0), some (.int x1), some (.int x2), some (.int x3), some (.int x4), some (.long l5), none, some (.long l7), none, some (.int x9), some (.long l5), none, some (.long l7), none, some (.int (0 : Int32)), none, none]) (Or.inr rfl) rfl rfl rfl rfl ?_
      refine zw_iconst (p := 224) (x := (1 : Int32)) (Or.inr rfl) rfl rfl rfl ?_
      refine zw_istore (p := 226) (l2 := [some (.ref a0), some (.int x1), some (.int x2), some (.int x3), some (.int x4), some (.long l5), none, some (.long l7), none, some (.int x9), some (.long l5), none, some (.long l7), none, some (.int (0 : Int32)), some (.int (1 : Int32)), none]) (Or.inr rfl) rfl rfl rfl rfl ?_
      exact zw_end rfl rfl
    refine zw_iconst (p := 217) (x := (1 : Int32)) (Or.inr rfl) rfl rfl rfl ?_
    refine zw_goto (t := 221) (Or.inr rfl) rfl rfl ?_
    refine zw_istore (p := 223) (l2 := [some (.ref a0), some (.int x1), some (.int x2), some (.int x3), some (.int x4), some (.long l5), none, some (.long l7), none, some (.int x9), some (.long l5), none, some (.long l7), none, some (.int (1 : Int32)), none, none]) (Or.inr rfl) rfl rfl rfl rfl ?_
    refine zw_iconst (p := 224) (x := (1 : Int32)) (Or.inr rfl) rfl rfl rfl ?_
    refine zw_istore (p := 226) (l2 := [some (.ref a0), some (.int x1), some (.int x2), some (.int x3), some (.int x4), some (.long l5), none, some (.long l7), none, some (.int x9), some (.long l5), none, some (.long l7), none, some (.int (1 : Int32)), some (.int (1 : Int32)), none]) (Or.inr rfl) rfl rfl rfl rfl ?_
    exact zw_end rfl rfl
  refine zw_sipush (p := 89) (x := (203 : Int32)) (Or.inr rfl) rfl rfl rfl ?_
  refine zw_aload_n (p := 90) (Or.inr rfl) rfl rfl rfl ?_
  refine zw_get_int (p := 93) (Or.inr rfl) rfl rfl ?_
  refine zw_imul (p := 94) (Or.inr rfl) rfl rfl ?_
  refine zw_iconst (p := 95) (x := (3 : Int32)) (Or.inr rfl) rfl rfl rfl ?_
  refine zw_iadd (p := 96) (Or.inr rfl) rfl rfl ?_
  refine zw_iload_n (p := 97) (Or.inr rfl) rfl rfl rfl ?_
  refine zw_iadd (p := 98) (Or.inr rfl) rfl rfl ?_
  refine zw_istoreN (p := 100) (L2 := fun u1 => [some (.ref a0), some (.int x1), some (.int x2), some (.int x3), some (.int x4), some (.long l5), none, some (.long l7), none, some (.int x9), some (.int x10), some (.int u1), none, none, none, none, none]) (Or.inr rfl) rfl rfl (fun _ => rfl) rfl (fun u1 => ?_)
  refine zw_aload_n (p := 101) (Or.inr rfl) rfl rfl rfl ?_
  refine zw_get_ref (p := 104) (Or.inr rfl) rfl rfl (fun q2 => ?_)
  refine zw_iload (p := 106) (Or.inr rfl) rfl rfl rfl ?_
  refine zw_iload (p := 108) (Or.inr rfl) rfl rfl rfl ?_
  refine zw_iadd (p := 109) (Or.inr rfl) rfl rfl ?_
  refine zw_aload_n (p := 110) (Or.inr rfl) rfl rfl rfl ?_
  refine zw_get_ref (p := 113) (Or.inr rfl) rfl rfl (fun q3 => ?_)
  refine zw_iload (p := 115) (Or.inr rfl) rfl rfl rfl ?_
  refine zw_iload (p := 117) (Or.inr rfl) rfl rfl rfl ?_
  refine zw_iload (p := 119) (Or.inr rfl) rfl rfl rfl ?_
  refine zw_irem (p := 120) (Or.inr rfl) rfl rfl ?_
  refine zw_iadd (p := 121) (Or.inr rfl) rfl rfl ?_
  refine zw_laload (p := 122) (Or.inr rfl) rfl rfl ?_
  refine zw_iload (p := 124) (Or.inr rfl) rfl rfl rfl ?_
  refine zw_iload (p := 126) (Or.inr rfl) rfl rfl rfl ?_
  refine zw_idiv (p := 127) (Or.inr rfl) rfl rfl ?_
  refine zw_iload (p := 129) (Or.inr rfl) rfl rfl rfl ?_
  refine zw_imul (p := 130) (Or.inr rfl) rfl rfl ?_
  refine zw_lshl (p := 131) (Or.inr rfl) rfl rfl ?_
  refine zw_lastore (p := 132) (Or.inr rfl) rfl rfl (fun M2 => ?_)
  refine zw_aload_n (p := 133) (Or.inr rfl) rfl rfl rfl ?_
  refine zw_get_ref (p := 136) (Or.inr rfl) rfl rfl (fun q4 => ?_)
  refine zw_bipush (p := 138) (x := (45 : Int32)) (Or.inr rfl) rfl rfl rfl ?_
  refine zw_aload_n (p := 139) (Or.inr rfl) rfl rfl rfl ?_
  refine zw_get_int (p := 142) (Or.inr rfl) rfl rfl ?_
  refine zw_imul (p := 143) (Or.inr rfl) rfl rfl ?_
  refine zw_iconst (p := 144) (x := (5 : Int32)) (Or.inr rfl) rfl rfl rfl ?_
  refine zw_iadd (p := 145) (Or.inr rfl) rfl rfl ?_
  refine zw_iload_n (p := 146) (Or.inr rfl) rfl rfl rfl ?_
  refine zw_iadd (p := 147) (Or.inr rfl) rfl rfl ?_
  refine zw_iload (p := 149) (Or.inr rfl) rfl rfl rfl ?_
  refine zw_iadd (p := 150) (Or.inr rfl) rfl rfl ?_
  refine zw_aload_n (p := 151) (Or.inr rfl) rfl rfl rfl ?_
  refine zw_get_ref (p := 154) (Or.inr rfl) rfl rfl (fun q5 => ?_)
  refine zw_bipush (p := 156) (x := (45 : Int32)) (Or.inr rfl) rfl rfl rfl ?_
  refine zw_aload_n (p := 157) (Or.inr rfl) rfl rfl rfl ?_
  refine zw_get_int (p := 160) (Or.inr rfl) rfl rfl ?_
  refine zw_imul (p := 161) (Or.inr rfl) rfl rfl ?_
  refine zw_iconst (p := 162) (x := (5 : Int32)) (Or.inr rfl) rfl rfl rfl ?_
  refine zw_iadd (p := 163) (Or.inr rfl) rfl rfl ?_
  refine zw_iload_n (p := 164) (Or.inr rfl) rfl rfl rfl ?_
  refine zw_iadd (p := 165) (Or.inr rfl) rfl rfl ?_
  refine zw_iload (p := 167) (Or.inr rfl) rfl rfl rfl ?_
  refine zw_iload (p := 169) (Or.inr rfl) rfl rfl rfl ?_
  refine zw_irem (p := 170) (Or.inr rfl) rfl rfl ?_
  refine zw_iadd (p := 171) (Or.inr rfl) rfl rfl ?_
  refine zw_iaload (p := 172) (Or.inr rfl) rfl rfl ?_
  refine zw_iastore (p := 173) (Or.inr rfl) rfl rfl (fun M3 => ?_)
  refine zw_iinc (p := 176) (c := (1 : Int32)) (L2 := fun u2 => [some (.ref a0), some (.int x1), some (.int x2), some (.int x3), some (.int x4), some (.long l5), none, some (.long l7), none, some (.int x9), some (.int u2), some (.int u1), none, none, none, none, none]) (Or.inr rfl) rfl rfl rfl rfl (fun _ => rfl) rfl (fun u2 => ?_)
  refine zw_goto (t := 77) (Or.inr rfl) rfl rfl ?_
  exact zw_end rfl rfl
def zx_Mo_repeats_226 (E : zE0) (K : zKt) (a0 : Nat) (x1 : Int32) (x2 : Int32) (x4 : Int32) (l5 : Int64) (l7 : Int64) (x9 : Int32) (l10 : Int64) (l12 : Int64) (x14 : Int32) (x15 : Int32) (M : zM) : zO :=
  if x2 ≤ x15 then (zif ((zK M a0).1 = 11)
    (zoR (zR M a0 30) fun q1 =>
    zif ((zK M q1).1 = 23 ∧ zin (0 : Int32) (zK M q1).2 = true)
    (zbm (zsL M q1 (Int32.toNatClampNeg (0 : Int32)) l10) fun M1 =>
    zif ((zK M1 a0).1 = 11)
    (zoR (zR M1 a0 31) fun q2 =>
    zif ((zK M1 q2).1 = 23 ∧ zin (0 : Int32) (zK M1 q2).2 = true)
    (zbm (zsL M1 q2 (Int32.toNatClampNeg (0 : Int32)) l12) fun M2 =>
    zif ((zK M2 a0).1 = 11)
    (zoR (zR M2 a0 32) fun q3 =>
    if x9 ≠ 0 then (K 366 [some (.ref a0), some (.int x1), some (.int x2), none, none, none, none, none, none, none, none, none, none, none, none, none, none] [.int (1 : Int32), .int (0 : Int32), .ref q3] M2)
    else if x1 ≠ 0 then (K 366 [some (.ref a0), some (.int x1), some (.int x2), none, none, none, none, none, none, none, none, none, none, none, none, none, none] [.int (0 : Int32), .int (0 : Int32), .ref q3] M2)
    else K 366 [some (.ref a0), some (.int x1), some (.int x2), none, none, none, none, none, none, none, none, none, none, none, none, none, none] [.int (1 : Int32), .int (0 : Int32), .ref q3] M2))))))
  else if x9 ≠ 0 then (zif ((zK M a0).1 = 11)
    (zbV (E n_Mo_follows [.ref a0, .long l12, .long (l5 <<< (Int32.toInt64 (x15 * x4) &&& 63))] M) fun M3 =>
    if x14 = 0 then (K 283 [some (.ref a0), some (.int x1), some (.int x2), none, some (.int x4), some (.long l5), none, some (.long l7), none, some (.int x9), none, none, some (.long l12), none, some (.int x14), some (.int x15), some (.int (1 : Int32))] [.long (0 : Int64), .long l10] M3)
    else K 283 [some (.ref a0), some (.int x1), some (.int x2), none, some (.int x4), some (.long l5), none, some (.long l7), none, some (.int x9), none, none, some (.long l12), none, some (.int x14), some (.int x15), some (.int (1 : Int32))] [.long (l5 <<< (Int32.toInt64 (x15 * x4) &&& 63)), .long l10] M3))
  else if x15 < x1 then (zif ((zK M a0).1 = 11)
    (zbV (E n_Mo_follows [.ref a0, .long l12, .long (l5 <<< (Int32.toInt64 (x15 * x4) &&& 63))] M) fun M4 =>
    if x14 = 0 then (K 283 [some (.ref a0), some (.int x1), some (.int x2), none, some (.int x4), some (.long l5), none, some (.long l7), none, some (.int x9), none, none, some (.long l12), none, some (.int x14), some (.int x15), some (.int (0 : Int32))] [.long (0 : Int64), .long l10] M4)
    else K 283 [some (.ref a0), some (.int x1), some (.int x2), none, some (.int x4), some (.long l5), none, some (.long l7), none, some (.int x9), none, none, some (.long l12), none, some (.int x14), some (.int x15), some (.int (0 : Int32))] [.long (l5 <<< (Int32.toInt64 (x15 * x4) &&& 63)), .long l10] M4))
  else zif ((zK M a0).1 = 11)
  (zbV (E n_Mo_follows [.ref a0, .long l12, .long (l5 <<< (Int32.toInt64 (x15 * x4) &&& 63))] M) fun M5 =>
  if x14 = 0 then (K 283 [some (.ref a0), some (.int x1), some (.int x2), none, some (.int x4), some (.long l5), none, some (.long l7), none, some (.int x9), none, none, some (.long l12), none, some (.int x14), some (.int x15), some (.int (1 : Int32))] [.long (0 : Int64), .long l10] M5)
  else K 283 [some (.ref a0), some (.int x1), some (.int x2), none, some (.int x4), some (.long l5), none, some (.long l7), none, some (.int x9), none, none, some (.long l12), none, some (.int x14), some (.int x15), some (.int (1 : Int32))] [.long (l5 <<< (Int32.toInt64 (x15 * x4) &&& 63)), .long l10] M5)
set_option maxRecDepth 20000 in
theorem zg_Mo_repeats_226 (d : Nat) (a0 : Nat) (x1 : Int32) (x2 : Int32) (x4 : Int32) (l5 : Int64) (l7 : Int64) (x9 : Int32) (l10 : Int64) (l12 : Int64) (x14 : Int32) (x15 : Int32) (M : zM) : zG d n_Mo_repeats 226 [some (.ref a0), some (.int x1), some (.int x2), none, some (.int x4), some (.long l5), none, some (.long l7), none, some (.int x9), some (.long l10), none, some (.long l12), none, some (.int x14), some (.int x15), none] [] M = zx_Mo_repeats_226 (zV d) (zG d n_Mo_repeats) a0 x1 x2 x4 l5 l7 x9 l10 l12 x14 x15 M := by
  refine (zG_sg (m := zm_Mo_repeats) rfl 400 _ _ _ M).trans ?_
  show zw true zm_Mo_repeats (zV d) (zG d n_Mo_repeats) 400 226 [some (.ref a0), some (.int x1), some (.int x2), none, some (.int x4), some (.long l5), none, some (.long l7), none, some (.int x9), some (.long l10), none, some (.long l12), none, some (.int x14), some (.int x15), none] [] M = _
  unfold zx_Mo_repeats_226
  refine zw_iload (p := 228) (Or.inl rfl) rfl rfl rfl ?_
  refine zw_iload_n (p := 229) (Or.inr rfl) rfl rfl rfl ?_
  refine zw_icmp_ge (t := 331) (p := 232) (Or.inr rfl) rfl rfl rfl ?_ ?_
  · refine zw_aload_n (p := 332) (Or.inr rfl) rfl rfl rfl ?_
    refine zw_get_ref (p := 335) (Or.inr rfl) rfl rfl (fun q1 => ?_)
    refine zw_iconst (p := 336) (x := (0 : Int32)) (Or.inr rfl) rfl rfl rfl ?_
    refine zw_lload (p := 338) (Or.inr rfl) rfl rfl rfl ?_
    refine zw_lastore (p := 339) (Or.inr rfl) rfl rfl (fun M1 => ?_)
    refine zw_aload_n (p := 340) (Or.inr rfl) rfl rfl rfl ?_
    refine zw_get_ref (p := 343) (Or.inr rfl) rfl rfl (fun q2 => ?_)
    refine zw_iconst (p := 344) (x := (0 : Int32)) (Or.inr rfl) rfl rfl rfl ?_
    refine zw_lload (p := 346) (Or.inr rfl) rfl rfl rfl ?_
    refine zw_lastore (p := 347) (Or.inr rfl) rfl rfl (fun M2 => ?_)
    refine zw_aload_n (p := 348) (Or.inr rfl) rfl rfl rfl ?_
    refine zw_get_ref (p := 351) (Or.inr rfl) rfl rfl (fun q3 => ?_)
    refine zw_iconst (p := 352) (x := (0 : Int32)) (Or.inr rfl) rfl rfl rfl ?_
    refine zw_iload (p := 354) (Or.inr rfl) rfl rfl rfl ?_
    refine zw_if_ne (t := 361) (p := 357) (Or.inr rfl) rfl rfl rfl ?_ ?_
    · refine zw_iconst (p := 362) (x := (1 : Int32)) (Or.inr rfl) rfl rfl rfl ?_
      refine zw_goto (t := 366) (Or.inr rfl) rfl rfl ?_
      exact zw_end rfl rfl
    refine zw_iload_n (p := 358) (Or.inr rfl) rfl rfl rfl ?_
    refine zw_if_ne (t := 365) (p := 361) (Or.inr rfl) rfl rfl rfl ?_ ?_
    · refine zw_iconst (p := 366) (x := (0 : Int32)) (Or.inr rfl) rfl rfl rfl ?_
      exact zw_end rfl rfl
    refine zw_iconst (p := 362) (x := (1 : Int32)) (Or.inr rfl) rfl rfl rfl ?_
    refine zw_goto (t := 366) (Or.inr rfl) rfl rfl ?_
    exact zw_end rfl rfl
  refine zw_iload (p := 234) (Or.inr rfl) rfl rfl rfl ?_
  refine zw_if_ne (t := 243) (p := 237) (Or.inr rfl) rfl rfl rfl ?_ ?_
  · refine zw_iconst (p := 244) (x := (1 : Int32)) (Or.inr rfl) rfl rfl rfl ?_
    refine zw_goto (t := 248) (Or.inr rfl) rfl rfl ?_
    refine zw_istore (p := 250) (l2 := [some (.ref a0), some (.int x1), some (.int x2), none, some (.int x4), some (.long l5), none, some (.long l7), none, some (.int x9), some (.long l10), none, some (.long l12), none, some (.int x14), some (.int x15), some (.int (1 : Int32))]) (Or.inr rfl) rfl rfl rfl rfl ?_
    refine zw_aload_n (p := 251) (Or.inr rfl) rfl rfl rfl ?_
    refine zw_lload (p := 253) (Or.inr rfl) rfl rfl rfl ?_
    refine zw_lload (p := 255) (Or.inr rfl) rfl rfl rfl ?_
    refine zw_iload (p := 257) (Or.inr rfl) rfl rfl rfl ?_
    refine zw_iload (p := 259) (Or.inr rfl) rfl rfl rfl ?_
    refine zw_imul (p := 260) (Or.inr rfl) rfl rfl ?_
    refine zw_lshl (p := 261) (Or.inr rfl) rfl rfl ?_
    refine zw_virtualV (p := 264) (as := [.ref a0, .long l12, .long (l5 <<< (Int32.toInt64 (x15 * x4) &&& 63))]) (rest := []) (Or.inr rfl) rfl rfl rfl rfl rfl rfl rfl (fun M3 => ?_)
    refine zw_lload (p := 266) (Or.inr rfl) rfl rfl rfl ?_
    refine zw_iload (p := 268) (Or.inr rfl) rfl rfl rfl ?_
    refine zw_if_eq (t := 282) (p := 271) (Or.inr rfl) rfl rfl rfl ?_ ?_
    · refine zw_lconst (p := 283) (x := (0 : Int64)) (Or.inr rfl) rfl rfl rfl ?_
      exact zw_end rfl rfl
    refine zw_lload (p := 273) (Or.inr rfl) rfl rfl rfl ?_
    refine zw_iload (p := 275) (Or.inr rfl) rfl rfl rfl ?_
    refine zw_iload (p := 277) (Or.inr rfl) rfl rfl rfl ?_
    refine zw_imul (p := 278) (Or.inr rfl) rfl rfl ?_
    refine zw_lshl (p := 279) (Or.inr rfl) rfl rfl ?_
    refine zw_goto (t := 283) (Or.inr rfl) rfl rfl ?_
    exact zw_end rfl rfl
  refine zw_iload (p := 239) (Or.inr rfl) rfl rfl rfl ?_
  refine zw_iload_n (p := 240) (Or.inr rfl) rfl rfl rfl ?_
  refine zw_icmp_lt (t := 247) (p := 243) (Or.inr rfl) rfl rfl rfl ?_ ?_
  · refine zw_iconst (p := 248) (x := (0 : Int32)) (Or.inr rfl) rfl rfl rfl ?_
    refine zw_istore (p := 250) (l2 := [some (.ref a0), some (.int x1), some (.int x2), none, some (.int x4), some (.long l5), none, some (.long l7), none, some (.int x9), some (.long l10), none, some (.long l12), none, some (.int x14), some (.int x15), some (.int (0 : Int32))]) (Or.inr rfl) rfl rfl rfl rfl ?_
    refine zw_aload_n (p := 251) (Or.inr rfl) rfl rfl rfl ?_
    refine zw_lload (p := 253) (Or.inr rfl) rfl rfl rfl ?_
    refine zw_lload (p := 255) (Or.inr rfl) rfl rfl rfl ?_
    refine zw_iload (p := 257) (Or.inr rfl) rfl rfl rfl ?_
    refine zw_iload (p := 259) (Or.inr rfl) rfl rfl rfl ?_
    refine zw_imul (p := 260) (Or.inr rfl) rfl rfl ?_
    refine zw_lshl (p := 261) (Or.inr rfl) rfl rfl ?_
    refine zw_virtualV (p := 264) (as := [.ref a0, .long l12, .long (l5 <<< (Int32.toInt64 (x15 * x4) &&& 63))]) (rest := []) (Or.inr rfl) rfl rfl rfl rfl rfl rfl rfl (fun M4 => ?_)
    refine zw_lload (p := 266) (Or.inr rfl) rfl rfl rfl ?_
    refine zw_iload (p := 268) (Or.inr rfl) rfl rfl rfl ?_
    refine zw_if_eq (t := 282) (p := 271) (Or.inr rfl) rfl rfl rfl ?_ ?_
    · refine zw_lconst (p := 283) (x := (0 : Int64)) (Or.inr rfl) rfl rfl rfl ?_
      exact zw_end rfl rfl
    refine zw_lload (p := 273) (Or.inr rfl) rfl rfl rfl ?_
    refine zw_iload (p := 275) (Or.inr rfl) rfl rfl rfl ?_
    refine zw_iload (p := 277) (Or.inr rfl) rfl rfl rfl ?_
    refine zw_imul (p := 278) (Or.inr rfl) rfl rfl ?_
    refine zw_lshl (p := 279) (Or.inr rfl) rfl rfl ?_
    refine zw_goto (t := 283) (Or.inr rfl) rfl rfl ?_
    exact zw_end rfl rfl
  refine zw_iconst (p := 244) (x := (1 : Int32)) (Or.inr rfl) rfl rfl rfl ?_
  refine zw_goto (t := 248) (Or.inr rfl) rfl rfl ?_
  refine zw_istore (p := 250) (l2 := [some (.ref a0), some (.int x1), some (.int x2), none, some (.int x4), some (.long l5), none, some (.long l7), none, some (.int x9), some (.long l10), none, some (.long l12), none, some (.int x14), some (.int x15), some (.int (1 : Int32))]) (Or.inr rfl) rfl rfl rfl rfl ?_
  refine zw_aload_n (p := 251) (Or.inr rfl) rfl rfl rfl ?_
  refine zw_lload (p := 253) (Or.inr rfl) rfl rfl rfl ?_
  refine zw_lload (p := 255) (Or.inr rfl) rfl rfl rfl ?_
  refine zw_iload (p := 257) (Or.inr rfl) rfl rfl rfl ?_
  refine zw_iload (p := 259) (Or.inr rfl) rfl rfl rfl ?_
  refine zw_imul (p := 260) (Or.inr rfl) rfl rfl ?_
  refine zw_lshl (p := 261) (Or.inr rfl) rfl rfl ?_
  refine zw_virtualV (p := 264) (as := [.ref a0, .long l12, .long (l5 <<< (Int32.toInt64 (x15 * x4) &&& 63))]) (rest := []) (Or.inr rfl) rfl rfl rfl rfl rfl rfl rfl (fun M5 => ?_)
  refine zw_lload (p := 266) (Or.inr rfl) rfl rfl rfl ?_
  refine zw_iload (p := 268) (Or.inr rfl) rfl rfl rfl ?_
  refine zw_if_eq (t := 282) (p := 271) (Or.inr rfl) rfl rfl rfl ?_ ?_
  · refine zw_lconst (p := 283) (x := (0 : Int64)) (Or.inr rfl) rfl rfl rfl ?_
    exact zw_end rfl rfl
  refine zw_lload (p := 273) (Or.inr rfl) rfl rfl rfl ?_
  refine zw_iload (p := 275) (Or.inr rfl) rfl rfl rfl ?_
  refine zw_iload (p := 277) (Or.inr rfl) rfl rfl rfl ?_
  refine zw_imul (p := 278) (Or.inr rfl) rfl rfl ?_
  refine zw_lshl (p := 279) (Or.inr rfl) rfl rfl ?_
  refine zw_goto (t := 283) (Or.inr rfl) rfl rfl ?_
  exact zw_end rfl rfl
def zx_Mo_repeats_283 (E : zE0) (K : zKt) (a0 : Nat) (x1 : Int32) (x2 : Int32) (x4 : Int32) (l5 : Int64) (l7 : Int64) (x9 : Int32) (l12 : Int64) (x14 : Int32) (x15 : Int32) (x16 : Int32) (s0 : Int64) (s1 : Int64) (M : zM) : zO :=
  zbl (s1 ||| s0) fun w1 =>
  if x16 = 0 then (zbl ((l7 <<< (Int32.toInt64 (x15 * x4) &&& 63)) ||| (0 : Int64)) fun w2 =>
    if x14 = 0 then (zbi (x15 + (1 : Int32)) fun u1 =>
      K 226 [some (.ref a0), some (.int x1), some (.int x2), none, some (.int x4), some (.long l5), none, some (.long l7), none, some (.int x9), some (.long w1), none, some (.long w2), none, some (.int (0 : Int32)), some (.int u1), none] [] M)
    else if x16 = 0 then (zbi (x15 + (1 : Int32)) fun u2 =>
      K 226 [some (.ref a0), some (.int x1), some (.int x2), none, some (.int x4), some (.long l5), none, some (.long l7), none, some (.int x9), some (.long w1), none, some (.long w2), none, some (.int (0 : Int32)), some (.int u2), none] [] M)
    else zbi (x15 + (1 : Int32)) fun u3 =>
    K 226 [some (.ref a0), some (.int x1), some (.int x2), none, some (.int x4), some (.long l5), none, some (.long l7), none, some (.int x9), some (.long w1), none, some (.long w2), none, some (.int (1 : Int32)), some (.int u3), none] [] M)
  else zbl ((l7 <<< (Int32.toInt64 (x15 * x4) &&& 63)) ||| l12) fun w3 =>
  if x14 = 0 then (zbi (x15 + (1 : Int32)) fun u4 =>
    K 226 [some (.ref a0), some (.int x1), some (.int x2), none, some (.int x4), some (.long l5), none, some (.long l7), none, some (.int x9), some (.long w1), none, some (.long w3), none, some (.int (0 : Int32)), some (.int u4), none] [] M)
  else if x16 = 0 then (zbi (x15 + (1 : Int32)) fun u5 =>
    K 226 [some (.ref a0), some (.int x1), some (.int x2), none, some (.int x4), some (.long l5), none, some (.long l7), none, some (.int x9), some (.long w1), none, some (.long w3), none, some (.int (0 : Int32)), some (.int u5), none] [] M)
  else zbi (x15 + (1 : Int32)) fun u6 =>
  K 226 [some (.ref a0), some (.int x1), some (.int x2), none, some (.int x4), some (.long l5), none, some (.long l7), none, some (.int x9), some (.long w1), none, some (.long w3), none, some (.int (1 : Int32)), some (.int u6), none] [] M
set_option maxRecDepth 20000 in
theorem zg_Mo_repeats_283 (d : Nat) (a0 : Nat) (x1 : Int32) (x2 : Int32) (x4 : Int32) (l5 : Int64) (l7 : Int64) (x9 : Int32) (l12 : Int64) (x14 : Int32) (x15 : Int32) (x16 : Int32) (s0 : Int64) (s1 : Int64) (M : zM) : zG d n_Mo_repeats 283 [some (.ref a0), some (.int x1), some (.int x2), none, some (.int x4), some (.long l5), none, some (.long l7), none, some (.int x9), none, none, some (.long l12), none, some (.int x14), some (.int x15), some (.int x16)] [.long s0, .long s1] M = zx_Mo_repeats_283 (zV d) (zG d n_Mo_repeats) a0 x1 x2 x4 l5 l7 x9 l12 x14 x15 x16 s0 s1 M := by
  refine (zG_sg (m := zm_Mo_repeats) rfl 400 _ _ _ M).trans ?_
  show zw true zm_Mo_repeats (zV d) (zG d n_Mo_repeats) 400 283 [some (.ref a0), some (.int x1), some (.int x2), none, some (.int x4), some (.long l5), none, some (.long l7), none, some (.int x9), none, none, some (.long l12), none, some (.int x14), some (.int x15), some (.int x16)] [.long s0, .long s1] M = _
  unfold zx_Mo_repeats_283
  refine zw_lor (p := 284) (Or.inl rfl) rfl rfl ?_
  refine zw_lstoreN (p := 286) (L2 := fun w1 => [some (.ref a0), some (.int x1), some (.int x2), none, some (.int x4), some (.long l5), none, some (.long l7), none, some (.int x9), some (.long w1), none, some (.long l12), none, some (.int x14), some (.int x15), some (.int x16)]) (Or.inr rfl) rfl rfl (fun _ => rfl) rfl (fun w1 => ?_)
  refine zw_lload (p := 288) (Or.inr rfl) rfl rfl rfl ?_
  refine zw_iload (p := 290) (Or.inr rfl) rfl rfl rfl ?_
  refine zw_iload (p := 292) (Or.inr rfl) rfl rfl rfl ?_
  refine zw_imul (p := 293) (Or.inr rfl) rfl rfl ?_
  refine zw_lshl (p := 294) (Or.inr rfl) rfl rfl ?_
  refine zw_iload (p := 296) (Or.inr rfl) rfl rfl rfl ?_
  refine zw_if_eq (t := 304) (p := 299) (Or.inr rfl) rfl rfl rfl ?_ ?_
  · refine zw_lconst (p := 305) (x := (0 : Int64)) (Or.inr rfl) rfl rfl rfl ?_
    refine zw_lor (p := 306) (Or.inr rfl) rfl rfl ?_
    refine zw_lstoreN (p := 308) (L2 := fun w2 => [some (.ref a0), some (.int x1), some (.int x2), none, some (.int x4), some (.long l5), none, some (.long l7), none, some (.int x9), some (.long w1), none, some (.long w2), none, some (.int x14), some (.int x15), some (.int x16)]) (Or.inr rfl) rfl rfl (fun _ => rfl) rfl (fun w2 => ?_)
    refine zw_iload (p := 310) (Or.inr rfl) rfl rfl rfl ?_
    refine zw_if_eq (t := 322) (p := 313) (Or.inr rfl) rfl rfl rfl ?_ ?_
    · refine zw_iconst (p := 323) (x := (0 : Int32)) (Or.inr rfl) rfl rfl rfl ?_
      refine zw_istore (p := 325) (l2 := [some (.ref a0), some (.int x1), some (.int x2), none, some (.int x4), some (.long l5), none, some (.long l7), none, some (.int x9), some (.long w1), none, some (.long w2), none, some (.int (0 : Int32)), some (.int x15), some (.int x16)]) (Or.inr rfl) rfl rfl rfl rfl ?_
      refine zw_iinc (p := 328) (c := (1 : Int32)) (L2 := fun u1 => [some (.ref a0), some (.int x1), some (.int x2), none, some (.int x4), some (.long l5), none, some (.long l7), none, some (.int x9), some (.long w1), none, some (.long w2), none, some (.int (0 : Int32)), some (.int u1), some (.int x16)]) (Or.inr rfl) rfl rfl rfl rfl (fun _ => rfl) rfl (fun u1 => ?_)
      refine zw_goto (t := 226) (Or.inr rfl) rfl rfl ?_
      exact zw_end rfl rfl
    refine zw_iload (p := 315) (Or.inr rfl) rfl rfl rfl ?_
    refine zw_if_eq (t := 322) (p := 318) (Or.inr rfl) rfl rfl rfl ?_ ?_
    · refine zw_iconst (p := 323) (x := (0 : Int32)) (Or.inr rfl) rfl rfl rfl ?_
      refine zw_istore (p := 325) (l2 := [some (.ref a0), some (.int x1), some (.int x2), none, some (.int x4), some (.long l5), none, some (.long l7), none, some (.int x9), some (.long w1), none, some (.long w2), none, some (.int (0 : Int32)), some (.int x15), some (.int x16)]) (Or.inr rfl) rfl rfl rfl rfl ?_
      refine zw_iinc (p := 328) (c := (1 : Int32)) (L2 := fun u2 => [some (.ref a0), some (.int x1), some (.int x2), none, some (.int x4), some (.long l5), none, some (.long l7), none, some (.int x9), some (.long w1), none, some (.long w2), none, some (.int (0 : Int32)), some (.int u2), some (.int x16)]) (Or.inr rfl) rfl rfl rfl rfl (fun _ => rfl) rfl (fun u2 => ?_)
      refine zw_goto (t := 226) (Or.inr rfl) rfl rfl ?_
      exact zw_end rfl rfl
    refine zw_iconst (p := 319) (x := (1 : Int32)) (Or.inr rfl) rfl rfl rfl ?_
    refine zw_goto (t := 323) (Or.inr rfl) rfl rfl ?_
    refine zw_istore (p := 325) (l2 := [some (.ref a0), some (.int x1), some (.int x2), none, some (.int x4), some (.long l5), none, some (.long l7), none, some (.int x9), some (.long w1), none, some (.long w2), none, some (.int (1 : Int32)), some (.int x15), some (.int x16)]) (Or.inr rfl) rfl rfl rfl rfl ?_
    refine zw_iinc (p := 328) (c := (1 : Int32)) (L2 := fun u3 => [some (.ref a0), some (.int x1), some (.int x2), none, some (.int x4), some (.long l5), none, some (.long l7), none, some (.int x9), some (.long w1), none, some (.long w2), none, some (.int (1 : Int32)), some (.int u3), some (.int x16)]) (Or.inr rfl) rfl rfl rfl rfl (fun _ => rfl) rfl (fun u3 => ?_)
    refine zw_goto (t := 226) (Or.inr rfl) rfl rfl ?_
    exact zw_end rfl rfl
  refine zw_lload (p := 301) (Or.inr rfl) rfl rfl rfl ?_
  refine zw_goto (t := 305) (Or.inr rfl) rfl rfl ?_
  refine zw_lor (p := 306) (Or.inr rfl) rfl rfl ?_
  refine zw_lstoreN (p := 308) (L2 := fun w3 => [some (.ref a0), some (.int x1), some (.int x2), none, some (.int x4), some (.long l5), none, some (.long l7), none, some (.int x9), some (.long w1), none, some (.long w3), none, some (.int x14), some (.int x15), some (.int x16)]) (Or.inr rfl) rfl rfl (fun _ => rfl) rfl (fun w3 => ?_)
  refine zw_iload (p := 310) (Or.inr rfl) rfl rfl rfl ?_
  refine zw_if_eq (t := 322) (p := 313) (Or.inr rfl) rfl rfl rfl ?_ ?_
  · refine zw_iconst (p := 323) (x := (0 : Int32)) (Or.inr rfl) rfl rfl rfl ?_
    refine zw_istore (p := 325) (l2 := [some (.ref a0), some (.int x1), some (.int x2), none, some (.int x4), some (.long l5), none, some (.long l7), none, some (.int x9), some (.long w1), none, some (.long w3), none, some (.int (0 : Int32)), some (.int x15), some (.int x16)]) (Or.inr rfl) rfl rfl rfl rfl ?_
    refine zw_iinc (p := 328) (c := (1 : Int32)) (L2 := fun u4 => [some (.ref a0), some (.int x1), some (.int x2), none, some (.int x4), some (.long l5), none, some (.long l7), none, some (.int x9), some (.long w1), none, some (.long w3), none, some (.int (0 : Int32)), some (.int u4), some (.int x16)]) (Or.inr rfl) rfl rfl rfl rfl (fun _ => rfl) rfl (fun u4 => ?_)
    refine zw_goto (t := 226) (Or.inr rfl) rfl rfl ?_
    exact zw_end rfl rfl
  refine zw_iload (p := 315) (Or.inr rfl) rfl rfl rfl ?_
  refine zw_if_eq (t := 322) (p := 318) (Or.inr rfl) rfl rfl rfl ?_ ?_
  · refine zw_iconst (p := 323) (x := (0 : Int32)) (Or.inr rfl) rfl rfl rfl ?_
    refine zw_istore (p := 325) (l2 := [some (.ref a0), some (.int x1), some (.int x2), none, some (.int x4), some (.long l5), none, some (.long l7), none, some (.int x9), some (.long w1), none, some (.long w3), none, some (.int (0 : Int32)), some (.int x15), some (.int x16)]) (Or.inr rfl) rfl rfl rfl rfl ?_
    refine zw_iinc (p := 328) (c := (1 : Int32)) (L2 := fun u5 => [some (.ref a0), some (.int x1), some (.int x2), none, some (.int x4), some (.long l5), none, some (.long l7), none, some (.int x9), some (.long w1), none, some (.long w3), none, some (.int (0 : Int32)), some (.int u5), some (.int x16)]) (Or.inr rfl) rfl rfl rfl rfl (fun _ => rfl) rfl (fun u5 => ?_)
    refine zw_goto (t := 226) (Or.inr rfl) rfl rfl ?_
    exact zw_end rfl rfl
  refine zw_iconst (p := 319) (x := (1 : Int32)) (Or.inr rfl) rfl rfl rfl ?_
  refine zw_goto (t := 323) (Or.inr rfl) rfl rfl ?_
  refine zw_istore (p := 325) (l2 := [some (.ref a0), some (.int x1), some (.int x2), none, some (.int x4), some (.long l5), none, some (.long l7), none, some (.int x9), some (.long w1), none, some (.long w3), none, some (.int (1 : Int32)), some (.int x15), some (.int x16)]) (Or.inr rfl) rfl rfl rfl rfl ?_
  refine zw_iinc (p := 328) (c := (1 : Int32)) (L2 := fun u6 => [some (.ref a0), some (.int x1), some (.int x2), none, some (.int x4), some (.long l5), none, some (.long l7), none, some (.int x9), some (.long w1), none, some (.long w3), none, some (.int (1 : Int32)), some (.int u6), some (.int x16)]) (Or.inr rfl) rfl rfl rfl rfl (fun _ => rfl) rfl (fun u6 => ?_)
  refine zw_goto (t := 226) (Or.inr rfl) rfl rfl ?_
  exact zw_end rfl rfl
def zx_Mo_opensSequence (E : zE0) (K : zKt) (a0 : Nat) (M : zM) : zO :=
  zif ((zK M a0).1 = 11)
  (zoR (zR M a0 36) fun q1 =>
  zif ((zK M a0).1 = 11)
  (zbast M q1 ((1 : Int32) + (zI M a0 37)) (0 : Int32) fun M1 =>
  zif ((zK M1 a0).1 = 11)
  (zoR (zR M1 a0 36) fun q2 =>
  zif ((zK M1 a0).1 = 11)
  (zbast M1 q2 ((11 : Int32) + (zI M1 a0 37)) (0 : Int32) fun M2 =>
  some (none, M2)))))
set_option maxRecDepth 20000 in
theorem ze_Mo_opensSequence (d : Nat) (a0 : Nat) (M : zM) : zV (d + 1) n_Mo_opensSequence [.ref a0] M = zx_Mo_opensSequence (zV d) (zG d n_Mo_opensSequence) a0 M := by
  refine (zE_sg (m := zm_Mo_opensSequence) rfl 400 _ rfl M).trans ?_
  show zw true zm_Mo_opensSequence (zV d) (zG d n_Mo_opensSequence) 400 0 [some (.ref a0)] [] M = _
  unfold zx_Mo_opensSequence
  refine zw_aload_n (p := 1) (Or.inl rfl) rfl rfl rfl ?_
  refine zw_get_ref (p := 4) (Or.inr rfl) rfl rfl (fun q1 => ?_)
  refine zw_iconst (p := 5) (x := (1 : Int32)) (Or.inr rfl) rfl rfl rfl ?_
  refine zw_aload_n (p := 6) (Or.inr rfl) rfl rfl rfl ?_
  refine zw_get_int (p := 9) (Or.inr rfl) rfl rfl ?_
  refine zw_iadd (p := 10) (Or.inr rfl) rfl rfl ?_
  refine zw_iconst (p := 11) (x := (0 : Int32)) (Or.inr rfl) rfl rfl rfl ?_
  refine zw_bastore (p := 12) (Or.inr rfl) rfl rfl (fun M1 => ?_)
  refine zw_aload_n (p := 13) (Or.inr rfl) rfl rfl rfl ?_
  refine zw_get_ref (p := 16) (Or.inr rfl) rfl rfl (fun q2 => ?_)
  refine zw_bipush (p := 18) (x := (11 : Int32)) (Or.inr rfl) rfl rfl rfl ?_
  refine zw_aload_n (p := 19) (Or.inr rfl) rfl rfl rfl ?_
  refine zw_get_int (p := 22) (Or.inr rfl) rfl rfl ?_
  refine zw_iadd (p := 23) (Or.inr rfl) rfl rfl ?_
  refine zw_iconst (p := 24) (x := (0 : Int32)) (Or.inr rfl) rfl rfl rfl ?_
  refine zw_bastore (p := 25) (Or.inr rfl) rfl rfl (fun M2 => ?_)
  exact zw_return (Or.inr rfl) rfl rfl
def zx_Mo_readBegin (E : zE0) (K : zKt) (a0 : Nat) (M : zM) : zO :=
  zif ((zK M a0).1 = 11)
  (zbI (E n_Mo_isSign [.ref a0, .int (123 : Int32)] M) fun u1 M1 =>
  if u1 = 0 then (zif ((zK M1 a0).1 = 11)
    (zbV (E n_Mo_readCondition [.ref a0, .int (0 : Int32)] M1) fun M2 =>
    zif ((zK M2 a0).1 = 11)
    (if (zI M2 a0 18) ≠ 0 then (some (none, M2))
    else zif ((zK M2 a0).1 = 11)
    (zbV (E n_Mo_onePlace [.ref a0] M2) fun M3 =>
    some (none, M3)))))
  else zif ((zK M1 a0).1 = 11)
  (zbV (E n_Mo_nests [.ref a0] M1) fun M4 =>
  zif ((zK M4 a0).1 = 11)
  (zif ((zK M4 a0).1 = 11)
  (if (zI M4 a0 18) ≠ 0 then (zbI (E n_Mo_flag [.int (0 : Int32)] M4) fun u2 M5 =>
    zif ((zK M5 a0).1 = 11)
    (zbm (zsI M5 a0 37 ((zI M4 a0 37) + u2)) fun M6 =>
    zif ((zK M6 a0).1 = 11)
    (zbV (E n_Mo_opensSequence [.ref a0] M6) fun M7 =>
    K 0 [some (.ref a0)] [] M7)))
  else zbI (E n_Mo_flag [.int (1 : Int32)] M4) fun u3 M8 =>
  zif ((zK M8 a0).1 = 11)
  (zbm (zsI M8 a0 37 ((zI M4 a0 37) + u3)) fun M9 =>
  zif ((zK M9 a0).1 = 11)
  (zbV (E n_Mo_opensSequence [.ref a0] M9) fun M10 =>
  K 0 [some (.ref a0)] [] M10))))))
set_option maxRecDepth 20000 in
theorem ze_Mo_readBegin (d : Nat) (a0 : Nat) (M : zM) : zV (d + 1) n_Mo_readBegin [.ref a0] M = zx_Mo_readBegin (zV d) (zG d n_Mo_readBegin) a0 M := by
  refine (zE_sg (m := zm_Mo_readBegin) rfl 400 _ rfl M).trans ?_
  show zw true zm_Mo_readBegin (zV d) (zG d n_Mo_readBegin) 400 0 [some (.ref a0)] [] M = _
  unfold zx_Mo_readBegin
  refine zw_aload_n (p := 1) (Or.inl rfl) rfl rfl rfl ?_
  refine zw_bipush (p := 3) (x := (123 : Int32)) (Or.inr rfl) rfl rfl rfl ?_
  refine zw_virtualI (p := 6) (as := [.ref a0, .int (123 : Int32)]) (rest := []) (Or.inr rfl) rfl rfl rfl rfl rfl rfl rfl (fun u1 M1 => ?_)
  refine zw_if_eq (t := 44) (p := 9) (Or.inr rfl) rfl rfl rfl ?_ ?_
  · refine zw_aload_n (p := 45) (Or.inr rfl) rfl rfl rfl ?_
    refine zw_iconst (p := 46) (x := (0 : Int32)) (Or.inr rfl) rfl rfl rfl ?_
    refine zw_virtualV (p := 49) (as := [.ref a0, .int (0 : Int32)]) (rest := []) (Or.inr rfl) rfl rfl rfl rfl rfl rfl rfl (fun M2 => ?_)
    refine zw_aload_n (p := 50) (Or.inr rfl) rfl rfl rfl ?_
    refine zw_get_int (p := 53) (Or.inr rfl) rfl rfl ?_
    refine zw_if_ne (t := 60) (p := 56) (Or.inr rfl) rfl rfl rfl ?_ ?_
    · exact zw_return (Or.inr rfl) rfl rfl
    refine zw_aload_n (p := 57) (Or.inr rfl) rfl rfl rfl ?_
    refine zw_virtualV (p := 60) (as := [.ref a0]) (rest := []) (Or.inr rfl) rfl rfl rfl rfl rfl rfl rfl (fun M3 => ?_)
    exact zw_return (Or.inr rfl) rfl rfl
  refine zw_aload_n (p := 10) (Or.inr rfl) rfl rfl rfl ?_
  refine zw_virtualV (p := 13) (as := [.ref a0]) (rest := []) (Or.inr rfl) rfl rfl rfl rfl rfl rfl rfl (fun M4 => ?_)
  refine zw_aload_n (p := 14) (Or.inr rfl) rfl rfl rfl ?_
  refine zw_dup_ref (p := 15) (Or.inr rfl) rfl rfl ?_
  refine zw_get_int (p := 18) (Or.inr rfl) rfl rfl ?_
  refine zw_aload_n (p := 19) (Or.inr rfl) rfl rfl rfl ?_
  refine zw_get_int (p := 22) (Or.inr rfl) rfl rfl ?_
  refine zw_if_ne (t := 29) (p := 25) (Or.inr rfl) rfl rfl rfl ?_ ?_
  · refine zw_iconst (p := 30) (x := (0 : Int32)) (Or.inr rfl) rfl rfl rfl ?_
    refine zw_staticI (p := 33) (as := [.int (0 : Int32)]) (rest := [.int (zI M4 a0 37), .ref a0]) (Or.inr rfl) rfl rfl rfl rfl rfl rfl (fun u2 M5 => ?_)
    refine zw_iadd (p := 34) (Or.inr rfl) rfl rfl ?_
    refine zw_put_int (p := 37) (Or.inr rfl) rfl rfl (fun M6 => ?_)
    refine zw_aload_n (p := 38) (Or.inr rfl) rfl rfl rfl ?_
    refine zw_virtualV (p := 41) (as := [.ref a0]) (rest := []) (Or.inr rfl) rfl rfl rfl rfl rfl rfl rfl (fun M7 => ?_)
    refine zw_goto (t := 0) (Or.inr rfl) rfl rfl ?_
    exact zw_end rfl rfl
  refine zw_iconst (p := 26) (x := (1 : Int32)) (Or.inr rfl) rfl rfl rfl ?_
  refine zw_goto (t := 30) (Or.inr rfl) rfl rfl ?_
  refine zw_staticI (p := 33) (as := [.int (1 : Int32)]) (rest := [.int (zI M4 a0 37), .ref a0]) (Or.inr rfl) rfl rfl rfl rfl rfl rfl (fun u3 M8 => ?_)
  refine zw_iadd (p := 34) (Or.inr rfl) rfl rfl ?_
  refine zw_put_int (p := 37) (Or.inr rfl) rfl rfl (fun M9 => ?_)
  refine zw_aload_n (p := 38) (Or.inr rfl) rfl rfl rfl ?_
  refine zw_virtualV (p := 41) (as := [.ref a0]) (rest := []) (Or.inr rfl) rfl rfl rfl rfl rfl rfl rfl (fun M10 => ?_)
  refine zw_goto (t := 0) (Or.inr rfl) rfl rfl ?_
  exact zw_end rfl rfl
def zx_Mo_readBegin_0 (E : zE0) (K : zKt) (a0 : Nat) (M : zM) : zO :=
  zif ((zK M a0).1 = 11)
  (zbI (E n_Mo_isSign [.ref a0, .int (123 : Int32)] M) fun u1 M1 =>
  if u1 = 0 then (zif ((zK M1 a0).1 = 11)
    (zbV (E n_Mo_readCondition [.ref a0, .int (0 : Int32)] M1) fun M2 =>
    zif ((zK M2 a0).1 = 11)
    (if (zI M2 a0 18) ≠ 0 then (some (none, M2))
    else zif ((zK M2 a0).1 = 11)
    (zbV (E n_Mo_onePlace [.ref a0] M2) fun M3 =>
    some (none, M3)))))
  else zif ((zK M1 a0).1 = 11)
  (zbV (E n_Mo_nests [.ref a0] M1) fun M4 =>
  zif ((zK M4 a0).1 = 11)
  (zif ((zK M4 a0).1 = 11)
  (if (zI M4 a0 18) ≠ 0 then (zbI (E n_Mo_flag [.int (0 : Int32)] M4) fun u2 M5 =>
    zif ((zK M5 a0).1 = 11)
    (zbm (zsI M5 a0 37 ((zI M4 a0 37) + u2)) fun M6 =>
    zif ((zK M6 a0).1 = 11)
    (zbV (E n_Mo_opensSequence [.ref a0] M6) fun M7 =>
    K 0 [some (.ref a0)] [] M7)))
  else zbI (E n_Mo_flag [.int (1 : Int32)] M4) fun u3 M8 =>
  zif ((zK M8 a0).1 = 11)
  (zbm (zsI M8 a0 37 ((zI M4 a0 37) + u3)) fun M9 =>
  zif ((zK M9 a0).1 = 11)
  (zbV (E n_Mo_opensSequence [.ref a0] M9) fun M10 =>
  K 0 [some (.ref a0)] [] M10))))))
set_option maxRecDepth 20000 in
theorem zg_Mo_readBegin_0 (d : Nat) (a0 : Nat) (M : zM) : zG d n_Mo_readBegin 0 [some (.ref a0)] [] M = zx_Mo_readBegin_0 (zV d) (zG d n_Mo_readBegin) a0 M := by
  refine (zG_sg (m := zm_Mo_readBegin) rfl 400 _ _ _ M).trans ?_
  show zw true zm_Mo_readBegin (zV d) (zG d n_Mo_readBegin) 400 0 [some (.ref a0)] [] M = _
  unfold zx_Mo_readBegin_0
  refine zw_aload_n (p := 1) (Or.inl rfl) rfl rfl rfl ?_
  refine zw_bipush (p := 3) (x := (123 : Int32)) (Or.inr rfl) rfl rfl rfl ?_
  refine zw_virtualI (p := 6) (as := [.ref a0, .int (123 : Int32)]) (rest := []) (Or.inr rfl) rfl rfl rfl rfl rfl rfl rfl (fun u1 M1 => ?_)
  refine zw_if_eq (t := 44) (p := 9) (Or.inr rfl) rfl rfl rfl ?_ ?_
  · refine zw_aload_n (p := 45) (Or.inr rfl) rfl rfl rfl ?_
    refine zw_iconst (p := 46) (x := (0 : Int32)) (Or.inr rfl) rfl rfl rfl ?_
    refine zw_virtualV (p := 49) (as := [.ref a0, .int (0 : Int32)]) (rest := []) (Or.inr rfl) rfl rfl rfl rfl rfl rfl rfl (fun M2 => ?_)
    refine zw_aload_n (p := 50) (Or.inr rfl) rfl rfl rfl ?_
    refine zw_get_int (p := 53) (Or.inr rfl) rfl rfl ?_
    refine zw_if_ne (t := 60) (p := 56) (Or.inr rfl) rfl rfl rfl ?_ ?_
    · exact zw_return (Or.inr rfl) rfl rfl
    refine zw_aload_n (p := 57) (Or.inr rfl) rfl rfl rfl ?_
    refine zw_virtualV (p := 60) (as := [.ref a0]) (rest := []) (Or.inr rfl) rfl rfl rfl rfl rfl rfl rfl (fun M3 => ?_)
    exact zw_return (Or.inr rfl) rfl rfl
  refine zw_aload_n (p := 10) (Or.inr rfl) rfl rfl rfl ?_
  refine zw_virtualV (p := 13) (as := [.ref a0]) (rest := []) (Or.inr rfl) rfl rfl rfl rfl rfl rfl rfl (fun M4 => ?_)
  refine zw_aload_n (p := 14) (Or.inr rfl) rfl rfl rfl ?_
  refine zw_dup_ref (p := 15) (Or.inr rfl) rfl rfl ?_
  refine zw_get_int (p := 18) (Or.inr rfl) rfl rfl ?_
  refine zw_aload_n (p := 19) (Or.inr rfl) rfl rfl rfl ?_
  refine zw_get_int (p := 22) (Or.inr rfl) rfl rfl ?_
  refine zw_if_ne (t := 29) (p := 25) (Or.inr rfl) rfl rfl rfl ?_ ?_
  · refine zw_iconst (p := 30) (x := (0 : Int32)) (Or.inr rfl) rfl rfl rfl ?_
    refine zw_staticI (p := 33) (as := [.int (0 : Int32)]) (rest := [.int (zI M4 a0 37), .ref a0]) (Or.inr rfl) rfl rfl rfl rfl rfl rfl (fun u2 M5 => ?_)
    refine zw_iadd (p := 34) (Or.inr rfl) rfl rfl ?_
    refine zw_put_int (p := 37) (Or.inr rfl) rfl rfl (fun M6 => ?_)
    refine zw_aload_n (p := 38) (Or.inr rfl) rfl rfl rfl ?_
    refine zw_virtualV (p := 41) (as := [.ref a0]) (rest := []) (Or.inr rfl) rfl rfl rfl rfl rfl rfl rfl (fun M7 => ?_)
    refine zw_goto (t := 0) (Or.inr rfl) rfl rfl ?_
    exact zw_end rfl rfl
  refine zw_iconst (p := 26) (x := (1 : Int32)) (Or.inr rfl) rfl rfl rfl ?_
  refine zw_goto (t := 30) (Or.inr rfl) rfl rfl ?_
  refine zw_staticI (p := 33) (as := [.int (1 : Int32)]) (rest := [.int (zI M4 a0 37), .ref a0]) (Or.inr rfl) rfl rfl rfl rfl rfl rfl (fun u3 M8 => ?_)
  refine zw_iadd (p := 34) (Or.inr rfl) rfl rfl ?_
  refine zw_put_int (p := 37) (Or.inr rfl) rfl rfl (fun M9 => ?_)
  refine zw_aload_n (p := 38) (Or.inr rfl) rfl rfl rfl ?_
  refine zw_virtualV (p := 41) (as := [.ref a0]) (rest := []) (Or.inr rfl) rfl rfl rfl rfl rfl rfl rfl (fun M10 => ?_)
  refine zw_goto (t := 0) (Or.inr rfl) rfl rfl ?_
  exact zw_end rfl rfl
def zx_Mo_readTimes (E : zE0) (K : zKt) (a0 : Nat) (M : zM) : zO :=
  zif ((zK M a0).1 = 11)
  (zbI (E n_Mo_isSign [.ref a0, .int (42 : Int32)] M) fun u1 M1 =>
  if u1 = 0 then (some (none, M1))
  else zif ((zK M1 a0).1 = 11)
  (zbV (E n_Mo_reads [.ref a0] M1) fun M2 =>
  zif ((zK M2 a0).1 = 11)
  (zbI (E n_Mo_readNumber [.ref a0, .int (0 : Int32), .int (9 : Int32)] M2) fun u2 M3 =>
  zbI (E n_Mo_greatest [.int (1 : Int32), .int u2] M3) fun u3 M4 =>
  zif ((zK M4 a0).1 = 11)
  (zbI (E n_Mo_readNumber [.ref a0, .int u3, .int (9 : Int32)] M4) fun u4 M5 =>
  zif ((zK M5 a0).1 = 11)
  (if (zI M5 a0 18) ≠ 0 then (some (none, M5))
  else zif ((zK M5 a0).1 = 11)
  (zbV (E n_Mo_repeats [.ref a0, .int u2, .int u4] M5) fun M6 =>
  some (none, M6)))))))
set_option maxRecDepth 20000 in
theorem ze_Mo_readTimes (d : Nat) (a0 : Nat) (M : zM) : zV (d + 1) n_Mo_readTimes [.ref a0] M = zx_Mo_readTimes (zV d) (zG d n_Mo_readTimes) a0 M := by
  refine (zE_sg (m := zm_Mo_readTimes) rfl 400 _ rfl M).trans ?_
  show zw true zm_Mo_readTimes (zV d) (zG d n_Mo_readTimes) 400 0 [some (.ref a0), none, none] [] M = _
  unfold zx_Mo_readTimes
  refine zw_aload_n (p := 1) (Or.inl rfl) rfl rfl rfl ?_
  refine zw_bipush (p := 3) (x := (42 : Int32)) (Or.inr rfl) rfl rfl rfl ?_
  refine zw_virtualI (p := 6) (as := [.ref a0, .int (42 : Int32)]) (rest := []) (Or.inr rfl) rfl rfl rfl rfl rfl rfl rfl (fun u1 M1 => ?_)
  refine zw_if_eq (t := 46) (p := 9) (Or.inr rfl) rfl rfl rfl ?_ ?_
  · exact zw_return (Or.inr rfl) rfl rfl
  refine zw_aload_n (p := 10) (Or.inr rfl) rfl rfl rfl ?_
  refine zw_virtualV (p := 13) (as := [.ref a0]) (rest := []) (Or.inr rfl) rfl rfl rfl rfl rfl rfl rfl (fun M2 => ?_)
  refine zw_aload_n (p := 14) (Or.inr rfl) rfl rfl rfl ?_
  refine zw_iconst (p := 15) (x := (0 : Int32)) (Or.inr rfl) rfl rfl rfl ?_
  refine zw_bipush (p := 17) (x := (9 : Int32)) (Or.inr rfl) rfl rfl rfl ?_
  refine zw_virtualI (p := 20) (as := [.ref a0, .int (0 : Int32), .int (9 : Int32)]) (rest := []) (Or.inr rfl) rfl rfl rfl rfl rfl rfl rfl (fun u2 M3 => ?_)
  refine zw_istore_n (p := 21) (l2 := [some (.ref a0), some (.int u2), none]) (Or.inr rfl) rfl rfl rfl rfl ?_
  refine zw_aload_n (p := 22) (Or.inr rfl) rfl rfl rfl ?_
  refine zw_iconst (p := 23) (x := (1 : Int32)) (Or.inr rfl) rfl rfl rfl ?_
  refine zw_iload_n (p := 24) (Or.inr rfl) rfl rfl rfl ?_
  refine zw_staticI (p := 27) (as := [.int (1 : Int32), .int u2]) (rest := [.ref a0]) (Or.inr rfl) rfl rfl rfl rfl rfl rfl (fun u3 M4 => ?_)
  refine zw_bipush (p := 29) (x := (9 : Int32)) (Or.inr rfl) rfl rfl rfl ?_
  refine zw_virtualI (p := 32) (as := [.ref a0, .int u3, .int (9 : Int32)]) (rest := []) (Or.inr rfl) rfl rfl rfl rfl rfl rfl rfl (fun u4 M5 => ?_)
  refine zw_istore_n (p := 33) (l2 := [some (.ref a0), some (.int u2), some (.int u4)]) (Or.inr rfl) rfl rfl rfl rfl ?_
  refine zw_aload_n (p := 34) (Or.inr rfl) rfl rfl rfl ?_
  refine zw_get_int (p := 37) (Or.inr rfl) rfl rfl ?_
  refine zw_if_ne (t := 46) (p := 40) (Or.inr rfl) rfl rfl rfl ?_ ?_
  · exact zw_return (Or.inr rfl) rfl rfl
  refine zw_aload_n (p := 41) (Or.inr rfl) rfl rfl rfl ?_
  refine zw_iload_n (p := 42) (Or.inr rfl) rfl rfl rfl ?_
  refine zw_iload_n (p := 43) (Or.inr rfl) rfl rfl rfl ?_
  refine zw_virtualV (p := 46) (as := [.ref a0, .int u2, .int u4]) (rest := []) (Or.inr rfl) rfl rfl rfl rfl rfl rfl rfl (fun M6 => ?_)
  exact zw_return (Or.inr rfl) rfl rfl
def zx_Mo_readEnds (E : zE0) (K : zKt) (a0 : Nat) (M : zM) : zO :=
  zif ((zK M a0).1 = 11)
  (if (zI M a0 18) ≠ 0 then (K 13 [some (.ref a0), some (.int (0 : Int32))] [] M)
  else K 13 [some (.ref a0), some (.int (1 : Int32))] [] M)
set_option maxRecDepth 20000 in
theorem ze_Mo_readEnds (d : Nat) (a0 : Nat) (M : zM) : zV (d + 1) n_Mo_readEnds [.ref a0] M = zx_Mo_readEnds (zV d) (zG d n_Mo_readEnds) a0 M := by
  refine (zE_sg (m := zm_Mo_readEnds) rfl 400 _ rfl M).trans ?_
  show zw true zm_Mo_readEnds (zV d) (zG d n_Mo_readEnds) 400 0 [some (.ref a0), none] [] M = _
  unfold zx_Mo_readEnds
  refine zw_aload_n (p := 1) (Or.inl rfl) rfl rfl rfl ?_
  refine zw_get_int (p := 4) (Or.inr rfl) rfl rfl ?_
  refine zw_if_ne (t := 11) (p := 7) (Or.inr rfl) rfl rfl rfl ?_ ?_
  · refine zw_iconst (p := 12) (x := (0 : Int32)) (Or.inr rfl) rfl rfl rfl ?_
    refine zw_istore_n (p := 13) (l2 := [some (.ref a0), some (.int (0 : Int32))]) (Or.inr rfl) rfl rfl rfl rfl ?_
    exact zw_end rfl rfl
  refine zw_iconst (p := 8) (x := (1 : Int32)) (Or.inr rfl) rfl rfl rfl ?_
  refine zw_goto (t := 12) (Or.inr rfl) rfl rfl ?_
  refine zw_istore_n (p := 13) (l2 := [some (.ref a0), some (.int (1 : Int32))]) (Or.inr rfl) rfl rfl rfl rfl ?_
  exact zw_end rfl rfl
def zx_Mo_readEnds_13 (E : zE0) (K : zKt) (a0 : Nat) (x1 : Int32) (M : zM) : zO :=
  if x1 = 0 then (some (none, M))
  else zif ((zK M a0).1 = 11)
  (zbV (E n_Mo_readTimes [.ref a0] M) fun M1 =>
  zif ((zK M1 a0).1 = 11)
  (if (zI M1 a0 18) ≠ 0 then (K 33 [some (.ref a0), none] [.int (0 : Int32)] M1)
  else K 33 [some (.ref a0), none] [.int (1 : Int32)] M1))
set_option maxRecDepth 20000 in
theorem zg_Mo_readEnds_13 (d : Nat) (a0 : Nat) (x1 : Int32) (M : zM) : zG d n_Mo_readEnds 13 [some (.ref a0), some (.int x1)] [] M = zx_Mo_readEnds_13 (zV d) (zG d n_Mo_readEnds) a0 x1 M := by
  refine (zG_sg (m := zm_Mo_readEnds) rfl 400 _ _ _ M).trans ?_
  show zw true zm_Mo_readEnds (zV d) (zG d n_Mo_readEnds) 400 13 [some (.ref a0), some (.int x1)] [] M = _
  unfold zx_Mo_readEnds_13
  refine zw_iload_n (p := 14) (Or.inl rfl) rfl rfl rfl ?_
  refine zw_if_eq (t := 144) (p := 17) (Or.inr rfl) rfl rfl rfl ?_ ?_
  · exact zw_return (Or.inr rfl) rfl rfl
  refine zw_aload_n (p := 18) (Or.inr rfl) rfl rfl rfl ?_
  refine zw_virtualV (p := 21) (as := [.ref a0]) (rest := []) (Or.inr rfl) rfl rfl rfl rfl rfl rfl rfl (fun M1 => ?_)
  refine zw_aload_n (p := 22) (Or.inr rfl) rfl rfl rfl ?_
  refine zw_get_int (p := 25) (Or.inr rfl) rfl rfl ?_
  refine zw_if_ne (t := 32) (p := 28) (Or.inr rfl) rfl rfl rfl ?_ ?_
  · refine zw_iconst (p := 33) (x := (0 : Int32)) (Or.inr rfl) rfl rfl rfl ?_
    exact zw_end rfl rfl
  refine zw_iconst (p := 29) (x := (1 : Int32)) (Or.inr rfl) rfl rfl rfl ?_
  refine zw_goto (t := 33) (Or.inr rfl) rfl rfl ?_
  exact zw_end rfl rfl
def zx_Mo_readEnds_33 (E : zE0) (K : zKt) (a0 : Nat) (s0 : Int32) (M : zM) : zO :=
  if s0 = 0 then (K 13 [some (.ref a0), some (.int s0)] [] M)
  else zif ((zK M a0).1 = 11)
  (zif ((zK M a0).1 = 11)
  (zbV (E n_Mo_chains [.ref a0, .int ((11 : Int32) + (zI M a0 37)), .int (0 : Int32)] M) fun M1 =>
  zif ((zK M1 a0).1 = 11)
  (if (zI M1 a0 37) ≤ 0 then (K 71 [some (.ref a0), none] [.int (0 : Int32)] M1)
  else zif ((zK M1 a0).1 = 11)
  (zbI (E n_Mo_isSign [.ref a0, .int (125 : Int32)] M1) fun u1 M2 =>
  if u1 = 0 then (K 71 [some (.ref a0), none] [.int (0 : Int32)] M2)
  else K 71 [some (.ref a0), none] [.int (1 : Int32)] M2))))
set_option maxRecDepth 20000 in
theorem zg_Mo_readEnds_33 (d : Nat) (a0 : Nat) (s0 : Int32) (M : zM) : zG d n_Mo_readEnds 33 [some (.ref a0), none] [.int s0] M = zx_Mo_readEnds_33 (zV d) (zG d n_Mo_readEnds) a0 s0 M := by
  refine (zG_sg (m := zm_Mo_readEnds) rfl 400 _ _ _ M).trans ?_
  show zw true zm_Mo_readEnds (zV d) (zG d n_Mo_readEnds) 400 33 [some (.ref a0), none] [.int s0] M = _
  unfold zx_Mo_readEnds_33
  refine zw_istore_n (p := 34) (l2 := [some (.ref a0), some (.int s0)]) (Or.inl rfl) rfl rfl rfl rfl ?_
  refine zw_iload_n (p := 35) (Or.inr rfl) rfl rfl rfl ?_
  refine zw_if_eq (t := 13) (p := 38) (Or.inr rfl) rfl rfl rfl ?_ ?_
  · exact zw_end rfl rfl
  refine zw_aload_n (p := 39) (Or.inr rfl) rfl rfl rfl ?_
  refine zw_bipush (p := 41) (x := (11 : Int32)) (Or.inr rfl) rfl rfl rfl ?_
  refine zw_aload_n (p := 42) (Or.inr rfl) rfl rfl rfl ?_
  refine zw_get_int (p := 45) (Or.inr rfl) rfl rfl ?_
  refine zw_iadd (p := 46) (Or.inr rfl) rfl rfl ?_
  refine zw_iconst (p := 47) (x := (0 : Int32)) (Or.inr rfl) rfl rfl rfl ?_
  refine zw_virtualV (p := 50) (as := [.ref a0, .int ((11 : Int32) + (zI M a0 37)), .int (0 : Int32)]) (rest := []) (Or.inr rfl) rfl rfl rfl rfl rfl rfl rfl (fun M1 => ?_)
  refine zw_aload_n (p := 51) (Or.inr rfl) rfl rfl rfl ?_
  refine zw_get_int (p := 54) (Or.inr rfl) rfl rfl ?_
  refine zw_if_le (t := 70) (p := 57) (Or.inr rfl) rfl rfl rfl ?_ ?_
  · refine zw_iconst (p := 71) (x := (0 : Int32)) (Or.inr rfl) rfl rfl rfl ?_
    exact zw_end rfl rfl
  refine zw_aload_n (p := 58) (Or.inr rfl) rfl rfl rfl ?_
  refine zw_bipush (p := 60) (x := (125 : Int32)) (Or.inr rfl) rfl rfl rfl ?_
  refine zw_virtualI (p := 63) (as := [.ref a0, .int (125 : Int32)]) (rest := []) (Or.inr rfl) rfl rfl rfl rfl rfl rfl rfl (fun u1 M2 => ?_)
  refine zw_if_eq (t := 70) (p := 66) (Or.inr rfl) rfl rfl rfl ?_ ?_
  · refine zw_iconst (p := 71) (x := (0 : Int32)) (Or.inr rfl) rfl rfl rfl ?_
    exact zw_end rfl rfl
  refine zw_iconst (p := 67) (x := (1 : Int32)) (Or.inr rfl) rfl rfl rfl ?_
  refine zw_goto (t := 71) (Or.inr rfl) rfl rfl ?_
  exact zw_end rfl rfl
def zx_Mo_readEnds_71 (E : zE0) (K : zKt) (a0 : Nat) (s0 : Int32) (M : zM) : zO :=
  if s0 = 0 then (K 13 [some (.ref a0), some (.int s0)] [] M)
  else zif ((zK M a0).1 = 11)
  (zif ((zK M a0).1 = 11)
  (zif ((zK M a0).1 = 11)
  (zbV (E n_Mo_chooses [.ref a0, .int ((1 : Int32) + (zI M a0 37)), .int ((11 : Int32) + (zI M a0 37))] M) fun M1 =>
  zif ((zK M1 a0).1 = 11)
  (zif ((zK M1 a0).1 = 11)
  (zbV (E n_Mo_takes [.ref a0, .int ((1 : Int32) + (zI M1 a0 37)), .int (0 : Int32)] M1) fun M2 =>
  zif ((zK M2 a0).1 = 11)
  (zif ((zK M2 a0).1 = 11)
  (zbm (zsI M2 a0 37 ((zI M2 a0 37) - (1 : Int32))) fun M3 =>
  zif ((zK M3 a0).1 = 11)
  (zif ((zK M3 a0).1 = 11)
  (zbm (zsI M3 a0 20 ((zI M3 a0 20) - (1 : Int32))) fun M4 =>
  zif ((zK M4 a0).1 = 11)
  (zbV (E n_Mo_reads [.ref a0] M4) fun M5 =>
  zif ((zK M5 a0).1 = 11)
  (if (zI M5 a0 18) ≠ 0 then (K 13 [some (.ref a0), some (.int (0 : Int32))] [] M5)
  else K 13 [some (.ref a0), some (.int (1 : Int32))] [] M5)))))))))))
set_option maxRecDepth 20000 in
theorem zg_Mo_readEnds_71 (d : Nat) (a0 : Nat) (s0 : Int32) (M : zM) : zG d n_Mo_readEnds 71 [some (.ref a0), none] [.int s0] M = zx_Mo_readEnds_71 (zV d) (zG d n_Mo_readEnds) a0 s0 M := by
  refine (zG_sg (m := zm_Mo_readEnds) rfl 400 _ _ _ M).trans ?_
  show zw true zm_Mo_readEnds (zV d) (zG d n_Mo_readEnds) 400 71 [some (.ref a0), none] [.int s0] M = _
  unfold zx_Mo_readEnds_71
  refine zw_istore_n (p := 72) (l2 := [some (.ref a0), some (.int s0)]) (Or.inl rfl) rfl rfl rfl rfl ?_
  refine zw_iload_n (p := 73) (Or.inr rfl) rfl rfl rfl ?_
  refine zw_if_eq (t := 13) (p := 76) (Or.inr rfl) rfl rfl rfl ?_ ?_
  · exact zw_end rfl rfl
  refine zw_aload_n (p := 77) (Or.inr rfl) rfl rfl rfl ?_
  refine zw_iconst (p := 78) (x := (1 : Int32)) (Or.inr rfl) rfl rfl rfl ?_
  refine zw_aload_n (p := 79) (Or.inr rfl) rfl rfl rfl ?_
  refine zw_get_int (p := 82) (Or.inr rfl) rfl rfl ?_
  refine zw_iadd (p := 83) (Or.inr rfl) rfl rfl ?_
  refine zw_bipush (p := 85) (x := (11 : Int32)) (Or.inr rfl) rfl rfl rfl ?_
  refine zw_aload_n (p := 86) (Or.inr rfl) rfl rfl rfl ?_
  refine zw_get_int (p := 89) (Or.inr rfl) rfl rfl ?_
  refine zw_iadd (p := 90) (Or.inr rfl) rfl rfl ?_
  refine zw_virtualV (p := 93) (as := [.ref a0, .int ((1 : Int32) + (zI M a0 37)), .int ((11 : Int32) + (zI M a0 37))]) (rest := []) (Or.inr rfl) rfl rfl rfl rfl rfl rfl rfl (fun M1 => ?_)
  refine zw_aload_n (p := 94) (Or.inr rfl) rfl rfl rfl ?_
  refine zw_iconst (p := 95) (x := (1 : Int32)) (Or.inr rfl) rfl rfl rfl ?_
  refine zw_aload_n (p := 96) (Or.inr rfl) rfl rfl rfl ?_
  refine zw_get_int (p := 99) (Or.inr rfl) rfl rfl ?_
  refine zw_iadd (p := 100) (Or.inr rfl) rfl rfl ?_
  refine zw_iconst (p := 101) (x := (0 : Int32)) (Or.inr rfl) rfl rfl rfl ?_
  refine zw_virtualV (p := 104) (as := [.ref a0, .int ((1 : Int32) + (zI M1 a0 37)), .int (0 : Int32)]) (rest := []) (Or.inr rfl) rfl rfl rfl rfl rfl rfl rfl (fun M2 => ?_)
  refine zw_aload_n (p := 105) (Or.inr rfl) rfl rfl rfl ?_
  refine zw_dup_ref (p := 106) (Or.inr rfl) rfl rfl ?_
  refine zw_get_int (p := 109) (Or.inr rfl) rfl rfl ?_
  refine zw_iconst (p := 110) (x := (1 : Int32)) (Or.inr rfl) rfl rfl rfl ?_
  refine zw_isub (p := 111) (Or.inr rfl) rfl rfl ?_
  refine zw_put_int (p := 114) (Or.inr rfl) rfl rfl (fun M3 => ?_)
  refine zw_aload_n (p := 115) (Or.inr rfl) rfl rfl rfl ?_
  refine zw_dup_ref (p := 116) (Or.inr rfl) rfl rfl ?_
  refine zw_get_int (p := 119) (Or.inr rfl) rfl rfl ?_
  refine zw_iconst (p := 120) (x := (1 : Int32)) (Or.inr rfl) rfl rfl rfl ?_
  refine zw_isub (p := 121) (Or.inr rfl) rfl rfl ?_
  refine zw_put_int (p := 124) (Or.inr rfl) rfl rfl (fun M4 => ?_)
  refine zw_aload_n (p := 125) (Or.inr rfl) rfl rfl rfl ?_
  refine zw_virtualV (p := 128) (as := [.ref a0]) (rest := []) (Or.inr rfl) rfl rfl rfl rfl rfl rfl rfl (fun M5 => ?_)
  refine zw_aload_n (p := 129) (Or.inr rfl) rfl rfl rfl ?_
  refine zw_get_int (p := 132) (Or.inr rfl) rfl rfl ?_
  refine zw_if_ne (t := 139) (p := 135) (Or.inr rfl) rfl rfl rfl ?_ ?_
  · refine zw_iconst (p := 140) (x := (0 : Int32)) (Or.inr rfl) rfl rfl rfl ?_
    refine zw_istore_n (p := 141) (l2 := [some (.ref a0), some (.int (0 : Int32))]) (Or.inr rfl) rfl rfl rfl rfl ?_
    refine zw_goto (t := 13) (Or.inr rfl) rfl rfl ?_
    exact zw_end rfl rfl
  refine zw_iconst (p := 136) (x := (1 : Int32)) (Or.inr rfl) rfl rfl rfl ?_
  refine zw_goto (t := 140) (Or.inr rfl) rfl rfl ?_
  refine zw_istore_n (p := 141) (l2 := [some (.ref a0), some (.int (1 : Int32))]) (Or.inr rfl) rfl rfl rfl rfl ?_
  refine zw_goto (t := 13) (Or.inr rfl) rfl rfl ?_
  exact zw_end rfl rfl
def zx_Mo_readSequence (E : zE0) (K : zKt) (a0 : Nat) (x1 : Int32) (M : zM) : zO :=
  zif ((zK M a0).1 = 11)
  (zbm (zsI M a0 38 x1) fun M1 =>
  zif ((zK M1 a0).1 = 11)
  (zbm (zsI M1 a0 37 (0 : Int32)) fun M2 =>
  zif ((zK M2 a0).1 = 11 ∧ ((0 : Int32) = 0 ∨ (0 : Int32) = 1))
  (zbm (zsI M2 a0 39 (0 : Int32)) fun M3 =>
  K 17 [some (.ref a0), some (.int x1), some (.int (0 : Int32))] [] M3)))
set_option maxRecDepth 20000 in
theorem ze_Mo_readSequence (d : Nat) (a0 : Nat) (x1 : Int32) (M : zM) : zV (d + 1) n_Mo_readSequence [.ref a0, .int x1] M = zx_Mo_readSequence (zV d) (zG d n_Mo_readSequence) a0 x1 M := by
  refine (zE_sg (m := zm_Mo_readSequence) rfl 400 _ rfl M).trans ?_
  show zw true zm_Mo_readSequence (zV d) (zG d n_Mo_readSequence) 400 0 [some (.ref a0), some (.int x1), none] [] M = _
  unfold zx_Mo_readSequence
  refine zw_aload_n (p := 1) (Or.inl rfl) rfl rfl rfl ?_
  refine zw_iload_n (p := 2) (Or.inr rfl) rfl rfl rfl ?_
  refine zw_put_int (p := 5) (Or.inr rfl) rfl rfl (fun M1 => ?_)
  refine zw_aload_n (p := 6) (Or.inr rfl) rfl rfl rfl ?_
  refine zw_iconst (p := 7) (x := (0 : Int32)) (Or.inr rfl) rfl rfl rfl ?_
  refine zw_put_int (p := 10) (Or.inr rfl) rfl rfl (fun M2 => ?_)
  refine zw_aload_n (p := 11) (Or.inr rfl) rfl rfl rfl ?_
  refine zw_iconst (p := 12) (x := (0 : Int32)) (Or.inr rfl) rfl rfl rfl ?_
  refine zw_put_boo (p := 15) (Or.inr rfl) rfl rfl (fun M3 => ?_)
  refine zw_iconst (p := 16) (x := (0 : Int32)) (Or.inr rfl) rfl rfl rfl ?_
  refine zw_istore_n (p := 17) (l2 := [some (.ref a0), some (.int x1), some (.int (0 : Int32))]) (Or.inr rfl) rfl rfl rfl rfl ?_
  exact zw_end rfl rfl
def zx_Mo_readSequence_17 (E : zE0) (K : zKt) (a0 : Nat) (x1 : Int32) (x2 : Int32) (M : zM) : zO :=
  if (45 : Int32) ≤ x2 then (K 43 [some (.ref a0), some (.int x1), some (.int (0 : Int32))] [] M)
  else zif ((zK M a0).1 = 11)
  (zoR (zR M a0 1) fun q1 =>
  zif ((zK M q1).1 = 20 ∧ zin (((45 : Int32) * x1) + x2) (zK M q1).2 = true)
  (zbm (zsI M q1 (Int32.toNatClampNeg (((45 : Int32) * x1) + x2)) (0 : Int32)) fun M1 =>
  zbi (x2 + (1 : Int32)) fun u1 =>
  K 17 [some (.ref a0), some (.int x1), some (.int u1)] [] M1))
set_option maxRecDepth 20000 in
theorem zg_Mo_readSequence_17 (d : Nat) (a0 : Nat) (x1 : Int32) (x2 : Int32) (M : zM) : zG d n_Mo_readSequence 17 [some (.ref a0), some (.int x1), some (.int x2)] [] M = zx_Mo_readSequence_17 (zV d) (zG d n_Mo_readSequence) a0 x1 x2 M := by
  refine (zG_sg (m := zm_Mo_readSequence) rfl 400 _ _ _ M).trans ?_
  show zw true zm_Mo_readSequence (zV d) (zG d n_Mo_readSequence) 400 17 [some (.ref a0), some (.int x1), some (.int x2)] [] M = _
  unfold zx_Mo_readSequence_17
  refine zw_iload_n (p := 18) (Or.inl rfl) rfl rfl rfl ?_
  refine zw_bipush (p := 20) (x := (45 : Int32)) (Or.inr rfl) rfl rfl rfl ?_
  refine zw_icmp_ge (t := 41) (p := 23) (Or.inr rfl) rfl rfl rfl ?_ ?_
  · refine zw_iconst (p := 42) (x := (0 : Int32)) (Or.inr rfl) rfl rfl rfl ?_
    refine zw_istore_n (p := 43) (l2 := [some (.ref a0), some (.int x1), some (.int (0 : Int32))]) (Or.inr rfl) rfl rfl rfl rfl ?_
    exact zw_end rfl rfl
  refine zw_aload_n (p := 24) (Or.inr rfl) rfl rfl rfl ?_
  refine zw_get_ref (p := 27) (Or.inr rfl) rfl rfl (fun q1 => ?_)
  refine zw_bipush (p := 29) (x := (45 : Int32)) (Or.inr rfl) rfl rfl rfl ?_
  refine zw_iload_n (p := 30) (Or.inr rfl) rfl rfl rfl ?_
  refine zw_imul (p := 31) (Or.inr rfl) rfl rfl ?_
  refine zw_iload_n (p := 32) (Or.inr rfl) rfl rfl rfl ?_
  refine zw_iadd (p := 33) (Or.inr rfl) rfl rfl ?_
  refine zw_iconst (p := 34) (x := (0 : Int32)) (Or.inr rfl) rfl rfl rfl ?_
  refine zw_iastore (p := 35) (Or.inr rfl) rfl rfl (fun M1 => ?_)
  refine zw_iinc (p := 38) (c := (1 : Int32)) (L2 := fun u1 => [some (.ref a0), some (.int x1), some (.int u1)]) (Or.inr rfl) rfl rfl rfl rfl (fun _ => rfl) rfl (fun u1 => ?_)
  refine zw_goto (t := 17) (Or.inr rfl) rfl rfl ?_
  exact zw_end rfl rfl
def zx_Mo_readSequence_43 (E : zE0) (K : zKt) (a0 : Nat) (x1 : Int32) (x2 : Int32) (M : zM) : zO :=
  if (203 : Int32) ≤ x2 then (zif ((zK M a0).1 = 11)
    (zbV (E n_Mo_opensSequence [.ref a0] M) fun M1 =>
    zif ((zK M1 a0).1 = 11)
    (if (zI M1 a0 18) ≠ 0 then (K 86 [some (.ref a0), some (.int x1), some (.int (0 : Int32))] [] M1)
    else K 86 [some (.ref a0), some (.int x1), some (.int (1 : Int32))] [] M1)))
  else zif ((zK M a0).1 = 11)
  (zoR (zR M a0 3) fun q1 =>
  zif ((zK M q1).1 = 23 ∧ zin (((203 : Int32) * x1) + x2) (zK M q1).2 = true)
  (zbm (zsL M q1 (Int32.toNatClampNeg (((203 : Int32) * x1) + x2)) (0 : Int64)) fun M2 =>
  zbi (x2 + (1 : Int32)) fun u1 =>
  K 43 [some (.ref a0), some (.int x1), some (.int u1)] [] M2))
set_option maxRecDepth 20000 in
theorem zg_Mo_readSequence_43 (d : Nat) (a0 : Nat) (x1 : Int32) (x2 : Int32) (M : zM) : zG d n_Mo_readSequence 43 [some (.ref a0), some (.int x1), some (.int x2)] [] M = zx_Mo_readSequence_43 (zV d) (zG d n_Mo_readSequence) a0 x1 x2 M := by
  refine (zG_sg (m := zm_Mo_readSequence) rfl 400 _ _ _ M).trans ?_
  show zw true zm_Mo_readSequence (zV d) (zG d n_Mo_readSequence) 400 43 [some (.ref a0), some (.int x1), some (.int x2)] [] M = _
  unfold zx_Mo_readSequence_43
  refine zw_iload_n (p := 44) (Or.inl rfl) rfl rfl rfl ?_
  refine zw_sipush (p := 47) (x := (203 : Int32)) (Or.inr rfl) rfl rfl rfl ?_
  refine zw_icmp_ge (t := 69) (p := 50) (Or.inr rfl) rfl rfl rfl ?_ ?_
  · refine zw_aload_n (p := 70) (Or.inr rfl) rfl rfl rfl ?_
    refine zw_virtualV (p := 73) (as := [.ref a0]) (rest := []) (Or.inr rfl) rfl rfl rfl rfl rfl rfl rfl (fun M1 => ?_)
    refine zw_aload_n (p := 74) (Or.inr rfl) rfl rfl rfl ?_
    refine zw_get_int (p := 77) (Or.inr rfl) rfl rfl ?_
    refine zw_if_ne (t := 84) (p := 80) (Or.inr rfl) rfl rfl rfl ?_ ?_
    · refine zw_iconst (p := 85) (x := (0 : Int32)) (Or.inr rfl) rfl rfl rfl ?_
      refine zw_istore_n (p := 86) (l2 := [some (.ref a0), some (.int x1), some (.int (0 : Int32))]) (Or.inr rfl) rfl rfl rfl rfl ?_
      exact zw_end rfl rfl
    refine zw_iconst (p := 81) (x := (1 : Int32)) (Or.inr rfl) rfl rfl rfl ?_
    refine zw_goto (t := 85) (Or.inr rfl) rfl rfl ?_
    refine zw_istore_n (p := 86) (l2 := [some (.ref a0), some (.int x1), some (.int (1 : Int32))]) (Or.inr rfl) rfl rfl rfl rfl ?_
    exact zw_end rfl rfl
  refine zw_aload_n (p := 51) (Or.inr rfl) rfl rfl rfl ?_
  refine zw_get_ref (p := 54) (Or.inr rfl) rfl rfl (fun q1 => ?_)
  refine zw_sipush (p := 57) (x := (203 : Int32)) (Or.inr rfl) rfl rfl rfl ?_
  refine zw_iload_n (p := 58) (Or.inr rfl) rfl rfl rfl ?_
  refine zw_imul (p := 59) (Or.inr rfl) rfl rfl ?_
  refine zw_iload_n (p := 60) (Or.inr rfl) rfl rfl rfl ?_
  refine zw_iadd (p := 61) (Or.inr rfl) rfl rfl ?_
  refine zw_lconst (p := 62) (x := (0 : Int64)) (Or.inr rfl) rfl rfl rfl ?_
  refine zw_lastore (p := 63) (Or.inr rfl) rfl rfl (fun M2 => ?_)
  refine zw_iinc (p := 66) (c := (1 : Int32)) (L2 := fun u1 => [some (.ref a0), some (.int x1), some (.int u1)]) (Or.inr rfl) rfl rfl rfl rfl (fun _ => rfl) rfl (fun u1 => ?_)
  refine zw_goto (t := 43) (Or.inr rfl) rfl rfl ?_
  exact zw_end rfl rfl
def zx_Mo_readSequence_86 (E : zE0) (K : zKt) (a0 : Nat) (x1 : Int32) (x2 : Int32) (M : zM) : zO :=
  if x2 = 0 then (zif ((zK M a0).1 = 11)
    (if (zI M a0 18) ≠ 0 then (zif ((zK M a0).1 = 11)
      (if (zI M a0 18) ≠ 0 then (some (none, M))
      else zif ((zK M a0).1 = 11)
      (zbV (E n_Mo_chooses [.ref a0, .int (1 : Int32), .int (11 : Int32)] M) fun M1 =>
      zif ((zK M1 a0).1 = 11)
      (zbV (E n_Mo_ends [.ref a0, .int x1] M1) fun M2 =>
      some (none, M2)))))
    else zif ((zK M a0).1 = 11)
    (if (zI M a0 37) ≠ 0 then (zif ((zK M a0).1 = 11)
      (zbV (E n_Mo_requires [.ref a0, .int (0 : Int32), .int (2 : Int32)] M) fun M3 =>
      zif ((zK M3 a0).1 = 11)
      (if (zI M3 a0 18) ≠ 0 then (some (none, M3))
      else zif ((zK M3 a0).1 = 11)
      (zbV (E n_Mo_chooses [.ref a0, .int (1 : Int32), .int (11 : Int32)] M3) fun M4 =>
      zif ((zK M4 a0).1 = 11)
      (zbV (E n_Mo_ends [.ref a0, .int x1] M4) fun M5 =>
      some (none, M5))))))
    else zif ((zK M a0).1 = 11)
    (zbV (E n_Mo_requires [.ref a0, .int (1 : Int32), .int (2 : Int32)] M) fun M6 =>
    zif ((zK M6 a0).1 = 11)
    (if (zI M6 a0 18) ≠ 0 then (some (none, M6))
    else zif ((zK M6 a0).1 = 11)
    (zbV (E n_Mo_chooses [.ref a0, .int (1 : Int32), .int (11 : Int32)] M6) fun M7 =>
    zif ((zK M7 a0).1 = 11)
    (zbV (E n_Mo_ends [.ref a0, .int x1] M7) fun M8 =>
    some (none, M8))))))))
  else zif ((zK M a0).1 = 11)
  (zbV (E n_Mo_readBegin [.ref a0] M) fun M9 =>
  zif ((zK M9 a0).1 = 11)
  (zbV (E n_Mo_readEnds [.ref a0] M9) fun M10 =>
  zif ((zK M10 a0).1 = 11)
  (zbI (E n_Mo_isSign [.ref a0, .int (44 : Int32)] M10) fun u1 M11 =>
  if u1 ≠ 0 then (K 121 [some (.ref a0), some (.int x1), none] [.int (1 : Int32)] M11)
  else zif ((zK M11 a0).1 = 11)
  (zbI (E n_Mo_isSign [.ref a0, .int (47 : Int32)] M11) fun u2 M12 =>
  if u2 = 0 then (K 121 [some (.ref a0), some (.int x1), none] [.int (0 : Int32)] M12)
  else K 121 [some (.ref a0), some (.int x1), none] [.int (1 : Int32)] M12))))
set_option maxRecDepth 20000 in
theorem zg_Mo_readSequence_86 (d : Nat) (a0 : Nat) (x1 : Int32) (x2 : Int32) (M : zM) : zG d n_Mo_readSequence 86 [some (.ref a0), some (.int x1), some (.int x2)] [] M = zx_Mo_readSequence_86 (zV d) (zG d n_Mo_readSequence) a0 x1 x2 M := by
  refine (zG_sg (m := zm_Mo_readSequence) rfl 400 _ _ _ M).trans ?_
  show zw true zm_Mo_readSequence (zV d) (zG d n_Mo_readSequence) 400 86 [some (.ref a0), some (.int x1), some (.int x2)] [] M = _
  unfold zx_Mo_readSequence_86
  refine zw_iload_n (p := 87) (Or.inl rfl) rfl rfl rfl ?_
  refine zw_if_eq (t := 185) (p := 90) (Or.inr rfl) rfl rfl rfl ?_ ?_
  · refine zw_aload_n (p := 186) (Or.inr rfl) rfl rfl rfl ?_
    refine zw_get_int (p := 189) (Or.inr rfl) rfl rfl ?_
    refine zw_if_ne (t := 209) (p := 192) (Or.inr rfl) rfl rfl rfl ?_ ?_
    · refine zw_aload_n (p := 210) (Or.inr rfl) rfl rfl rfl ?_
      refine zw_get_int (p := 213) (Or.inr rfl) rfl rfl ?_
      refine zw_if_ne (t := 228) (p := 216) (Or.inr rfl) rfl rfl rfl ?_ ?_
      · exact zw_return (Or.inr rfl) rfl rfl
      refine zw_aload_n (p := 217) (Or.inr rfl) rfl rfl rfl ?_
      refine zw_iconst (p := 218) (x := (1 : Int32)) (Or.inr rfl) rfl rfl rfl ?_
      refine zw_bipush (p := 220) (x := (11 : Int32)) (Or.inr rfl) rfl rfl rfl ?_
      refine zw_virtualV (p := 223) (as := [.ref a0, .int (1 : Int32), .int (11 : Int32)]) (rest := []) (Or.inr rfl) rfl rfl rfl rfl rfl rfl rfl (fun M1 => ?_)
      refine zw_aload_n (p := 224) (Or.inr rfl) rfl rfl rfl ?_
      refine zw_iload_n (p := 225) (Or.inr rfl) rfl rfl rfl ?_
      refine zw_virtualV (p := 228) (as := [.ref a0, .int x1]) (rest := []) (Or.inr rfl) rfl rfl rfl rfl rfl rfl rfl (fun M2 => ?_)
      exact zw_return (Or.inr rfl) rfl rfl
    refine zw_aload_n (p := 193) (Or.inr rfl) rfl rfl rfl ?_
    refine zw_aload_n (p := 194) (Or.inr rfl) rfl rfl rfl ?_
    refine zw_get_int (p := 197) (Or.inr rfl) rfl rfl ?_
    refine zw_if_ne (t := 204) (p := 200) (Or.inr rfl) rfl rfl rfl ?_ ?_
    · refine zw_iconst (p := 205) (x := (0 : Int32)) (Or.inr rfl) rfl rfl rfl ?_
      refine zw_iconst (p := 206) (x := (2 : Int32)) (Or.inr rfl) rfl rfl rfl ?_
      refine zw_virtualV (p := 209) (as := [.ref a0, .int (0 : Int32), .int (2 : Int32)]) (rest := []) (Or.inr rfl) rfl rfl rfl rfl rfl rfl rfl (fun M3 => ?_)
      refine zw_aload_n (p := 210) (Or.inr rfl) rfl rfl rfl ?_
      refine zw_get_int (p := 213) (Or.inr rfl) rfl rfl ?_
      refine zw_if_ne (t := 228) (p := 216) (Or.inr rfl) rfl rfl rfl ?_ ?_
      · exact zw_return (Or.inr rfl) rfl rfl
      refine zw_aload_n (p := 217) (Or.inr rfl) rfl rfl rfl ?_
      refine zw_iconst (p := 218) (x := (1 : Int32)) (Or.inr rfl) rfl rfl rfl ?_
      refine zw_bipush (p := 220) (x := (11 : Int32)) (Or.inr rfl) rfl rfl rfl ?_
      refine zw_virtualV (p := 223) (as := [.ref a0, .int (1 : Int32), .int (11 : Int32)]) (rest := []) (Or.inr rfl) rfl rfl rfl rfl rfl rfl rfl (fun M4 => ?_)
      refine zw_aload_n (p := 224) (Or.inr rfl) rfl rfl rfl ?_
      refine zw_iload_n (p := 225) (Or.inr rfl) rfl rfl rfl ?_
      refine zw_virtualV (p := 228) (as := [.ref a0, .int x1]) (rest := []) (Or.inr rfl) rfl rfl rfl rfl rfl rfl rfl (fun M5 => ?_)
      exact zw_return (Or.inr rfl) rfl rfl
    refine zw_iconst (p := 201) (x := (1 : Int32)) (Or.inr rfl) rfl rfl rfl ?_
    refine zw_goto (t := 205) (Or.inr rfl) rfl rfl ?_
    refine zw_iconst (p := 206) (x := (2 : Int32)) (Or.inr rfl) rfl rfl rfl ?_
    refine zw_virtualV (p := 209) (as := [.ref a0, .int (1 : Int32), .int (2 : Int32)]) (rest := []) (Or.inr rfl) rfl rfl rfl rfl rfl rfl rfl (fun M6 => ?_)
    refine zw_aload_n (p := 210) (Or.inr rfl) rfl rfl rfl ?_
    refine zw_get_int (p := 213) (Or.inr rfl) rfl rfl ?_
    refine zw_if_ne (t := 228) (p := 216) (Or.inr rfl) rfl rfl rfl ?_ ?_
    · exact zw_return (Or.inr rfl) rfl rfl
    refine zw_aload_n (p := 217) (Or.inr rfl) rfl rfl rfl ?_
    refine zw_iconst (p := 218) (x := (1 : Int32)) (Or.inr rfl) rfl rfl rfl ?_
    refine zw_bipush (p := 220) (x := (11 : Int32)) (Or.inr rfl) rfl rfl rfl ?_
    refine zw_virtualV (p := 223) (as := [.ref a0, .int (1 : Int32), .int (11 : Int32)]) (rest := []) (Or.inr rfl) rfl rfl rfl rfl rfl rfl rfl (fun M7 => ?_)
    refine zw_aload_n (p := 224) (Or.inr rfl) rfl rfl rfl ?_
    refine zw_iload_n (p := 225) (Or.inr rfl) rfl rfl rfl ?_
    refine zw_virtualV (p := 228) (as := [.ref a0, .int x1]) (rest := []) (Or.inr rfl) rfl rfl rfl rfl rfl rfl rfl (fun M8 => ?_)
    exact zw_return (Or.inr rfl) rfl rfl
  refine zw_aload_n (p := 91) (Or.inr rfl) rfl rfl rfl ?_
  refine zw_virtualV (p := 94) (as := [.ref a0]) (rest := []) (Or.inr rfl) rfl rfl rfl rfl rfl rfl rfl (fun M9 => ?_)
  refine zw_aload_n (p := 95) (Or.inr rfl) rfl rfl rfl ?_
  refine zw_virtualV (p := 98) (as := [.ref a0]) (rest := []) (Or.inr rfl) rfl rfl rfl rfl rfl rfl rfl (fun M10 => ?_)
  refine zw_aload_n (p := 99) (Or.inr rfl) rfl rfl rfl ?_
  refine zw_bipush (p := 101) (x := (44 : Int32)) (Or.inr rfl) rfl rfl rfl ?_
  refine zw_virtualI (p := 104) (as := [.ref a0, .int (44 : Int32)]) (rest := []) (Or.inr rfl) rfl rfl rfl rfl rfl rfl rfl (fun u1 M11 => ?_)
  refine zw_if_ne (t := 116) (p := 107) (Or.inr rfl) rfl rfl rfl ?_ ?_
  · refine zw_iconst (p := 117) (x := (1 : Int32)) (Or.inr rfl) rfl rfl rfl ?_
    refine zw_goto (t := 121) (Or.inr rfl) rfl rfl ?_
    exact zw_end rfl rfl
  refine zw_aload_n (p := 108) (Or.inr rfl) rfl rfl rfl ?_
  refine zw_bipush (p := 110) (x := (47 : Int32)) (Or.inr rfl) rfl rfl rfl ?_
  refine zw_virtualI (p := 113) (as := [.ref a0, .int (47 : Int32)]) (rest := []) (Or.inr rfl) rfl rfl rfl rfl rfl rfl rfl (fun u2 M12 => ?_)
  refine zw_if_eq (t := 120) (p := 116) (Or.inr rfl) rfl rfl rfl ?_ ?_
  · refine zw_iconst (p := 121) (x := (0 : Int32)) (Or.inr rfl) rfl rfl rfl ?_
    exact zw_end rfl rfl
  refine zw_iconst (p := 117) (x := (1 : Int32)) (Or.inr rfl) rfl rfl rfl ?_
  refine zw_goto (t := 121) (Or.inr rfl) rfl rfl ?_
  exact zw_end rfl rfl
def zx_Mo_readSequence_121 (E : zE0) (K : zKt) (a0 : Nat) (x1 : Int32) (s0 : Int32) (M : zM) : zO :=
  if s0 = 0 then (K 86 [some (.ref a0), some (.int x1), some (.int s0)] [] M)
  else zif ((zK M a0).1 = 11)
  (zbI (E n_Mo_isSign [.ref a0, .int (47 : Int32)] M) fun u1 M1 =>
  if u1 = 0 then (zif ((zK M1 a0).1 = 11)
    (zbV (E n_Mo_reads [.ref a0] M1) fun M2 =>
    zif ((zK M2 a0).1 = 11)
    (if (zI M2 a0 18) ≠ 0 then (K 86 [some (.ref a0), some (.int x1), some (.int (0 : Int32))] [] M2)
    else K 86 [some (.ref a0), some (.int x1), some (.int (1 : Int32))] [] M2)))
  else zif ((zK M1 a0).1 = 11)
  (zif ((zK M1 a0).1 = 11)
  (zif ((zK M1 a0).1 = 11)
  (zbV (E n_Mo_chooses [.ref a0, .int ((1 : Int32) + (zI M1 a0 37)), .int ((11 : Int32) + (zI M1 a0 37))] M1) fun M3 =>
  zif ((zK M3 a0).1 = 11)
  (zoR (zR M3 a0 36) fun q1 =>
  zif ((zK M3 a0).1 = 11)
  (zbast M3 q1 ((11 : Int32) + (zI M3 a0 37)) (0 : Int32) fun M4 =>
  zif ((zK M4 a0).1 = 11)
  (zbV (E n_Mo_reads [.ref a0] M4) fun M5 =>
  zif ((zK M5 a0).1 = 11)
  (if (zI M5 a0 18) ≠ 0 then (K 86 [some (.ref a0), some (.int x1), some (.int (0 : Int32))] [] M5)
  else K 86 [some (.ref a0), some (.int x1), some (.int (1 : Int32))] [] M5))))))))
set_option maxRecDepth 20000 in
theorem zg_Mo_readSequence_121 (d : Nat) (a0 : Nat) (x1 : Int32) (s0 : Int32) (M : zM) : zG d n_Mo_readSequence 121 [some (.ref a0), some (.int x1), none] [.int s0] M = zx_Mo_readSequence_121 (zV d) (zG d n_Mo_readSequence) a0 x1 s0 M := by
  refine (zG_sg (m := zm_Mo_readSequence) rfl 400 _ _ _ M).trans ?_
  show zw true zm_Mo_readSequence (zV d) (zG d n_Mo_readSequence) 400 121 [some (.ref a0), some (.int x1), none] [.int s0] M = _
  unfold zx_Mo_readSequence_121
  refine zw_istore_n (p := 122) (l2 := [some (.ref a0), some (.int x1), some (.int s0)]) (Or.inl rfl) rfl rfl rfl rfl ?_
  refine zw_iload_n (p := 123) (Or.inr rfl) rfl rfl rfl ?_
  refine zw_if_eq (t := 86) (p := 126) (Or.inr rfl) rfl rfl rfl ?_ ?_
  · exact zw_end rfl rfl
  refine zw_aload_n (p := 127) (Or.inr rfl) rfl rfl rfl ?_
  refine zw_bipush (p := 129) (x := (47 : Int32)) (Or.inr rfl) rfl rfl rfl ?_
  refine zw_virtualI (p := 132) (as := [.ref a0, .int (47 : Int32)]) (rest := []) (Or.inr rfl) rfl rfl rfl rfl rfl rfl rfl (fun u1 M1 => ?_)
  refine zw_if_eq (t := 165) (p := 135) (Or.inr rfl) rfl rfl rfl ?_ ?_
  · refine zw_aload_n (p := 166) (Or.inr rfl) rfl rfl rfl ?_
    refine zw_virtualV (p := 169) (as := [.ref a0]) (rest := []) (Or.inr rfl) rfl rfl rfl rfl rfl rfl rfl (fun M2 => ?_)
    refine zw_aload_n (p := 170) (Or.inr rfl) rfl rfl rfl ?_
    refine zw_get_int (p := 173) (Or.inr rfl) rfl rfl ?_
    refine zw_if_ne (t := 180) (p := 176) (Or.inr rfl) rfl rfl rfl ?_ ?_
    · refine zw_iconst (p := 181) (x := (0 : Int32)) (Or.inr rfl) rfl rfl rfl ?_
      refine zw_istore_n (p := 182) (l2 := [some (.ref a0), some (.int x1), some (.int (0 : Int32))]) (Or.inr rfl) rfl rfl rfl rfl ?_
      refine zw_goto (t := 86) (Or.inr rfl) rfl rfl ?_
      exact zw_end rfl rfl
    refine zw_iconst (p := 177) (x := (1 : Int32)) (Or.inr rfl) rfl rfl rfl ?_
    refine zw_goto (t := 181) (Or.inr rfl) rfl rfl ?_
    refine zw_istore_n (p := 182) (l2 := [some (.ref a0), some (.int x1), some (.int (1 : Int32))]) (Or.inr rfl) rfl rfl rfl rfl ?_
    refine zw_goto (t := 86) (Or.inr rfl) rfl rfl ?_
    exact zw_end rfl rfl
  refine zw_aload_n (p := 136) (Or.inr rfl) rfl rfl rfl ?_
  refine zw_iconst (p := 137) (x := (1 : Int32)) (Or.inr rfl) rfl rfl rfl ?_
  refine zw_aload_n (p := 138) (Or.inr rfl) rfl rfl rfl ?_
  refine zw_get_int (p := 141) (Or.inr rfl) rfl rfl ?_
  refine zw_iadd (p := 142) (Or.inr rfl) rfl rfl ?_
  refine zw_bipush (p := 144) (x := (11 : Int32)) (Or.inr rfl) rfl rfl rfl ?_
  refine zw_aload_n (p := 145) (Or.inr rfl) rfl rfl rfl ?_
  refine zw_get_int (p := 148) (Or.inr rfl) rfl rfl ?_
  refine zw_iadd (p := 149) (Or.inr rfl) rfl rfl ?_
  refine zw_virtualV (p := 152) (as := [.ref a0, .int ((1 : Int32) + (zI M1 a0 37)), .int ((11 : Int32) + (zI M1 a0 37))]) (rest := []) (Or.inr rfl) rfl rfl rfl rfl rfl rfl rfl (fun M3 => ?_)
  refine zw_aload_n (p := 153) (Or.inr rfl) rfl rfl rfl ?_
  refine zw_get_ref (p := 156) (Or.inr rfl) rfl rfl (fun q1 => ?_)
  refine zw_bipush (p := 158) (x := (11 : Int32)) (Or.inr rfl) rfl rfl rfl ?_
  refine zw_aload_n (p := 159) (Or.inr rfl) rfl rfl rfl ?_
  refine zw_get_int (p := 162) (Or.inr rfl) rfl rfl ?_
  refine zw_iadd (p := 163) (Or.inr rfl) rfl rfl ?_
  refine zw_iconst (p := 164) (x := (0 : Int32)) (Or.inr rfl) rfl rfl rfl ?_
  refine zw_bastore (p := 165) (Or.inr rfl) rfl rfl (fun M4 => ?_)
  refine zw_aload_n (p := 166) (Or.inr rfl) rfl rfl rfl ?_
  refine zw_virtualV (p := 169) (as := [.ref a0]) (rest := []) (Or.inr rfl) rfl rfl rfl rfl rfl rfl rfl (fun M5 => ?_)
  refine zw_aload_n (p := 170) (Or.inr rfl) rfl rfl rfl ?_
  refine zw_get_int (p := 173) (Or.inr rfl) rfl rfl ?_
  refine zw_if_ne (t := 180) (p := 176) (Or.inr rfl) rfl rfl rfl ?_ ?_
  · refine zw_iconst (p := 181) (x := (0 : Int32)) (Or.inr rfl) rfl rfl rfl ?_
    refine zw_istore_n (p := 182) (l2 := [some (.ref a0), some (.int x1), some (.int (0 : Int32))]) (Or.inr rfl) rfl rfl rfl rfl ?_
    refine zw_goto (t := 86) (Or.inr rfl) rfl rfl ?_
    exact zw_end rfl rfl
  refine zw_iconst (p := 177) (x := (1 : Int32)) (Or.inr rfl) rfl rfl rfl ?_
  refine zw_goto (t := 181) (Or.inr rfl) rfl rfl ?_
  refine zw_istore_n (p := 182) (l2 := [some (.ref a0), some (.int x1), some (.int (1 : Int32))]) (Or.inr rfl) rfl rfl rfl rfl ?_
  refine zw_goto (t := 86) (Or.inr rfl) rfl rfl ?_
  exact zw_end rfl rfl
def zx_Mo_isFulfillable (E : zE0) (K : zKt) (a0 : Nat) (x1 : Int32) (x2 : Int32) (M : zM) : zO :=
  zif ((zK M a0).1 = 11)
  (zoR (zR M a0 1) fun q1 =>
  zif (((zK M q1).1 = 20 ∨ (zK M q1).1 = 24) ∧ zin ((((45 : Int32) * x1) + (5 : Int32)) + x2) (zK M q1).2 = true)
  (zbi ((((203 : Int32) * x1) + (43 : Int32)) + ((4 : Int32) * (zI M q1 (Int32.toNatClampNeg ((((45 : Int32) * x1) + (5 : Int32)) + x2))))) fun u1 =>
  K 31 [some (.ref a0), none, none, some (.int (0 : Int32)), some (.int u1), some (.int (0 : Int32))] [] M))
set_option maxRecDepth 20000 in
theorem ze_Mo_isFulfillable (d : Nat) (a0 : Nat) (x1 : Int32) (x2 : Int32) (M : zM) : zV (d + 1) n_Mo_isFulfillable [.ref a0, .int x1, .int x2] M = zx_Mo_isFulfillable (zV d) (zG d n_Mo_isFulfillable) a0 x1 x2 M := by
  refine (zE_sg (m := zm_Mo_isFulfillable) rfl 400 _ rfl M).trans ?_
  show zw true zm_Mo_isFulfillable (zV d) (zG d n_Mo_isFulfillable) 400 0 [some (.ref a0), some (.int x1), some (.int x2), none, none, none] [] M = _
  unfold zx_Mo_isFulfillable
  refine zw_iconst (p := 1) (x := (0 : Int32)) (Or.inl rfl) rfl rfl rfl ?_
  refine zw_istore_n (p := 2) (l2 := [some (.ref a0), some (.int x1), some (.int x2), some (.int (0 : Int32)), none, none]) (Or.inr rfl) rfl rfl rfl rfl ?_
  refine zw_sipush (p := 5) (x := (203 : Int32)) (Or.inr rfl) rfl rfl rfl ?_
  refine zw_iload_n (p := 6) (Or.inr rfl) rfl rfl rfl ?_
  refine zw_imul (p := 7) (Or.inr rfl) rfl rfl ?_
  refine zw_bipush (p := 9) (x := (43 : Int32)) (Or.inr rfl) rfl rfl rfl ?_
  refine zw_iadd (p := 10) (Or.inr rfl) rfl rfl ?_
  refine zw_iconst (p := 11) (x := (4 : Int32)) (Or.inr rfl) rfl rfl rfl ?_
  refine zw_aload_n (p := 12) (Or.inr rfl) rfl rfl rfl ?_
  refine zw_get_ref (p := 15) (Or.inr rfl) rfl rfl (fun q1 => ?_)
  refine zw_bipush (p := 17) (x := (45 : Int32)) (Or.inr rfl) rfl rfl rfl ?_
  refine zw_iload_n (p := 18) (Or.inr rfl) rfl rfl rfl ?_
  refine zw_imul (p := 19) (Or.inr rfl) rfl rfl ?_
  refine zw_iconst (p := 20) (x := (5 : Int32)) (Or.inr rfl) rfl rfl rfl ?_
  refine zw_iadd (p := 21) (Or.inr rfl) rfl rfl ?_
  refine zw_iload_n (p := 22) (Or.inr rfl) rfl rfl rfl ?_
  refine zw_iadd (p := 23) (Or.inr rfl) rfl rfl ?_
  refine zw_iaload (p := 24) (Or.inr rfl) rfl rfl ?_
  refine zw_imul (p := 25) (Or.inr rfl) rfl rfl ?_
  refine zw_iadd (p := 26) (Or.inr rfl) rfl rfl ?_
  refine zw_istoreN (p := 28) (L2 := fun u1 => [some (.ref a0), some (.int x1), some (.int x2), some (.int (0 : Int32)), some (.int u1), none]) (Or.inr rfl) rfl rfl (fun _ => rfl) rfl (fun u1 => ?_)
  refine zw_iconst (p := 29) (x := (0 : Int32)) (Or.inr rfl) rfl rfl rfl ?_
  refine zw_istore (p := 31) (l2 := [some (.ref a0), some (.int x1), some (.int x2), some (.int (0 : Int32)), some (.int u1), some (.int (0 : Int32))]) (Or.inr rfl) rfl rfl rfl rfl ?_
  exact zw_end rfl rfl
def zx_Mo_isFulfillable_31 (E : zE0) (K : zKt) (a0 : Nat) (x3 : Int32) (x4 : Int32) (x5 : Int32) (M : zM) : zO :=
  if (4 : Int32) ≤ x5 then (zif (x3 = 0 ∨ x3 = 1) (some (some (.int x3), M)))
  else if x3 ≠ 0 then (zbi (x5 + (1 : Int32)) fun u1 =>
    K 31 [some (.ref a0), none, none, some (.int (1 : Int32)), some (.int x4), some (.int u1)] [] M)
  else zif ((zK M a0).1 = 11)
  (zoR (zR M a0 3) fun q1 =>
  zif (((zK M q1).1 = 23 ∨ (zK M q1).1 = 25) ∧ zin (x4 + x5) (zK M q1).2 = true)
  (if (lg_cmp (zL M q1 (Int32.toNatClampNeg (x4 + x5))) (0 : Int64)) = 0 then (zbi (x5 + (1 : Int32)) fun u2 =>
    K 31 [some (.ref a0), none, none, some (.int (0 : Int32)), some (.int x4), some (.int u2)] [] M)
  else zbi (x5 + (1 : Int32)) fun u3 =>
  K 31 [some (.ref a0), none, none, some (.int (1 : Int32)), some (.int x4), some (.int u3)] [] M))
set_option maxRecDepth 20000 in
theorem zg_Mo_isFulfillable_31 (d : Nat) (a0 : Nat) (x3 : Int32) (x4 : Int32) (x5 : Int32) (M : zM) : zG d n_Mo_isFulfillable 31 [some (.ref a0), none, none, some (.int x3), some (.int x4), some (.int x5)] [] M = zx_Mo_isFulfillable_31 (zV d) (zG d n_Mo_isFulfillable) a0 x3 x4 x5 M := by
  refine (zG_sg (m := zm_Mo_isFulfillable) rfl 400 _ _ _ M).trans ?_
  show zw true zm_Mo_isFulfillable (zV d) (zG d n_Mo_isFulfillable) 400 31 [some (.ref a0), none, none, some (.int x3), some (.int x4), some (.int x5)] [] M = _
  unfold zx_Mo_isFulfillable_31
  refine zw_iload (p := 33) (Or.inl rfl) rfl rfl rfl ?_
  refine zw_iconst (p := 34) (x := (4 : Int32)) (Or.inr rfl) rfl rfl rfl ?_
  refine zw_icmp_ge (t := 68) (p := 37) (Or.inr rfl) rfl rfl rfl ?_ ?_
  · refine zw_iload_n (p := 69) (Or.inr rfl) rfl rfl rfl ?_
    exact zw_ireturn2 (Or.inr rfl) rfl rfl
  refine zw_iload_n (p := 38) (Or.inr rfl) rfl rfl rfl ?_
  refine zw_if_ne (t := 56) (p := 41) (Or.inr rfl) rfl rfl rfl ?_ ?_
  · refine zw_iconst (p := 57) (x := (1 : Int32)) (Or.inr rfl) rfl rfl rfl ?_
    refine zw_goto (t := 61) (Or.inr rfl) rfl rfl ?_
    refine zw_istore_n (p := 62) (l2 := [some (.ref a0), none, none, some (.int (1 : Int32)), some (.int x4), some (.int x5)]) (Or.inr rfl) rfl rfl rfl rfl ?_
    refine zw_iinc (p := 65) (c := (1 : Int32)) (L2 := fun u1 => [some (.ref a0), none, none, some (.int (1 : Int32)), some (.int x4), some (.int u1)]) (Or.inr rfl) rfl rfl rfl rfl (fun _ => rfl) rfl (fun u1 => ?_)
    refine zw_goto (t := 31) (Or.inr rfl) rfl rfl ?_
    exact zw_end rfl rfl
  refine zw_aload_n (p := 42) (Or.inr rfl) rfl rfl rfl ?_
  refine zw_get_ref (p := 45) (Or.inr rfl) rfl rfl (fun q1 => ?_)
  refine zw_iload (p := 47) (Or.inr rfl) rfl rfl rfl ?_
  refine zw_iload (p := 49) (Or.inr rfl) rfl rfl rfl ?_
  refine zw_iadd (p := 50) (Or.inr rfl) rfl rfl ?_
  refine zw_laload (p := 51) (Or.inr rfl) rfl rfl ?_
  refine zw_lconst (p := 52) (x := (0 : Int64)) (Or.inr rfl) rfl rfl rfl ?_
  refine zw_lcmp (p := 53) (Or.inr rfl) rfl rfl ?_
  refine zw_if_eq (t := 60) (p := 56) (Or.inr rfl) rfl rfl rfl ?_ ?_
  · refine zw_iconst (p := 61) (x := (0 : Int32)) (Or.inr rfl) rfl rfl rfl ?_
    refine zw_istore_n (p := 62) (l2 := [some (.ref a0), none, none, some (.int (0 : Int32)), some (.int x4), some (.int x5)]) (Or.inr rfl) rfl rfl rfl rfl ?_
    refine zw_iinc (p := 65) (c := (1 : Int32)) (L2 := fun u2 => [some (.ref a0), none, none, some (.int (0 : Int32)), some (.int x4), some (.int u2)]) (Or.inr rfl) rfl rfl rfl rfl (fun _ => rfl) rfl (fun u2 => ?_)
    refine zw_goto (t := 31) (Or.inr rfl) rfl rfl ?_
    exact zw_end rfl rfl
  refine zw_iconst (p := 57) (x := (1 : Int32)) (Or.inr rfl) rfl rfl rfl ?_
  refine zw_goto (t := 61) (Or.inr rfl) rfl rfl ?_
  refine zw_istore_n (p := 62) (l2 := [some (.ref a0), none, none, some (.int (1 : Int32)), some (.int x4), some (.int x5)]) (Or.inr rfl) rfl rfl rfl rfl ?_
  refine zw_iinc (p := 65) (c := (1 : Int32)) (L2 := fun u3 => [some (.ref a0), none, none, some (.int (1 : Int32)), some (.int x4), some (.int u3)]) (Or.inr rfl) rfl rfl rfl rfl (fun _ => rfl) rfl (fun u3 => ?_)
  refine zw_goto (t := 31) (Or.inr rfl) rfl rfl ?_
  exact zw_end rfl rfl
def zx_Mo_ends (E : zE0) (K : zKt) (a0 : Nat) (x1 : Int32) (M : zM) : zO :=
  zbi ((203 : Int32) * x1) fun u1 =>
  zif ((zK M a0).1 = 11)
  (zoR (zR M a0 3) fun q1 =>
  zif ((zK M a0).1 = 11)
  (zoR (zR M a0 30) fun q2 =>
  zif (((zK M q2).1 = 23 ∨ (zK M q2).1 = 25) ∧ zin (1 : Int32) (zK M q2).2 = true)
  (zif ((zK M q1).1 = 23 ∧ zin (u1 + (0 : Int32)) (zK M q1).2 = true)
  (zbm (zsL M q1 (Int32.toNatClampNeg (u1 + (0 : Int32))) (zL M q2 (Int32.toNatClampNeg (1 : Int32)))) fun M1 =>
  zif ((zK M1 a0).1 = 11)
  (zoR (zR M1 a0 3) fun q3 =>
  zif ((zK M1 a0).1 = 11)
  (zoR (zR M1 a0 31) fun q4 =>
  zif (((zK M1 q4).1 = 23 ∨ (zK M1 q4).1 = 25) ∧ zin (1 : Int32) (zK M1 q4).2 = true)
  (zif ((zK M1 q3).1 = 23 ∧ zin (u1 + (1 : Int32)) (zK M1 q3).2 = true)
  (zbm (zsL M1 q3 (Int32.toNatClampNeg (u1 + (1 : Int32))) (zL M1 q4 (Int32.toNatClampNeg (1 : Int32)))) fun M2 =>
  zif ((zK M2 a0).1 = 11)
  (zoR (zR M2 a0 1) fun q5 =>
  zif ((zK M2 a0).1 = 11)
  (zoR (zR M2 a0 33) fun q6 =>
  zif (((zK M2 q6).1 = 20 ∨ (zK M2 q6).1 = 24) ∧ zin (1 : Int32) (zK M2 q6).2 = true)
  (zif ((zK M2 q5).1 = 20 ∧ zin (((45 : Int32) * x1) + (2 : Int32)) (zK M2 q5).2 = true)
  (zbm (zsI M2 q5 (Int32.toNatClampNeg (((45 : Int32) * x1) + (2 : Int32))) (zI M2 q6 (Int32.toNatClampNeg (1 : Int32)))) fun M3 =>
  zif ((zK M3 a0).1 = 11)
  (zoR (zR M3 a0 1) fun q7 =>
  zif ((zK M3 a0).1 = 11)
  (zoR (zR M3 a0 34) fun q8 =>
  zif (((zK M3 q8).1 = 20 ∨ (zK M3 q8).1 = 24) ∧ zin (1 : Int32) (zK M3 q8).2 = true)
  (zif ((zK M3 q7).1 = 20 ∧ zin (((45 : Int32) * x1) + (3 : Int32)) (zK M3 q7).2 = true)
  (zbm (zsI M3 q7 (Int32.toNatClampNeg (((45 : Int32) * x1) + (3 : Int32))) (zI M3 q8 (Int32.toNatClampNeg (1 : Int32)))) fun M4 =>
  zif ((zK M4 a0).1 = 11)
  (zoR (zR M4 a0 1) fun q9 =>
  zif ((zK M4 a0).1 = 11)
  (zoR (zR M4 a0 35) fun q10 =>
  zif (((zK M4 q10).1 = 20 ∨ (zK M4 q10).1 = 24) ∧ zin (1 : Int32) (zK M4 q10).2 = true)
  (zif ((zK M4 q9).1 = 20 ∧ zin (((45 : Int32) * x1) + (4 : Int32)) (zK M4 q9).2 = true)
  (zbm (zsI M4 q9 (Int32.toNatClampNeg (((45 : Int32) * x1) + (4 : Int32))) (zI M4 q10 (Int32.toNatClampNeg (1 : Int32)))) fun M5 =>
  K 90 [some (.ref a0), some (.int x1), some (.int u1), some (.long (0 : Int64)), none, some (.int (0 : Int32)), none, none] [] M5))))))))))))))))))))
set_option maxRecDepth 20000 in
theorem ze_Mo_ends (d : Nat) (a0 : Nat) (x1 : Int32) (M : zM) : zV (d + 1) n_Mo_ends [.ref a0, .int x1] M = zx_Mo_ends (zV d) (zG d n_Mo_ends) a0 x1 M := by
  refine (zE_sg (m := zm_Mo_ends) rfl 400 _ rfl M).trans ?_
  show zw true zm_Mo_ends (zV d) (zG d n_Mo_ends) 400 0 [some (.ref a0), some (.int x1), none, none, none, none, none, none] [] M = _
  unfold zx_Mo_ends
  refine zw_sipush (p := 3) (x := (203 : Int32)) (Or.inl rfl) rfl rfl rfl ?_
  refine zw_iload_n (p := 4) (Or.inr rfl) rfl rfl rfl ?_
  refine zw_imul (p := 5) (Or.inr rfl) rfl rfl ?_
  refine zw_istore_nN (p := 6) (L2 := fun u1 => [some (.ref a0), some (.int x1), some (.int u1), none, none, none, none, none]) (Or.inr rfl) rfl rfl (fun _ => rfl) rfl (fun u1 => ?_)
  refine zw_aload_n (p := 7) (Or.inr rfl) rfl rfl rfl ?_
  refine zw_get_ref (p := 10) (Or.inr rfl) rfl rfl (fun q1 => ?_)
  refine zw_iload_n (p := 11) (Or.inr rfl) rfl rfl rfl ?_
  refine zw_iconst (p := 12) (x := (0 : Int32)) (Or.inr rfl) rfl rfl rfl ?_
  refine zw_iadd (p := 13) (Or.inr rfl) rfl rfl ?_
  refine zw_aload_n (p := 14) (Or.inr rfl) rfl rfl rfl ?_
  refine zw_get_ref (p := 17) (Or.inr rfl) rfl rfl (fun q2 => ?_)
  refine zw_iconst (p := 18) (x := (1 : Int32)) (Or.inr rfl) rfl rfl rfl ?_
  refine zw_laload (p := 19) (Or.inr rfl) rfl rfl ?_
  refine zw_lastore (p := 20) (Or.inr rfl) rfl rfl (fun M1 => ?_)
  refine zw_aload_n (p := 21) (Or.inr rfl) rfl rfl rfl ?_
  refine zw_get_ref (p := 24) (Or.inr rfl) rfl rfl (fun q3 => ?_)
  refine zw_iload_n (p := 25) (Or.inr rfl) rfl rfl rfl ?_
  refine zw_iconst (p := 26) (x := (1 : Int32)) (Or.inr rfl) rfl rfl rfl ?_
  refine zw_iadd (p := 27) (Or.inr rfl) rfl rfl ?_
  refine zw_aload_n (p := 28) (Or.inr rfl) rfl rfl rfl ?_
  refine zw_get_ref (p := 31) (Or.inr rfl) rfl rfl (fun q4 => ?_)
  refine zw_iconst (p := 32) (x := (1 : Int32)) (Or.inr rfl) rfl rfl rfl ?_
  refine zw_laload (p := 33) (Or.inr rfl) rfl rfl ?_
  refine zw_lastore (p := 34) (Or.inr rfl) rfl rfl (fun M2 => ?_)
  refine zw_aload_n (p := 35) (Or.inr rfl) rfl rfl rfl ?_
  refine zw_get_ref (p := 38) (Or.inr rfl) rfl rfl (fun q5 => ?_)
  refine zw_bipush (p := 40) (x := (45 : Int32)) (Or.inr rfl) rfl rfl rfl ?_
  refine zw_iload_n (p := 41) (Or.inr rfl) rfl rfl rfl ?_
  refine zw_imul (p := 42) (Or.inr rfl) rfl rfl ?_
  refine zw_iconst (p := 43) (x := (2 : Int32)) (Or.inr rfl) rfl rfl rfl ?_
  refine zw_iadd (p := 44) (Or.inr rfl) rfl rfl ?_
  refine zw_aload_n (p := 45) (Or.inr rfl) rfl rfl rfl ?_
  refine zw_get_ref (p := 48) (Or.inr rfl) rfl rfl (fun q6 => ?_)
  refine zw_iconst (p := 49) (x := (1 : Int32)) (Or.inr rfl) rfl rfl rfl ?_
  refine zw_iaload (p := 50) (Or.inr rfl) rfl rfl ?_
  refine zw_iastore (p := 51) (Or.inr rfl) rfl rfl (fun M3 => ?_)
  refine zw_aload_n (p := 52) (Or.inr rfl) rfl rfl rfl ?_
  refine zw_get_ref (p := 55) (Or.inr rfl) rfl rfl (fun q7 => ?_)
  refine zw_bipush (p := 57) (x := (45 : Int32)) (Or.inr rfl) rfl rfl rfl ?_
  refine zw_iload_n (p := 58) (Or.inr rfl) rfl rfl rfl ?_
  refine zw_imul (p := 59) (Or.inr rfl) rfl rfl ?_
  refine zw_iconst (p := 60) (x := (3 : Int32)) (Or.inr rfl) rfl rfl rfl ?_
  refine zw_iadd (p := 61) (Or.inr rfl) rfl rfl ?_
  refine zw_aload_n (p := 62) (Or.inr rfl) rfl rfl rfl ?_
  refine zw_get_ref (p := 65) (Or.inr rfl) rfl rfl (fun q8 => ?_)
  refine zw_iconst (p := 66) (x := (1 : Int32)) (Or.inr rfl) rfl rfl rfl ?_
  refine zw_iaload (p := 67) (Or.inr rfl) rfl rfl ?_
  refine zw_iastore (p := 68) (Or.inr rfl) rfl rfl (fun M4 => ?_)
  refine zw_aload_n (p := 69) (Or.inr rfl) rfl rfl rfl ?_
  refine zw_get_ref (p := 72) (Or.inr rfl) rfl rfl (fun q9 => ?_)
  refine zw_bipush (p := 74) (x := (45 : Int32)) (Or.inr rfl) rfl rfl rfl ?_
  refine zw_iload_n (p := 75) (Or.inr rfl) rfl rfl rfl ?_
  refine zw_imul (p := 76) (Or.inr rfl) rfl rfl ?_
  refine zw_iconst (p := 77) (x := (4 : Int32)) (Or.inr rfl) rfl rfl rfl ?_
  refine zw_iadd (p := 78) (Or.inr rfl) rfl rfl ?_
  refine zw_aload_n (p := 79) (Or.inr rfl) rfl rfl rfl ?_
  refine zw_get_ref (p := 82) (Or.inr rfl) rfl rfl (fun q10 => ?_)
  refine zw_iconst (p := 83) (x := (1 : Int32)) (Or.inr rfl) rfl rfl rfl ?_
  refine zw_iaload (p := 84) (Or.inr rfl) rfl rfl ?_
  refine zw_iastore (p := 85) (Or.inr rfl) rfl rfl (fun M5 => ?_)
  refine zw_lconst (p := 86) (x := (0 : Int64)) (Or.inr rfl) rfl rfl rfl ?_
  refine zw_lstore_n (p := 87) (l2 := [some (.ref a0), some (.int x1), some (.int u1), some (.long (0 : Int64)), none, none, none, none]) (Or.inr rfl) rfl rfl rfl rfl ?_
  refine zw_iconst (p := 88) (x := (0 : Int32)) (Or.inr rfl) rfl rfl rfl ?_
  refine zw_istore (p := 90) (l2 := [some (.ref a0), some (.int x1), some (.int u1), some (.long (0 : Int64)), none, some (.int (0 : Int32)), none, none]) (Or.inr rfl) rfl rfl rfl rfl ?_
  exact zw_end rfl rfl
def zx_Mo_ends_90 (E : zE0) (K : zKt) (a0 : Nat) (x1 : Int32) (x2 : Int32) (l3 : Int64) (x5 : Int32) (M : zM) : zO :=
  if (40 : Int32) ≤ x5 then (zif ((zK M a0).1 = 11)
    (zoR (zR M a0 3) fun q1 =>
    zif ((zK M q1).1 = 23 ∧ zin (x2 + (2 : Int32)) (zK M q1).2 = true)
    (zbm (zsL M q1 (Int32.toNatClampNeg (x2 + (2 : Int32))) l3) fun M1 =>
    some (none, M1))))
  else zif ((zK M a0).1 = 11)
  (if (zI M a0 39) ≠ 0 then (zif ((zK M a0).1 = 11)
    (zoR (zR M a0 3) fun q2 =>
    zif ((zK M q2).1 = 23 ∧ zin (x2 + (2 : Int32)) (zK M q2).2 = true)
    (zbm (zsL M q2 (Int32.toNatClampNeg (x2 + (2 : Int32))) l3) fun M2 =>
    some (none, M2))))
  else K 107 [some (.ref a0), some (.int x1), some (.int x2), some (.long l3), none, some (.int x5), some (.int (0 : Int32)), none] [] M)
set_option maxRecDepth 20000 in
theorem zg_Mo_ends_90 (d : Nat) (a0 : Nat) (x1 : Int32) (x2 : Int32) (l3 : Int64) (x5 : Int32) (M : zM) : zG d n_Mo_ends 90 [some (.ref a0), some (.int x1), some (.int x2), some (.long l3), none, some (.int x5), none, none] [] M = zx_Mo_ends_90 (zV d) (zG d n_Mo_ends) a0 x1 x2 l3 x5 M := by
  refine (zG_sg (m := zm_Mo_ends) rfl 400 _ _ _ M).trans ?_
  show zw true zm_Mo_ends (zV d) (zG d n_Mo_ends) 400 90 [some (.ref a0), some (.int x1), some (.int x2), some (.long l3), none, some (.int x5), none, none] [] M = _
  unfold zx_Mo_ends_90
  refine zw_iload (p := 92) (Or.inl rfl) rfl rfl rfl ?_
  refine zw_bipush (p := 94) (x := (40 : Int32)) (Or.inr rfl) rfl rfl rfl ?_
  refine zw_icmp_ge (t := 195) (p := 97) (Or.inr rfl) rfl rfl rfl ?_ ?_
  · refine zw_aload_n (p := 196) (Or.inr rfl) rfl rfl rfl ?_
    refine zw_get_ref (p := 199) (Or.inr rfl) rfl rfl (fun q1 => ?_)
    refine zw_iload_n (p := 200) (Or.inr rfl) rfl rfl rfl ?_
    refine zw_iconst (p := 201) (x := (2 : Int32)) (Or.inr rfl) rfl rfl rfl ?_
    refine zw_iadd (p := 202) (Or.inr rfl) rfl rfl ?_
    refine zw_lload_n (p := 203) (Or.inr rfl) rfl rfl rfl ?_
    refine zw_lastore (p := 204) (Or.inr rfl) rfl rfl (fun M1 => ?_)
    exact zw_return (Or.inr rfl) rfl rfl
  refine zw_aload_n (p := 98) (Or.inr rfl) rfl rfl rfl ?_
  refine zw_get_int (p := 101) (Or.inr rfl) rfl rfl ?_
  refine zw_if_ne (t := 195) (p := 104) (Or.inr rfl) rfl rfl rfl ?_ ?_
  · refine zw_aload_n (p := 196) (Or.inr rfl) rfl rfl rfl ?_
    refine zw_get_ref (p := 199) (Or.inr rfl) rfl rfl (fun q2 => ?_)
    refine zw_iload_n (p := 200) (Or.inr rfl) rfl rfl rfl ?_
    refine zw_iconst (p := 201) (x := (2 : Int32)) (Or.inr rfl) rfl rfl rfl ?_
    refine zw_iadd (p := 202) (Or.inr rfl) rfl rfl ?_
    refine zw_lload_n (p := 203) (Or.inr rfl) rfl rfl rfl ?_
    refine zw_lastore (p := 204) (Or.inr rfl) rfl rfl (fun M2 => ?_)
    exact zw_return (Or.inr rfl) rfl rfl
  refine zw_iconst (p := 105) (x := (0 : Int32)) (Or.inr rfl) rfl rfl rfl ?_
  refine zw_istore (p := 107) (l2 := [some (.ref a0), some (.int x1), some (.int x2), some (.long l3), none, some (.int x5), some (.int (0 : Int32)), none]) (Or.inr rfl) rfl rfl rfl rfl ?_
  exact zw_end rfl rfl
def zx_Mo_ends_107 (E : zE0) (K : zKt) (a0 : Nat) (x1 : Int32) (x2 : Int32) (l3 : Int64) (x5 : Int32) (x6 : Int32) (M : zM) : zO :=
  zif ((zK M a0).1 = 11)
  (zbI (E n_Mo_placesNow [.ref a0] M) fun u1 M1 =>
  if u1 ≤ x6 then (zbi (x5 + (1 : Int32)) fun u2 =>
    K 90 [some (.ref a0), some (.int x1), some (.int x2), some (.long l3), none, some (.int u2), none, none] [] M1)
  else zif ((zK M1 a0).1 = 11)
  (zbI (E n_Mo_isFulfillable [.ref a0, .int x1, .int x6] M1) fun u3 M2 =>
  if u3 = 0 then (if (0 : Int32) = 0 then (zbl (l3 ||| (0 : Int64)) fun w1 =>
      zbi (x6 + (1 : Int32)) fun u4 =>
      K 107 [some (.ref a0), some (.int x1), some (.int x2), some (.long w1), none, some (.int x5), some (.int u4), none] [] M2)
    else zbl (l3 ||| ((1 : Int64) <<< (Int32.toInt64 x6 &&& 63))) fun w2 =>
    zbi (x6 + (1 : Int32)) fun u5 =>
    K 107 [some (.ref a0), some (.int x1), some (.int x2), some (.long w2), none, some (.int x5), some (.int u5), none] [] M2)
  else zif ((zK M2 a0).1 = 11)
  (zoR (zR M2 a0 31) fun q1 =>
  zif (((zK M2 q1).1 = 23 ∨ (zK M2 q1).1 = 25) ∧ zin (1 : Int32) (zK M2 q1).2 = true)
  (if (lg_cmp (((zL M2 q1 (Int32.toNatClampNeg (1 : Int32))) >>> (Int32.toInt64 x6 &&& 63)) &&& (1 : Int64)) (1 : Int64)) = 0 then (if (1 : Int32) = 0 then (zbl (l3 ||| (0 : Int64)) fun w3 =>
      zbi (x6 + (1 : Int32)) fun u6 =>
      K 107 [some (.ref a0), some (.int x1), some (.int x2), some (.long w3), none, some (.int x5), some (.int u6), none] [] M2)
    else zbl (l3 ||| ((1 : Int64) <<< (Int32.toInt64 x6 &&& 63))) fun w4 =>
    zbi (x6 + (1 : Int32)) fun u7 =>
    K 107 [some (.ref a0), some (.int x1), some (.int x2), some (.long w4), none, some (.int x5), some (.int u7), none] [] M2)
  else zif ((zK M2 a0).1 = 11)
  (zoR (zR M2 a0 3) fun q2 =>
  zif (((zK M2 q2).1 = 23 ∨ (zK M2 q2).1 = 25) ∧ zin ((x2 + (3 : Int32)) + x6) (zK M2 q2).2 = true)
  (if (lg_cmp ((zL M2 q2 (Int32.toNatClampNeg ((x2 + (3 : Int32)) + x6))) &&& l3) (0 : Int64)) = 0 then (if (0 : Int32) = 0 then (zbl (l3 ||| (0 : Int64)) fun w5 =>
      zbi (x6 + (1 : Int32)) fun u8 =>
      K 107 [some (.ref a0), some (.int x1), some (.int x2), some (.long w5), none, some (.int x5), some (.int u8), none] [] M2)
    else zbl (l3 ||| ((1 : Int64) <<< (Int32.toInt64 x6 &&& 63))) fun w6 =>
    zbi (x6 + (1 : Int32)) fun u9 =>
    K 107 [some (.ref a0), some (.int x1), some (.int x2), some (.long w6), none, some (.int x5), some (.int u9), none] [] M2)
  else if (1 : Int32) = 0 then (zbl (l3 ||| (0 : Int64)) fun w7 =>
    zbi (x6 + (1 : Int32)) fun u10 =>
    K 107 [some (.ref a0), some (.int x1), some (.int x2), some (.long w7), none, some (.int x5), some (.int u10), none] [] M2)
  else zbl (l3 ||| ((1 : Int64) <<< (Int32.toInt64 x6 &&& 63))) fun w8 =>
  zbi (x6 + (1 : Int32)) fun u11 =>
  K 107 [some (.ref a0), some (.int x1), some (.int x2), some (.long w8), none, some (.int x5), some (.int u11), none] [] M2))))))
set_option maxRecDepth 20000 in
theorem zg_Mo_ends_107 (d : Nat) (a0 : Nat) (x1 : Int32) (x2 : Int32) (l3 : Int64) (x5 : Int32) (x6 : Int32) (M : zM) : zG d n_Mo_ends 107 [some (.ref a0), some (.int x1), some (.int x2), some (.long l3), none, some (.int x5), some (.int x6), none] [] M = zx_Mo_ends_107 (zV d) (zG d n_Mo_ends) a0 x1 x2 l3 x5 x6 M := by
  refine (zG_sg (m := zm_Mo_ends) rfl 400 _ _ _ M).trans ?_
  show zw true zm_Mo_ends (zV d) (zG d n_Mo_ends) 400 107 [some (.ref a0), some (.int x1), some (.int x2), some (.long l3), none, some (.int x5), some (.int x6), none] [] M = _
  unfold zx_Mo_ends_107
  refine zw_iload (p := 109) (Or.inl rfl) rfl rfl rfl ?_
  refine zw_aload_n (p := 110) (Or.inr rfl) rfl rfl rfl ?_
  refine zw_virtualI (p := 113) (as := [.ref a0]) (rest := [.int x6]) (Or.inr rfl) rfl rfl rfl rfl rfl rfl rfl (fun u1 M1 => ?_)
  refine zw_icmp_ge (t := 189) (p := 116) (Or.inr rfl) rfl rfl rfl ?_ ?_
  · refine zw_iinc (p := 192) (c := (1 : Int32)) (L2 := fun u2 => [some (.ref a0), some (.int x1), some (.int x2), some (.long l3), none, some (.int u2), some (.int x6), none]) (Or.inr rfl) rfl rfl rfl rfl (fun _ => rfl) rfl (fun u2 => ?_)
    refine zw_goto (t := 90) (Or.inr rfl) rfl rfl ?_
    exact zw_end rfl rfl
  refine zw_aload_n (p := 117) (Or.inr rfl) rfl rfl rfl ?_
  refine zw_iload_n (p := 118) (Or.inr rfl) rfl rfl rfl ?_
  refine zw_iload (p := 120) (Or.inr rfl) rfl rfl rfl ?_
  refine zw_virtualI (p := 123) (as := [.ref a0, .int x1, .int x6]) (rest := []) (Or.inr rfl) rfl rfl rfl rfl rfl rfl rfl (fun u3 M2 => ?_)
  refine zw_if_eq (t := 164) (p := 126) (Or.inr rfl) rfl rfl rfl ?_ ?_
  · refine zw_iconst (p := 165) (x := (0 : Int32)) (Or.inr rfl) rfl rfl rfl ?_
    refine zw_istore (p := 167) (l2 := [some (.ref a0), some (.int x1), some (.int x2), some (.long l3), none, some (.int x5), some (.int x6), some (.int (0 : Int32))]) (Or.inr rfl) rfl rfl rfl rfl ?_
    refine zw_lload_n (p := 168) (Or.inr rfl) rfl rfl rfl ?_
    refine zw_iload (p := 170) (Or.inr rfl) rfl rfl rfl ?_
    refine zw_if_eq (t := 180) (p := 173) (Or.inr rfl) rfl rfl rfl ?_ ?_
    · refine zw_lconst (p := 181) (x := (0 : Int64)) (Or.inr rfl) rfl rfl rfl ?_
      refine zw_lor (p := 182) (Or.inr rfl) rfl rfl ?_
      refine zw_lstore_nN (p := 183) (L2 := fun w1 => [some (.ref a0), some (.int x1), some (.int x2), some (.long w1), none, some (.int x5), some (.int x6), some (.int (0 : Int32))]) (Or.inr rfl) rfl rfl (fun _ => rfl) rfl (fun w1 => ?_)
      refine zw_iinc (p := 186) (c := (1 : Int32)) (L2 := fun u4 => [some (.ref a0), some (.int x1), some (.int x2), some (.long w1), none, some (.int x5), some (.int u4), some (.int (0 : Int32))]) (Or.inr rfl) rfl rfl rfl rfl (fun _ => rfl) rfl (fun u4 => ?_)
      refine zw_goto (t := 107) (Or.inr rfl) rfl rfl ?_
      exact zw_end rfl rfl
    refine zw_lconst (p := 174) (x := (1 : Int64)) (Or.inr rfl) rfl rfl rfl ?_
    refine zw_iload (p := 176) (Or.inr rfl) rfl rfl rfl ?_
    refine zw_lshl (p := 177) (Or.inr rfl) rfl rfl ?_
    refine zw_goto (t := 181) (Or.inr rfl) rfl rfl ?_
    refine zw_lor (p := 182) (Or.inr rfl) rfl rfl ?_
    refine zw_lstore_nN (p := 183) (L2 := fun w2 => [some (.ref a0), some (.int x1), some (.int x2), some (.long w2), none, some (.int x5), some (.int x6), some (.int (0 : Int32))]) (Or.inr rfl) rfl rfl (fun _ => rfl) rfl (fun w2 => ?_)
    refine zw_iinc (p := 186) (c := (1 : Int32)) (L2 := fun u5 => [some (.ref a0), some (.int x1), some (.int x2), some (.long w2), none, some (.int x5), some (.int u5), some (.int (0 : Int32))]) (Or.inr rfl) rfl rfl rfl rfl (fun _ => rfl) rfl (fun u5 => ?_)
    refine zw_goto (t := 107) (Or.inr rfl) rfl rfl ?_
    exact zw_end rfl rfl
  refine zw_aload_n (p := 127) (Or.inr rfl) rfl rfl rfl ?_
  refine zw_get_ref (p := 130) (Or.inr rfl) rfl rfl (fun q1 => ?_)
  refine zw_iconst (p := 131) (x := (1 : Int32)) (Or.inr rfl) rfl rfl rfl ?_
  refine zw_laload (p := 132) (Or.inr rfl) rfl rfl ?_
  refine zw_iload (p := 134) (Or.inr rfl) rfl rfl rfl ?_
  refine zw_lshr (p := 135) (Or.inr rfl) rfl rfl ?_
  refine zw_lconst (p := 136) (x := (1 : Int64)) (Or.inr rfl) rfl rfl rfl ?_
  refine zw_land (p := 137) (Or.inr rfl) rfl rfl ?_
  refine zw_lconst (p := 138) (x := (1 : Int64)) (Or.inr rfl) rfl rfl rfl ?_
  refine zw_lcmp (p := 139) (Or.inr rfl) rfl rfl ?_
  refine zw_if_eq (t := 160) (p := 142) (Or.inr rfl) rfl rfl rfl ?_ ?_
  · refine zw_iconst (p := 161) (x := (1 : Int32)) (Or.inr rfl) rfl rfl rfl ?_
    refine zw_goto (t := 165) (Or.inr rfl) rfl rfl ?_
    refine zw_istore (p := 167) (l2 := [some (.ref a0), some (.int x1), some (.int x2), some (.long l3), none, some (.int x5), some (.int x6), some (.int (1 : Int32))]) (Or.inr rfl) rfl rfl rfl rfl ?_
    refine zw_lload_n (p := 168) (Or.inr rfl) rfl rfl rfl ?_
    refine zw_iload (p := 170) (Or.inr rfl) rfl rfl rfl ?_
    refine zw_if_eq (t := 180) (p := 173) (Or.inr rfl) rfl rfl rfl ?_ ?_
    · refine zw_lconst (p := 181) (x := (0 : Int64)) (Or.inr rfl) rfl rfl rfl ?_
      refine zw_lor (p := 182) (Or.inr rfl) rfl rfl ?_
      refine zw_lstore_nN (p := 183) (L2 := fun w3 => [some (.ref a0), some (.int x1), some (.int x2), some (.long w3), none, some (.int x5), some (.int x6), some (.int (1 : Int32))]) (Or.inr rfl) rfl rfl (fun _ => rfl) rfl (fun w3 => ?_)
      refine zw_iinc (p := 186) (c := (1 : Int32)) (L2 := fun u6 => [some (.ref a0), some (.int x1), some (.int x2), some (.long w3), none, some (.int x5), some (.int u6), some (.int (1 : Int32))]) (Or.inr rfl) rfl rfl rfl rfl (fun _ => rfl) rfl (fun u6 => ?_)
      refine zw_goto (t := 107) (Or.inr rfl) rfl rfl ?_
      exact zw_end rfl rfl
    refine zw_lconst (p := 174) (x := (1 : Int64)) (Or.inr rfl) rfl rfl rfl ?_
    refine zw_iload (p := 176) (Or.inr rfl) rfl rfl rfl ?_
    refine zw_lshl (p := 177) (Or.inr rfl) rfl rfl ?_
    refine zw_goto (t := 181) (Or.inr rfl) rfl rfl ?_
    refine zw_lor (p := 182) (Or.inr rfl) rfl rfl ?_
    refine zw_lstore_nN (p := 183) (L2 := fun w4 => [some (.ref a0), some (.int x1), some (.int x2), some (.long w4), none, some (.int x5), some (.int x6), some (.int (1 : Int32))]) (Or.inr rfl) rfl rfl (fun _ => rfl) rfl (fun w4 => ?_)
    refine zw_iinc (p := 186) (c := (1 : Int32)) (L2 := fun u7 => [some (.ref a0), some (.int x1), some (.int x2), some (.long w4), none, some (.int x5), some (.int u7), some (.int (1 : Int32))]) (Or.inr rfl) rfl rfl rfl rfl (fun _ => rfl) rfl (fun u7 => ?_)
    refine zw_goto (t := 107) (Or.inr rfl) rfl rfl ?_
    exact zw_end rfl rfl
  refine zw_aload_n (p := 143) (Or.inr rfl) rfl rfl rfl ?_
  refine zw_get_ref (p := 146) (Or.inr rfl) rfl rfl (fun q2 => ?_)
  refine zw_iload_n (p := 147) (Or.inr rfl) rfl rfl rfl ?_
  refine zw_iconst (p := 148) (x := (3 : Int32)) (Or.inr rfl) rfl rfl rfl ?_
  refine zw_iadd (p := 149) (Or.inr rfl) rfl rfl ?_
  refine zw_iload (p := 151) (Or.inr rfl) rfl rfl rfl ?_
  refine zw_iadd (p := 152) (Or.inr rfl) rfl rfl ?_
  refine zw_laload (p := 153) (Or.inr rfl) rfl rfl ?_
  refine zw_lload_n (p := 154) (Or.inr rfl) rfl rfl rfl ?_
  refine zw_land (p := 155) (Or.inr rfl) rfl rfl ?_
  refine zw_lconst (p := 156) (x := (0 : Int64)) (Or.inr rfl) rfl rfl rfl ?_
  refine zw_lcmp (p := 157) (Or.inr rfl) rfl rfl ?_
  refine zw_if_eq (t := 164) (p := 160) (Or.inr rfl) rfl rfl rfl ?_ ?_
  · refine zw_iconst (p := 165) (x := (0 : Int32)) (Or.inr rfl) rfl rfl rfl ?_
    refine zw_istore (p := 167) (l2 := [some (.ref a0), some (.int x1), some (.int x2), some (.long l3), none, some (.int x5), some (.int x6), some (.int (0 : Int32))]) (Or.inr rfl) rfl rfl rfl rfl ?_
    refine zw_lload_n (p := 168) (Or.inr rfl) rfl rfl rfl ?_
    refine zw_iload (p := 170) (Or.inr rfl) rfl rfl rfl ?_
    refine zw_if_eq (t := 180) (p := 173) (Or.inr rfl) rfl rfl rfl ?_ ?_
    · refine zw_lconst (p := 181) (x := (0 : Int64)) (Or.inr rfl) rfl rfl rfl ?_
      refine zw_lor (p := 182) (Or.inr rfl) rfl rfl ?_
      refine zw_lstore_nN (p := 183) (L2 := fun w5 => [some (.ref a0), some (.int x1), some (.int x2), some (.long w5), none, some (.int x5), some (.int x6), some (.int (0 : Int32))]) (Or.inr rfl) rfl rfl (fun _ => rfl) rfl (fun w5 => ?_)
      refine zw_iinc (p := 186) (c := (1 : Int32)) (L2 := fun u8 => [some (.ref a0), some (.int x1), some (.int x2), some (.long w5), none, some (.int x5), some (.int u8), some (.int (0 : Int32))]) (Or.inr rfl) rfl rfl rfl rfl (fun _ => rfl) rfl (fun u8 => ?_)
      refine zw_goto (t := 107) (Or.inr rfl) rfl rfl ?_
      exact zw_end rfl rfl
    refine zw_lconst (p := 174) (x := (1 : Int64)) (Or.inr rfl) rfl rfl rfl ?_
    refine zw_iload (p := 176) (Or.inr rfl) rfl rfl rfl ?_
    refine zw_lshl (p := 177) (Or.inr rfl) rfl rfl ?_
    refine zw_goto (t := 181) (Or.inr rfl) rfl rfl ?_
    refine zw_lor (p := 182) (Or.inr rfl) rfl rfl ?_
    refine zw_lstore_nN (p := 183) (L2 := fun w6 => [some (.ref a0), some (.int x1), some (.int x2), some (.long w6), none, some (.int x5), some (.int x6), some (.int (0 : Int32))]) (Or.inr rfl) rfl rfl (fun _ => rfl) rfl (fun w6 => ?_)
    refine zw_iinc (p := 186) (c := (1 : Int32)) (L2 := fun u9 => [some (.ref a0), some (.int x1), some (.int x2), some (.long w6), none, some (.int x5), some (.int u9), some (.int (0 : Int32))]) (Or.inr rfl) rfl rfl rfl rfl (fun _ => rfl) rfl (fun u9 => ?_)
    refine zw_goto (t := 107) (Or.inr rfl) rfl rfl ?_
    exact zw_end rfl rfl
  refine zw_iconst (p := 161) (x := (1 : Int32)) (Or.inr rfl) rfl rfl rfl ?_
  refine zw_goto (t := 165) (Or.inr rfl) rfl rfl ?_
  refine zw_istore (p := 167) (l2 := [some (.ref a0), some (.int x1), some (.int x2), some (.long l3), none, some (.int x5), some (.int x6), some (.int (1 : Int32))]) (Or.inr rfl) rfl rfl rfl rfl ?_
  refine zw_lload_n (p := 168) (Or.inr rfl) rfl rfl rfl ?_
  refine zw_iload (p := 170) (Or.inr rfl) rfl rfl rfl ?_
  refine zw_if_eq (t := 180) (p := 173) (Or.inr rfl) rfl rfl rfl ?_ ?_
  · refine zw_lconst (p := 181) (x := (0 : Int64)) (Or.inr rfl) rfl rfl rfl ?_
    refine zw_lor (p := 182) (Or.inr rfl) rfl rfl ?_
    refine zw_lstore_nN (p := 183) (L2 := fun w7 => [some (.ref a0), some (.int x1), some (.int x2), some (.long w7), none, some (.int x5), some (.int x6), some (.int (1 : Int32))]) (Or.inr rfl) rfl rfl (fun _ => rfl) rfl (fun w7 => ?_)
    refine zw_iinc (p := 186) (c := (1 : Int32)) (L2 := fun u10 => [some (.ref a0), some (.int x1), some (.int x2), some (.long w7), none, some (.int x5), some (.int u10), some (.int (1 : Int32))]) (Or.inr rfl) rfl rfl rfl rfl (fun _ => rfl) rfl (fun u10 => ?_)
    refine zw_goto (t := 107) (Or.inr rfl) rfl rfl ?_
    exact zw_end rfl rfl
  refine zw_lconst (p := 174) (x := (1 : Int64)) (Or.inr rfl) rfl rfl rfl ?_
  refine zw_iload (p := 176) (Or.inr rfl) rfl rfl rfl ?_
  refine zw_lshl (p := 177) (Or.inr rfl) rfl rfl ?_
  refine zw_goto (t := 181) (Or.inr rfl) rfl rfl ?_
  refine zw_lor (p := 182) (Or.inr rfl) rfl rfl ?_
  refine zw_lstore_nN (p := 183) (L2 := fun w8 => [some (.ref a0), some (.int x1), some (.int x2), some (.long w8), none, some (.int x5), some (.int x6), some (.int (1 : Int32))]) (Or.inr rfl) rfl rfl (fun _ => rfl) rfl (fun w8 => ?_)
  refine zw_iinc (p := 186) (c := (1 : Int32)) (L2 := fun u11 => [some (.ref a0), some (.int x1), some (.int x2), some (.long w8), none, some (.int x5), some (.int u11), some (.int (1 : Int32))]) (Or.inr rfl) rfl rfl rfl rfl (fun _ => rfl) rfl (fun u11 => ?_)
  refine zw_goto (t := 107) (Or.inr rfl) rfl rfl ?_
  exact zw_end rfl rfl
def zx_Mo_isBegin (E : zE0) (K : zKt) (a0 : Nat) (M : zM) : zO :=
  zif ((zK M a0).1 = 11)
  (if (zI M a0 18) ≠ 0 then (zif ((0 : Int32) = 0 ∨ (0 : Int32) = 1) (some (some (.int (0 : Int32)), M)))
  else zif ((zK M a0).1 = 11)
  (if (zI M a0 16) = (1 : Int32) then (zif ((1 : Int32) = 0 ∨ (1 : Int32) = 1) (some (some (.int (1 : Int32)), M)))
  else zif ((zK M a0).1 = 11)
  (zbI (E n_Mo_isSign [.ref a0, .int (33 : Int32)] M) fun u1 M1 =>
  if u1 ≠ 0 then (zif ((1 : Int32) = 0 ∨ (1 : Int32) = 1) (some (some (.int (1 : Int32)), M1)))
  else zif ((zK M1 a0).1 = 11)
  (zbI (E n_Mo_isSign [.ref a0, .int (40 : Int32)] M1) fun u2 M2 =>
  if u2 ≠ 0 then (zif ((1 : Int32) = 0 ∨ (1 : Int32) = 1) (some (some (.int (1 : Int32)), M2)))
  else zif ((zK M2 a0).1 = 11)
  (zbI (E n_Mo_isSign [.ref a0, .int (123 : Int32)] M2) fun u3 M3 =>
  if u3 = 0 then (zif ((0 : Int32) = 0 ∨ (0 : Int32) = 1) (some (some (.int (0 : Int32)), M3)))
  else zif ((1 : Int32) = 0 ∨ (1 : Int32) = 1) (some (some (.int (1 : Int32)), M3)))))))
set_option maxRecDepth 20000 in
theorem ze_Mo_isBegin (d : Nat) (a0 : Nat) (M : zM) : zV (d + 1) n_Mo_isBegin [.ref a0] M = zx_Mo_isBegin (zV d) (zG d n_Mo_isBegin) a0 M := by
  refine (zE_sg (m := zm_Mo_isBegin) rfl 400 _ rfl M).trans ?_
  show zw true zm_Mo_isBegin (zV d) (zG d n_Mo_isBegin) 400 0 [some (.ref a0)] [] M = _
  unfold zx_Mo_isBegin
  refine zw_aload_n (p := 1) (Or.inl rfl) rfl rfl rfl ?_
  refine zw_get_int (p := 4) (Or.inr rfl) rfl rfl ?_
  refine zw_if_ne (t := 46) (p := 7) (Or.inr rfl) rfl rfl rfl ?_ ?_
  · refine zw_iconst (p := 47) (x := (0 : Int32)) (Or.inr rfl) rfl rfl rfl ?_
    exact zw_ireturn2 (Or.inr rfl) rfl rfl
  refine zw_aload_n (p := 8) (Or.inr rfl) rfl rfl rfl ?_
  refine zw_get_int (p := 11) (Or.inr rfl) rfl rfl ?_
  refine zw_iconst (p := 12) (x := (1 : Int32)) (Or.inr rfl) rfl rfl rfl ?_
  refine zw_icmp_eq (t := 42) (p := 15) (Or.inr rfl) rfl rfl rfl ?_ ?_
  · refine zw_iconst (p := 43) (x := (1 : Int32)) (Or.inr rfl) rfl rfl rfl ?_
    refine zw_goto (t := 47) (Or.inr rfl) rfl rfl ?_
    exact zw_ireturn2 (Or.inr rfl) rfl rfl
  refine zw_aload_n (p := 16) (Or.inr rfl) rfl rfl rfl ?_
  refine zw_bipush (p := 18) (x := (33 : Int32)) (Or.inr rfl) rfl rfl rfl ?_
  refine zw_virtualI (p := 21) (as := [.ref a0, .int (33 : Int32)]) (rest := []) (Or.inr rfl) rfl rfl rfl rfl rfl rfl rfl (fun u1 M1 => ?_)
  refine zw_if_ne (t := 42) (p := 24) (Or.inr rfl) rfl rfl rfl ?_ ?_
  · refine zw_iconst (p := 43) (x := (1 : Int32)) (Or.inr rfl) rfl rfl rfl ?_
    refine zw_goto (t := 47) (Or.inr rfl) rfl rfl ?_
    exact zw_ireturn2 (Or.inr rfl) rfl rfl
  refine zw_aload_n (p := 25) (Or.inr rfl) rfl rfl rfl ?_
  refine zw_bipush (p := 27) (x := (40 : Int32)) (Or.inr rfl) rfl rfl rfl ?_
  refine zw_virtualI (p := 30) (as := [.ref a0, .int (40 : Int32)]) (rest := []) (Or.inr rfl) rfl rfl rfl rfl rfl rfl rfl (fun u2 M2 => ?_)
  refine zw_if_ne (t := 42) (p := 33) (Or.inr rfl) rfl rfl rfl ?_ ?_
  · refine zw_iconst (p := 43) (x := (1 : Int32)) (Or.inr rfl) rfl rfl rfl ?_
    refine zw_goto (t := 47) (Or.inr rfl) rfl rfl ?_
    exact zw_ireturn2 (Or.inr rfl) rfl rfl
  refine zw_aload_n (p := 34) (Or.inr rfl) rfl rfl rfl ?_
  refine zw_bipush (p := 36) (x := (123 : Int32)) (Or.inr rfl) rfl rfl rfl ?_
  refine zw_virtualI (p := 39) (as := [.ref a0, .int (123 : Int32)]) (rest := []) (Or.inr rfl) rfl rfl rfl rfl rfl rfl rfl (fun u3 M3 => ?_)
  refine zw_if_eq (t := 46) (p := 42) (Or.inr rfl) rfl rfl rfl ?_ ?_
  · refine zw_iconst (p := 47) (x := (0 : Int32)) (Or.inr rfl) rfl rfl rfl ?_
    exact zw_ireturn2 (Or.inr rfl) rfl rfl
  refine zw_iconst (p := 43) (x := (1 : Int32)) (Or.inr rfl) rfl rfl rfl ?_
  refine zw_goto (t := 47) (Or.inr rfl) rfl rfl ?_
  exact zw_ireturn2 (Or.inr rfl) rfl rfl
def zx_Mo_readPromise (E : zE0) (K : zKt) (a0 : Nat) (x1 : Int32) (M : zM) : zO :=
  zif ((zK M a0).1 = 11)
  (zbI (E n_Mo_isBegin [.ref a0] M) fun u1 M1 =>
  zif ((zK M1 a0).1 = 11)
  (zbV (E n_Mo_requires [.ref a0, .int u1, .int (2 : Int32)] M1) fun M2 =>
  if (4 : Int32) ≤ x1 then (zif ((zK M2 a0).1 = 11)
    (zbV (E n_Mo_requires [.ref a0, .int (0 : Int32), .int (4 : Int32)] M2) fun M3 =>
    if (4 : Int32) ≤ x1 then (K 34 [some (.ref a0), none, none, none, none, none] [.int (0 : Int32)] M3)
    else K 34 [some (.ref a0), none, none, none, none, none] [.int x1] M3))
  else zif ((zK M2 a0).1 = 11)
  (zbV (E n_Mo_requires [.ref a0, .int (1 : Int32), .int (4 : Int32)] M2) fun M4 =>
  if (4 : Int32) ≤ x1 then (K 34 [some (.ref a0), none, none, none, none, none] [.int (0 : Int32)] M4)
  else K 34 [some (.ref a0), none, none, none, none, none] [.int x1] M4)))
set_option maxRecDepth 20000 in
theorem ze_Mo_readPromise (d : Nat) (a0 : Nat) (x1 : Int32) (M : zM) : zV (d + 1) n_Mo_readPromise [.ref a0, .int x1] M = zx_Mo_readPromise (zV d) (zG d n_Mo_readPromise) a0 x1 M := by
  refine (zE_sg (m := zm_Mo_readPromise) rfl 400 _ rfl M).trans ?_
  show zw true zm_Mo_readPromise (zV d) (zG d n_Mo_readPromise) 400 0 [some (.ref a0), some (.int x1), none, none, none, none] [] M = _
  unfold zx_Mo_readPromise
  refine zw_aload_n (p := 1) (Or.inl rfl) rfl rfl rfl ?_
  refine zw_aload_n (p := 2) (Or.inr rfl) rfl rfl rfl ?_
  refine zw_virtualI (p := 5) (as := [.ref a0]) (rest := [.ref a0]) (Or.inr rfl) rfl rfl rfl rfl rfl rfl rfl (fun u1 M1 => ?_)
  refine zw_iconst (p := 6) (x := (2 : Int32)) (Or.inr rfl) rfl rfl rfl ?_
  refine zw_virtualV (p := 9) (as := [.ref a0, .int u1, .int (2 : Int32)]) (rest := []) (Or.inr rfl) rfl rfl rfl rfl rfl rfl rfl (fun M2 => ?_)
  refine zw_aload_n (p := 10) (Or.inr rfl) rfl rfl rfl ?_
  refine zw_iload_n (p := 11) (Or.inr rfl) rfl rfl rfl ?_
  refine zw_iconst (p := 12) (x := (4 : Int32)) (Or.inr rfl) rfl rfl rfl ?_
  refine zw_icmp_ge (t := 19) (p := 15) (Or.inr rfl) rfl rfl rfl ?_ ?_
  · refine zw_iconst (p := 20) (x := (0 : Int32)) (Or.inr rfl) rfl rfl rfl ?_
    refine zw_iconst (p := 21) (x := (4 : Int32)) (Or.inr rfl) rfl rfl rfl ?_
    refine zw_virtualV (p := 24) (as := [.ref a0, .int (0 : Int32), .int (4 : Int32)]) (rest := []) (Or.inr rfl) rfl rfl rfl rfl rfl rfl rfl (fun M3 => ?_)
    refine zw_iload_n (p := 25) (Or.inr rfl) rfl rfl rfl ?_
    refine zw_iconst (p := 26) (x := (4 : Int32)) (Or.inr rfl) rfl rfl rfl ?_
    refine zw_icmp_ge (t := 33) (p := 29) (Or.inr rfl) rfl rfl rfl ?_ ?_
    · refine zw_iconst (p := 34) (x := (0 : Int32)) (Or.inr rfl) rfl rfl rfl ?_
      exact zw_end rfl rfl
    refine zw_iload_n (p := 30) (Or.inr rfl) rfl rfl rfl ?_
    refine zw_goto (t := 34) (Or.inr rfl) rfl rfl ?_
    exact zw_end rfl rfl
  refine zw_iconst (p := 16) (x := (1 : Int32)) (Or.inr rfl) rfl rfl rfl ?_
  refine zw_goto (t := 20) (Or.inr rfl) rfl rfl ?_
  refine zw_iconst (p := 21) (x := (4 : Int32)) (Or.inr rfl) rfl rfl rfl ?_
  refine zw_virtualV (p := 24) (as := [.ref a0, .int (1 : Int32), .int (4 : Int32)]) (rest := []) (Or.inr rfl) rfl rfl rfl rfl rfl rfl rfl (fun M4 => ?_)
  refine zw_iload_n (p := 25) (Or.inr rfl) rfl rfl rfl ?_
  refine zw_iconst (p := 26) (x := (4 : Int32)) (Or.inr rfl) rfl rfl rfl ?_
  refine zw_icmp_ge (t := 33) (p := 29) (Or.inr rfl) rfl rfl rfl ?_ ?_
  · refine zw_iconst (p := 34) (x := (0 : Int32)) (Or.inr rfl) rfl rfl rfl ?_
    exact zw_end rfl rfl
  refine zw_iload_n (p := 30) (Or.inr rfl) rfl rfl rfl ?_
  refine zw_goto (t := 34) (Or.inr rfl) rfl rfl ?_
  exact zw_end rfl rfl
def zx_Mo_readPromise_34 (E : zE0) (K : zKt) (a0 : Nat) (s0 : Int32) (M : zM) : zO :=
  zif ((zK M a0).1 = 11)
  (zbm (zsI M a0 20 (0 : Int32)) fun M1 =>
  zif ((zK M1 a0).1 = 11)
  (if (zI M1 a0 18) ≤ 0 then (zif ((zK M1 a0).1 = 11)
    (zbV (E n_Mo_readSequence [.ref a0, .int ((2 : Int32) * s0)] M1) fun M2 =>
    zif ((zK M2 a0).1 = 11)
    (zoR (zR M2 a0 32) fun q1 =>
    zif (((zK M2 q1).1 = 21 ∨ (zK M2 q1).1 = 22) ∧ zin (1 : Int32) (zK M2 q1).2 = true)
    (zbi (zI M2 q1 (Int32.toNatClampNeg (1 : Int32))) fun u1 =>
    zif ((zK M2 a0).1 = 11)
    (zoR (zR M2 a0 5) fun q2 =>
    zif ((zK M2 a0).1 = 11)
    (zbI (E n_Mo_isSign [.ref a0, .int (62 : Int32)] M2) fun u2 M3 =>
    zbI (E n_Mo_flag [.int u2] M3) fun u3 M4 =>
    zif ((zK M4 q2).1 = 20 ∧ zin ((2 : Int32) * s0) (zK M4 q2).2 = true)
    (zbm (zsI M4 q2 (Int32.toNatClampNeg ((2 : Int32) * s0)) u3) fun M5 =>
    zif ((zK M5 a0).1 = 11)
    (if (zI M5 a0 18) ≠ 0 then (K 114 [some (.ref a0), none, some (.int s0), some (.int u1), none, none] [] M5)
    else zif ((zK M5 a0).1 = 11)
    (zbI (E n_Mo_isSign [.ref a0, .int (61 : Int32)] M5) fun u4 M6 =>
    if u4 ≠ 0 then (zif ((zK M6 a0).1 = 11)
      (zbV (E n_Mo_requires [.ref a0, .int (1 : Int32), .int (2 : Int32)] M6) fun M7 =>
      K 114 [some (.ref a0), none, some (.int s0), some (.int u1), none, none] [] M7))
    else zif ((zK M6 a0).1 = 11)
    (zbI (E n_Mo_isSign [.ref a0, .int (62 : Int32)] M6) fun u5 M8 =>
    if u5 = 0 then (zif ((zK M8 a0).1 = 11)
      (zbV (E n_Mo_requires [.ref a0, .int (0 : Int32), .int (2 : Int32)] M8) fun M9 =>
      K 114 [some (.ref a0), none, some (.int s0), some (.int u1), none, none] [] M9))
    else zif ((zK M8 a0).1 = 11)
    (zbV (E n_Mo_requires [.ref a0, .int (1 : Int32), .int (2 : Int32)] M8) fun M10 =>
    K 114 [some (.ref a0), none, some (.int s0), some (.int u1), none, none] [] M10)))))))))))
  else some (none, M1)))
set_option maxRecDepth 20000 in
theorem zg_Mo_readPromise_34 (d : Nat) (a0 : Nat) (s0 : Int32) (M : zM) : zG d n_Mo_readPromise 34 [some (.ref a0), none, none, none, none, none] [.int s0] M = zx_Mo_readPromise_34 (zV d) (zG d n_Mo_readPromise) a0 s0 M := by
  refine (zG_sg (m := zm_Mo_readPromise) rfl 400 _ _ _ M).trans ?_
  show zw true zm_Mo_readPromise (zV d) (zG d n_Mo_readPromise) 400 34 [some (.ref a0), none, none, none, none, none] [.int s0] M = _
  unfold zx_Mo_readPromise_34
  refine zw_istore_n (p := 35) (l2 := [some (.ref a0), none, some (.int s0), none, none, none]) (Or.inl rfl) rfl rfl rfl rfl ?_
  refine zw_aload_n (p := 36) (Or.inr rfl) rfl rfl rfl ?_
  refine zw_iconst (p := 37) (x := (0 : Int32)) (Or.inr rfl) rfl rfl rfl ?_
  refine zw_put_int (p := 40) (Or.inr rfl) rfl rfl (fun M1 => ?_)
  refine zw_aload_n (p := 41) (Or.inr rfl) rfl rfl rfl ?_
  refine zw_get_int (p := 44) (Or.inr rfl) rfl rfl ?_
  refine zw_if_le (t := 48) (p := 47) (Or.inr rfl) rfl rfl rfl ?_ ?_
  · refine zw_aload_n (p := 49) (Or.inr rfl) rfl rfl rfl ?_
    refine zw_iconst (p := 50) (x := (2 : Int32)) (Or.inr rfl) rfl rfl rfl ?_
    refine zw_iload_n (p := 51) (Or.inr rfl) rfl rfl rfl ?_
    refine zw_imul (p := 52) (Or.inr rfl) rfl rfl ?_
    refine zw_virtualV (p := 55) (as := [.ref a0, .int ((2 : Int32) * s0)]) (rest := []) (Or.inr rfl) rfl rfl rfl rfl rfl rfl rfl (fun M2 => ?_)
    refine zw_aload_n (p := 56) (Or.inr rfl) rfl rfl rfl ?_
    refine zw_get_ref (p := 59) (Or.inr rfl) rfl rfl (fun q1 => ?_)
    refine zw_iconst (p := 60) (x := (1 : Int32)) (Or.inr rfl) rfl rfl rfl ?_
    refine zw_baload (p := 61) (Or.inr rfl) rfl rfl ?_
    refine zw_istore_nN (p := 62) (L2 := fun u1 => [some (.ref a0), none, some (.int s0), some (.int u1), none, none]) (Or.inr rfl) rfl rfl (fun _ => rfl) rfl (fun u1 => ?_)
    refine zw_aload_n (p := 63) (Or.inr rfl) rfl rfl rfl ?_
    refine zw_get_ref (p := 66) (Or.inr rfl) rfl rfl (fun q2 => ?_)
    refine zw_iconst (p := 67) (x := (2 : Int32)) (Or.inr rfl) rfl rfl rfl ?_
    refine zw_iload_n (p := 68) (Or.inr rfl) rfl rfl rfl ?_
    refine zw_imul (p := 69) (Or.inr rfl) rfl rfl ?_
    refine zw_aload_n (p := 70) (Or.inr rfl) rfl rfl rfl ?_
    refine zw_bipush (p := 72) (x := (62 : Int32)) (Or.inr rfl) rfl rfl rfl ?_
    refine zw_virtualI (p := 75) (as := [.ref a0, .int (62 : Int32)]) (rest := [.int ((2 : Int32) * s0), .ref q2]) (Or.inr rfl) rfl rfl rfl rfl rfl rfl rfl (fun u2 M3 => ?_)
    refine zw_staticI (p := 78) (as := [.int u2]) (rest := [.int ((2 : Int32) * s0), .ref q2]) (Or.inr rfl) rfl rfl rfl rfl rfl rfl (fun u3 M4 => ?_)
    refine zw_iastore (p := 79) (Or.inr rfl) rfl rfl (fun M5 => ?_)
    refine zw_aload_n (p := 80) (Or.inr rfl) rfl rfl rfl ?_
    refine zw_get_int (p := 83) (Or.inr rfl) rfl rfl ?_
    refine zw_if_ne (t := 114) (p := 86) (Or.inr rfl) rfl rfl rfl ?_ ?_
    · exact zw_end rfl rfl
    refine zw_aload_n (p := 87) (Or.inr rfl) rfl rfl rfl ?_
    refine zw_aload_n (p := 88) (Or.inr rfl) rfl rfl rfl ?_
    refine zw_bipush (p := 90) (x := (61 : Int32)) (Or.inr rfl) rfl rfl rfl ?_
    refine zw_virtualI (p := 93) (as := [.ref a0, .int (61 : Int32)]) (rest := [.ref a0]) (Or.inr rfl) rfl rfl rfl rfl rfl rfl rfl (fun u4 M6 => ?_)
    refine zw_if_ne (t := 105) (p := 96) (Or.inr rfl) rfl rfl rfl ?_ ?_
    · refine zw_iconst (p := 106) (x := (1 : Int32)) (Or.inr rfl) rfl rfl rfl ?_
      refine zw_goto (t := 110) (Or.inr rfl) rfl rfl ?_
      refine zw_iconst (p := 111) (x := (2 : Int32)) (Or.inr rfl) rfl rfl rfl ?_
      refine zw_virtualV (p := 114) (as := [.ref a0, .int (1 : Int32), .int (2 : Int32)]) (rest := []) (Or.inr rfl) rfl rfl rfl rfl rfl rfl rfl (fun M7 => ?_)
      exact zw_end rfl rfl
    refine zw_aload_n (p := 97) (Or.inr rfl) rfl rfl rfl ?_
    refine zw_bipush (p := 99) (x := (62 : Int32)) (Or.inr rfl) rfl rfl rfl ?_
    refine zw_virtualI (p := 102) (as := [.ref a0, .int (62 : Int32)]) (rest := [.ref a0]) (Or.inr rfl) rfl rfl rfl rfl rfl rfl rfl (fun u5 M8 => ?_)
    refine zw_if_eq (t := 109) (p := 105) (Or.inr rfl) rfl rfl rfl ?_ ?_
    · refine zw_iconst (p := 110) (x := (0 : Int32)) (Or.inr rfl) rfl rfl rfl ?_
      refine zw_iconst (p := 111) (x := (2 : Int32)) (Or.inr rfl) rfl rfl rfl ?_
      refine zw_virtualV (p := 114) (as := [.ref a0, .int (0 : Int32), .int (2 : Int32)]) (rest := []) (Or.inr rfl) rfl rfl rfl rfl rfl rfl rfl (fun M9 => ?_)
      exact zw_end rfl rfl
    refine zw_iconst (p := 106) (x := (1 : Int32)) (Or.inr rfl) rfl rfl rfl ?_
    refine zw_goto (t := 110) (Or.inr rfl) rfl rfl ?_
    refine zw_iconst (p := 111) (x := (2 : Int32)) (Or.inr rfl) rfl rfl rfl ?_
    refine zw_virtualV (p := 114) (as := [.ref a0, .int (1 : Int32), .int (2 : Int32)]) (rest := []) (Or.inr rfl) rfl rfl rfl rfl rfl rfl rfl (fun M10 => ?_)
    exact zw_end rfl rfl
  exact zw_return (Or.inr rfl) rfl rfl
def zx_Mo_readPromise_114 (E : zE0) (K : zKt) (a0 : Nat) (x2 : Int32) (x3 : Int32) (M : zM) : zO :=
  zif ((zK M a0).1 = 11)
  (zbV (E n_Mo_reads [.ref a0] M) fun M1 =>
  zif ((zK M1 a0).1 = 11)
  (zbV (E n_Mo_readSequence [.ref a0, .int (((2 : Int32) * x2) + (1 : Int32))] M1) fun M2 =>
  zif ((zK M2 a0).1 = 11)
  (zoR (zR M2 a0 32) fun q1 =>
  zif (((zK M2 q1).1 = 21 ∨ (zK M2 q1).1 = 22) ∧ zin (1 : Int32) (zK M2 q1).2 = true)
  (zbi (zI M2 q1 (Int32.toNatClampNeg (1 : Int32))) fun u1 =>
  zif ((zK M2 a0).1 = 11)
  (zoR (zR M2 a0 5) fun q2 =>
  zif ((zK M2 a0).1 = 11)
  (zbI (E n_Mo_isSign [.ref a0, .int (126 : Int32)] M2) fun u2 M3 =>
  zbI (E n_Mo_flag [.int u2] M3) fun u3 M4 =>
  zif ((zK M4 q2).1 = 20 ∧ zin (((2 : Int32) * x2) + (1 : Int32)) (zK M4 q2).2 = true)
  (zbm (zsI M4 q2 (Int32.toNatClampNeg (((2 : Int32) * x2) + (1 : Int32))) u3) fun M5 =>
  zif ((zK M5 a0).1 = 11)
  (zbI (E n_Mo_isSign [.ref a0, .int (126 : Int32)] M5) fun u4 M6 =>
  if u4 = 0 then (zif ((zK M6 a0).1 = 11)
    (if (zI M6 a0 18) ≠ 0 then (zif ((zK M6 a0).1 = 11)
      (zbV (E n_Mo_reads [.ref a0] M6) fun M7 =>
      some (none, M7)))
    else zif ((zK M6 a0).1 = 11)
    (zbI (E n_Mo_isSign [.ref a0, .int (59 : Int32)] M6) fun u5 M8 =>
    zif ((zK M8 a0).1 = 11)
    (zbV (E n_Mo_requires [.ref a0, .int u5, .int (2 : Int32)] M8) fun M9 =>
    if x3 ≠ 0 then (K 238 [some (.ref a0), none, some (.int x2), none, none, none] [.int (0 : Int32), .ref a0] M9)
    else if u1 ≠ 0 then (K 238 [some (.ref a0), none, some (.int x2), none, none, none] [.int (0 : Int32), .ref a0] M9)
    else K 238 [some (.ref a0), none, some (.int x2), none, none, none] [.int (1 : Int32), .ref a0] M9))))
  else zif ((zK M6 a0).1 = 11)
  (zbV (E n_Mo_reads [.ref a0] M6) fun M10 =>
  zif ((zK M10 a0).1 = 11)
  (zbV (E n_Mo_readCondition [.ref a0, .int (1 : Int32)] M10) fun M11 =>
  K 175 [some (.ref a0), none, some (.int x2), some (.int x3), some (.int u1), some (.int (0 : Int32))] [] M11))))))))))
set_option maxRecDepth 20000 in
theorem zg_Mo_readPromise_114 (d : Nat) (a0 : Nat) (x2 : Int32) (x3 : Int32) (M : zM) : zG d n_Mo_readPromise 114 [some (.ref a0), none, some (.int x2), some (.int x3), none, none] [] M = zx_Mo_readPromise_114 (zV d) (zG d n_Mo_readPromise) a0 x2 x3 M := by
  refine (zG_sg (m := zm_Mo_readPromise) rfl 400 _ _ _ M).trans ?_
  show zw true zm_Mo_readPromise (zV d) (zG d n_Mo_readPromise) 400 114 [some (.ref a0), none, some (.int x2), some (.int x3), none, none] [] M = _
  unfold zx_Mo_readPromise_114
  refine zw_aload_n (p := 115) (Or.inl rfl) rfl rfl rfl ?_
  refine zw_virtualV (p := 118) (as := [.ref a0]) (rest := []) (Or.inr rfl) rfl rfl rfl rfl rfl rfl rfl (fun M1 => ?_)
  refine zw_aload_n (p := 119) (Or.inr rfl) rfl rfl rfl ?_
  refine zw_iconst (p := 120) (x := (2 : Int32)) (Or.inr rfl) rfl rfl rfl ?_
  refine zw_iload_n (p := 121) (Or.inr rfl) rfl rfl rfl ?_
  refine zw_imul (p := 122) (Or.inr rfl) rfl rfl ?_
  refine zw_iconst (p := 123) (x := (1 : Int32)) (Or.inr rfl) rfl rfl rfl ?_
  refine zw_iadd (p := 124) (Or.inr rfl) rfl rfl ?_
  refine zw_virtualV (p := 127) (as := [.ref a0, .int (((2 : Int32) * x2) + (1 : Int32))]) (rest := []) (Or.inr rfl) rfl rfl rfl rfl rfl rfl rfl (fun M2 => ?_)
  refine zw_aload_n (p := 128) (Or.inr rfl) rfl rfl rfl ?_
  refine zw_get_ref (p := 131) (Or.inr rfl) rfl rfl (fun q1 => ?_)
  refine zw_iconst (p := 132) (x := (1 : Int32)) (Or.inr rfl) rfl rfl rfl ?_
  refine zw_baload (p := 133) (Or.inr rfl) rfl rfl ?_
  refine zw_istoreN (p := 135) (L2 := fun u1 => [some (.ref a0), none, some (.int x2), some (.int x3), some (.int u1), none]) (Or.inr rfl) rfl rfl (fun _ => rfl) rfl (fun u1 => ?_)
  refine zw_aload_n (p := 136) (Or.inr rfl) rfl rfl rfl ?_
  refine zw_get_ref (p := 139) (Or.inr rfl) rfl rfl (fun q2 => ?_)
  refine zw_iconst (p := 140) (x := (2 : Int32)) (Or.inr rfl) rfl rfl rfl ?_
  refine zw_iload_n (p := 141) (Or.inr rfl) rfl rfl rfl ?_
  refine zw_imul (p := 142) (Or.inr rfl) rfl rfl ?_
  refine zw_iconst (p := 143) (x := (1 : Int32)) (Or.inr rfl) rfl rfl rfl ?_
  refine zw_iadd (p := 144) (Or.inr rfl) rfl rfl ?_
  refine zw_aload_n (p := 145) (Or.inr rfl) rfl rfl rfl ?_
  refine zw_bipush (p := 147) (x := (126 : Int32)) (Or.inr rfl) rfl rfl rfl ?_
  refine zw_virtualI (p := 150) (as := [.ref a0, .int (126 : Int32)]) (rest := [.int (((2 : Int32) * x2) + (1 : Int32)), .ref q2]) (Or.inr rfl) rfl rfl rfl rfl rfl rfl rfl (fun u2 M3 => ?_)
  refine zw_staticI (p := 153) (as := [.int u2]) (rest := [.int (((2 : Int32) * x2) + (1 : Int32)), .ref q2]) (Or.inr rfl) rfl rfl rfl rfl rfl rfl (fun u3 M4 => ?_)
  refine zw_iastore (p := 154) (Or.inr rfl) rfl rfl (fun M5 => ?_)
  refine zw_aload_n (p := 155) (Or.inr rfl) rfl rfl rfl ?_
  refine zw_bipush (p := 157) (x := (126 : Int32)) (Or.inr rfl) rfl rfl rfl ?_
  refine zw_virtualI (p := 160) (as := [.ref a0, .int (126 : Int32)]) (rest := []) (Or.inr rfl) rfl rfl rfl rfl rfl rfl rfl (fun u4 M6 => ?_)
  refine zw_if_eq (t := 205) (p := 163) (Or.inr rfl) rfl rfl rfl ?_ ?_
  · refine zw_aload_n (p := 206) (Or.inr rfl) rfl rfl rfl ?_
    refine zw_get_int (p := 209) (Or.inr rfl) rfl rfl ?_
    refine zw_if_ne (t := 289) (p := 212) (Or.inr rfl) rfl rfl rfl ?_ ?_
    · refine zw_aload_n (p := 290) (Or.inr rfl) rfl rfl rfl ?_
      refine zw_virtualV (p := 293) (as := [.ref a0]) (rest := []) (Or.inr rfl) rfl rfl rfl rfl rfl rfl rfl (fun M7 => ?_)
      exact zw_return (Or.inr rfl) rfl rfl
    refine zw_aload_n (p := 213) (Or.inr rfl) rfl rfl rfl ?_
    refine zw_aload_n (p := 214) (Or.inr rfl) rfl rfl rfl ?_
    refine zw_bipush (p := 216) (x := (59 : Int32)) (Or.inr rfl) rfl rfl rfl ?_
    refine zw_virtualI (p := 219) (as := [.ref a0, .int (59 : Int32)]) (rest := [.ref a0]) (Or.inr rfl) rfl rfl rfl rfl rfl rfl rfl (fun u5 M8 => ?_)
    refine zw_iconst (p := 220) (x := (2 : Int32)) (Or.inr rfl) rfl rfl rfl ?_
    refine zw_virtualV (p := 223) (as := [.ref a0, .int u5, .int (2 : Int32)]) (rest := []) (Or.inr rfl) rfl rfl rfl rfl rfl rfl rfl (fun M9 => ?_)
    refine zw_aload_n (p := 224) (Or.inr rfl) rfl rfl rfl ?_
    refine zw_iload_n (p := 225) (Or.inr rfl) rfl rfl rfl ?_
    refine zw_if_ne (t := 237) (p := 228) (Or.inr rfl) rfl rfl rfl ?_ ?_
    · refine zw_iconst (p := 238) (x := (0 : Int32)) (Or.inr rfl) rfl rfl rfl ?_
      exact zw_end rfl rfl
    refine zw_iload (p := 230) (Or.inr rfl) rfl rfl rfl ?_
    refine zw_if_ne (t := 237) (p := 233) (Or.inr rfl) rfl rfl rfl ?_ ?_
    · refine zw_iconst (p := 238) (x := (0 : Int32)) (Or.inr rfl) rfl rfl rfl ?_
      exact zw_end rfl rfl
    refine zw_iconst (p := 234) (x := (1 : Int32)) (Or.inr rfl) rfl rfl rfl ?_
    refine zw_goto (t := 238) (Or.inr rfl) rfl rfl ?_
    exact zw_end rfl rfl
  refine zw_aload_n (p := 164) (Or.inr rfl) rfl rfl rfl ?_
  refine zw_virtualV (p := 167) (as := [.ref a0]) (rest := []) (Or.inr rfl) rfl rfl rfl rfl rfl rfl rfl (fun M10 => ?_)
  refine zw_aload_n (p := 168) (Or.inr rfl) rfl rfl rfl ?_
  refine zw_iconst (p := 169) (x := (1 : Int32)) (Or.inr rfl) rfl rfl rfl ?_
  refine zw_virtualV (p := 172) (as := [.ref a0, .int (1 : Int32)]) (rest := []) (Or.inr rfl) rfl rfl rfl rfl rfl rfl rfl (fun M11 => ?_)
  refine zw_iconst (p := 173) (x := (0 : Int32)) (Or.inr rfl) rfl rfl rfl ?_
  refine zw_istore (p := 175) (l2 := [some (.ref a0), none, some (.int x2), some (.int x3), some (.int u1), some (.int (0 : Int32))]) (Or.inr rfl) rfl rfl rfl rfl ?_
  exact zw_end rfl rfl
def zx_Mo_readPromise_238 (E : zE0) (K : zKt) (a0 : Nat) (x2 : Int32) (s0 : Int32) (s1 : Nat) (M : zM) : zO :=
  zif ((zK M s1).1 = 11)
  (zbV (E n_Mo_requires [.ref s1, .int s0, .int (5 : Int32)] M) fun M1 =>
  zif ((zK M1 a0).1 = 11)
  (zoR (zR M1 a0 1) fun q1 =>
  zif (((zK M1 q1).1 = 20 ∨ (zK M1 q1).1 = 24) ∧ zin (((90 : Int32) * x2) + (2 : Int32)) (zK M1 q1).2 = true)
  (if (40 : Int32) < (zI M1 q1 (Int32.toNatClampNeg (((90 : Int32) * x2) + (2 : Int32)))) then (zif ((zK M1 a0).1 = 11)
    (zbV (E n_Mo_requires [.ref a0, .int (0 : Int32), .int (6 : Int32)] M1) fun M2 =>
    zif ((zK M2 a0).1 = 11)
    (zbV (E n_Mo_reads [.ref a0] M2) fun M3 =>
    some (none, M3))))
  else zif ((zK M1 a0).1 = 11)
  (zoR (zR M1 a0 1) fun q2 =>
  zif (((zK M1 q2).1 = 20 ∨ (zK M1 q2).1 = 24) ∧ zin (((45 : Int32) * (((2 : Int32) * x2) + (1 : Int32))) + (2 : Int32)) (zK M1 q2).2 = true)
  (if (40 : Int32) < (zI M1 q2 (Int32.toNatClampNeg (((45 : Int32) * (((2 : Int32) * x2) + (1 : Int32))) + (2 : Int32)))) then (zif ((zK M1 a0).1 = 11)
    (zbV (E n_Mo_requires [.ref a0, .int (0 : Int32), .int (6 : Int32)] M1) fun M4 =>
    zif ((zK M4 a0).1 = 11)
    (zbV (E n_Mo_reads [.ref a0] M4) fun M5 =>
    some (none, M5))))
  else zif ((zK M1 a0).1 = 11)
  (zbV (E n_Mo_requires [.ref a0, .int (1 : Int32), .int (6 : Int32)] M1) fun M6 =>
  zif ((zK M6 a0).1 = 11)
  (zbV (E n_Mo_reads [.ref a0] M6) fun M7 =>
  some (none, M7))))))))
set_option maxRecDepth 20000 in
theorem zg_Mo_readPromise_238 (d : Nat) (a0 : Nat) (x2 : Int32) (s0 : Int32) (s1 : Nat) (M : zM) : zG d n_Mo_readPromise 238 [some (.ref a0), none, some (.int x2), none, none, none] [.int s0, .ref s1] M = zx_Mo_readPromise_238 (zV d) (zG d n_Mo_readPromise) a0 x2 s0 s1 M := by
  refine (zG_sg (m := zm_Mo_readPromise) rfl 400 _ _ _ M).trans ?_
  show zw true zm_Mo_readPromise (zV d) (zG d n_Mo_readPromise) 400 238 [some (.ref a0), none, some (.int x2), none, none, none] [.int s0, .ref s1] M = _
  unfold zx_Mo_readPromise_238
  refine zw_iconst (p := 239) (x := (5 : Int32)) (Or.inl rfl) rfl rfl rfl ?_
  refine zw_virtualV (p := 242) (as := [.ref s1, .int s0, .int (5 : Int32)]) (rest := []) (Or.inr rfl) rfl rfl rfl rfl rfl rfl rfl (fun M1 => ?_)
  refine zw_aload_n (p := 243) (Or.inr rfl) rfl rfl rfl ?_
  refine zw_aload_n (p := 244) (Or.inr rfl) rfl rfl rfl ?_
  refine zw_get_ref (p := 247) (Or.inr rfl) rfl rfl (fun q1 => ?_)
  refine zw_bipush (p := 249) (x := (90 : Int32)) (Or.inr rfl) rfl rfl rfl ?_
  refine zw_iload_n (p := 250) (Or.inr rfl) rfl rfl rfl ?_
  refine zw_imul (p := 251) (Or.inr rfl) rfl rfl ?_
  refine zw_iconst (p := 252) (x := (2 : Int32)) (Or.inr rfl) rfl rfl rfl ?_
  refine zw_iadd (p := 253) (Or.inr rfl) rfl rfl ?_
  refine zw_iaload (p := 254) (Or.inr rfl) rfl rfl ?_
  refine zw_bipush (p := 256) (x := (40 : Int32)) (Or.inr rfl) rfl rfl rfl ?_
  refine zw_icmp_gt (t := 283) (p := 259) (Or.inr rfl) rfl rfl rfl ?_ ?_
  · refine zw_iconst (p := 284) (x := (0 : Int32)) (Or.inr rfl) rfl rfl rfl ?_
    refine zw_bipush (p := 286) (x := (6 : Int32)) (Or.inr rfl) rfl rfl rfl ?_
    refine zw_virtualV (p := 289) (as := [.ref a0, .int (0 : Int32), .int (6 : Int32)]) (rest := []) (Or.inr rfl) rfl rfl rfl rfl rfl rfl rfl (fun M2 => ?_)
    refine zw_aload_n (p := 290) (Or.inr rfl) rfl rfl rfl ?_
    refine zw_virtualV (p := 293) (as := [.ref a0]) (rest := []) (Or.inr rfl) rfl rfl rfl rfl rfl rfl rfl (fun M3 => ?_)
    exact zw_return (Or.inr rfl) rfl rfl
  refine zw_aload_n (p := 260) (Or.inr rfl) rfl rfl rfl ?_
  refine zw_get_ref (p := 263) (Or.inr rfl) rfl rfl (fun q2 => ?_)
  refine zw_bipush (p := 265) (x := (45 : Int32)) (Or.inr rfl) rfl rfl rfl ?_
  refine zw_iconst (p := 266) (x := (2 : Int32)) (Or.inr rfl) rfl rfl rfl ?_
  refine zw_iload_n (p := 267) (Or.inr rfl) rfl rfl rfl ?_
  refine zw_imul (p := 268) (Or.inr rfl) rfl rfl ?_
  refine zw_iconst (p := 269) (x := (1 : Int32)) (Or.inr rfl) rfl rfl rfl ?_
  refine zw_iadd (p := 270) (Or.inr rfl) rfl rfl ?_
  refine zw_imul (p := 271) (Or.inr rfl) rfl rfl ?_
  refine zw_iconst (p := 272) (x := (2 : Int32)) (Or.inr rfl) rfl rfl rfl ?_
  refine zw_iadd (p := 273) (Or.inr rfl) rfl rfl ?_
  refine zw_iaload (p := 274) (Or.inr rfl) rfl rfl ?_
  refine zw_bipush (p := 276) (x := (40 : Int32)) (Or.inr rfl) rfl rfl rfl ?_
  refine zw_icmp_gt (t := 283) (p := 279) (Or.inr rfl) rfl rfl rfl ?_ ?_
  · refine zw_iconst (p := 284) (x := (0 : Int32)) (Or.inr rfl) rfl rfl rfl ?_
    refine zw_bipush (p := 286) (x := (6 : Int32)) (Or.inr rfl) rfl rfl rfl ?_
    refine zw_virtualV (p := 289) (as := [.ref a0, .int (0 : Int32), .int (6 : Int32)]) (rest := []) (Or.inr rfl) rfl rfl rfl rfl rfl rfl rfl (fun M4 => ?_)
    refine zw_aload_n (p := 290) (Or.inr rfl) rfl rfl rfl ?_
    refine zw_virtualV (p := 293) (as := [.ref a0]) (rest := []) (Or.inr rfl) rfl rfl rfl rfl rfl rfl rfl (fun M5 => ?_)
    exact zw_return (Or.inr rfl) rfl rfl
  refine zw_iconst (p := 280) (x := (1 : Int32)) (Or.inr rfl) rfl rfl rfl ?_
  refine zw_goto (t := 284) (Or.inr rfl) rfl rfl ?_
  refine zw_bipush (p := 286) (x := (6 : Int32)) (Or.inr rfl) rfl rfl rfl ?_
  refine zw_virtualV (p := 289) (as := [.ref a0, .int (1 : Int32), .int (6 : Int32)]) (rest := []) (Or.inr rfl) rfl rfl rfl rfl rfl rfl rfl (fun M6 => ?_)
  refine zw_aload_n (p := 290) (Or.inr rfl) rfl rfl rfl ?_
  refine zw_virtualV (p := 293) (as := [.ref a0]) (rest := []) (Or.inr rfl) rfl rfl rfl rfl rfl rfl rfl (fun M7 => ?_)
  exact zw_return (Or.inr rfl) rfl rfl
def zx_Mo_readPromise_175 (E : zE0) (K : zKt) (a0 : Nat) (x2 : Int32) (x3 : Int32) (x4 : Int32) (x5 : Int32) (M : zM) : zO :=
  if (4 : Int32) ≤ x5 then (zif ((zK M a0).1 = 11)
    (if (zI M a0 18) ≠ 0 then (zif ((zK M a0).1 = 11)
      (zbV (E n_Mo_reads [.ref a0] M) fun M1 =>
      some (none, M1)))
    else zif ((zK M a0).1 = 11)
    (zbI (E n_Mo_isSign [.ref a0, .int (59 : Int32)] M) fun u1 M2 =>
    zif ((zK M2 a0).1 = 11)
    (zbV (E n_Mo_requires [.ref a0, .int u1, .int (2 : Int32)] M2) fun M3 =>
    if x3 ≠ 0 then (K 238 [some (.ref a0), none, some (.int x2), none, none, none] [.int (0 : Int32), .ref a0] M3)
    else if x4 ≠ 0 then (K 238 [some (.ref a0), none, some (.int x2), none, none, none] [.int (0 : Int32), .ref a0] M3)
    else K 238 [some (.ref a0), none, some (.int x2), none, none, none] [.int (1 : Int32), .ref a0] M3))))
  else zif ((zK M a0).1 = 11)
  (zoR (zR M a0 7) fun q1 =>
  zif ((zK M a0).1 = 11)
  (zoR (zR M a0 26) fun q2 =>
  zif (((zK M q2).1 = 23 ∨ (zK M q2).1 = 25) ∧ zin x5 (zK M q2).2 = true)
  (zif ((zK M q1).1 = 23 ∧ zin (((4 : Int32) * x2) + x5) (zK M q1).2 = true)
  (zbm (zsL M q1 (Int32.toNatClampNeg (((4 : Int32) * x2) + x5)) (zL M q2 (Int32.toNatClampNeg x5))) fun M4 =>
  zbi (x5 + (1 : Int32)) fun u2 =>
  K 175 [some (.ref a0), none, some (.int x2), some (.int x3), some (.int x4), some (.int u2)] [] M4))))
set_option maxRecDepth 20000 in
theorem zg_Mo_readPromise_175 (d : Nat) (a0 : Nat) (x2 : Int32) (x3 : Int32) (x4 : Int32) (x5 : Int32) (M : zM) : zG d n_Mo_readPromise 175 [some (.ref a0), none, some (.int x2), some (.int x3), some (.int x4), some (.int x5)] [] M = zx_Mo_readPromise_175 (zV d) (zG d n_Mo_readPromise) a0 x2 x3 x4 x5 M := by
  refine (zG_sg (m := zm_Mo_readPromise) rfl 400 _ _ _ M).trans ?_
  show zw true zm_Mo_readPromise (zV d) (zG d n_Mo_readPromise) 400 175 [some (.ref a0), none, some (.int x2), some (.int x3), some (.int x4), some (.int x5)] [] M = _
  unfold zx_Mo_readPromise_175
  refine zw_iload (p := 177) (Or.inl rfl) rfl rfl rfl ?_
  refine zw_iconst (p := 178) (x := (4 : Int32)) (Or.inr rfl) rfl rfl rfl ?_
  refine zw_icmp_ge (t := 205) (p := 181) (Or.inr rfl) rfl rfl rfl ?_ ?_
  · refine zw_aload_n (p := 206) (Or.inr rfl) rfl rfl rfl ?_
    refine zw_get_int (p := 209) (Or.inr rfl) rfl rfl ?_
    refine zw_if_ne (t := 289) (p := 212) (Or.inr rfl) rfl rfl rfl ?_ ?_
    · refine zw_aload_n (p := 290) (Or.inr rfl) rfl rfl rfl ?_
      refine zw_virtualV (p := 293) (as := [.ref a0]) (rest := []) (Or.inr rfl) rfl rfl rfl rfl rfl rfl rfl (fun M1 => ?_)
      exact zw_return (Or.inr rfl) rfl rfl
    refine zw_aload_n (p := 213) (Or.inr rfl) rfl rfl rfl ?_
    refine zw_aload_n (p := 214) (Or.inr rfl) rfl rfl rfl ?_
    refine zw_bipush (p := 216) (x := (59 : Int32)) (Or.inr rfl) rfl rfl rfl ?_
    refine zw_virtualI (p := 219) (as := [.ref a0, .int (59 : Int32)]) (rest := [.ref a0]) (Or.inr rfl) rfl rfl rfl rfl rfl rfl rfl (fun u1 M2 => ?_)
    refine zw_iconst (p := 220) (x := (2 : Int32)) (Or.inr rfl) rfl rfl rfl ?_
    refine zw_virtualV (p := 223) (as := [.ref a0, .int u1, .int (2 : Int32)]) (rest := []) (Or.inr rfl) rfl rfl rfl rfl rfl rfl rfl (fun M3 => ?_)
    refine zw_aload_n (p := 224) (Or.inr rfl) rfl rfl rfl ?_
    refine zw_iload_n (p := 225) (Or.inr rfl) rfl rfl rfl ?_
    refine zw_if_ne (t := 237) (p := 228) (Or.inr rfl) rfl rfl rfl ?_ ?_
    · refine zw_iconst (p := 238) (x := (0 : Int32)) (Or.inr rfl) rfl rfl rfl ?_
      exact zw_end rfl rfl
    refine zw_iload (p := 230) (Or.inr rfl) rfl rfl rfl ?_
    refine zw_if_ne (t := 237) (p := 233) (Or.inr rfl) rfl rfl rfl ?_ ?_
    · refine zw_iconst (p := 238) (x := (0 : Int32)) (Or.inr rfl) rfl rfl rfl ?_
      exact zw_end rfl rfl
    refine zw_iconst (p := 234) (x := (1 : Int32)) (Or.inr rfl) rfl rfl rfl ?_
    refine zw_goto (t := 238) (Or.inr rfl) rfl rfl ?_
    exact zw_end rfl rfl
  refine zw_aload_n (p := 182) (Or.inr rfl) rfl rfl rfl ?_
  refine zw_get_ref (p := 185) (Or.inr rfl) rfl rfl (fun q1 => ?_)
  refine zw_iconst (p := 186) (x := (4 : Int32)) (Or.inr rfl) rfl rfl rfl ?_
  refine zw_iload_n (p := 187) (Or.inr rfl) rfl rfl rfl ?_
  refine zw_imul (p := 188) (Or.inr rfl) rfl rfl ?_
  refine zw_iload (p := 190) (Or.inr rfl) rfl rfl rfl ?_
  refine zw_iadd (p := 191) (Or.inr rfl) rfl rfl ?_
  refine zw_aload_n (p := 192) (Or.inr rfl) rfl rfl rfl ?_
  refine zw_get_ref (p := 195) (Or.inr rfl) rfl rfl (fun q2 => ?_)
  refine zw_iload (p := 197) (Or.inr rfl) rfl rfl rfl ?_
  refine zw_laload (p := 198) (Or.inr rfl) rfl rfl ?_
  refine zw_lastore (p := 199) (Or.inr rfl) rfl rfl (fun M4 => ?_)
  refine zw_iinc (p := 202) (c := (1 : Int32)) (L2 := fun u2 => [some (.ref a0), none, some (.int x2), some (.int x3), some (.int x4), some (.int u2)]) (Or.inr rfl) rfl rfl rfl rfl (fun _ => rfl) rfl (fun u2 => ?_)
  refine zw_goto (t := 175) (Or.inr rfl) rfl rfl ?_
  exact zw_end rfl rfl
def zx_Mo_text (E : zE0) (K : zKt) (a0 : Nat) (M : zM) : zO :=
  zif ((zK M a0).1 = 11)
  (zbm (zsI M a0 18 (0 : Int32)) fun M1 =>
  zif ((zK M1 a0).1 = 11)
  (zbm (zsI M1 a0 14 (0 : Int32)) fun M2 =>
  zif ((zK M2 a0).1 = 11)
  (zbV (E n_Mo_reads [.ref a0] M2) fun M3 =>
  K 16 [some (.ref a0), some (.int (0 : Int32)), none] [] M3)))
set_option maxRecDepth 20000 in
theorem ze_Mo_text (d : Nat) (a0 : Nat) (M : zM) : zV (d + 1) n_Mo_text [.ref a0] M = zx_Mo_text (zV d) (zG d n_Mo_text) a0 M := by
  refine (zE_sg (m := zm_Mo_text) rfl 400 _ rfl M).trans ?_
  show zw true zm_Mo_text (zV d) (zG d n_Mo_text) 400 0 [some (.ref a0), none, none] [] M = _
  unfold zx_Mo_text
  refine zw_aload_n (p := 1) (Or.inl rfl) rfl rfl rfl ?_
  refine zw_iconst (p := 2) (x := (0 : Int32)) (Or.inr rfl) rfl rfl rfl ?_
  refine zw_put_int (p := 5) (Or.inr rfl) rfl rfl (fun M1 => ?_)
  refine zw_aload_n (p := 6) (Or.inr rfl) rfl rfl rfl ?_
  refine zw_iconst (p := 7) (x := (0 : Int32)) (Or.inr rfl) rfl rfl rfl ?_
  refine zw_put_int (p := 10) (Or.inr rfl) rfl rfl (fun M2 => ?_)
  refine zw_iconst (p := 11) (x := (0 : Int32)) (Or.inr rfl) rfl rfl rfl ?_
  refine zw_istore_n (p := 12) (l2 := [some (.ref a0), some (.int (0 : Int32)), none]) (Or.inr rfl) rfl rfl rfl rfl ?_
  refine zw_aload_n (p := 13) (Or.inr rfl) rfl rfl rfl ?_
  refine zw_virtualV (p := 16) (as := [.ref a0]) (rest := []) (Or.inr rfl) rfl rfl rfl rfl rfl rfl rfl (fun M3 => ?_)
  exact zw_end rfl rfl
def zx_Mo_text_16 (E : zE0) (K : zKt) (a0 : Nat) (x1 : Int32) (M : zM) : zO :=
  zif ((zK M a0).1 = 11)
  (if (zI M a0 18) ≠ 0 then (zif ((zK M a0).1 = 11)
    (zbm (zsI M a0 13 (0 : Int32)) fun M1 =>
    zif ((zK M1 a0).1 = 11)
    (if (zI M1 a0 18) ≤ 0 then (zif ((zK M1 a0).1 = 11)
      (zbm (zsI M1 a0 8 x1) fun M2 =>
      K 68 [some (.ref a0), some (.int x1), some (.int (0 : Int32))] [] M2))
    else zif ((zK M1 a0).1 = 11)
    (some (some (.int ((-10 : Int32) - (zI M1 a0 19))), M1)))))
  else zif ((zK M a0).1 = 11)
  (if (zI M a0 16) = 0 then (zif ((zK M a0).1 = 11)
    (zbm (zsI M a0 13 (0 : Int32)) fun M3 =>
    zif ((zK M3 a0).1 = 11)
    (if (zI M3 a0 18) ≤ 0 then (zif ((zK M3 a0).1 = 11)
      (zbm (zsI M3 a0 8 x1) fun M4 =>
      K 68 [some (.ref a0), some (.int x1), some (.int (0 : Int32))] [] M4))
    else zif ((zK M3 a0).1 = 11)
    (some (some (.int ((-10 : Int32) - (zI M3 a0 19))), M3)))))
  else zif ((zK M a0).1 = 11)
  (zbV (E n_Mo_readPromise [.ref a0, .int x1] M) fun M5 =>
  zbi (x1 + (1 : Int32)) fun u1 =>
  K 16 [some (.ref a0), some (.int u1), none] [] M5)))
set_option maxRecDepth 20000 in
theorem zg_Mo_text_16 (d : Nat) (a0 : Nat) (x1 : Int32) (M : zM) : zG d n_Mo_text 16 [some (.ref a0), some (.int x1), none] [] M = zx_Mo_text_16 (zV d) (zG d n_Mo_text) a0 x1 M := by
  refine (zG_sg (m := zm_Mo_text) rfl 400 _ _ _ M).trans ?_
  show zw true zm_Mo_text (zV d) (zG d n_Mo_text) 400 16 [some (.ref a0), some (.int x1), none] [] M = _
  unfold zx_Mo_text_16
  refine zw_aload_n (p := 17) (Or.inl rfl) rfl rfl rfl ?_
  refine zw_get_int (p := 20) (Or.inr rfl) rfl rfl ?_
  refine zw_if_ne (t := 41) (p := 23) (Or.inr rfl) rfl rfl rfl ?_ ?_
  · refine zw_aload_n (p := 42) (Or.inr rfl) rfl rfl rfl ?_
    refine zw_iconst (p := 43) (x := (0 : Int32)) (Or.inr rfl) rfl rfl rfl ?_
    refine zw_put_int (p := 46) (Or.inr rfl) rfl rfl (fun M1 => ?_)
    refine zw_aload_n (p := 47) (Or.inr rfl) rfl rfl rfl ?_
    refine zw_get_int (p := 50) (Or.inr rfl) rfl rfl ?_
    refine zw_if_le (t := 61) (p := 53) (Or.inr rfl) rfl rfl rfl ?_ ?_
    · refine zw_aload_n (p := 62) (Or.inr rfl) rfl rfl rfl ?_
      refine zw_iload_n (p := 63) (Or.inr rfl) rfl rfl rfl ?_
      refine zw_put_int (p := 66) (Or.inr rfl) rfl rfl (fun M2 => ?_)
      refine zw_iconst (p := 67) (x := (0 : Int32)) (Or.inr rfl) rfl rfl rfl ?_
      refine zw_istore_n (p := 68) (l2 := [some (.ref a0), some (.int x1), some (.int (0 : Int32))]) (Or.inr rfl) rfl rfl rfl rfl ?_
      exact zw_end rfl rfl
    refine zw_bipush (p := 55) (x := (-10 : Int32)) (Or.inr rfl) rfl rfl rfl ?_
    refine zw_aload_n (p := 56) (Or.inr rfl) rfl rfl rfl ?_
    refine zw_get_int (p := 59) (Or.inr rfl) rfl rfl ?_
    refine zw_isub (p := 60) (Or.inr rfl) rfl rfl ?_
    exact zw_ireturn1 (Or.inr rfl) rfl rfl
  refine zw_aload_n (p := 24) (Or.inr rfl) rfl rfl rfl ?_
  refine zw_get_int (p := 27) (Or.inr rfl) rfl rfl ?_
  refine zw_if_eq (t := 41) (p := 30) (Or.inr rfl) rfl rfl rfl ?_ ?_
  · refine zw_aload_n (p := 42) (Or.inr rfl) rfl rfl rfl ?_
    refine zw_iconst (p := 43) (x := (0 : Int32)) (Or.inr rfl) rfl rfl rfl ?_
    refine zw_put_int (p := 46) (Or.inr rfl) rfl rfl (fun M3 => ?_)
    refine zw_aload_n (p := 47) (Or.inr rfl) rfl rfl rfl ?_
    refine zw_get_int (p := 50) (Or.inr rfl) rfl rfl ?_
    refine zw_if_le (t := 61) (p := 53) (Or.inr rfl) rfl rfl rfl ?_ ?_
    · refine zw_aload_n (p := 62) (Or.inr rfl) rfl rfl rfl ?_
      refine zw_iload_n (p := 63) (Or.inr rfl) rfl rfl rfl ?_
      refine zw_put_int (p := 66) (Or.inr rfl) rfl rfl (fun M4 => ?_)
      refine zw_iconst (p := 67) (x := (0 : Int32)) (Or.inr rfl) rfl rfl rfl ?_
      refine zw_istore_n (p := 68) (l2 := [some (.ref a0), some (.int x1), some (.int (0 : Int32))]) (Or.inr rfl) rfl rfl rfl rfl ?_
      exact zw_end rfl rfl
    refine zw_bipush (p := 55) (x := (-10 : Int32)) (Or.inr rfl) rfl rfl rfl ?_
    refine zw_aload_n (p := 56) (Or.inr rfl) rfl rfl rfl ?_
    refine zw_get_int (p := 59) (Or.inr rfl) rfl rfl ?_
    refine zw_isub (p := 60) (Or.inr rfl) rfl rfl ?_
    exact zw_ireturn1 (Or.inr rfl) rfl rfl
  refine zw_aload_n (p := 31) (Or.inr rfl) rfl rfl rfl ?_
  refine zw_iload_n (p := 32) (Or.inr rfl) rfl rfl rfl ?_
  refine zw_virtualV (p := 35) (as := [.ref a0, .int x1]) (rest := []) (Or.inr rfl) rfl rfl rfl rfl rfl rfl rfl (fun M5 => ?_)
  refine zw_iinc (p := 38) (c := (1 : Int32)) (L2 := fun u1 => [some (.ref a0), some (.int u1), none]) (Or.inr rfl) rfl rfl rfl rfl (fun _ => rfl) rfl (fun u1 => ?_)
  refine zw_goto (t := 16) (Or.inr rfl) rfl rfl ?_
  exact zw_end rfl rfl
def zx_Mo_text_68 (E : zE0) (K : zKt) (a0 : Nat) (x1 : Int32) (x2 : Int32) (M : zM) : zO :=
  if (360 : Int32) ≤ x2 then (K 95 [some (.ref a0), some (.int x1), some (.int (0 : Int32))] [] M)
  else zif ((zK M a0).1 = 11)
  (zoR (zR M a0 0) fun q1 =>
  zif ((zK M a0).1 = 11)
  (zoR (zR M a0 1) fun q2 =>
  zif (((zK M q2).1 = 20 ∨ (zK M q2).1 = 24) ∧ zin x2 (zK M q2).2 = true)
  (zif ((zK M q1).1 = 20 ∧ zin x2 (zK M q1).2 = true)
  (zbm (zsI M q1 (Int32.toNatClampNeg x2) (zI M q2 (Int32.toNatClampNeg x2))) fun M1 =>
  zbi (x2 + (1 : Int32)) fun u1 =>
  K 68 [some (.ref a0), some (.int x1), some (.int u1)] [] M1))))
set_option maxRecDepth 20000 in
theorem zg_Mo_text_68 (d : Nat) (a0 : Nat) (x1 : Int32) (x2 : Int32) (M : zM) : zG d n_Mo_text 68 [some (.ref a0), some (.int x1), some (.int x2)] [] M = zx_Mo_text_68 (zV d) (zG d n_Mo_text) a0 x1 x2 M := by
  refine (zG_sg (m := zm_Mo_text) rfl 400 _ _ _ M).trans ?_
  show zw true zm_Mo_text (zV d) (zG d n_Mo_text) 400 68 [some (.ref a0), some (.int x1), some (.int x2)] [] M = _
  unfold zx_Mo_text_68
  refine zw_iload_n (p := 69) (Or.inl rfl) rfl rfl rfl ?_
  refine zw_sipush (p := 72) (x := (360 : Int32)) (Or.inr rfl) rfl rfl rfl ?_
  refine zw_icmp_ge (t := 93) (p := 75) (Or.inr rfl) rfl rfl rfl ?_ ?_
  · refine zw_iconst (p := 94) (x := (0 : Int32)) (Or.inr rfl) rfl rfl rfl ?_
    refine zw_istore_n (p := 95) (l2 := [some (.ref a0), some (.int x1), some (.int (0 : Int32))]) (Or.inr rfl) rfl rfl rfl rfl ?_
    exact zw_end rfl rfl
  refine zw_aload_n (p := 76) (Or.inr rfl) rfl rfl rfl ?_
  refine zw_get_ref (p := 79) (Or.inr rfl) rfl rfl (fun q1 => ?_)
  refine zw_iload_n (p := 80) (Or.inr rfl) rfl rfl rfl ?_
  refine zw_aload_n (p := 81) (Or.inr rfl) rfl rfl rfl ?_
  refine zw_get_ref (p := 84) (Or.inr rfl) rfl rfl (fun q2 => ?_)
  refine zw_iload_n (p := 85) (Or.inr rfl) rfl rfl rfl ?_
  refine zw_iaload (p := 86) (Or.inr rfl) rfl rfl ?_
  refine zw_iastore (p := 87) (Or.inr rfl) rfl rfl (fun M1 => ?_)
  refine zw_iinc (p := 90) (c := (1 : Int32)) (L2 := fun u1 => [some (.ref a0), some (.int x1), some (.int u1)]) (Or.inr rfl) rfl rfl rfl rfl (fun _ => rfl) rfl (fun u1 => ?_)
  refine zw_goto (t := 68) (Or.inr rfl) rfl rfl ?_
  exact zw_end rfl rfl
def zx_Mo_text_95 (E : zE0) (K : zKt) (a0 : Nat) (x1 : Int32) (x2 : Int32) (M : zM) : zO :=
  if (1624 : Int32) ≤ x2 then (K 122 [some (.ref a0), some (.int x1), some (.int (0 : Int32))] [] M)
  else zif ((zK M a0).1 = 11)
  (zoR (zR M a0 2) fun q1 =>
  zif ((zK M a0).1 = 11)
  (zoR (zR M a0 3) fun q2 =>
  zif (((zK M q2).1 = 23 ∨ (zK M q2).1 = 25) ∧ zin x2 (zK M q2).2 = true)
  (zif ((zK M q1).1 = 23 ∧ zin x2 (zK M q1).2 = true)
  (zbm (zsL M q1 (Int32.toNatClampNeg x2) (zL M q2 (Int32.toNatClampNeg x2))) fun M1 =>
  zbi (x2 + (1 : Int32)) fun u1 =>
  K 95 [some (.ref a0), some (.int x1), some (.int u1)] [] M1))))
set_option maxRecDepth 20000 in
theorem zg_Mo_text_95 (d : Nat) (a0 : Nat) (x1 : Int32) (x2 : Int32) (M : zM) : zG d n_Mo_text 95 [some (.ref a0), some (.int x1), some (.int x2)] [] M = zx_Mo_text_95 (zV d) (zG d n_Mo_text) a0 x1 x2 M := by
  refine (zG_sg (m := zm_Mo_text) rfl 400 _ _ _ M).trans ?_
  show zw true zm_Mo_text (zV d) (zG d n_Mo_text) 400 95 [some (.ref a0), some (.int x1), some (.int x2)] [] M = _
  unfold zx_Mo_text_95
  refine zw_iload_n (p := 96) (Or.inl rfl) rfl rfl rfl ?_
  refine zw_sipush (p := 99) (x := (1624 : Int32)) (Or.inr rfl) rfl rfl rfl ?_
  refine zw_icmp_ge (t := 120) (p := 102) (Or.inr rfl) rfl rfl rfl ?_ ?_
  · refine zw_iconst (p := 121) (x := (0 : Int32)) (Or.inr rfl) rfl rfl rfl ?_
    refine zw_istore_n (p := 122) (l2 := [some (.ref a0), some (.int x1), some (.int (0 : Int32))]) (Or.inr rfl) rfl rfl rfl rfl ?_
    exact zw_end rfl rfl
  refine zw_aload_n (p := 103) (Or.inr rfl) rfl rfl rfl ?_
  refine zw_get_ref (p := 106) (Or.inr rfl) rfl rfl (fun q1 => ?_)
  refine zw_iload_n (p := 107) (Or.inr rfl) rfl rfl rfl ?_
  refine zw_aload_n (p := 108) (Or.inr rfl) rfl rfl rfl ?_
  refine zw_get_ref (p := 111) (Or.inr rfl) rfl rfl (fun q2 => ?_)
  refine zw_iload_n (p := 112) (Or.inr rfl) rfl rfl rfl ?_
  refine zw_laload (p := 113) (Or.inr rfl) rfl rfl ?_
  refine zw_lastore (p := 114) (Or.inr rfl) rfl rfl (fun M1 => ?_)
  refine zw_iinc (p := 117) (c := (1 : Int32)) (L2 := fun u1 => [some (.ref a0), some (.int x1), some (.int u1)]) (Or.inr rfl) rfl rfl rfl rfl (fun _ => rfl) rfl (fun u1 => ?_)
  refine zw_goto (t := 95) (Or.inr rfl) rfl rfl ?_
  exact zw_end rfl rfl
def zx_Mo_text_122 (E : zE0) (K : zKt) (a0 : Nat) (x1 : Int32) (x2 : Int32) (M : zM) : zO :=
  if (8 : Int32) ≤ x2 then (K 148 [some (.ref a0), some (.int x1), some (.int (0 : Int32))] [] M)
  else zif ((zK M a0).1 = 11)
  (zoR (zR M a0 4) fun q1 =>
  zif ((zK M a0).1 = 11)
  (zoR (zR M a0 5) fun q2 =>
  zif (((zK M q2).1 = 20 ∨ (zK M q2).1 = 24) ∧ zin x2 (zK M q2).2 = true)
  (zif ((zK M q1).1 = 20 ∧ zin x2 (zK M q1).2 = true)
  (zbm (zsI M q1 (Int32.toNatClampNeg x2) (zI M q2 (Int32.toNatClampNeg x2))) fun M1 =>
  zbi (x2 + (1 : Int32)) fun u1 =>
  K 122 [some (.ref a0), some (.int x1), some (.int u1)] [] M1))))
set_option maxRecDepth 20000 in
theorem zg_Mo_text_122 (d : Nat) (a0 : Nat) (x1 : Int32) (x2 : Int32) (M : zM) : zG d n_Mo_text 122 [some (.ref a0), some (.int x1), some (.int x2)] [] M = zx_Mo_text_122 (zV d) (zG d n_Mo_text) a0 x1 x2 M := by
  refine (zG_sg (m := zm_Mo_text) rfl 400 _ _ _ M).trans ?_
  show zw true zm_Mo_text (zV d) (zG d n_Mo_text) 400 122 [some (.ref a0), some (.int x1), some (.int x2)] [] M = _
  unfold zx_Mo_text_122
  refine zw_iload_n (p := 123) (Or.inl rfl) rfl rfl rfl ?_
  refine zw_bipush (p := 125) (x := (8 : Int32)) (Or.inr rfl) rfl rfl rfl ?_
  refine zw_icmp_ge (t := 146) (p := 128) (Or.inr rfl) rfl rfl rfl ?_ ?_
  · refine zw_iconst (p := 147) (x := (0 : Int32)) (Or.inr rfl) rfl rfl rfl ?_
    refine zw_istore_n (p := 148) (l2 := [some (.ref a0), some (.int x1), some (.int (0 : Int32))]) (Or.inr rfl) rfl rfl rfl rfl ?_
    exact zw_end rfl rfl
  refine zw_aload_n (p := 129) (Or.inr rfl) rfl rfl rfl ?_
  refine zw_get_ref (p := 132) (Or.inr rfl) rfl rfl (fun q1 => ?_)
  refine zw_iload_n (p := 133) (Or.inr rfl) rfl rfl rfl ?_
  refine zw_aload_n (p := 134) (Or.inr rfl) rfl rfl rfl ?_
  refine zw_get_ref (p := 137) (Or.inr rfl) rfl rfl (fun q2 => ?_)
  refine zw_iload_n (p := 138) (Or.inr rfl) rfl rfl rfl ?_
  refine zw_iaload (p := 139) (Or.inr rfl) rfl rfl ?_
  refine zw_iastore (p := 140) (Or.inr rfl) rfl rfl (fun M1 => ?_)
  refine zw_iinc (p := 143) (c := (1 : Int32)) (L2 := fun u1 => [some (.ref a0), some (.int x1), some (.int u1)]) (Or.inr rfl) rfl rfl rfl rfl (fun _ => rfl) rfl (fun u1 => ?_)
  refine zw_goto (t := 122) (Or.inr rfl) rfl rfl ?_
  exact zw_end rfl rfl
def zx_Mo_text_148 (E : zE0) (K : zKt) (a0 : Nat) (x1 : Int32) (x2 : Int32) (M : zM) : zO :=
  if (16 : Int32) ≤ x2 then (zif ((zK M a0).1 = 11)
    (zoR (zR M a0 11) fun q1 =>
    zbast M q1 (0 : Int32) (0 : Int32) fun M1 =>
    zif ((zK M1 a0).1 = 11)
    (zoR (zR M1 a0 11) fun q2 =>
    zbast M1 q2 (1 : Int32) (0 : Int32) fun M2 =>
    some (some (.int x1), M2))))
  else zif ((zK M a0).1 = 11)
  (zoR (zR M a0 6) fun q3 =>
  zif ((zK M a0).1 = 11)
  (zoR (zR M a0 7) fun q4 =>
  zif (((zK M q4).1 = 23 ∨ (zK M q4).1 = 25) ∧ zin x2 (zK M q4).2 = true)
  (zif ((zK M q3).1 = 23 ∧ zin x2 (zK M q3).2 = true)
  (zbm (zsL M q3 (Int32.toNatClampNeg x2) (zL M q4 (Int32.toNatClampNeg x2))) fun M3 =>
  zbi (x2 + (1 : Int32)) fun u1 =>
  K 148 [some (.ref a0), some (.int x1), some (.int u1)] [] M3))))
set_option maxRecDepth 20000 in
theorem zg_Mo_text_148 (d : Nat) (a0 : Nat) (x1 : Int32) (x2 : Int32) (M : zM) : zG d n_Mo_text 148 [some (.ref a0), some (.int x1), some (.int x2)] [] M = zx_Mo_text_148 (zV d) (zG d n_Mo_text) a0 x1 x2 M := by
  refine (zG_sg (m := zm_Mo_text) rfl 400 _ _ _ M).trans ?_
  show zw true zm_Mo_text (zV d) (zG d n_Mo_text) 400 148 [some (.ref a0), some (.int x1), some (.int x2)] [] M = _
  unfold zx_Mo_text_148
  refine zw_iload_n (p := 149) (Or.inl rfl) rfl rfl rfl ?_
  refine zw_bipush (p := 151) (x := (16 : Int32)) (Or.inr rfl) rfl rfl rfl ?_
  refine zw_icmp_ge (t := 172) (p := 154) (Or.inr rfl) rfl rfl rfl ?_ ?_
  · refine zw_aload_n (p := 173) (Or.inr rfl) rfl rfl rfl ?_
    refine zw_get_ref (p := 176) (Or.inr rfl) rfl rfl (fun q1 => ?_)
    refine zw_iconst (p := 177) (x := (0 : Int32)) (Or.inr rfl) rfl rfl rfl ?_
    refine zw_iconst (p := 178) (x := (0 : Int32)) (Or.inr rfl) rfl rfl rfl ?_
    refine zw_bastore (p := 179) (Or.inr rfl) rfl rfl (fun M1 => ?_)
    refine zw_aload_n (p := 180) (Or.inr rfl) rfl rfl rfl ?_
    refine zw_get_ref (p := 183) (Or.inr rfl) rfl rfl (fun q2 => ?_)
    refine zw_iconst (p := 184) (x := (1 : Int32)) (Or.inr rfl) rfl rfl rfl ?_
    refine zw_iconst (p := 185) (x := (0 : Int32)) (Or.inr rfl) rfl rfl rfl ?_
    refine zw_bastore (p := 186) (Or.inr rfl) rfl rfl (fun M2 => ?_)
    refine zw_iload_n (p := 187) (Or.inr rfl) rfl rfl rfl ?_
    exact zw_ireturn1 (Or.inr rfl) rfl rfl
  refine zw_aload_n (p := 155) (Or.inr rfl) rfl rfl rfl ?_
  refine zw_get_ref (p := 158) (Or.inr rfl) rfl rfl (fun q3 => ?_)
  refine zw_iload_n (p := 159) (Or.inr rfl) rfl rfl rfl ?_
  refine zw_aload_n (p := 160) (Or.inr rfl) rfl rfl rfl ?_
  refine zw_get_ref (p := 163) (Or.inr rfl) rfl rfl (fun q4 => ?_)
  refine zw_iload_n (p := 164) (Or.inr rfl) rfl rfl rfl ?_
  refine zw_laload (p := 165) (Or.inr rfl) rfl rfl ?_
  refine zw_lastore (p := 166) (Or.inr rfl) rfl rfl (fun M3 => ?_)
  refine zw_iinc (p := 169) (c := (1 : Int32)) (L2 := fun u1 => [some (.ref a0), some (.int x1), some (.int u1)]) (Or.inr rfl) rfl rfl rfl rfl (fun _ => rfl) rfl (fun u1 => ?_)
  refine zw_goto (t := 148) (Or.inr rfl) rfl rfl ?_
  exact zw_end rfl rfl
def zx_Mo_fault (E : zE0) (K : zKt) (a0 : Nat) (M : zM) : zO :=
  zif ((zK M a0).1 = 11)
  (some (some (.int (zI M a0 18)), M))
set_option maxRecDepth 20000 in
theorem ze_Mo_fault (d : Nat) (a0 : Nat) (M : zM) : zV (d + 1) n_Mo_fault [.ref a0] M = zx_Mo_fault (zV d) (zG d n_Mo_fault) a0 M := by
  refine (zE_sg (m := zm_Mo_fault) rfl 400 _ rfl M).trans ?_
  show zw true zm_Mo_fault (zV d) (zG d n_Mo_fault) 400 0 [some (.ref a0)] [] M = _
  unfold zx_Mo_fault
  refine zw_aload_n (p := 1) (Or.inl rfl) rfl rfl rfl ?_
  refine zw_get_int (p := 4) (Or.inr rfl) rfl rfl ?_
  exact zw_ireturn1 (Or.inr rfl) rfl rfl
def zx_Mo_isPromise (E : zE0) (K : zKt) (a0 : Nat) (x1 : Int32) (M : zM) : zO :=
  zif ((zK M a0).1 = 11)
  (zbI (E n_Mo_in [.long (Int32.toInt64 x1), .long (0 : Int64), .long (Int32.toInt64 ((zI M a0 8) - (1 : Int32)))] M) fun u1 M1 =>
  zif (u1 = 0 ∨ u1 = 1) (some (some (.int u1), M1)))
set_option maxRecDepth 20000 in
theorem ze_Mo_isPromise (d : Nat) (a0 : Nat) (x1 : Int32) (M : zM) : zV (d + 1) n_Mo_isPromise [.ref a0, .int x1] M = zx_Mo_isPromise (zV d) (zG d n_Mo_isPromise) a0 x1 M := by
  refine (zE_sg (m := zm_Mo_isPromise) rfl 400 _ rfl M).trans ?_
  show zw true zm_Mo_isPromise (zV d) (zG d n_Mo_isPromise) 400 0 [some (.ref a0), some (.int x1)] [] M = _
  unfold zx_Mo_isPromise
  refine zw_iload_n (p := 1) (Or.inl rfl) rfl rfl rfl ?_
  refine zw_i2l (p := 2) (Or.inr rfl) rfl rfl ?_
  refine zw_lconst (p := 3) (x := (0 : Int64)) (Or.inr rfl) rfl rfl rfl ?_
  refine zw_aload_n (p := 4) (Or.inr rfl) rfl rfl rfl ?_
  refine zw_get_int (p := 7) (Or.inr rfl) rfl rfl ?_
  refine zw_iconst (p := 8) (x := (1 : Int32)) (Or.inr rfl) rfl rfl rfl ?_
  refine zw_isub (p := 9) (Or.inr rfl) rfl rfl ?_
  refine zw_i2l (p := 10) (Or.inr rfl) rfl rfl ?_
  refine zw_staticI (p := 13) (as := [.long (Int32.toInt64 x1), .long (0 : Int64), .long (Int32.toInt64 ((zI M a0 8) - (1 : Int32)))]) (rest := []) (Or.inr rfl) rfl rfl rfl rfl rfl rfl (fun u1 M1 => ?_)
  exact zw_ireturn2 (Or.inr rfl) rfl rfl
def zx_Mo_isSide (E : zE0) (K : zKt) (x0 : Int32) (M : zM) : zO :=
  zbI (E n_Mo_in [.long (Int32.toInt64 x0), .long (0 : Int64), .long (1 : Int64)] M) fun u1 M1 =>
  zif (u1 = 0 ∨ u1 = 1) (some (some (.int u1), M1))
set_option maxRecDepth 20000 in
theorem ze_Mo_isSide (d : Nat) (x0 : Int32) (M : zM) : zV (d + 1) n_Mo_isSide [.int x0] M = zx_Mo_isSide (zV d) (zG d n_Mo_isSide) x0 M := by
  refine (zE_sg (m := zm_Mo_isSide) rfl 400 _ rfl M).trans ?_
  show zw true zm_Mo_isSide (zV d) (zG d n_Mo_isSide) 400 0 [some (.int x0)] [] M = _
  unfold zx_Mo_isSide
  refine zw_iload_n (p := 1) (Or.inl rfl) rfl rfl rfl ?_
  refine zw_i2l (p := 2) (Or.inr rfl) rfl rfl ?_
  refine zw_lconst (p := 3) (x := (0 : Int64)) (Or.inr rfl) rfl rfl rfl ?_
  refine zw_lconst (p := 4) (x := (1 : Int64)) (Or.inr rfl) rfl rfl rfl ?_
  refine zw_staticI (p := 7) (as := [.long (Int32.toInt64 x0), .long (0 : Int64), .long (1 : Int64)]) (rest := []) (Or.inr rfl) rfl rfl rfl rfl rfl rfl (fun u1 M1 => ?_)
  exact zw_ireturn2 (Or.inr rfl) rfl rfl
def zx_Mo_areBits (E : zE0) (K : zKt) (x0 : Int32) (M : zM) : zO :=
  zbI (E n_Mo_in [.long (Int32.toInt64 x0), .long (0 : Int64), .long (255 : Int64)] M) fun u1 M1 =>
  zif (u1 = 0 ∨ u1 = 1) (some (some (.int u1), M1))
set_option maxRecDepth 20000 in
theorem ze_Mo_areBits (d : Nat) (x0 : Int32) (M : zM) : zV (d + 1) n_Mo_areBits [.int x0] M = zx_Mo_areBits (zV d) (zG d n_Mo_areBits) x0 M := by
  refine (zE_sg (m := zm_Mo_areBits) rfl 400 _ rfl M).trans ?_
  show zw true zm_Mo_areBits (zV d) (zG d n_Mo_areBits) 400 0 [some (.int x0)] [] M = _
  unfold zx_Mo_areBits
  refine zw_iload_n (p := 1) (Or.inl rfl) rfl rfl rfl ?_
  refine zw_i2l (p := 2) (Or.inr rfl) rfl rfl ?_
  refine zw_lconst (p := 3) (x := (0 : Int64)) (Or.inr rfl) rfl rfl rfl ?_
  refine zw_ldc2_w (p := 6) (x := (255 : Int64)) (Or.inr rfl) rfl rfl rfl ?_
  refine zw_staticI (p := 9) (as := [.long (Int32.toInt64 x0), .long (0 : Int64), .long (255 : Int64)]) (rest := []) (Or.inr rfl) rfl rfl rfl rfl rfl rfl (fun u1 M1 => ?_)
  exact zw_ireturn2 (Or.inr rfl) rfl rfl
def zx_Mo_fulfilsOne (E : zE0) (K : zKt) (a0 : Nat) (x1 : Int32) (x2 : Int32) (x3 : Int32) (M : zM) : zO :=
  zif ((zK M a0).1 = 11)
  (zoR (zR M a0 2) fun q1 =>
  zif (¬ (64 : Int32) = 0) (zif (((zK M q1).1 = 23 ∨ (zK M q1).1 = 25) ∧ zin (((((203 : Int32) * x1) + (43 : Int32)) + ((4 : Int32) * x2)) + (x3 / (64 : Int32))) (zK M q1).2 = true)
  (zif (¬ (64 : Int32) = 0) (if (lg_cmp (((zL M q1 (Int32.toNatClampNeg (((((203 : Int32) * x1) + (43 : Int32)) + ((4 : Int32) * x2)) + (x3 / (64 : Int32))))) >>> (Int32.toInt64 (x3 - x3 / (64 : Int32) * (64 : Int32)) &&& 63)) &&& (1 : Int64)) (1 : Int64)) ≠ 0 then (zif ((0 : Int32) = 0 ∨ (0 : Int32) = 1) (some (some (.int (0 : Int32)), M)))
  else zif ((1 : Int32) = 0 ∨ (1 : Int32) = 1) (some (some (.int (1 : Int32)), M))))))
set_option maxRecDepth 20000 in
theorem ze_Mo_fulfilsOne (d : Nat) (a0 : Nat) (x1 : Int32) (x2 : Int32) (x3 : Int32) (M : zM) : zV (d + 1) n_Mo_fulfilsOne [.ref a0, .int x1, .int x2, .int x3] M = zx_Mo_fulfilsOne (zV d) (zG d n_Mo_fulfilsOne) a0 x1 x2 x3 M := by
  refine (zE_sg (m := zm_Mo_fulfilsOne) rfl 400 _ rfl M).trans ?_
  show zw true zm_Mo_fulfilsOne (zV d) (zG d n_Mo_fulfilsOne) 400 0 [some (.ref a0), some (.int x1), some (.int x2), some (.int x3)] [] M = _
  unfold zx_Mo_fulfilsOne
  refine zw_aload_n (p := 1) (Or.inl rfl) rfl rfl rfl ?_
  refine zw_get_ref (p := 4) (Or.inr rfl) rfl rfl (fun q1 => ?_)
  refine zw_sipush (p := 7) (x := (203 : Int32)) (Or.inr rfl) rfl rfl rfl ?_
  refine zw_iload_n (p := 8) (Or.inr rfl) rfl rfl rfl ?_
  refine zw_imul (p := 9) (Or.inr rfl) rfl rfl ?_
  refine zw_bipush (p := 11) (x := (43 : Int32)) (Or.inr rfl) rfl rfl rfl ?_
  refine zw_iadd (p := 12) (Or.inr rfl) rfl rfl ?_
  refine zw_iconst (p := 13) (x := (4 : Int32)) (Or.inr rfl) rfl rfl rfl ?_
  refine zw_iload_n (p := 14) (Or.inr rfl) rfl rfl rfl ?_
  refine zw_imul (p := 15) (Or.inr rfl) rfl rfl ?_
  refine zw_iadd (p := 16) (Or.inr rfl) rfl rfl ?_
  refine zw_iload_n (p := 17) (Or.inr rfl) rfl rfl rfl ?_
  refine zw_bipush (p := 19) (x := (64 : Int32)) (Or.inr rfl) rfl rfl rfl ?_
  refine zw_idiv (p := 20) (Or.inr rfl) rfl rfl ?_
  refine zw_iadd (p := 21) (Or.inr rfl) rfl rfl ?_
  refine zw_laload (p := 22) (Or.inr rfl) rfl rfl ?_
  refine zw_iload_n (p := 23) (Or.inr rfl) rfl rfl rfl ?_
  refine zw_bipush (p := 25) (x := (64 : Int32)) (Or.inr rfl) rfl rfl rfl ?_
  refine zw_irem (p := 26) (Or.inr rfl) rfl rfl ?_
  refine zw_lshr (p := 27) (Or.inr rfl) rfl rfl ?_
  refine zw_lconst (p := 28) (x := (1 : Int64)) (Or.inr rfl) rfl rfl rfl ?_
  refine zw_land (p := 29) (Or.inr rfl) rfl rfl ?_
  refine zw_lconst (p := 30) (x := (1 : Int64)) (Or.inr rfl) rfl rfl rfl ?_
  refine zw_lcmp (p := 31) (Or.inr rfl) rfl rfl ?_
  refine zw_if_ne (t := 38) (p := 34) (Or.inr rfl) rfl rfl rfl ?_ ?_
  · refine zw_iconst (p := 39) (x := (0 : Int32)) (Or.inr rfl) rfl rfl rfl ?_
    exact zw_ireturn2 (Or.inr rfl) rfl rfl
  refine zw_iconst (p := 35) (x := (1 : Int32)) (Or.inr rfl) rfl rfl rfl ?_
  refine zw_goto (t := 39) (Or.inr rfl) rfl rfl ?_
  exact zw_ireturn2 (Or.inr rfl) rfl rfl
def zx_Mo_fulfilsOff (E : zE0) (K : zKt) (a0 : Nat) (x1 : Int32) (x2 : Int32) (M : zM) : zO :=
  zif ((zK M a0).1 = 11)
  (zoR (zR M a0 4) fun q1 =>
  zif (((zK M q1).1 = 20 ∨ (zK M q1).1 = 24) ∧ zin (((2 : Int32) * x1) + (1 : Int32)) (zK M q1).2 = true)
  (if (zI M q1 (Int32.toNatClampNeg (((2 : Int32) * x1) + (1 : Int32)))) ≠ (1 : Int32) then (zif ((0 : Int32) = 0 ∨ (0 : Int32) = 1) (some (some (.int (0 : Int32)), M)))
  else zif ((zK M a0).1 = 11)
  (zoR (zR M a0 6) fun q2 =>
  zif (¬ (64 : Int32) = 0) (zif (((zK M q2).1 = 23 ∨ (zK M q2).1 = 25) ∧ zin (((4 : Int32) * x1) + (x2 / (64 : Int32))) (zK M q2).2 = true)
  (zif (¬ (64 : Int32) = 0) (if (lg_cmp (((zL M q2 (Int32.toNatClampNeg (((4 : Int32) * x1) + (x2 / (64 : Int32))))) >>> (Int32.toInt64 (x2 - x2 / (64 : Int32) * (64 : Int32)) &&& 63)) &&& (1 : Int64)) (1 : Int64)) ≠ 0 then (zif ((0 : Int32) = 0 ∨ (0 : Int32) = 1) (some (some (.int (0 : Int32)), M)))
  else zif ((1 : Int32) = 0 ∨ (1 : Int32) = 1) (some (some (.int (1 : Int32)), M))))))))
set_option maxRecDepth 20000 in
theorem ze_Mo_fulfilsOff (d : Nat) (a0 : Nat) (x1 : Int32) (x2 : Int32) (M : zM) : zV (d + 1) n_Mo_fulfilsOff [.ref a0, .int x1, .int x2] M = zx_Mo_fulfilsOff (zV d) (zG d n_Mo_fulfilsOff) a0 x1 x2 M := by
  refine (zE_sg (m := zm_Mo_fulfilsOff) rfl 400 _ rfl M).trans ?_
  show zw true zm_Mo_fulfilsOff (zV d) (zG d n_Mo_fulfilsOff) 400 0 [some (.ref a0), some (.int x1), some (.int x2)] [] M = _
  unfold zx_Mo_fulfilsOff
  refine zw_aload_n (p := 1) (Or.inl rfl) rfl rfl rfl ?_
  refine zw_get_ref (p := 4) (Or.inr rfl) rfl rfl (fun q1 => ?_)
  refine zw_iconst (p := 5) (x := (2 : Int32)) (Or.inr rfl) rfl rfl rfl ?_
  refine zw_iload_n (p := 6) (Or.inr rfl) rfl rfl rfl ?_
  refine zw_imul (p := 7) (Or.inr rfl) rfl rfl ?_
  refine zw_iconst (p := 8) (x := (1 : Int32)) (Or.inr rfl) rfl rfl rfl ?_
  refine zw_iadd (p := 9) (Or.inr rfl) rfl rfl ?_
  refine zw_iaload (p := 10) (Or.inr rfl) rfl rfl ?_
  refine zw_iconst (p := 11) (x := (1 : Int32)) (Or.inr rfl) rfl rfl rfl ?_
  refine zw_icmp_ne (t := 43) (p := 14) (Or.inr rfl) rfl rfl rfl ?_ ?_
  · refine zw_iconst (p := 44) (x := (0 : Int32)) (Or.inr rfl) rfl rfl rfl ?_
    exact zw_ireturn2 (Or.inr rfl) rfl rfl
  refine zw_aload_n (p := 15) (Or.inr rfl) rfl rfl rfl ?_
  refine zw_get_ref (p := 18) (Or.inr rfl) rfl rfl (fun q2 => ?_)
  refine zw_iconst (p := 19) (x := (4 : Int32)) (Or.inr rfl) rfl rfl rfl ?_
  refine zw_iload_n (p := 20) (Or.inr rfl) rfl rfl rfl ?_
  refine zw_imul (p := 21) (Or.inr rfl) rfl rfl ?_
  refine zw_iload_n (p := 22) (Or.inr rfl) rfl rfl rfl ?_
  refine zw_bipush (p := 24) (x := (64 : Int32)) (Or.inr rfl) rfl rfl rfl ?_
  refine zw_idiv (p := 25) (Or.inr rfl) rfl rfl ?_
  refine zw_iadd (p := 26) (Or.inr rfl) rfl rfl ?_
  refine zw_laload (p := 27) (Or.inr rfl) rfl rfl ?_
  refine zw_iload_n (p := 28) (Or.inr rfl) rfl rfl rfl ?_
  refine zw_bipush (p := 30) (x := (64 : Int32)) (Or.inr rfl) rfl rfl rfl ?_
  refine zw_irem (p := 31) (Or.inr rfl) rfl rfl ?_
  refine zw_lshr (p := 32) (Or.inr rfl) rfl rfl ?_
  refine zw_lconst (p := 33) (x := (1 : Int64)) (Or.inr rfl) rfl rfl rfl ?_
  refine zw_land (p := 34) (Or.inr rfl) rfl rfl ?_
  refine zw_lconst (p := 35) (x := (1 : Int64)) (Or.inr rfl) rfl rfl rfl ?_
  refine zw_lcmp (p := 36) (Or.inr rfl) rfl rfl ?_
  refine zw_if_ne (t := 43) (p := 39) (Or.inr rfl) rfl rfl rfl ?_ ?_
  · refine zw_iconst (p := 44) (x := (0 : Int32)) (Or.inr rfl) rfl rfl rfl ?_
    exact zw_ireturn2 (Or.inr rfl) rfl rfl
  refine zw_iconst (p := 40) (x := (1 : Int32)) (Or.inr rfl) rfl rfl rfl ?_
  refine zw_goto (t := 44) (Or.inr rfl) rfl rfl ?_
  exact zw_ireturn2 (Or.inr rfl) rfl rfl
def zx_Mo_findsFulfilling (E : zE0) (K : zKt) (a0 : Nat) (x1 : Int32) (M : zM) : zO :=
  K 2 [some (.ref a0), some (.int x1), some (.int (0 : Int32)), none, none, none, none, none] [] M
set_option maxRecDepth 20000 in
theorem ze_Mo_findsFulfilling (d : Nat) (a0 : Nat) (x1 : Int32) (M : zM) : zV (d + 1) n_Mo_findsFulfilling [.ref a0, .int x1] M = zx_Mo_findsFulfilling (zV d) (zG d n_Mo_findsFulfilling) a0 x1 M := by
  refine (zE_sg (m := zm_Mo_findsFulfilling) rfl 400 _ rfl M).trans ?_
  show zw true zm_Mo_findsFulfilling (zV d) (zG d n_Mo_findsFulfilling) 400 0 [some (.ref a0), some (.int x1), none, none, none, none, none, none] [] M = _
  unfold zx_Mo_findsFulfilling
  refine zw_iconst (p := 1) (x := (0 : Int32)) (Or.inl rfl) rfl rfl rfl ?_
  refine zw_istore_n (p := 2) (l2 := [some (.ref a0), some (.int x1), some (.int (0 : Int32)), none, none, none, none, none]) (Or.inr rfl) rfl rfl rfl rfl ?_
  exact zw_end rfl rfl
def zx_Mo_findsFulfilling_2 (E : zE0) (K : zKt) (a0 : Nat) (x1 : Int32) (x2 : Int32) (M : zM) : zO :=
  if (2 : Int32) ≤ x2 then (some (none, M))
  else zbi (((2 : Int32) * x1) + x2) fun u1 =>
  K 16 [some (.ref a0), some (.int x1), some (.int x2), some (.int u1), some (.int (0 : Int32)), none, none, none] [] M
set_option maxRecDepth 20000 in
theorem zg_Mo_findsFulfilling_2 (d : Nat) (a0 : Nat) (x1 : Int32) (x2 : Int32) (M : zM) : zG d n_Mo_findsFulfilling 2 [some (.ref a0), some (.int x1), some (.int x2), none, none, none, none, none] [] M = zx_Mo_findsFulfilling_2 (zV d) (zG d n_Mo_findsFulfilling) a0 x1 x2 M := by
  refine (zG_sg (m := zm_Mo_findsFulfilling) rfl 400 _ _ _ M).trans ?_
  show zw true zm_Mo_findsFulfilling (zV d) (zG d n_Mo_findsFulfilling) 400 2 [some (.ref a0), some (.int x1), some (.int x2), none, none, none, none, none] [] M = _
  unfold zx_Mo_findsFulfilling_2
  refine zw_iload_n (p := 3) (Or.inl rfl) rfl rfl rfl ?_
  refine zw_iconst (p := 4) (x := (2 : Int32)) (Or.inr rfl) rfl rfl rfl ?_
  refine zw_icmp_ge (t := 125) (p := 7) (Or.inr rfl) rfl rfl rfl ?_ ?_
  · exact zw_return (Or.inr rfl) rfl rfl
  refine zw_iconst (p := 8) (x := (2 : Int32)) (Or.inr rfl) rfl rfl rfl ?_
  refine zw_iload_n (p := 9) (Or.inr rfl) rfl rfl rfl ?_
  refine zw_imul (p := 10) (Or.inr rfl) rfl rfl ?_
  refine zw_iload_n (p := 11) (Or.inr rfl) rfl rfl rfl ?_
  refine zw_iadd (p := 12) (Or.inr rfl) rfl rfl ?_
  refine zw_istore_nN (p := 13) (L2 := fun u1 => [some (.ref a0), some (.int x1), some (.int x2), some (.int u1), none, none, none, none]) (Or.inr rfl) rfl rfl (fun _ => rfl) rfl (fun u1 => ?_)
  refine zw_iconst (p := 14) (x := (0 : Int32)) (Or.inr rfl) rfl rfl rfl ?_
  refine zw_istore (p := 16) (l2 := [some (.ref a0), some (.int x1), some (.int x2), some (.int u1), some (.int (0 : Int32)), none, none, none]) (Or.inr rfl) rfl rfl rfl rfl ?_
  exact zw_end rfl rfl
def zx_Mo_findsFulfilling_16 (E : zE0) (K : zKt) (a0 : Nat) (x1 : Int32) (x2 : Int32) (x3 : Int32) (x4 : Int32) (M : zM) : zO :=
  zif ((zK M a0).1 = 11)
  (zoR (zR M a0 9) fun q1 =>
  zif (((zK M q1).1 = 20 ∨ (zK M q1).1 = 24) ∧ zin (0 : Int32) (zK M q1).2 = true)
  (if (zI M q1 (Int32.toNatClampNeg (0 : Int32))) ≤ x4 then (zbi (x2 + (1 : Int32)) fun u1 =>
    K 2 [some (.ref a0), some (.int x1), some (.int u1), none, none, none, none, none] [] M)
  else K 33 [some (.ref a0), some (.int x1), some (.int x2), some (.int x3), some (.int x4), some (.long (0 : Int64)), none, some (.int (0 : Int32))] [] M))
set_option maxRecDepth 20000 in
theorem zg_Mo_findsFulfilling_16 (d : Nat) (a0 : Nat) (x1 : Int32) (x2 : Int32) (x3 : Int32) (x4 : Int32) (M : zM) : zG d n_Mo_findsFulfilling 16 [some (.ref a0), some (.int x1), some (.int x2), some (.int x3), some (.int x4), none, none, none] [] M = zx_Mo_findsFulfilling_16 (zV d) (zG d n_Mo_findsFulfilling) a0 x1 x2 x3 x4 M := by
  refine (zG_sg (m := zm_Mo_findsFulfilling) rfl 400 _ _ _ M).trans ?_
  show zw true zm_Mo_findsFulfilling (zV d) (zG d n_Mo_findsFulfilling) 400 16 [some (.ref a0), some (.int x1), some (.int x2), some (.int x3), some (.int x4), none, none, none] [] M = _
  unfold zx_Mo_findsFulfilling_16
  refine zw_iload (p := 18) (Or.inl rfl) rfl rfl rfl ?_
  refine zw_aload_n (p := 19) (Or.inr rfl) rfl rfl rfl ?_
  refine zw_get_ref (p := 22) (Or.inr rfl) rfl rfl (fun q1 => ?_)
  refine zw_iconst (p := 23) (x := (0 : Int32)) (Or.inr rfl) rfl rfl rfl ?_
  refine zw_iaload (p := 24) (Or.inr rfl) rfl rfl ?_
  refine zw_icmp_ge (t := 119) (p := 27) (Or.inr rfl) rfl rfl rfl ?_ ?_
  · refine zw_iinc (p := 122) (c := (1 : Int32)) (L2 := fun u1 => [some (.ref a0), some (.int x1), some (.int u1), some (.int x3), some (.int x4), none, none, none]) (Or.inr rfl) rfl rfl rfl rfl (fun _ => rfl) rfl (fun u1 => ?_)
    refine zw_goto (t := 2) (Or.inr rfl) rfl rfl ?_
    exact zw_end rfl rfl
  refine zw_lconst (p := 28) (x := (0 : Int64)) (Or.inr rfl) rfl rfl rfl ?_
  refine zw_lstore (p := 30) (l2 := [some (.ref a0), some (.int x1), some (.int x2), some (.int x3), some (.int x4), some (.long (0 : Int64)), none, none]) (Or.inr rfl) rfl rfl rfl rfl ?_
  refine zw_iconst (p := 31) (x := (0 : Int32)) (Or.inr rfl) rfl rfl rfl ?_
  refine zw_istore (p := 33) (l2 := [some (.ref a0), some (.int x1), some (.int x2), some (.int x3), some (.int x4), some (.long (0 : Int64)), none, some (.int (0 : Int32))]) (Or.inr rfl) rfl rfl rfl rfl ?_
  exact zw_end rfl rfl
def zx_Mo_findsFulfilling_33 (E : zE0) (K : zKt) (a0 : Nat) (x1 : Int32) (x2 : Int32) (x3 : Int32) (x4 : Int32) (l5 : Int64) (x7 : Int32) (M : zM) : zO :=
  zif ((zK M a0).1 = 11)
  (zoR (zR M a0 0) fun q1 =>
  zif (((zK M q1).1 = 20 ∨ (zK M q1).1 = 24) ∧ zin (((45 : Int32) * x3) + (0 : Int32)) (zK M q1).2 = true)
  (if (zI M q1 (Int32.toNatClampNeg (((45 : Int32) * x3) + (0 : Int32)))) ≤ x7 then (zif ((zK M a0).1 = 11)
    (zoR (zR M a0 40) fun q2 =>
    zif ((zK M q2).1 = 23 ∧ zin (((48 : Int32) * x2) + x4) (zK M q2).2 = true)
    (zbm (zsL M q2 (Int32.toNatClampNeg (((48 : Int32) * x2) + x4)) l5) fun M1 =>
    zbi (x4 + (1 : Int32)) fun u1 =>
    K 16 [some (.ref a0), some (.int x1), some (.int x2), some (.int x3), some (.int u1), none, none, none] [] M1)))
  else zif ((zK M a0).1 = 11)
  (zoR (zR M a0 0) fun q3 =>
  zif (((zK M q3).1 = 20 ∨ (zK M q3).1 = 24) ∧ zin ((((45 : Int32) * x3) + (5 : Int32)) + x7) (zK M q3).2 = true)
  (zif ((zK M a0).1 = 11)
  (zoR (zR M a0 9) fun q4 =>
  zif (((zK M q4).1 = 20 ∨ (zK M q4).1 = 24) ∧ zin ((1 : Int32) + x4) (zK M q4).2 = true)
  (zif ((zK M a0).1 = 11)
  (zbI (E n_Mo_fulfilsOne [.ref a0, .int x3, .int (zI M q3 (Int32.toNatClampNeg ((((45 : Int32) * x3) + (5 : Int32)) + x7))), .int (zI M q4 (Int32.toNatClampNeg ((1 : Int32) + x4)))] M) fun u2 M2 =>
  if u2 = 0 then (zbl (l5 ||| (0 : Int64)) fun w1 =>
    zbi (x7 + (1 : Int32)) fun u3 =>
    K 33 [some (.ref a0), some (.int x1), some (.int x2), some (.int x3), some (.int x4), some (.long w1), none, some (.int u3)] [] M2)
  else zbl (l5 ||| ((1 : Int64) <<< (Int32.toInt64 x7 &&& 63))) fun w2 =>
  zbi (x7 + (1 : Int32)) fun u4 =>
  K 33 [some (.ref a0), some (.int x1), some (.int x2), some (.int x3), some (.int x4), some (.long w2), none, some (.int u4)] [] M2)))))))
set_option maxRecDepth 20000 in
theorem zg_Mo_findsFulfilling_33 (d : Nat) (a0 : Nat) (x1 : Int32) (x2 : Int32) (x3 : Int32) (x4 : Int32) (l5 : Int64) (x7 : Int32) (M : zM) : zG d n_Mo_findsFulfilling 33 [some (.ref a0), some (.int x1), some (.int x2), some (.int x3), some (.int x4), some (.long l5), none, some (.int x7)] [] M = zx_Mo_findsFulfilling_33 (zV d) (zG d n_Mo_findsFulfilling) a0 x1 x2 x3 x4 l5 x7 M := by
  refine (zG_sg (m := zm_Mo_findsFulfilling) rfl 400 _ _ _ M).trans ?_
  show zw true zm_Mo_findsFulfilling (zV d) (zG d n_Mo_findsFulfilling) 400 33 [some (.ref a0), some (.int x1), some (.int x2), some (.int x3), some (.int x4), some (.long l5), none, some (.int x7)] [] M = _
  unfold zx_Mo_findsFulfilling_33
  refine zw_iload (p := 35) (Or.inl rfl) rfl rfl rfl ?_
  refine zw_aload_n (p := 36) (Or.inr rfl) rfl rfl rfl ?_
  refine zw_get_ref (p := 39) (Or.inr rfl) rfl rfl (fun q1 => ?_)
  refine zw_bipush (p := 41) (x := (45 : Int32)) (Or.inr rfl) rfl rfl rfl ?_
  refine zw_iload_n (p := 42) (Or.inr rfl) rfl rfl rfl ?_
  refine zw_imul (p := 43) (Or.inr rfl) rfl rfl ?_
  refine zw_iconst (p := 44) (x := (0 : Int32)) (Or.inr rfl) rfl rfl rfl ?_
  refine zw_iadd (p := 45) (Or.inr rfl) rfl rfl ?_
  refine zw_iaload (p := 46) (Or.inr rfl) rfl rfl ?_
  refine zw_icmp_ge (t := 99) (p := 49) (Or.inr rfl) rfl rfl rfl ?_ ?_
  · refine zw_aload_n (p := 100) (Or.inr rfl) rfl rfl rfl ?_
    refine zw_get_ref (p := 103) (Or.inr rfl) rfl rfl (fun q2 => ?_)
    refine zw_bipush (p := 105) (x := (48 : Int32)) (Or.inr rfl) rfl rfl rfl ?_
    refine zw_iload_n (p := 106) (Or.inr rfl) rfl rfl rfl ?_
    refine zw_imul (p := 107) (Or.inr rfl) rfl rfl ?_
    refine zw_iload (p := 109) (Or.inr rfl) rfl rfl rfl ?_
    refine zw_iadd (p := 110) (Or.inr rfl) rfl rfl ?_
    refine zw_lload (p := 112) (Or.inr rfl) rfl rfl rfl ?_
    refine zw_lastore (p := 113) (Or.inr rfl) rfl rfl (fun M1 => ?_)
    refine zw_iinc (p := 116) (c := (1 : Int32)) (L2 := fun u1 => [some (.ref a0), some (.int x1), some (.int x2), some (.int x3), some (.int u1), some (.long l5), none, some (.int x7)]) (Or.inr rfl) rfl rfl rfl rfl (fun _ => rfl) rfl (fun u1 => ?_)
    refine zw_goto (t := 16) (Or.inr rfl) rfl rfl ?_
    exact zw_end rfl rfl
  refine zw_lload (p := 51) (Or.inr rfl) rfl rfl rfl ?_
  refine zw_aload_n (p := 52) (Or.inr rfl) rfl rfl rfl ?_
  refine zw_iload_n (p := 53) (Or.inr rfl) rfl rfl rfl ?_
  refine zw_aload_n (p := 54) (Or.inr rfl) rfl rfl rfl ?_
  refine zw_get_ref (p := 57) (Or.inr rfl) rfl rfl (fun q3 => ?_)
  refine zw_bipush (p := 59) (x := (45 : Int32)) (Or.inr rfl) rfl rfl rfl ?_
  refine zw_iload_n (p := 60) (Or.inr rfl) rfl rfl rfl ?_
  refine zw_imul (p := 61) (Or.inr rfl) rfl rfl ?_
  refine zw_iconst (p := 62) (x := (5 : Int32)) (Or.inr rfl) rfl rfl rfl ?_
  refine zw_iadd (p := 63) (Or.inr rfl) rfl rfl ?_
  refine zw_iload (p := 65) (Or.inr rfl) rfl rfl rfl ?_
  refine zw_iadd (p := 66) (Or.inr rfl) rfl rfl ?_
  refine zw_iaload (p := 67) (Or.inr rfl) rfl rfl ?_
  refine zw_aload_n (p := 68) (Or.inr rfl) rfl rfl rfl ?_
  refine zw_get_ref (p := 71) (Or.inr rfl) rfl rfl (fun q4 => ?_)
  refine zw_iconst (p := 72) (x := (1 : Int32)) (Or.inr rfl) rfl rfl rfl ?_
  refine zw_iload (p := 74) (Or.inr rfl) rfl rfl rfl ?_
  refine zw_iadd (p := 75) (Or.inr rfl) rfl rfl ?_
  refine zw_iaload (p := 76) (Or.inr rfl) rfl rfl ?_
  refine zw_virtualI (p := 79) (as := [.ref a0, .int x3, .int (zI M q3 (Int32.toNatClampNeg ((((45 : Int32) * x3) + (5 : Int32)) + x7))), .int (zI M q4 (Int32.toNatClampNeg ((1 : Int32) + x4)))]) (rest := [.long l5]) (Or.inr rfl) rfl rfl rfl rfl rfl rfl rfl (fun u2 M2 => ?_)
  refine zw_if_eq (t := 89) (p := 82) (Or.inr rfl) rfl rfl rfl ?_ ?_
  · refine zw_lconst (p := 90) (x := (0 : Int64)) (Or.inr rfl) rfl rfl rfl ?_
    refine zw_lor (p := 91) (Or.inr rfl) rfl rfl ?_
    refine zw_lstoreN (p := 93) (L2 := fun w1 => [some (.ref a0), some (.int x1), some (.int x2), some (.int x3), some (.int x4), some (.long w1), none, some (.int x7)]) (Or.inr rfl) rfl rfl (fun _ => rfl) rfl (fun w1 => ?_)
    refine zw_iinc (p := 96) (c := (1 : Int32)) (L2 := fun u3 => [some (.ref a0), some (.int x1), some (.int x2), some (.int x3), some (.int x4), some (.long w1), none, some (.int u3)]) (Or.inr rfl) rfl rfl rfl rfl (fun _ => rfl) rfl (fun u3 => ?_)
    refine zw_goto (t := 33) (Or.inr rfl) rfl rfl ?_
    exact zw_end rfl rfl
  refine zw_lconst (p := 83) (x := (1 : Int64)) (Or.inr rfl) rfl rfl rfl ?_
  refine zw_iload (p := 85) (Or.inr rfl) rfl rfl rfl ?_
  refine zw_lshl (p := 86) (Or.inr rfl) rfl rfl ?_
  refine zw_goto (t := 90) (Or.inr rfl) rfl rfl ?_
  refine zw_lor (p := 91) (Or.inr rfl) rfl rfl ?_
  refine zw_lstoreN (p := 93) (L2 := fun w2 => [some (.ref a0), some (.int x1), some (.int x2), some (.int x3), some (.int x4), some (.long w2), none, some (.int x7)]) (Or.inr rfl) rfl rfl (fun _ => rfl) rfl (fun w2 => ?_)
  refine zw_iinc (p := 96) (c := (1 : Int32)) (L2 := fun u4 => [some (.ref a0), some (.int x1), some (.int x2), some (.int x3), some (.int x4), some (.long w2), none, some (.int u4)]) (Or.inr rfl) rfl rfl rfl rfl (fun _ => rfl) rfl (fun u4 => ?_)
  refine zw_goto (t := 33) (Or.inr rfl) rfl rfl ?_
  exact zw_end rfl rfl
def zx_Mo_nextOf (E : zE0) (K : zKt) (a0 : Nat) (x1 : Int32) (l2 : Int64) (M : zM) : zO :=
  K 6 [some (.ref a0), some (.int x1), some (.long l2), none, some (.long (0 : Int64)), none, some (.int (0 : Int32))] [] M
set_option maxRecDepth 20000 in
theorem ze_Mo_nextOf (d : Nat) (a0 : Nat) (x1 : Int32) (l2 : Int64) (M : zM) : zV (d + 1) n_Mo_nextOf [.ref a0, .int x1, .long l2] M = zx_Mo_nextOf (zV d) (zG d n_Mo_nextOf) a0 x1 l2 M := by
  refine (zE_sg (m := zm_Mo_nextOf) rfl 400 _ rfl M).trans ?_
  show zw true zm_Mo_nextOf (zV d) (zG d n_Mo_nextOf) 400 0 [some (.ref a0), some (.int x1), some (.long l2), none, none, none, none] [] M = _
  unfold zx_Mo_nextOf
  refine zw_lconst (p := 1) (x := (0 : Int64)) (Or.inl rfl) rfl rfl rfl ?_
  refine zw_lstore (p := 3) (l2 := [some (.ref a0), some (.int x1), some (.long l2), none, some (.long (0 : Int64)), none, none]) (Or.inr rfl) rfl rfl rfl rfl ?_
  refine zw_iconst (p := 4) (x := (0 : Int32)) (Or.inr rfl) rfl rfl rfl ?_
  refine zw_istore (p := 6) (l2 := [some (.ref a0), some (.int x1), some (.long l2), none, some (.long (0 : Int64)), none, some (.int (0 : Int32))]) (Or.inr rfl) rfl rfl rfl rfl ?_
  exact zw_end rfl rfl
def zx_Mo_nextOf_6 (E : zE0) (K : zKt) (a0 : Nat) (x1 : Int32) (l2 : Int64) (l4 : Int64) (x6 : Int32) (M : zM) : zO :=
  zif ((zK M a0).1 = 11)
  (zoR (zR M a0 0) fun q1 =>
  zif (((zK M q1).1 = 20 ∨ (zK M q1).1 = 24) ∧ zin (((45 : Int32) * x1) + (0 : Int32)) (zK M q1).2 = true)
  (if (zI M q1 (Int32.toNatClampNeg (((45 : Int32) * x1) + (0 : Int32)))) ≤ x6 then (some (some (.long l4), M))
  else if (lg_cmp ((l2 >>> (Int32.toInt64 x6 &&& 63)) &&& (1 : Int64)) (1 : Int64)) ≠ 0 then (zbl (l4 ||| (0 : Int64)) fun w1 =>
    zbi (x6 + (1 : Int32)) fun u1 =>
    K 6 [some (.ref a0), some (.int x1), some (.long l2), none, some (.long w1), none, some (.int u1)] [] M)
  else zif ((zK M a0).1 = 11)
  (zoR (zR M a0 2) fun q2 =>
  zif (((zK M q2).1 = 23 ∨ (zK M q2).1 = 25) ∧ zin ((((203 : Int32) * x1) + (3 : Int32)) + x6) (zK M q2).2 = true)
  (zbl (l4 ||| (zL M q2 (Int32.toNatClampNeg ((((203 : Int32) * x1) + (3 : Int32)) + x6)))) fun w2 =>
  zbi (x6 + (1 : Int32)) fun u2 =>
  K 6 [some (.ref a0), some (.int x1), some (.long l2), none, some (.long w2), none, some (.int u2)] [] M))))
set_option maxRecDepth 20000 in
theorem zg_Mo_nextOf_6 (d : Nat) (a0 : Nat) (x1 : Int32) (l2 : Int64) (l4 : Int64) (x6 : Int32) (M : zM) : zG d n_Mo_nextOf 6 [some (.ref a0), some (.int x1), some (.long l2), none, some (.long l4), none, some (.int x6)] [] M = zx_Mo_nextOf_6 (zV d) (zG d n_Mo_nextOf) a0 x1 l2 l4 x6 M := by
  refine (zG_sg (m := zm_Mo_nextOf) rfl 400 _ _ _ M).trans ?_
  show zw true zm_Mo_nextOf (zV d) (zG d n_Mo_nextOf) 400 6 [some (.ref a0), some (.int x1), some (.long l2), none, some (.long l4), none, some (.int x6)] [] M = _
  unfold zx_Mo_nextOf_6
  refine zw_iload (p := 8) (Or.inl rfl) rfl rfl rfl ?_
  refine zw_aload_n (p := 9) (Or.inr rfl) rfl rfl rfl ?_
  refine zw_get_ref (p := 12) (Or.inr rfl) rfl rfl (fun q1 => ?_)
  refine zw_bipush (p := 14) (x := (45 : Int32)) (Or.inr rfl) rfl rfl rfl ?_
  refine zw_iload_n (p := 15) (Or.inr rfl) rfl rfl rfl ?_
  refine zw_imul (p := 16) (Or.inr rfl) rfl rfl ?_
  refine zw_iconst (p := 17) (x := (0 : Int32)) (Or.inr rfl) rfl rfl rfl ?_
  refine zw_iadd (p := 18) (Or.inr rfl) rfl rfl ?_
  refine zw_iaload (p := 19) (Or.inr rfl) rfl rfl ?_
  refine zw_icmp_ge (t := 63) (p := 22) (Or.inr rfl) rfl rfl rfl ?_ ?_
  · refine zw_lload (p := 65) (Or.inr rfl) rfl rfl rfl ?_
    exact zw_lreturn (Or.inr rfl) rfl rfl
  refine zw_lload (p := 24) (Or.inr rfl) rfl rfl rfl ?_
  refine zw_lload_n (p := 25) (Or.inr rfl) rfl rfl rfl ?_
  refine zw_iload (p := 27) (Or.inr rfl) rfl rfl rfl ?_
  refine zw_lshr (p := 28) (Or.inr rfl) rfl rfl ?_
  refine zw_lconst (p := 29) (x := (1 : Int64)) (Or.inr rfl) rfl rfl rfl ?_
  refine zw_land (p := 30) (Or.inr rfl) rfl rfl ?_
  refine zw_lconst (p := 31) (x := (1 : Int64)) (Or.inr rfl) rfl rfl rfl ?_
  refine zw_lcmp (p := 32) (Or.inr rfl) rfl rfl ?_
  refine zw_if_ne (t := 53) (p := 35) (Or.inr rfl) rfl rfl rfl ?_ ?_
  · refine zw_lconst (p := 54) (x := (0 : Int64)) (Or.inr rfl) rfl rfl rfl ?_
    refine zw_lor (p := 55) (Or.inr rfl) rfl rfl ?_
    refine zw_lstoreN (p := 57) (L2 := fun w1 => [some (.ref a0), some (.int x1), some (.long l2), none, some (.long w1), none, some (.int x6)]) (Or.inr rfl) rfl rfl (fun _ => rfl) rfl (fun w1 => ?_)
    refine zw_iinc (p := 60) (c := (1 : Int32)) (L2 := fun u1 => [some (.ref a0), some (.int x1), some (.long l2), none, some (.long w1), none, some (.int u1)]) (Or.inr rfl) rfl rfl rfl rfl (fun _ => rfl) rfl (fun u1 => ?_)
    refine zw_goto (t := 6) (Or.inr rfl) rfl rfl ?_
    exact zw_end rfl rfl
  refine zw_aload_n (p := 36) (Or.inr rfl) rfl rfl rfl ?_
  refine zw_get_ref (p := 39) (Or.inr rfl) rfl rfl (fun q2 => ?_)
  refine zw_sipush (p := 42) (x := (203 : Int32)) (Or.inr rfl) rfl rfl rfl ?_
  refine zw_iload_n (p := 43) (Or.inr rfl) rfl rfl rfl ?_
  refine zw_imul (p := 44) (Or.inr rfl) rfl rfl ?_
  refine zw_iconst (p := 45) (x := (3 : Int32)) (Or.inr rfl) rfl rfl rfl ?_
  refine zw_iadd (p := 46) (Or.inr rfl) rfl rfl ?_
  refine zw_iload (p := 48) (Or.inr rfl) rfl rfl rfl ?_
  refine zw_iadd (p := 49) (Or.inr rfl) rfl rfl ?_
  refine zw_laload (p := 50) (Or.inr rfl) rfl rfl ?_
  refine zw_goto (t := 54) (Or.inr rfl) rfl rfl ?_
  refine zw_lor (p := 55) (Or.inr rfl) rfl rfl ?_
  refine zw_lstoreN (p := 57) (L2 := fun w2 => [some (.ref a0), some (.int x1), some (.long l2), none, some (.long w2), none, some (.int x6)]) (Or.inr rfl) rfl rfl (fun _ => rfl) rfl (fun w2 => ?_)
  refine zw_iinc (p := 60) (c := (1 : Int32)) (L2 := fun u2 => [some (.ref a0), some (.int x1), some (.long l2), none, some (.long w2), none, some (.int u2)]) (Or.inr rfl) rfl rfl rfl rfl (fun _ => rfl) rfl (fun u2 => ?_)
  refine zw_goto (t := 6) (Or.inr rfl) rfl rfl ?_
  exact zw_end rfl rfl
def zx_Mo_firstOf (E : zE0) (K : zKt) (a0 : Nat) (x1 : Int32) (M : zM) : zO :=
  zif ((zK M a0).1 = 11)
  (zoR (zR M a0 2) fun q1 =>
  zif (((zK M q1).1 = 23 ∨ (zK M q1).1 = 25) ∧ zin (((203 : Int32) * x1) + (0 : Int32)) (zK M q1).2 = true)
  (some (some (.long (zL M q1 (Int32.toNatClampNeg (((203 : Int32) * x1) + (0 : Int32))))), M)))
set_option maxRecDepth 20000 in
theorem ze_Mo_firstOf (d : Nat) (a0 : Nat) (x1 : Int32) (M : zM) : zV (d + 1) n_Mo_firstOf [.ref a0, .int x1] M = zx_Mo_firstOf (zV d) (zG d n_Mo_firstOf) a0 x1 M := by
  refine (zE_sg (m := zm_Mo_firstOf) rfl 400 _ rfl M).trans ?_
  show zw true zm_Mo_firstOf (zV d) (zG d n_Mo_firstOf) 400 0 [some (.ref a0), some (.int x1)] [] M = _
  unfold zx_Mo_firstOf
  refine zw_aload_n (p := 1) (Or.inl rfl) rfl rfl rfl ?_
  refine zw_get_ref (p := 4) (Or.inr rfl) rfl rfl (fun q1 => ?_)
  refine zw_sipush (p := 7) (x := (203 : Int32)) (Or.inr rfl) rfl rfl rfl ?_
  refine zw_iload_n (p := 8) (Or.inr rfl) rfl rfl rfl ?_
  refine zw_imul (p := 9) (Or.inr rfl) rfl rfl ?_
  refine zw_iconst (p := 10) (x := (0 : Int32)) (Or.inr rfl) rfl rfl rfl ?_
  refine zw_iadd (p := 11) (Or.inr rfl) rfl rfl ?_
  refine zw_laload (p := 12) (Or.inr rfl) rfl rfl ?_
  exact zw_lreturn (Or.inr rfl) rfl rfl
def zx_Mo_isEnd (E : zE0) (K : zKt) (a0 : Nat) (x1 : Int32) (l2 : Int64) (M : zM) : zO :=
  zif ((zK M a0).1 = 11)
  (zoR (zR M a0 2) fun q1 =>
  zif (((zK M q1).1 = 23 ∨ (zK M q1).1 = 25) ∧ zin (((203 : Int32) * x1) + (1 : Int32)) (zK M q1).2 = true)
  (if (lg_cmp (l2 &&& (zL M q1 (Int32.toNatClampNeg (((203 : Int32) * x1) + (1 : Int32))))) (0 : Int64)) = 0 then (zif ((0 : Int32) = 0 ∨ (0 : Int32) = 1) (some (some (.int (0 : Int32)), M)))
  else zif ((1 : Int32) = 0 ∨ (1 : Int32) = 1) (some (some (.int (1 : Int32)), M))))
set_option maxRecDepth 20000 in
theorem ze_Mo_isEnd (d : Nat) (a0 : Nat) (x1 : Int32) (l2 : Int64) (M : zM) : zV (d + 1) n_Mo_isEnd [.ref a0, .int x1, .long l2] M = zx_Mo_isEnd (zV d) (zG d n_Mo_isEnd) a0 x1 l2 M := by
  refine (zE_sg (m := zm_Mo_isEnd) rfl 400 _ rfl M).trans ?_
  show zw true zm_Mo_isEnd (zV d) (zG d n_Mo_isEnd) 400 0 [some (.ref a0), some (.int x1), some (.long l2), none] [] M = _
  unfold zx_Mo_isEnd
  refine zw_lload_n (p := 1) (Or.inl rfl) rfl rfl rfl ?_
  refine zw_aload_n (p := 2) (Or.inr rfl) rfl rfl rfl ?_
  refine zw_get_ref (p := 5) (Or.inr rfl) rfl rfl (fun q1 => ?_)
  refine zw_sipush (p := 8) (x := (203 : Int32)) (Or.inr rfl) rfl rfl rfl ?_
  refine zw_iload_n (p := 9) (Or.inr rfl) rfl rfl rfl ?_
  refine zw_imul (p := 10) (Or.inr rfl) rfl rfl ?_
  refine zw_iconst (p := 11) (x := (1 : Int32)) (Or.inr rfl) rfl rfl rfl ?_
  refine zw_iadd (p := 12) (Or.inr rfl) rfl rfl ?_
  refine zw_laload (p := 13) (Or.inr rfl) rfl rfl ?_
  refine zw_land (p := 14) (Or.inr rfl) rfl rfl ?_
  refine zw_lconst (p := 15) (x := (0 : Int64)) (Or.inr rfl) rfl rfl rfl ?_
  refine zw_lcmp (p := 16) (Or.inr rfl) rfl rfl ?_
  refine zw_if_eq (t := 23) (p := 19) (Or.inr rfl) rfl rfl rfl ?_ ?_
  · refine zw_iconst (p := 24) (x := (0 : Int32)) (Or.inr rfl) rfl rfl rfl ?_
    exact zw_ireturn2 (Or.inr rfl) rfl rfl
  refine zw_iconst (p := 20) (x := (1 : Int32)) (Or.inr rfl) rfl rfl rfl ?_
  refine zw_goto (t := 24) (Or.inr rfl) rfl rfl ?_
  exact zw_ireturn2 (Or.inr rfl) rfl rfl
def zx_Mo_canEnd (E : zE0) (K : zKt) (a0 : Nat) (x1 : Int32) (l2 : Int64) (M : zM) : zO :=
  zif ((zK M a0).1 = 11)
  (zoR (zR M a0 2) fun q1 =>
  zif (((zK M q1).1 = 23 ∨ (zK M q1).1 = 25) ∧ zin (((203 : Int32) * x1) + (2 : Int32)) (zK M q1).2 = true)
  (if (lg_cmp (l2 &&& (zL M q1 (Int32.toNatClampNeg (((203 : Int32) * x1) + (2 : Int32))))) (0 : Int64)) = 0 then (zif ((0 : Int32) = 0 ∨ (0 : Int32) = 1) (some (some (.int (0 : Int32)), M)))
  else zif ((1 : Int32) = 0 ∨ (1 : Int32) = 1) (some (some (.int (1 : Int32)), M))))
set_option maxRecDepth 20000 in
theorem ze_Mo_canEnd (d : Nat) (a0 : Nat) (x1 : Int32) (l2 : Int64) (M : zM) : zV (d + 1) n_Mo_canEnd [.ref a0, .int x1, .long l2] M = zx_Mo_canEnd (zV d) (zG d n_Mo_canEnd) a0 x1 l2 M := by
  refine (zE_sg (m := zm_Mo_canEnd) rfl 400 _ rfl M).trans ?_
  show zw true zm_Mo_canEnd (zV d) (zG d n_Mo_canEnd) 400 0 [some (.ref a0), some (.int x1), some (.long l2), none] [] M = _
  unfold zx_Mo_canEnd
  refine zw_lload_n (p := 1) (Or.inl rfl) rfl rfl rfl ?_
  refine zw_aload_n (p := 2) (Or.inr rfl) rfl rfl rfl ?_
  refine zw_get_ref (p := 5) (Or.inr rfl) rfl rfl (fun q1 => ?_)
  refine zw_sipush (p := 8) (x := (203 : Int32)) (Or.inr rfl) rfl rfl rfl ?_
  refine zw_iload_n (p := 9) (Or.inr rfl) rfl rfl rfl ?_
  refine zw_imul (p := 10) (Or.inr rfl) rfl rfl ?_
  refine zw_iconst (p := 11) (x := (2 : Int32)) (Or.inr rfl) rfl rfl rfl ?_
  refine zw_iadd (p := 12) (Or.inr rfl) rfl rfl ?_
  refine zw_laload (p := 13) (Or.inr rfl) rfl rfl ?_
  refine zw_land (p := 14) (Or.inr rfl) rfl rfl ?_
  refine zw_lconst (p := 15) (x := (0 : Int64)) (Or.inr rfl) rfl rfl rfl ?_
  refine zw_lcmp (p := 16) (Or.inr rfl) rfl rfl ?_
  refine zw_if_eq (t := 23) (p := 19) (Or.inr rfl) rfl rfl rfl ?_ ?_
  · refine zw_iconst (p := 24) (x := (0 : Int32)) (Or.inr rfl) rfl rfl rfl ?_
    exact zw_ireturn2 (Or.inr rfl) rfl rfl
  refine zw_iconst (p := 20) (x := (1 : Int32)) (Or.inr rfl) rfl rfl rfl ?_
  refine zw_goto (t := 24) (Or.inr rfl) rfl rfl ?_
  exact zw_ireturn2 (Or.inr rfl) rfl rfl
def zx_Mo_isConditionAsked (E : zE0) (K : zKt) (a0 : Nat) (x1 : Int32) (x2 : Int32) (x3 : Int32) (M : zM) : zO :=
  zif ((zK M a0).1 = 11)
  (zbI (E n_Mo_isPromise [.ref a0, .int x1] M) fun u1 M1 =>
  if u1 = 0 then (zif ((0 : Int32) = 0 ∨ (0 : Int32) = 1) (some (some (.int (0 : Int32)), M1)))
  else zbI (E n_Mo_in [.long (Int32.toInt64 x2), .long (0 : Int64), .long (2 : Int64)] M1) fun u2 M2 =>
  if u2 ≠ 0 then (if x2 ≠ (2 : Int32) then (zif ((zK M2 a0).1 = 11)
      (zoR (zR M2 a0 0) fun q1 =>
      zif (((zK M2 q1).1 = 20 ∨ (zK M2 q1).1 = 24) ∧ zin (((45 : Int32) * (((2 : Int32) * x1) + x2)) + (1 : Int32)) (zK M2 q1).2 = true)
      (zbI (E n_Mo_in [.long (Int32.toInt64 x3), .long (0 : Int64), .long (Int32.toInt64 ((zI M2 q1 (Int32.toNatClampNeg (((45 : Int32) * (((2 : Int32) * x1) + x2)) + (1 : Int32)))) - (1 : Int32)))] M2) fun u3 M3 =>
      zif (u3 = 0 ∨ u3 = 1) (some (some (.int u3), M3)))))
    else zif ((zK M2 a0).1 = 11)
    (zoR (zR M2 a0 4) fun q2 =>
    zif (((zK M2 q2).1 = 20 ∨ (zK M2 q2).1 = 24) ∧ zin (((2 : Int32) * x1) + (1 : Int32)) (zK M2 q2).2 = true)
    (if (zI M2 q2 (Int32.toNatClampNeg (((2 : Int32) * x1) + (1 : Int32)))) ≠ (1 : Int32) then (zif ((0 : Int32) = 0 ∨ (0 : Int32) = 1) (some (some (.int (0 : Int32)), M2)))
    else zif ((1 : Int32) = 0 ∨ (1 : Int32) = 1) (some (some (.int (1 : Int32)), M2)))))
  else zif ((0 : Int32) = 0 ∨ (0 : Int32) = 1) (some (some (.int (0 : Int32)), M2)))
set_option maxRecDepth 20000 in
theorem ze_Mo_isConditionAsked (d : Nat) (a0 : Nat) (x1 : Int32) (x2 : Int32) (x3 : Int32) (M : zM) : zV (d + 1) n_Mo_isConditionAsked [.ref a0, .int x1, .int x2, .int x3] M = zx_Mo_isConditionAsked (zV d) (zG d n_Mo_isConditionAsked) a0 x1 x2 x3 M := by
  refine (zE_sg (m := zm_Mo_isConditionAsked) rfl 400 _ rfl M).trans ?_
  show zw true zm_Mo_isConditionAsked (zV d) (zG d n_Mo_isConditionAsked) 400 0 [some (.ref a0), some (.int x1), some (.int x2), some (.int x3)] [] M = _
  unfold zx_Mo_isConditionAsked
  refine zw_aload_n (p := 1) (Or.inl rfl) rfl rfl rfl ?_
  refine zw_iload_n (p := 2) (Or.inr rfl) rfl rfl rfl ?_
  refine zw_virtualI (p := 5) (as := [.ref a0, .int x1]) (rest := []) (Or.inr rfl) rfl rfl rfl rfl rfl rfl rfl (fun u1 M1 => ?_)
  refine zw_if_eq (t := 20) (p := 8) (Or.inr rfl) rfl rfl rfl ?_ ?_
  · refine zw_iconst (p := 21) (x := (0 : Int32)) (Or.inr rfl) rfl rfl rfl ?_
    exact zw_ireturn2 (Or.inr rfl) rfl rfl
  refine zw_iload_n (p := 9) (Or.inr rfl) rfl rfl rfl ?_
  refine zw_i2l (p := 10) (Or.inr rfl) rfl rfl ?_
  refine zw_lconst (p := 11) (x := (0 : Int64)) (Or.inr rfl) rfl rfl rfl ?_
  refine zw_ldc2_w (p := 14) (x := (2 : Int64)) (Or.inr rfl) rfl rfl rfl ?_
  refine zw_staticI (p := 17) (as := [.long (Int32.toInt64 x2), .long (0 : Int64), .long (2 : Int64)]) (rest := []) (Or.inr rfl) rfl rfl rfl rfl rfl rfl (fun u2 M2 => ?_)
  refine zw_if_ne (t := 22) (p := 20) (Or.inr rfl) rfl rfl rfl ?_ ?_
  · refine zw_iload_n (p := 23) (Or.inr rfl) rfl rfl rfl ?_
    refine zw_iconst (p := 24) (x := (2 : Int32)) (Or.inr rfl) rfl rfl rfl ?_
    refine zw_icmp_ne (t := 49) (p := 27) (Or.inr rfl) rfl rfl rfl ?_ ?_
    · refine zw_iload_n (p := 50) (Or.inr rfl) rfl rfl rfl ?_
      refine zw_i2l (p := 51) (Or.inr rfl) rfl rfl ?_
      refine zw_lconst (p := 52) (x := (0 : Int64)) (Or.inr rfl) rfl rfl rfl ?_
      refine zw_aload_n (p := 53) (Or.inr rfl) rfl rfl rfl ?_
      refine zw_get_ref (p := 56) (Or.inr rfl) rfl rfl (fun q1 => ?_)
      refine zw_bipush (p := 58) (x := (45 : Int32)) (Or.inr rfl) rfl rfl rfl ?_
      refine zw_iconst (p := 59) (x := (2 : Int32)) (Or.inr rfl) rfl rfl rfl ?_
      refine zw_iload_n (p := 60) (Or.inr rfl) rfl rfl rfl ?_
      refine zw_imul (p := 61) (Or.inr rfl) rfl rfl ?_
      refine zw_iload_n (p := 62) (Or.inr rfl) rfl rfl rfl ?_
      refine zw_iadd (p := 63) (Or.inr rfl) rfl rfl ?_
      refine zw_imul (p := 64) (Or.inr rfl) rfl rfl ?_
      refine zw_iconst (p := 65) (x := (1 : Int32)) (Or.inr rfl) rfl rfl rfl ?_
      refine zw_iadd (p := 66) (Or.inr rfl) rfl rfl ?_
      refine zw_iaload (p := 67) (Or.inr rfl) rfl rfl ?_
      refine zw_iconst (p := 68) (x := (1 : Int32)) (Or.inr rfl) rfl rfl rfl ?_
      refine zw_isub (p := 69) (Or.inr rfl) rfl rfl ?_
      refine zw_i2l (p := 70) (Or.inr rfl) rfl rfl ?_
      refine zw_staticI (p := 73) (as := [.long (Int32.toInt64 x3), .long (0 : Int64), .long (Int32.toInt64 ((zI M2 q1 (Int32.toNatClampNeg (((45 : Int32) * (((2 : Int32) * x1) + x2)) + (1 : Int32)))) - (1 : Int32)))]) (rest := []) (Or.inr rfl) rfl rfl rfl rfl rfl rfl (fun u3 M3 => ?_)
      exact zw_ireturn2 (Or.inr rfl) rfl rfl
    refine zw_aload_n (p := 28) (Or.inr rfl) rfl rfl rfl ?_
    refine zw_get_ref (p := 31) (Or.inr rfl) rfl rfl (fun q2 => ?_)
    refine zw_iconst (p := 32) (x := (2 : Int32)) (Or.inr rfl) rfl rfl rfl ?_
    refine zw_iload_n (p := 33) (Or.inr rfl) rfl rfl rfl ?_
    refine zw_imul (p := 34) (Or.inr rfl) rfl rfl ?_
    refine zw_iconst (p := 35) (x := (1 : Int32)) (Or.inr rfl) rfl rfl rfl ?_
    refine zw_iadd (p := 36) (Or.inr rfl) rfl rfl ?_
    refine zw_iaload (p := 37) (Or.inr rfl) rfl rfl ?_
    refine zw_iconst (p := 38) (x := (1 : Int32)) (Or.inr rfl) rfl rfl rfl ?_
    refine zw_icmp_ne (t := 45) (p := 41) (Or.inr rfl) rfl rfl rfl ?_ ?_
    · refine zw_iconst (p := 46) (x := (0 : Int32)) (Or.inr rfl) rfl rfl rfl ?_
      refine zw_goto (t := 73) (Or.inr rfl) rfl rfl ?_
      exact zw_ireturn2 (Or.inr rfl) rfl rfl
    refine zw_iconst (p := 42) (x := (1 : Int32)) (Or.inr rfl) rfl rfl rfl ?_
    refine zw_goto (t := 73) (Or.inr rfl) rfl rfl ?_
    exact zw_ireturn2 (Or.inr rfl) rfl rfl
  refine zw_iconst (p := 21) (x := (0 : Int32)) (Or.inr rfl) rfl rfl rfl ?_
  exact zw_ireturn2 (Or.inr rfl) rfl rfl
def zx_Mo_fulfils (E : zE0) (K : zKt) (a0 : Nat) (x1 : Int32) (x2 : Int32) (x3 : Int32) (x4 : Int32) (M : zM) : zO :=
  zif ((zK M a0).1 = 11)
  (zbI (E n_Mo_isConditionAsked [.ref a0, .int x1, .int x2, .int x3] M) fun u1 M1 =>
  if u1 = 0 then (some (some (.int (-1 : Int32)), M1))
  else zbI (E n_Mo_areBits [.int x4] M1) fun u2 M2 =>
  if u2 ≠ 0 then (if x2 ≠ (2 : Int32) then (zif ((zK M2 a0).1 = 11)
      (zbI (E n_Mo_fulfilsOne [.ref a0, .int (((2 : Int32) * x1) + x2), .int x3, .int x4] M2) fun u3 M3 =>
      zbI (E n_Mo_flag [.int u3] M3) fun u4 M4 =>
      some (some (.int u4), M4)))
    else zif ((zK M2 a0).1 = 11)
    (zbI (E n_Mo_fulfilsOff [.ref a0, .int x1, .int x4] M2) fun u5 M5 =>
    zbI (E n_Mo_flag [.int u5] M5) fun u6 M6 =>
    some (some (.int u6), M6)))
  else some (some (.int (-1 : Int32)), M2))
set_option maxRecDepth 20000 in
theorem ze_Mo_fulfils (d : Nat) (a0 : Nat) (x1 : Int32) (x2 : Int32) (x3 : Int32) (x4 : Int32) (M : zM) : zV (d + 1) n_Mo_fulfils [.ref a0, .int x1, .int x2, .int x3, .int x4] M = zx_Mo_fulfils (zV d) (zG d n_Mo_fulfils) a0 x1 x2 x3 x4 M := by
  refine (zE_sg (m := zm_Mo_fulfils) rfl 400 _ rfl M).trans ?_
  show zw true zm_Mo_fulfils (zV d) (zG d n_Mo_fulfils) 400 0 [some (.ref a0), some (.int x1), some (.int x2), some (.int x3), some (.int x4)] [] M = _
  unfold zx_Mo_fulfils
  refine zw_aload_n (p := 1) (Or.inl rfl) rfl rfl rfl ?_
  refine zw_iload_n (p := 2) (Or.inr rfl) rfl rfl rfl ?_
  refine zw_iload_n (p := 3) (Or.inr rfl) rfl rfl rfl ?_
  refine zw_iload_n (p := 4) (Or.inr rfl) rfl rfl rfl ?_
  refine zw_virtualI (p := 7) (as := [.ref a0, .int x1, .int x2, .int x3]) (rest := []) (Or.inr rfl) rfl rfl rfl rfl rfl rfl rfl (fun u1 M1 => ?_)
  refine zw_if_eq (t := 18) (p := 10) (Or.inr rfl) rfl rfl rfl ?_ ?_
  · refine zw_iconst (p := 19) (x := (-1 : Int32)) (Or.inr rfl) rfl rfl rfl ?_
    exact zw_ireturn1 (Or.inr rfl) rfl rfl
  refine zw_iload (p := 12) (Or.inr rfl) rfl rfl rfl ?_
  refine zw_staticI (p := 15) (as := [.int x4]) (rest := []) (Or.inr rfl) rfl rfl rfl rfl rfl rfl (fun u2 M2 => ?_)
  refine zw_if_ne (t := 20) (p := 18) (Or.inr rfl) rfl rfl rfl ?_ ?_
  · refine zw_iload_n (p := 21) (Or.inr rfl) rfl rfl rfl ?_
    refine zw_iconst (p := 22) (x := (2 : Int32)) (Or.inr rfl) rfl rfl rfl ?_
    refine zw_icmp_ne (t := 35) (p := 25) (Or.inr rfl) rfl rfl rfl ?_ ?_
    · refine zw_aload_n (p := 36) (Or.inr rfl) rfl rfl rfl ?_
      refine zw_iconst (p := 37) (x := (2 : Int32)) (Or.inr rfl) rfl rfl rfl ?_
      refine zw_iload_n (p := 38) (Or.inr rfl) rfl rfl rfl ?_
      refine zw_imul (p := 39) (Or.inr rfl) rfl rfl ?_
      refine zw_iload_n (p := 40) (Or.inr rfl) rfl rfl rfl ?_
      refine zw_iadd (p := 41) (Or.inr rfl) rfl rfl ?_
      refine zw_iload_n (p := 42) (Or.inr rfl) rfl rfl rfl ?_
      refine zw_iload (p := 44) (Or.inr rfl) rfl rfl rfl ?_
      refine zw_virtualI (p := 47) (as := [.ref a0, .int (((2 : Int32) * x1) + x2), .int x3, .int x4]) (rest := []) (Or.inr rfl) rfl rfl rfl rfl rfl rfl rfl (fun u3 M3 => ?_)
      refine zw_staticI (p := 50) (as := [.int u3]) (rest := []) (Or.inr rfl) rfl rfl rfl rfl rfl rfl (fun u4 M4 => ?_)
      exact zw_ireturn1 (Or.inr rfl) rfl rfl
    refine zw_aload_n (p := 26) (Or.inr rfl) rfl rfl rfl ?_
    refine zw_iload_n (p := 27) (Or.inr rfl) rfl rfl rfl ?_
    refine zw_iload (p := 29) (Or.inr rfl) rfl rfl rfl ?_
    refine zw_virtualI (p := 32) (as := [.ref a0, .int x1, .int x4]) (rest := []) (Or.inr rfl) rfl rfl rfl rfl rfl rfl rfl (fun u5 M5 => ?_)
    refine zw_goto (t := 47) (Or.inr rfl) rfl rfl ?_
    refine zw_staticI (p := 50) (as := [.int u5]) (rest := []) (Or.inr rfl) rfl rfl rfl rfl rfl rfl (fun u6 M6 => ?_)
    exact zw_ireturn1 (Or.inr rfl) rfl rfl
  refine zw_iconst (p := 19) (x := (-1 : Int32)) (Or.inr rfl) rfl rfl rfl ?_
  exact zw_ireturn1 (Or.inr rfl) rfl rfl
def zx_Mo_fulfilled (E : zE0) (K : zKt) (a0 : Nat) (x1 : Int32) (x2 : Int32) (x3 : Int32) (M : zM) : zO :=
  zif ((zK M a0).1 = 11)
  (zbI (E n_Mo_isConditionAsked [.ref a0, .int x1, .int x2, .int x3] M) fun u1 M1 =>
  if u1 ≠ 0 then (K 18 [some (.ref a0), some (.int x1), some (.int x2), some (.int x3), some (.int (0 : Int32)), some (.int (0 : Int32))] [] M1)
  else some (some (.int (-1 : Int32)), M1))
set_option maxRecDepth 20000 in
theorem ze_Mo_fulfilled (d : Nat) (a0 : Nat) (x1 : Int32) (x2 : Int32) (x3 : Int32) (M : zM) : zV (d + 1) n_Mo_fulfilled [.ref a0, .int x1, .int x2, .int x3] M = zx_Mo_fulfilled (zV d) (zG d n_Mo_fulfilled) a0 x1 x2 x3 M := by
  refine (zE_sg (m := zm_Mo_fulfilled) rfl 400 _ rfl M).trans ?_
  show zw true zm_Mo_fulfilled (zV d) (zG d n_Mo_fulfilled) 400 0 [some (.ref a0), some (.int x1), some (.int x2), some (.int x3), none, none] [] M = _
  unfold zx_Mo_fulfilled
  refine zw_aload_n (p := 1) (Or.inl rfl) rfl rfl rfl ?_
  refine zw_iload_n (p := 2) (Or.inr rfl) rfl rfl rfl ?_
  refine zw_iload_n (p := 3) (Or.inr rfl) rfl rfl rfl ?_
  refine zw_iload_n (p := 4) (Or.inr rfl) rfl rfl rfl ?_
  refine zw_virtualI (p := 7) (as := [.ref a0, .int x1, .int x2, .int x3]) (rest := []) (Or.inr rfl) rfl rfl rfl rfl rfl rfl rfl (fun u1 M1 => ?_)
  refine zw_if_ne (t := 12) (p := 10) (Or.inr rfl) rfl rfl rfl ?_ ?_
  · refine zw_iconst (p := 13) (x := (0 : Int32)) (Or.inr rfl) rfl rfl rfl ?_
    refine zw_istore (p := 15) (l2 := [some (.ref a0), some (.int x1), some (.int x2), some (.int x3), some (.int (0 : Int32)), none]) (Or.inr rfl) rfl rfl rfl rfl ?_
    refine zw_iconst (p := 16) (x := (0 : Int32)) (Or.inr rfl) rfl rfl rfl ?_
    refine zw_istore (p := 18) (l2 := [some (.ref a0), some (.int x1), some (.int x2), some (.int x3), some (.int (0 : Int32)), some (.int (0 : Int32))]) (Or.inr rfl) rfl rfl rfl rfl ?_
    exact zw_end rfl rfl
  refine zw_iconst (p := 11) (x := (-1 : Int32)) (Or.inr rfl) rfl rfl rfl ?_
  exact zw_ireturn1 (Or.inr rfl) rfl rfl
def zx_Mo_fulfilled_18 (E : zE0) (K : zKt) (a0 : Nat) (x1 : Int32) (x2 : Int32) (x3 : Int32) (x4 : Int32) (x5 : Int32) (M : zM) : zO :=
  if (256 : Int32) ≤ x5 then (some (some (.int x4), M))
  else zif ((zK M a0).1 = 11)
  (zbI (E n_Mo_fulfils [.ref a0, .int x1, .int x2, .int x3, .int x5] M) fun u1 M1 =>
  zbi (x4 + u1) fun u2 =>
  zbi (x5 + (1 : Int32)) fun u3 =>
  K 18 [some (.ref a0), some (.int x1), some (.int x2), some (.int x3), some (.int u2), some (.int u3)] [] M1)
set_option maxRecDepth 20000 in
theorem zg_Mo_fulfilled_18 (d : Nat) (a0 : Nat) (x1 : Int32) (x2 : Int32) (x3 : Int32) (x4 : Int32) (x5 : Int32) (M : zM) : zG d n_Mo_fulfilled 18 [some (.ref a0), some (.int x1), some (.int x2), some (.int x3), some (.int x4), some (.int x5)] [] M = zx_Mo_fulfilled_18 (zV d) (zG d n_Mo_fulfilled) a0 x1 x2 x3 x4 x5 M := by
  refine (zG_sg (m := zm_Mo_fulfilled) rfl 400 _ _ _ M).trans ?_
  show zw true zm_Mo_fulfilled (zV d) (zG d n_Mo_fulfilled) 400 18 [some (.ref a0), some (.int x1), some (.int x2), some (.int x3), some (.int x4), some (.int x5)] [] M = _
  unfold zx_Mo_fulfilled_18
  refine zw_iload (p := 20) (Or.inl rfl) rfl rfl rfl ?_
  refine zw_sipush (p := 23) (x := (256 : Int32)) (Or.inr rfl) rfl rfl rfl ?_
  refine zw_icmp_ge (t := 46) (p := 26) (Or.inr rfl) rfl rfl rfl ?_ ?_
  · refine zw_iload (p := 48) (Or.inr rfl) rfl rfl rfl ?_
    exact zw_ireturn1 (Or.inr rfl) rfl rfl
  refine zw_iload (p := 28) (Or.inr rfl) rfl rfl rfl ?_
  refine zw_aload_n (p := 29) (Or.inr rfl) rfl rfl rfl ?_
  refine zw_iload_n (p := 30) (Or.inr rfl) rfl rfl rfl ?_
  refine zw_iload_n (p := 31) (Or.inr rfl) rfl rfl rfl ?_
  refine zw_iload_n (p := 32) (Or.inr rfl) rfl rfl rfl ?_
  refine zw_iload (p := 34) (Or.inr rfl) rfl rfl rfl ?_
  refine zw_virtualI (p := 37) (as := [.ref a0, .int x1, .int x2, .int x3, .int x5]) (rest := [.int x4]) (Or.inr rfl) rfl rfl rfl rfl rfl rfl rfl (fun u1 M1 => ?_)
  refine zw_iadd (p := 38) (Or.inr rfl) rfl rfl ?_
  refine zw_istoreN (p := 40) (L2 := fun u2 => [some (.ref a0), some (.int x1), some (.int x2), some (.int x3), some (.int u2), some (.int x5)]) (Or.inr rfl) rfl rfl (fun _ => rfl) rfl (fun u2 => ?_)
  refine zw_iinc (p := 43) (c := (1 : Int32)) (L2 := fun u3 => [some (.ref a0), some (.int x1), some (.int x2), some (.int x3), some (.int u2), some (.int u3)]) (Or.inr rfl) rfl rfl rfl rfl (fun _ => rfl) rfl (fun u3 => ?_)
  refine zw_goto (t := 18) (Or.inr rfl) rfl rfl ?_
  exact zw_end rfl rfl
def zx_Mo_matches (E : zE0) (K : zKt) (a0 : Nat) (x1 : Int32) (x2 : Int32) (x3 : Int32) (x4 : Int32) (M : zM) : zO :=
  zif ((zK M a0).1 = 11)
  (zbI (E n_Mo_isPromise [.ref a0, .int x1] M) fun u1 M1 =>
  if u1 = 0 then (some (some (.int (-1 : Int32)), M1))
  else zbI (E n_Mo_isSide [.int x2] M1) fun u2 M2 =>
  if u2 = 0 then (some (some (.int (-1 : Int32)), M2))
  else zif ((zK M2 a0).1 = 11)
  (zoR (zR M2 a0 9) fun q1 =>
  zif (((zK M2 q1).1 = 20 ∨ (zK M2 q1).1 = 24) ∧ zin (0 : Int32) (zK M2 q1).2 = true)
  (zbI (E n_Mo_in [.long (Int32.toInt64 x3), .long (0 : Int64), .long (Int32.toInt64 (zI M2 q1 (Int32.toNatClampNeg (0 : Int32))))] M2) fun u3 M3 =>
  if u3 = 0 then (some (some (.int (-1 : Int32)), M3))
  else if x4 < (x3 - (1 : Int32)) then (some (some (.int (-1 : Int32)), M3))
  else zif ((zK M3 a0).1 = 11)
  (zoR (zR M3 a0 9) fun q2 =>
  zif (((zK M3 q2).1 = 20 ∨ (zK M3 q2).1 = 24) ∧ zin (0 : Int32) (zK M3 q2).2 = true)
  (if x4 < (zI M3 q2 (Int32.toNatClampNeg (0 : Int32))) then (zif ((zK M3 a0).1 = 11)
    (zbV (E n_Mo_findsFulfilling [.ref a0, .int x1] M3) fun M4 =>
    K 63 [some (.ref a0), some (.int x1), some (.int x2), some (.int x3), some (.int x4), some (.long (0 : Int64)), none, some (.int x3)] [] M4))
  else some (some (.int (-1 : Int32)), M3))))))
set_option maxRecDepth 20000 in
theorem ze_Mo_matches (d : Nat) (a0 : Nat) (x1 : Int32) (x2 : Int32) (x3 : Int32) (x4 : Int32) (M : zM) : zV (d + 1) n_Mo_matches [.ref a0, .int x1, .int x2, .int x3, .int x4] M = zx_Mo_matches (zV d) (zG d n_Mo_matches) a0 x1 x2 x3 x4 M := by
  refine (zE_sg (m := zm_Mo_matches) rfl 400 _ rfl M).trans ?_
  show zw true zm_Mo_matches (zV d) (zG d n_Mo_matches) 400 0 [some (.ref a0), some (.int x1), some (.int x2), some (.int x3), some (.int x4), none, none, none] [] M = _
  unfold zx_Mo_matches
  refine zw_aload_n (p := 1) (Or.inl rfl) rfl rfl rfl ?_
  refine zw_iload_n (p := 2) (Or.inr rfl) rfl rfl rfl ?_
  refine zw_virtualI (p := 5) (as := [.ref a0, .int x1]) (rest := []) (Or.inr rfl) rfl rfl rfl rfl rfl rfl rfl (fun u1 M1 => ?_)
  refine zw_if_eq (t := 50) (p := 8) (Or.inr rfl) rfl rfl rfl ?_ ?_
  · refine zw_iconst (p := 51) (x := (-1 : Int32)) (Or.inr rfl) rfl rfl rfl ?_
    exact zw_ireturn1 (Or.inr rfl) rfl rfl
  refine zw_iload_n (p := 9) (Or.inr rfl) rfl rfl rfl ?_
  refine zw_staticI (p := 12) (as := [.int x2]) (rest := []) (Or.inr rfl) rfl rfl rfl rfl rfl rfl (fun u2 M2 => ?_)
  refine zw_if_eq (t := 50) (p := 15) (Or.inr rfl) rfl rfl rfl ?_ ?_
  · refine zw_iconst (p := 51) (x := (-1 : Int32)) (Or.inr rfl) rfl rfl rfl ?_
    exact zw_ireturn1 (Or.inr rfl) rfl rfl
  refine zw_iload_n (p := 16) (Or.inr rfl) rfl rfl rfl ?_
  refine zw_i2l (p := 17) (Or.inr rfl) rfl rfl ?_
  refine zw_lconst (p := 18) (x := (0 : Int64)) (Or.inr rfl) rfl rfl rfl ?_
  refine zw_aload_n (p := 19) (Or.inr rfl) rfl rfl rfl ?_
  refine zw_get_ref (p := 22) (Or.inr rfl) rfl rfl (fun q1 => ?_)
  refine zw_iconst (p := 23) (x := (0 : Int32)) (Or.inr rfl) rfl rfl rfl ?_
  refine zw_iaload (p := 24) (Or.inr rfl) rfl rfl ?_
  refine zw_i2l (p := 25) (Or.inr rfl) rfl rfl ?_
  refine zw_staticI (p := 28) (as := [.long (Int32.toInt64 x3), .long (0 : Int64), .long (Int32.toInt64 (zI M2 q1 (Int32.toNatClampNeg (0 : Int32))))]) (rest := []) (Or.inr rfl) rfl rfl rfl rfl rfl rfl (fun u3 M3 => ?_)
  refine zw_if_eq (t := 50) (p := 31) (Or.inr rfl) rfl rfl rfl ?_ ?_
  · refine zw_iconst (p := 51) (x := (-1 : Int32)) (Or.inr rfl) rfl rfl rfl ?_
    exact zw_ireturn1 (Or.inr rfl) rfl rfl
  refine zw_iload (p := 33) (Or.inr rfl) rfl rfl rfl ?_
  refine zw_iload_n (p := 34) (Or.inr rfl) rfl rfl rfl ?_
  refine zw_iconst (p := 35) (x := (1 : Int32)) (Or.inr rfl) rfl rfl rfl ?_
  refine zw_isub (p := 36) (Or.inr rfl) rfl rfl ?_
  refine zw_icmp_lt (t := 50) (p := 39) (Or.inr rfl) rfl rfl rfl ?_ ?_
  · refine zw_iconst (p := 51) (x := (-1 : Int32)) (Or.inr rfl) rfl rfl rfl ?_
    exact zw_ireturn1 (Or.inr rfl) rfl rfl
  refine zw_iload (p := 41) (Or.inr rfl) rfl rfl rfl ?_
  refine zw_aload_n (p := 42) (Or.inr rfl) rfl rfl rfl ?_
  refine zw_get_ref (p := 45) (Or.inr rfl) rfl rfl (fun q2 => ?_)
  refine zw_iconst (p := 46) (x := (0 : Int32)) (Or.inr rfl) rfl rfl rfl ?_
  refine zw_iaload (p := 47) (Or.inr rfl) rfl rfl ?_
  refine zw_icmp_lt (t := 52) (p := 50) (Or.inr rfl) rfl rfl rfl ?_ ?_
  · refine zw_aload_n (p := 53) (Or.inr rfl) rfl rfl rfl ?_
    refine zw_iload_n (p := 54) (Or.inr rfl) rfl rfl rfl ?_
    refine zw_virtualV (p := 57) (as := [.ref a0, .int x1]) (rest := []) (Or.inr rfl) rfl rfl rfl rfl rfl rfl rfl (fun M4 => ?_)
    refine zw_lconst (p := 58) (x := (0 : Int64)) (Or.inr rfl) rfl rfl rfl ?_
    refine zw_lstore (p := 60) (l2 := [some (.ref a0), some (.int x1), some (.int x2), some (.int x3), some (.int x4), some (.long (0 : Int64)), none, none]) (Or.inr rfl) rfl rfl rfl rfl ?_
    refine zw_iload_n (p := 61) (Or.inr rfl) rfl rfl rfl ?_
    refine zw_istore (p := 63) (l2 := [some (.ref a0), some (.int x1), some (.int x2), some (.int x3), some (.int x4), some (.long (0 : Int64)), none, some (.int x3)]) (Or.inr rfl) rfl rfl rfl rfl ?_
    exact zw_end rfl rfl
  refine zw_iconst (p := 51) (x := (-1 : Int32)) (Or.inr rfl) rfl rfl rfl ?_
  exact zw_ireturn1 (Or.inr rfl) rfl rfl
def zx_Mo_matches_63 (E : zE0) (K : zKt) (a0 : Nat) (x1 : Int32) (x2 : Int32) (x3 : Int32) (x4 : Int32) (l5 : Int64) (x7 : Int32) (M : zM) : zO :=
  if x4 < x7 then (zif ((zK M a0).1 = 11)
    (zbI (E n_Mo_isEnd [.ref a0, .int (((2 : Int32) * x1) + x2), .long l5] M) fun u1 M1 =>
    zbI (E n_Mo_flag [.int u1] M1) fun u2 M2 =>
    some (some (.int u2), M2)))
  else if x7 ≠ x3 then (zif ((zK M a0).1 = 11)
    (zbL (E n_Mo_nextOf [.ref a0, .int (((2 : Int32) * x1) + x2), .long l5] M) fun w1 M3 =>
    zif ((zK M3 a0).1 = 11)
    (zoR (zR M3 a0 40) fun q1 =>
    zif (((zK M3 q1).1 = 23 ∨ (zK M3 q1).1 = 25) ∧ zin (((48 : Int32) * x2) + x7) (zK M3 q1).2 = true)
    (zbl (w1 &&& (zL M3 q1 (Int32.toNatClampNeg (((48 : Int32) * x2) + x7)))) fun w2 =>
    zbi (x7 + (1 : Int32)) fun u3 =>
    K 63 [some (.ref a0), some (.int x1), some (.int x2), some (.int x3), some (.int x4), some (.long w2), none, some (.int u3)] [] M3))))
  else zif ((zK M a0).1 = 11)
  (zbL (E n_Mo_firstOf [.ref a0, .int (((2 : Int32) * x1) + x2)] M) fun w3 M4 =>
  zif ((zK M4 a0).1 = 11)
  (zoR (zR M4 a0 40) fun q2 =>
  zif (((zK M4 q2).1 = 23 ∨ (zK M4 q2).1 = 25) ∧ zin (((48 : Int32) * x2) + x7) (zK M4 q2).2 = true)
  (zbl (w3 &&& (zL M4 q2 (Int32.toNatClampNeg (((48 : Int32) * x2) + x7)))) fun w4 =>
  zbi (x7 + (1 : Int32)) fun u4 =>
  K 63 [some (.ref a0), some (.int x1), some (.int x2), some (.int x3), some (.int x4), some (.long w4), none, some (.int u4)] [] M4)))
set_option maxRecDepth 20000 in
theorem zg_Mo_matches_63 (d : Nat) (a0 : Nat) (x1 : Int32) (x2 : Int32) (x3 : Int32) (x4 : Int32) (l5 : Int64) (x7 : Int32) (M : zM) : zG d n_Mo_matches 63 [some (.ref a0), some (.int x1), some (.int x2), some (.int x3), some (.int x4), some (.long l5), none, some (.int x7)] [] M = zx_Mo_matches_63 (zV d) (zG d n_Mo_matches) a0 x1 x2 x3 x4 l5 x7 M := by
  refine (zG_sg (m := zm_Mo_matches) rfl 400 _ _ _ M).trans ?_
  show zw true zm_Mo_matches (zV d) (zG d n_Mo_matches) 400 63 [some (.ref a0), some (.int x1), some (.int x2), some (.int x3), some (.int x4), some (.long l5), none, some (.int x7)] [] M = _
  unfold zx_Mo_matches_63
  refine zw_iload (p := 65) (Or.inl rfl) rfl rfl rfl ?_
  refine zw_iload (p := 67) (Or.inr rfl) rfl rfl rfl ?_
  refine zw_icmp_gt (t := 120) (p := 70) (Or.inr rfl) rfl rfl rfl ?_ ?_
  · refine zw_aload_n (p := 121) (Or.inr rfl) rfl rfl rfl ?_
    refine zw_iconst (p := 122) (x := (2 : Int32)) (Or.inr rfl) rfl rfl rfl ?_
    refine zw_iload_n (p := 123) (Or.inr rfl) rfl rfl rfl ?_
    refine zw_imul (p := 124) (Or.inr rfl) rfl rfl ?_
    refine zw_iload_n (p := 125) (Or.inr rfl) rfl rfl rfl ?_
    refine zw_iadd (p := 126) (Or.inr rfl) rfl rfl ?_
    refine zw_lload (p := 128) (Or.inr rfl) rfl rfl rfl ?_
    refine zw_virtualI (p := 131) (as := [.ref a0, .int (((2 : Int32) * x1) + x2), .long l5]) (rest := []) (Or.inr rfl) rfl rfl rfl rfl rfl rfl rfl (fun u1 M1 => ?_)
    refine zw_staticI (p := 134) (as := [.int u1]) (rest := []) (Or.inr rfl) rfl rfl rfl rfl rfl rfl (fun u2 M2 => ?_)
    exact zw_ireturn1 (Or.inr rfl) rfl rfl
  refine zw_iload (p := 72) (Or.inr rfl) rfl rfl rfl ?_
  refine zw_iload_n (p := 73) (Or.inr rfl) rfl rfl rfl ?_
  refine zw_icmp_ne (t := 88) (p := 76) (Or.inr rfl) rfl rfl rfl ?_ ?_
  · refine zw_aload_n (p := 89) (Or.inr rfl) rfl rfl rfl ?_
    refine zw_iconst (p := 90) (x := (2 : Int32)) (Or.inr rfl) rfl rfl rfl ?_
    refine zw_iload_n (p := 91) (Or.inr rfl) rfl rfl rfl ?_
    refine zw_imul (p := 92) (Or.inr rfl) rfl rfl ?_
    refine zw_iload_n (p := 93) (Or.inr rfl) rfl rfl rfl ?_
    refine zw_iadd (p := 94) (Or.inr rfl) rfl rfl ?_
    refine zw_lload (p := 96) (Or.inr rfl) rfl rfl rfl ?_
    refine zw_virtualL (p := 99) (as := [.ref a0, .int (((2 : Int32) * x1) + x2), .long l5]) (rest := []) (Or.inr rfl) rfl rfl rfl rfl rfl rfl rfl (fun w1 M3 => ?_)
    refine zw_aload_n (p := 100) (Or.inr rfl) rfl rfl rfl ?_
    refine zw_get_ref (p := 103) (Or.inr rfl) rfl rfl (fun q1 => ?_)
    refine zw_bipush (p := 105) (x := (48 : Int32)) (Or.inr rfl) rfl rfl rfl ?_
    refine zw_iload_n (p := 106) (Or.inr rfl) rfl rfl rfl ?_
    refine zw_imul (p := 107) (Or.inr rfl) rfl rfl ?_
    refine zw_iload (p := 109) (Or.inr rfl) rfl rfl rfl ?_
    refine zw_iadd (p := 110) (Or.inr rfl) rfl rfl ?_
    refine zw_laload (p := 111) (Or.inr rfl) rfl rfl ?_
    refine zw_land (p := 112) (Or.inr rfl) rfl rfl ?_
    refine zw_lstoreN (p := 114) (L2 := fun w2 => [some (.ref a0), some (.int x1), some (.int x2), some (.int x3), some (.int x4), some (.long w2), none, some (.int x7)]) (Or.inr rfl) rfl rfl (fun _ => rfl) rfl (fun w2 => ?_)
    refine zw_iinc (p := 117) (c := (1 : Int32)) (L2 := fun u3 => [some (.ref a0), some (.int x1), some (.int x2), some (.int x3), some (.int x4), some (.long w2), none, some (.int u3)]) (Or.inr rfl) rfl rfl rfl rfl (fun _ => rfl) rfl (fun u3 => ?_)
    refine zw_goto (t := 63) (Or.inr rfl) rfl rfl ?_
    exact zw_end rfl rfl
  refine zw_aload_n (p := 77) (Or.inr rfl) rfl rfl rfl ?_
  refine zw_iconst (p := 78) (x := (2 : Int32)) (Or.inr rfl) rfl rfl rfl ?_
  refine zw_iload_n (p := 79) (Or.inr rfl) rfl rfl rfl ?_
  refine zw_imul (p := 80) (Or.inr rfl) rfl rfl ?_
  refine zw_iload_n (p := 81) (Or.inr rfl) rfl rfl rfl ?_
  refine zw_iadd (p := 82) (Or.inr rfl) rfl rfl ?_
  refine zw_virtualL (p := 85) (as := [.ref a0, .int (((2 : Int32) * x1) + x2)]) (rest := []) (Or.inr rfl) rfl rfl rfl rfl rfl rfl rfl (fun w3 M4 => ?_)
  refine zw_goto (t := 99) (Or.inr rfl) rfl rfl ?_
  refine zw_aload_n (p := 100) (Or.inr rfl) rfl rfl rfl ?_
  refine zw_get_ref (p := 103) (Or.inr rfl) rfl rfl (fun q2 => ?_)
  refine zw_bipush (p := 105) (x := (48 : Int32)) (Or.inr rfl) rfl rfl rfl ?_
  refine zw_iload_n (p := 106) (Or.inr rfl) rfl rfl rfl ?_
  refine zw_imul (p := 107) (Or.inr rfl) rfl rfl ?_
  refine zw_iload (p := 109) (Or.inr rfl) rfl rfl rfl ?_
  refine zw_iadd (p := 110) (Or.inr rfl) rfl rfl ?_
  refine zw_laload (p := 111) (Or.inr rfl) rfl rfl ?_
  refine zw_land (p := 112) (Or.inr rfl) rfl rfl ?_
  refine zw_lstoreN (p := 114) (L2 := fun w4 => [some (.ref a0), some (.int x1), some (.int x2), some (.int x3), some (.int x4), some (.long w4), none, some (.int x7)]) (Or.inr rfl) rfl rfl (fun _ => rfl) rfl (fun w4 => ?_)
  refine zw_iinc (p := 117) (c := (1 : Int32)) (L2 := fun u4 => [some (.ref a0), some (.int x1), some (.int x2), some (.int x3), some (.int x4), some (.long w4), none, some (.int u4)]) (Or.inr rfl) rfl rfl rfl rfl (fun _ => rfl) rfl (fun u4 => ?_)
  refine zw_goto (t := 63) (Or.inr rfl) rfl rfl ?_
  exact zw_end rfl rfl
def zx_Mo_might (E : zE0) (K : zKt) (a0 : Nat) (x1 : Int32) (x2 : Int32) (x3 : Int32) (M : zM) : zO :=
  zif ((zK M a0).1 = 11)
  (zbI (E n_Mo_isPromise [.ref a0, .int x1] M) fun u1 M1 =>
  if u1 = 0 then (some (some (.int (-1 : Int32)), M1))
  else zbI (E n_Mo_isSide [.int x2] M1) fun u2 M2 =>
  if u2 = 0 then (some (some (.int (-1 : Int32)), M2))
  else zif ((zK M2 a0).1 = 11)
  (zoR (zR M2 a0 9) fun q1 =>
  zif (((zK M2 q1).1 = 20 ∨ (zK M2 q1).1 = 24) ∧ zin (0 : Int32) (zK M2 q1).2 = true)
  (zbI (E n_Mo_in [.long (Int32.toInt64 x3), .long (0 : Int64), .long (Int32.toInt64 (zI M2 q1 (Int32.toNatClampNeg (0 : Int32))))] M2) fun u3 M3 =>
  if u3 ≠ 0 then (zif ((zK M3 a0).1 = 11)
    (zbV (E n_Mo_findsFulfilling [.ref a0, .int x1] M3) fun M4 =>
    zif ((zK M4 a0).1 = 11)
    (zbL (E n_Mo_firstOf [.ref a0, .int (((2 : Int32) * x1) + x2)] M4) fun w1 M5 =>
    K 52 [some (.ref a0), some (.int x1), some (.int x2), none, some (.long w1), none, some (.int x3)] [] M5)))
  else some (some (.int (-1 : Int32)), M3))))
set_option maxRecDepth 20000 in
theorem ze_Mo_might (d : Nat) (a0 : Nat) (x1 : Int32) (x2 : Int32) (x3 : Int32) (M : zM) : zV (d + 1) n_Mo_might [.ref a0, .int x1, .int x2, .int x3] M = zx_Mo_might (zV d) (zG d n_Mo_might) a0 x1 x2 x3 M := by
  refine (zE_sg (m := zm_Mo_might) rfl 400 _ rfl M).trans ?_
  show zw true zm_Mo_might (zV d) (zG d n_Mo_might) 400 0 [some (.ref a0), some (.int x1), some (.int x2), some (.int x3), none, none, none] [] M = _
  unfold zx_Mo_might
  refine zw_aload_n (p := 1) (Or.inl rfl) rfl rfl rfl ?_
  refine zw_iload_n (p := 2) (Or.inr rfl) rfl rfl rfl ?_
  refine zw_virtualI (p := 5) (as := [.ref a0, .int x1]) (rest := []) (Or.inr rfl) rfl rfl rfl rfl rfl rfl rfl (fun u1 M1 => ?_)
  refine zw_if_eq (t := 31) (p := 8) (Or.inr rfl) rfl rfl rfl ?_ ?_
  · refine zw_iconst (p := 32) (x := (-1 : Int32)) (Or.inr rfl) rfl rfl rfl ?_
    exact zw_ireturn1 (Or.inr rfl) rfl rfl
  refine zw_iload_n (p := 9) (Or.inr rfl) rfl rfl rfl ?_
  refine zw_staticI (p := 12) (as := [.int x2]) (rest := []) (Or.inr rfl) rfl rfl rfl rfl rfl rfl (fun u2 M2 => ?_)
  refine zw_if_eq (t := 31) (p := 15) (Or.inr rfl) rfl rfl rfl ?_ ?_
  · refine zw_iconst (p := 32) (x := (-1 : Int32)) (Or.inr rfl) rfl rfl rfl ?_
    exact zw_ireturn1 (Or.inr rfl) rfl rfl
  refine zw_iload_n (p := 16) (Or.inr rfl) rfl rfl rfl ?_
  refine zw_i2l (p := 17) (Or.inr rfl) rfl rfl ?_
  refine zw_lconst (p := 18) (x := (0 : Int64)) (Or.inr rfl) rfl rfl rfl ?_
  refine zw_aload_n (p := 19) (Or.inr rfl) rfl rfl rfl ?_
  refine zw_get_ref (p := 22) (Or.inr rfl) rfl rfl (fun q1 => ?_)
  refine zw_iconst (p := 23) (x := (0 : Int32)) (Or.inr rfl) rfl rfl rfl ?_
  refine zw_iaload (p := 24) (Or.inr rfl) rfl rfl ?_
  refine zw_i2l (p := 25) (Or.inr rfl) rfl rfl ?_
  refine zw_staticI (p := 28) (as := [.long (Int32.toInt64 x3), .long (0 : Int64), .long (Int32.toInt64 (zI M2 q1 (Int32.toNatClampNeg (0 : Int32))))]) (rest := []) (Or.inr rfl) rfl rfl rfl rfl rfl rfl (fun u3 M3 => ?_)
  refine zw_if_ne (t := 33) (p := 31) (Or.inr rfl) rfl rfl rfl ?_ ?_
  · refine zw_aload_n (p := 34) (Or.inr rfl) rfl rfl rfl ?_
    refine zw_iload_n (p := 35) (Or.inr rfl) rfl rfl rfl ?_
    refine zw_virtualV (p := 38) (as := [.ref a0, .int x1]) (rest := []) (Or.inr rfl) rfl rfl rfl rfl rfl rfl rfl (fun M4 => ?_)
    refine zw_aload_n (p := 39) (Or.inr rfl) rfl rfl rfl ?_
    refine zw_iconst (p := 40) (x := (2 : Int32)) (Or.inr rfl) rfl rfl rfl ?_
    refine zw_iload_n (p := 41) (Or.inr rfl) rfl rfl rfl ?_
    refine zw_imul (p := 42) (Or.inr rfl) rfl rfl ?_
    refine zw_iload_n (p := 43) (Or.inr rfl) rfl rfl rfl ?_
    refine zw_iadd (p := 44) (Or.inr rfl) rfl rfl ?_
    refine zw_virtualL (p := 47) (as := [.ref a0, .int (((2 : Int32) * x1) + x2)]) (rest := []) (Or.inr rfl) rfl rfl rfl rfl rfl rfl rfl (fun w1 M5 => ?_)
    refine zw_lstore (p := 49) (l2 := [some (.ref a0), some (.int x1), some (.int x2), some (.int x3), some (.long w1), none, none]) (Or.inr rfl) rfl rfl rfl rfl ?_
    refine zw_iload_n (p := 50) (Or.inr rfl) rfl rfl rfl ?_
    refine zw_istore (p := 52) (l2 := [some (.ref a0), some (.int x1), some (.int x2), some (.int x3), some (.long w1), none, some (.int x3)]) (Or.inr rfl) rfl rfl rfl rfl ?_
    exact zw_end rfl rfl
  refine zw_iconst (p := 32) (x := (-1 : Int32)) (Or.inr rfl) rfl rfl rfl ?_
  exact zw_ireturn1 (Or.inr rfl) rfl rfl
def zx_Mo_might_52 (E : zE0) (K : zKt) (a0 : Nat) (x1 : Int32) (x2 : Int32) (l4 : Int64) (x6 : Int32) (M : zM) : zO :=
  zif ((zK M a0).1 = 11)
  (zoR (zR M a0 9) fun q1 =>
  zif (((zK M q1).1 = 20 ∨ (zK M q1).1 = 24) ∧ zin (0 : Int32) (zK M q1).2 = true)
  (if (zI M q1 (Int32.toNatClampNeg (0 : Int32))) ≤ x6 then (zif ((zK M a0).1 = 11)
    (zbI (E n_Mo_canEnd [.ref a0, .int (((2 : Int32) * x1) + x2), .long l4] M) fun u1 M1 =>
    zbI (E n_Mo_flag [.int u1] M1) fun u2 M2 =>
    some (some (.int u2), M2)))
  else zif ((zK M a0).1 = 11)
  (zoR (zR M a0 40) fun q2 =>
  zif (((zK M q2).1 = 23 ∨ (zK M q2).1 = 25) ∧ zin (((48 : Int32) * x2) + x6) (zK M q2).2 = true)
  (zif ((zK M a0).1 = 11)
  (zbL (E n_Mo_nextOf [.ref a0, .int (((2 : Int32) * x1) + x2), .long (l4 &&& (zL M q2 (Int32.toNatClampNeg (((48 : Int32) * x2) + x6))))] M) fun w1 M3 =>
  zbi (x6 + (1 : Int32)) fun u3 =>
  K 52 [some (.ref a0), some (.int x1), some (.int x2), none, some (.long w1), none, some (.int u3)] [] M3)))))
set_option maxRecDepth 20000 in
theorem zg_Mo_might_52 (d : Nat) (a0 : Nat) (x1 : Int32) (x2 : Int32) (l4 : Int64) (x6 : Int32) (M : zM) : zG d n_Mo_might 52 [some (.ref a0), some (.int x1), some (.int x2), none, some (.long l4), none, some (.int x6)] [] M = zx_Mo_might_52 (zV d) (zG d n_Mo_might) a0 x1 x2 l4 x6 M := by
  refine (zG_sg (m := zm_Mo_might) rfl 400 _ _ _ M).trans ?_
  show zw true zm_Mo_might (zV d) (zG d n_Mo_might) 400 52 [some (.ref a0), some (.int x1), some (.int x2), none, some (.long l4), none, some (.int x6)] [] M = _
  unfold zx_Mo_might_52
  refine zw_iload (p := 54) (Or.inl rfl) rfl rfl rfl ?_
  refine zw_aload_n (p := 55) (Or.inr rfl) rfl rfl rfl ?_
  refine zw_get_ref (p := 58) (Or.inr rfl) rfl rfl (fun q1 => ?_)
  refine zw_iconst (p := 59) (x := (0 : Int32)) (Or.inr rfl) rfl rfl rfl ?_
  refine zw_iaload (p := 60) (Or.inr rfl) rfl rfl ?_
  refine zw_icmp_ge (t := 95) (p := 63) (Or.inr rfl) rfl rfl rfl ?_ ?_
  · refine zw_aload_n (p := 96) (Or.inr rfl) rfl rfl rfl ?_
    refine zw_iconst (p := 97) (x := (2 : Int32)) (Or.inr rfl) rfl rfl rfl ?_
    refine zw_iload_n (p := 98) (Or.inr rfl) rfl rfl rfl ?_
    refine zw_imul (p := 99) (Or.inr rfl) rfl rfl ?_
    refine zw_iload_n (p := 100) (Or.inr rfl) rfl rfl rfl ?_
    refine zw_iadd (p := 101) (Or.inr rfl) rfl rfl ?_
    refine zw_lload (p := 103) (Or.inr rfl) rfl rfl rfl ?_
    refine zw_virtualI (p := 106) (as := [.ref a0, .int (((2 : Int32) * x1) + x2), .long l4]) (rest := []) (Or.inr rfl) rfl rfl rfl rfl rfl rfl rfl (fun u1 M1 => ?_)
    refine zw_staticI (p := 109) (as := [.int u1]) (rest := []) (Or.inr rfl) rfl rfl rfl rfl rfl rfl (fun u2 M2 => ?_)
    exact zw_ireturn1 (Or.inr rfl) rfl rfl
  refine zw_aload_n (p := 64) (Or.inr rfl) rfl rfl rfl ?_
  refine zw_iconst (p := 65) (x := (2 : Int32)) (Or.inr rfl) rfl rfl rfl ?_
  refine zw_iload_n (p := 66) (Or.inr rfl) rfl rfl rfl ?_
  refine zw_imul (p := 67) (Or.inr rfl) rfl rfl ?_
  refine zw_iload_n (p := 68) (Or.inr rfl) rfl rfl rfl ?_
  refine zw_iadd (p := 69) (Or.inr rfl) rfl rfl ?_
  refine zw_lload (p := 71) (Or.inr rfl) rfl rfl rfl ?_
  refine zw_aload_n (p := 72) (Or.inr rfl) rfl rfl rfl ?_
  refine zw_get_ref (p := 75) (Or.inr rfl) rfl rfl (fun q2 => ?_)
  refine zw_bipush (p := 77) (x := (48 : Int32)) (Or.inr rfl) rfl rfl rfl ?_
  refine zw_iload_n (p := 78) (Or.inr rfl) rfl rfl rfl ?_
  refine zw_imul (p := 79) (Or.inr rfl) rfl rfl ?_
  refine zw_iload (p := 81) (Or.inr rfl) rfl rfl rfl ?_
  refine zw_iadd (p := 82) (Or.inr rfl) rfl rfl ?_
  refine zw_laload (p := 83) (Or.inr rfl) rfl rfl ?_
  refine zw_land (p := 84) (Or.inr rfl) rfl rfl ?_
  refine zw_virtualL (p := 87) (as := [.ref a0, .int (((2 : Int32) * x1) + x2), .long (l4 &&& (zL M q2 (Int32.toNatClampNeg (((48 : Int32) * x2) + x6))))]) (rest := []) (Or.inr rfl) rfl rfl rfl rfl rfl rfl rfl (fun w1 M3 => ?_)
  refine zw_lstore (p := 89) (l2 := [some (.ref a0), some (.int x1), some (.int x2), none, some (.long w1), none, some (.int x6)]) (Or.inr rfl) rfl rfl rfl rfl ?_
  refine zw_iinc (p := 92) (c := (1 : Int32)) (L2 := fun u3 => [some (.ref a0), some (.int x1), some (.int x2), none, some (.long w1), none, some (.int u3)]) (Or.inr rfl) rfl rfl rfl rfl (fun _ => rfl) rfl (fun u3 => ?_)
  refine zw_goto (t := 52) (Or.inr rfl) rfl rfl ?_
  exact zw_end rfl rfl
def zx_Mo_promise (E : zE0) (K : zKt) (a0 : Nat) (x1 : Int32) (x2 : Int32) (M : zM) : zO :=
  zif ((zK M a0).1 = 11)
  (zbI (E n_Mo_isPromise [.ref a0, .int x1] M) fun u1 M1 =>
  if u1 = 0 then (some (some (.int (-1 : Int32)), M1))
  else zbI (E n_Mo_in [.long (Int32.toInt64 x2), .long (0 : Int64), .long (9 : Int64)] M1) fun u2 M2 =>
  if u2 ≠ 0 then (if (2 : Int32) ≤ x2 then (zif (¬ (2 : Int32) = 0) (zbi ((45 : Int32) * (((2 : Int32) * x1) + (x2 - x2 / (2 : Int32) * (2 : Int32)))) fun u3 =>
      zif ((zK M2 a0).1 = 11)
      (zoR (zR M2 a0 0) fun q1 =>
      if (4 : Int32) ≤ x2 then (if (6 : Int32) ≤ x2 then (if (8 : Int32) ≤ x2 then (zif (((zK M2 q1).1 = 20 ∨ (zK M2 q1).1 = 24) ∧ zin (u3 + (4 : Int32)) (zK M2 q1).2 = true)
            (some (some (.int (zI M2 q1 (Int32.toNatClampNeg (u3 + (4 : Int32))))), M2)))
          else zif (((zK M2 q1).1 = 20 ∨ (zK M2 q1).1 = 24) ∧ zin (u3 + (3 : Int32)) (zK M2 q1).2 = true)
          (some (some (.int (zI M2 q1 (Int32.toNatClampNeg (u3 + (3 : Int32))))), M2)))
        else zif (((zK M2 q1).1 = 20 ∨ (zK M2 q1).1 = 24) ∧ zin (u3 + (2 : Int32)) (zK M2 q1).2 = true)
        (some (some (.int (zI M2 q1 (Int32.toNatClampNeg (u3 + (2 : Int32))))), M2)))
      else zif (((zK M2 q1).1 = 20 ∨ (zK M2 q1).1 = 24) ∧ zin (u3 + (1 : Int32)) (zK M2 q1).2 = true)
      (some (some (.int (zI M2 q1 (Int32.toNatClampNeg (u3 + (1 : Int32))))), M2)))))
    else zif ((zK M2 a0).1 = 11)
    (zoR (zR M2 a0 4) fun q2 =>
    zif (((zK M2 q2).1 = 20 ∨ (zK M2 q2).1 = 24) ∧ zin (((2 : Int32) * x1) + x2) (zK M2 q2).2 = true)
    (some (some (.int (zI M2 q2 (Int32.toNatClampNeg (((2 : Int32) * x1) + x2)))), M2))))
  else some (some (.int (-1 : Int32)), M2))
set_option maxRecDepth 20000 in
theorem ze_Mo_promise (d : Nat) (a0 : Nat) (x1 : Int32) (x2 : Int32) (M : zM) : zV (d + 1) n_Mo_promise [.ref a0, .int x1, .int x2] M = zx_Mo_promise (zV d) (zG d n_Mo_promise) a0 x1 x2 M := by
  refine (zE_sg (m := zm_Mo_promise) rfl 400 _ rfl M).trans ?_
  show zw true zm_Mo_promise (zV d) (zG d n_Mo_promise) 400 0 [some (.ref a0), some (.int x1), some (.int x2), none] [] M = _
  unfold zx_Mo_promise
  refine zw_aload_n (p := 1) (Or.inl rfl) rfl rfl rfl ?_
  refine zw_iload_n (p := 2) (Or.inr rfl) rfl rfl rfl ?_
  refine zw_virtualI (p := 5) (as := [.ref a0, .int x1]) (rest := []) (Or.inr rfl) rfl rfl rfl rfl rfl rfl rfl (fun u1 M1 => ?_)
  refine zw_if_eq (t := 20) (p := 8) (Or.inr rfl) rfl rfl rfl ?_ ?_
  · refine zw_iconst (p := 21) (x := (-1 : Int32)) (Or.inr rfl) rfl rfl rfl ?_
    exact zw_ireturn1 (Or.inr rfl) rfl rfl
  refine zw_iload_n (p := 9) (Or.inr rfl) rfl rfl rfl ?_
  refine zw_i2l (p := 10) (Or.inr rfl) rfl rfl ?_
  refine zw_lconst (p := 11) (x := (0 : Int64)) (Or.inr rfl) rfl rfl rfl ?_
  refine zw_ldc2_w (p := 14) (x := (9 : Int64)) (Or.inr rfl) rfl rfl rfl ?_
  refine zw_staticI (p := 17) (as := [.long (Int32.toInt64 x2), .long (0 : Int64), .long (9 : Int64)]) (rest := []) (Or.inr rfl) rfl rfl rfl rfl rfl rfl (fun u2 M2 => ?_)
  refine zw_if_ne (t := 22) (p := 20) (Or.inr rfl) rfl rfl rfl ?_ ?_
  · refine zw_iload_n (p := 23) (Or.inr rfl) rfl rfl rfl ?_
    refine zw_iconst (p := 24) (x := (2 : Int32)) (Or.inr rfl) rfl rfl rfl ?_
    refine zw_icmp_ge (t := 38) (p := 27) (Or.inr rfl) rfl rfl rfl ?_ ?_
    · refine zw_bipush (p := 40) (x := (45 : Int32)) (Or.inr rfl) rfl rfl rfl ?_
      refine zw_iconst (p := 41) (x := (2 : Int32)) (Or.inr rfl) rfl rfl rfl ?_
      refine zw_iload_n (p := 42) (Or.inr rfl) rfl rfl rfl ?_
      refine zw_imul (p := 43) (Or.inr rfl) rfl rfl ?_
      refine zw_iload_n (p := 44) (Or.inr rfl) rfl rfl rfl ?_
      refine zw_iconst (p := 45) (x := (2 : Int32)) (Or.inr rfl) rfl rfl rfl ?_
      refine zw_irem (p := 46) (Or.inr rfl) rfl rfl ?_
      refine zw_iadd (p := 47) (Or.inr rfl) rfl rfl ?_
      refine zw_imul (p := 48) (Or.inr rfl) rfl rfl ?_
      refine zw_istore_nN (p := 49) (L2 := fun u3 => [some (.ref a0), some (.int x1), some (.int x2), some (.int u3)]) (Or.inr rfl) rfl rfl (fun _ => rfl) rfl (fun u3 => ?_)
      refine zw_aload_n (p := 50) (Or.inr rfl) rfl rfl rfl ?_
      refine zw_get_ref (p := 53) (Or.inr rfl) rfl rfl (fun q1 => ?_)
      refine zw_iload_n (p := 54) (Or.inr rfl) rfl rfl rfl ?_
      refine zw_iload_n (p := 55) (Or.inr rfl) rfl rfl rfl ?_
      refine zw_iconst (p := 56) (x := (4 : Int32)) (Or.inr rfl) rfl rfl rfl ?_
      refine zw_icmp_ge (t := 63) (p := 59) (Or.inr rfl) rfl rfl rfl ?_ ?_
      · refine zw_iload_n (p := 64) (Or.inr rfl) rfl rfl rfl ?_
        refine zw_bipush (p := 66) (x := (6 : Int32)) (Or.inr rfl) rfl rfl rfl ?_
        refine zw_icmp_ge (t := 73) (p := 69) (Or.inr rfl) rfl rfl rfl ?_ ?_
        · refine zw_iload_n (p := 74) (Or.inr rfl) rfl rfl rfl ?_
          refine zw_bipush (p := 76) (x := (8 : Int32)) (Or.inr rfl) rfl rfl rfl ?_
          refine zw_icmp_ge (t := 83) (p := 79) (Or.inr rfl) rfl rfl rfl ?_ ?_
          · refine zw_iconst (p := 84) (x := (4 : Int32)) (Or.inr rfl) rfl rfl rfl ?_
            refine zw_iadd (p := 85) (Or.inr rfl) rfl rfl ?_
            refine zw_iaload (p := 86) (Or.inr rfl) rfl rfl ?_
            exact zw_ireturn1 (Or.inr rfl) rfl rfl
          refine zw_iconst (p := 80) (x := (3 : Int32)) (Or.inr rfl) rfl rfl rfl ?_
          refine zw_goto (t := 84) (Or.inr rfl) rfl rfl ?_
          refine zw_iadd (p := 85) (Or.inr rfl) rfl rfl ?_
          refine zw_iaload (p := 86) (Or.inr rfl) rfl rfl ?_
          exact zw_ireturn1 (Or.inr rfl) rfl rfl
        refine zw_iconst (p := 70) (x := (2 : Int32)) (Or.inr rfl) rfl rfl rfl ?_
        refine zw_goto (t := 84) (Or.inr rfl) rfl rfl ?_
        refine zw_iadd (p := 85) (Or.inr rfl) rfl rfl ?_
        refine zw_iaload (p := 86) (Or.inr rfl) rfl rfl ?_
        exact zw_ireturn1 (Or.inr rfl) rfl rfl
      refine zw_iconst (p := 60) (x := (1 : Int32)) (Or.inr rfl) rfl rfl rfl ?_
      refine zw_goto (t := 84) (Or.inr rfl) rfl rfl ?_
      refine zw_iadd (p := 85) (Or.inr rfl) rfl rfl ?_
      refine zw_iaload (p := 86) (Or.inr rfl) rfl rfl ?_
      exact zw_ireturn1 (Or.inr rfl) rfl rfl
    refine zw_aload_n (p := 28) (Or.inr rfl) rfl rfl rfl ?_
    refine zw_get_ref (p := 31) (Or.inr rfl) rfl rfl (fun q2 => ?_)
    refine zw_iconst (p := 32) (x := (2 : Int32)) (Or.inr rfl) rfl rfl rfl ?_
    refine zw_iload_n (p := 33) (Or.inr rfl) rfl rfl rfl ?_
    refine zw_imul (p := 34) (Or.inr rfl) rfl rfl ?_
    refine zw_iload_n (p := 35) (Or.inr rfl) rfl rfl rfl ?_
    refine zw_iadd (p := 36) (Or.inr rfl) rfl rfl ?_
    refine zw_iaload (p := 37) (Or.inr rfl) rfl rfl ?_
    exact zw_ireturn1 (Or.inr rfl) rfl rfl
  refine zw_iconst (p := 21) (x := (-1 : Int32)) (Or.inr rfl) rfl rfl rfl ?_
  exact zw_ireturn1 (Or.inr rfl) rfl rfl
def zx_Mo_goesOn (E : zE0) (K : zKt) (a0 : Nat) (x1 : Int32) (x2 : Int32) (x3 : Int32) (M : zM) : zO :=
  zbi (((2 : Int32) * x1) + (1 : Int32)) fun u1 =>
  zif ((zK M a0).1 = 11)
  (zoR (zR M a0 41) fun q1 =>
  zif (((zK M q1).1 = 23 ∨ (zK M q1).1 = 25) ∧ zin x2 (zK M q1).2 = true)
  (zif ((zK M a0).1 = 11)
  (zoR (zR M a0 40) fun q2 =>
  zif (((zK M q2).1 = 23 ∨ (zK M q2).1 = 25) ∧ zin ((48 : Int32) + x3) (zK M q2).2 = true)
  (zbl ((zL M q1 (Int32.toNatClampNeg x2)) &&& (zL M q2 (Int32.toNatClampNeg ((48 : Int32) + x3)))) fun w1 =>
  zif ((zK M a0).1 = 11)
  (zoR (zR M a0 41) fun q3 =>
  zif ((zK M a0).1 = 11)
  (zbL (E n_Mo_nextOf [.ref a0, .int u1, .long w1] M) fun w2 M1 =>
  zif ((zK M1 q3).1 = 23 ∧ zin x2 (zK M1 q3).2 = true)
  (zbm (zsL M1 q3 (Int32.toNatClampNeg x2) w2) fun M2 =>
  zif ((zK M2 a0).1 = 11)
  (zbI (E n_Mo_isEnd [.ref a0, .int u1, .long w1] M2) fun u2 M3 =>
  if u2 = 0 then (zif ((zK M3 a0).1 = 11)
    (zbV (E n_Mo_dies [.ref a0, .int u1, .int x2, .int x3] M3) fun M4 =>
    some (none, M4)))
  else zif ((zK M3 a0).1 = 11)
  (zoR (zR M3 a0 42) fun q4 =>
  zif ((zK M3 q4).1 = 20 ∧ zin x2 (zK M3 q4).2 = true)
  (zbm (zsI M3 q4 (Int32.toNatClampNeg x2) (1 : Int32)) fun M5 =>
  zif ((zK M5 a0).1 = 11)
  (zoR (zR M5 a0 43) fun q5 =>
  zif ((zK M5 q5).1 = 20 ∧ zin x2 (zK M5 q5).2 = true)
  (zbm (zsI M5 q5 (Int32.toNatClampNeg x2) x3) fun M6 =>
  some (none, M6)))))))))))))
set_option maxRecDepth 20000 in
theorem ze_Mo_goesOn (d : Nat) (a0 : Nat) (x1 : Int32) (x2 : Int32) (x3 : Int32) (M : zM) : zV (d + 1) n_Mo_goesOn [.ref a0, .int x1, .int x2, .int x3] M = zx_Mo_goesOn (zV d) (zG d n_Mo_goesOn) a0 x1 x2 x3 M := by
  refine (zE_sg (m := zm_Mo_goesOn) rfl 400 _ rfl M).trans ?_
  show zw true zm_Mo_goesOn (zV d) (zG d n_Mo_goesOn) 400 0 [some (.ref a0), some (.int x1), some (.int x2), some (.int x3), none, none, none] [] M = _
  unfold zx_Mo_goesOn
  refine zw_iconst (p := 1) (x := (2 : Int32)) (Or.inl rfl) rfl rfl rfl ?_
  refine zw_iload_n (p := 2) (Or.inr rfl) rfl rfl rfl ?_
  refine zw_imul (p := 3) (Or.inr rfl) rfl rfl ?_
  refine zw_iconst (p := 4) (x := (1 : Int32)) (Or.inr rfl) rfl rfl rfl ?_
  refine zw_iadd (p := 5) (Or.inr rfl) rfl rfl ?_
  refine zw_istoreN (p := 7) (L2 := fun u1 => [some (.ref a0), some (.int x1), some (.int x2), some (.int x3), some (.int u1), none, none]) (Or.inr rfl) rfl rfl (fun _ => rfl) rfl (fun u1 => ?_)
  refine zw_aload_n (p := 8) (Or.inr rfl) rfl rfl rfl ?_
  refine zw_get_ref (p := 11) (Or.inr rfl) rfl rfl (fun q1 => ?_)
  refine zw_iload_n (p := 12) (Or.inr rfl) rfl rfl rfl ?_
  refine zw_laload (p := 13) (Or.inr rfl) rfl rfl ?_
  refine zw_aload_n (p := 14) (Or.inr rfl) rfl rfl rfl ?_
  refine zw_get_ref (p := 17) (Or.inr rfl) rfl rfl (fun q2 => ?_)
  refine zw_bipush (p := 19) (x := (48 : Int32)) (Or.inr rfl) rfl rfl rfl ?_
  refine zw_iload_n (p := 20) (Or.inr rfl) rfl rfl rfl ?_
  refine zw_iadd (p := 21) (Or.inr rfl) rfl rfl ?_
  refine zw_laload (p := 22) (Or.inr rfl) rfl rfl ?_
  refine zw_land (p := 23) (Or.inr rfl) rfl rfl ?_
  refine zw_lstoreN (p := 25) (L2 := fun w1 => [some (.ref a0), some (.int x1), some (.int x2), some (.int x3), some (.int u1), some (.long w1), none]) (Or.inr rfl) rfl rfl (fun _ => rfl) rfl (fun w1 => ?_)
  refine zw_aload_n (p := 26) (Or.inr rfl) rfl rfl rfl ?_
  refine zw_get_ref (p := 29) (Or.inr rfl) rfl rfl (fun q3 => ?_)
  refine zw_iload_n (p := 30) (Or.inr rfl) rfl rfl rfl ?_
  refine zw_aload_n (p := 31) (Or.inr rfl) rfl rfl rfl ?_
  refine zw_iload (p := 33) (Or.inr rfl) rfl rfl rfl ?_
  refine zw_lload (p := 35) (Or.inr rfl) rfl rfl rfl ?_
  refine zw_virtualL (p := 38) (as := [.ref a0, .int u1, .long w1]) (rest := [.int x2, .ref q3]) (Or.inr rfl) rfl rfl rfl rfl rfl rfl rfl (fun w2 M1 => ?_)
  refine zw_lastore (p := 39) (Or.inr rfl) rfl rfl (fun M2 => ?_)
  refine zw_aload_n (p := 40) (Or.inr rfl) rfl rfl rfl ?_
  refine zw_iload (p := 42) (Or.inr rfl) rfl rfl rfl ?_
  refine zw_lload (p := 44) (Or.inr rfl) rfl rfl rfl ?_
  refine zw_virtualI (p := 47) (as := [.ref a0, .int u1, .long w1]) (rest := []) (Or.inr rfl) rfl rfl rfl rfl rfl rfl rfl (fun u2 M3 => ?_)
  refine zw_if_eq (t := 67) (p := 50) (Or.inr rfl) rfl rfl rfl ?_ ?_
  · refine zw_aload_n (p := 68) (Or.inr rfl) rfl rfl rfl ?_
    refine zw_iload (p := 70) (Or.inr rfl) rfl rfl rfl ?_
    refine zw_iload_n (p := 71) (Or.inr rfl) rfl rfl rfl ?_
    refine zw_iload_n (p := 72) (Or.inr rfl) rfl rfl rfl ?_
    refine zw_virtualV (p := 75) (as := [.ref a0, .int u1, .int x2, .int x3]) (rest := []) (Or.inr rfl) rfl rfl rfl rfl rfl rfl rfl (fun M4 => ?_)
    exact zw_return (Or.inr rfl) rfl rfl
  refine zw_aload_n (p := 51) (Or.inr rfl) rfl rfl rfl ?_
  refine zw_get_ref (p := 54) (Or.inr rfl) rfl rfl (fun q4 => ?_)
  refine zw_iload_n (p := 55) (Or.inr rfl) rfl rfl rfl ?_
  refine zw_iconst (p := 56) (x := (1 : Int32)) (Or.inr rfl) rfl rfl rfl ?_
  refine zw_iastore (p := 57) (Or.inr rfl) rfl rfl (fun M5 => ?_)
  refine zw_aload_n (p := 58) (Or.inr rfl) rfl rfl rfl ?_
  refine zw_get_ref (p := 61) (Or.inr rfl) rfl rfl (fun q5 => ?_)
  refine zw_iload_n (p := 62) (Or.inr rfl) rfl rfl rfl ?_
  refine zw_iload_n (p := 63) (Or.inr rfl) rfl rfl rfl ?_
  refine zw_iastore (p := 64) (Or.inr rfl) rfl rfl (fun M6 => ?_)
  refine zw_goto (t := 75) (Or.inr rfl) rfl rfl ?_
  exact zw_return (Or.inr rfl) rfl rfl
def zx_Mo_dies (E : zE0) (K : zKt) (a0 : Nat) (x1 : Int32) (x2 : Int32) (x3 : Int32) (M : zM) : zO :=
  zif ((zK M a0).1 = 11)
  (zoR (zR M a0 41) fun q1 =>
  zif (((zK M q1).1 = 23 ∨ (zK M q1).1 = 25) ∧ zin x2 (zK M q1).2 = true)
  (zif ((zK M a0).1 = 11)
  (zbI (E n_Mo_canEnd [.ref a0, .int x1, .long (zL M q1 (Int32.toNatClampNeg x2))] M) fun u1 M1 =>
  if u1 ≠ 0 then (some (none, M1))
  else zif ((zK M1 a0).1 = 11)
  (zoR (zR M1 a0 42) fun q2 =>
  zif ((zK M1 q2).1 = 20 ∧ zin x2 (zK M1 q2).2 = true)
  (zbm (zsI M1 q2 (Int32.toNatClampNeg x2) (2 : Int32)) fun M2 =>
  zif ((zK M2 a0).1 = 11)
  (zoR (zR M2 a0 43) fun q3 =>
  zif ((zK M2 q3).1 = 20 ∧ zin x2 (zK M2 q3).2 = true)
  (zbm (zsI M2 q3 (Int32.toNatClampNeg x2) x3) fun M3 =>
  some (none, M3))))))))
set_option maxRecDepth 20000 in
theorem ze_Mo_dies (d : Nat) (a0 : Nat) (x1 : Int32) (x2 : Int32) (x3 : Int32) (M : zM) : zV (d + 1) n_Mo_dies [.ref a0, .int x1, .int x2, .int x3] M = zx_Mo_dies (zV d) (zG d n_Mo_dies) a0 x1 x2 x3 M := by
  refine (zE_sg (m := zm_Mo_dies) rfl 400 _ rfl M).trans ?_
  show zw true zm_Mo_dies (zV d) (zG d n_Mo_dies) 400 0 [some (.ref a0), some (.int x1), some (.int x2), some (.int x3)] [] M = _
  unfold zx_Mo_dies
  refine zw_aload_n (p := 1) (Or.inl rfl) rfl rfl rfl ?_
  refine zw_iload_n (p := 2) (Or.inr rfl) rfl rfl rfl ?_
  refine zw_aload_n (p := 3) (Or.inr rfl) rfl rfl rfl ?_
  refine zw_get_ref (p := 6) (Or.inr rfl) rfl rfl (fun q1 => ?_)
  refine zw_iload_n (p := 7) (Or.inr rfl) rfl rfl rfl ?_
  refine zw_laload (p := 8) (Or.inr rfl) rfl rfl ?_
  refine zw_virtualI (p := 11) (as := [.ref a0, .int x1, .long (zL M q1 (Int32.toNatClampNeg x2))]) (rest := []) (Or.inr rfl) rfl rfl rfl rfl rfl rfl rfl (fun u1 M1 => ?_)
  refine zw_if_ne (t := 28) (p := 14) (Or.inr rfl) rfl rfl rfl ?_ ?_
  · exact zw_return (Or.inr rfl) rfl rfl
  refine zw_aload_n (p := 15) (Or.inr rfl) rfl rfl rfl ?_
  refine zw_get_ref (p := 18) (Or.inr rfl) rfl rfl (fun q2 => ?_)
  refine zw_iload_n (p := 19) (Or.inr rfl) rfl rfl rfl ?_
  refine zw_iconst (p := 20) (x := (2 : Int32)) (Or.inr rfl) rfl rfl rfl ?_
  refine zw_iastore (p := 21) (Or.inr rfl) rfl rfl (fun M2 => ?_)
  refine zw_aload_n (p := 22) (Or.inr rfl) rfl rfl rfl ?_
  refine zw_get_ref (p := 25) (Or.inr rfl) rfl rfl (fun q3 => ?_)
  refine zw_iload_n (p := 26) (Or.inr rfl) rfl rfl rfl ?_
  refine zw_iload_n (p := 27) (Or.inr rfl) rfl rfl rfl ?_
  refine zw_iastore (p := 28) (Or.inr rfl) rfl rfl (fun M3 => ?_)
  exact zw_return (Or.inr rfl) rfl rfl
def zx_Mo_begins (E : zE0) (K : zKt) (a0 : Nat) (x1 : Int32) (x2 : Int32) (M : zM) : zO :=
  zif ((zK M a0).1 = 11)
  (zoR (zR M a0 44) fun q1 =>
  zbast M q1 x2 (1 : Int32) fun M1 =>
  zif ((zK M1 a0).1 = 11)
  (zoR (zR M1 a0 42) fun q2 =>
  zif ((zK M1 q2).1 = 20 ∧ zin x2 (zK M1 q2).2 = true)
  (zbm (zsI M1 q2 (Int32.toNatClampNeg x2) (0 : Int32)) fun M2 =>
  zif ((zK M2 a0).1 = 11)
  (zoR (zR M2 a0 43) fun q3 =>
  zif ((zK M2 q3).1 = 20 ∧ zin x2 (zK M2 q3).2 = true)
  (zbm (zsI M2 q3 (Int32.toNatClampNeg x2) (-4 : Int32)) fun M3 =>
  zif ((zK M3 a0).1 = 11)
  (zoR (zR M3 a0 41) fun q4 =>
  zif ((zK M3 a0).1 = 11)
  (zbL (E n_Mo_firstOf [.ref a0, .int (((2 : Int32) * x1) + (1 : Int32))] M3) fun w1 M4 =>
  zif ((zK M4 q4).1 = 23 ∧ zin x2 (zK M4 q4).2 = true)
  (zbm (zsL M4 q4 (Int32.toNatClampNeg x2) w1) fun M5 =>
  zif ((zK M5 a0).1 = 11)
  (zoR (zR M5 a0 4) fun q5 =>
  zif (((zK M5 q5).1 = 20 ∨ (zK M5 q5).1 = 24) ∧ zin ((2 : Int32) * x1) (zK M5 q5).2 = true)
  (if (zI M5 q5 (Int32.toNatClampNeg ((2 : Int32) * x1))) ≠ 0 then (zif ((zK M5 a0).1 = 11)
    (zbV (E n_Mo_dies [.ref a0, .int (((2 : Int32) * x1) + (1 : Int32)), .int x2, .int x2] M5) fun M6 =>
    some (none, M6)))
  else zif ((zK M5 a0).1 = 11)
  (zbV (E n_Mo_goesOn [.ref a0, .int x1, .int x2, .int x2] M5) fun M7 =>
  some (none, M7))))))))))))
set_option maxRecDepth 20000 in
theorem ze_Mo_begins (d : Nat) (a0 : Nat) (x1 : Int32) (x2 : Int32) (M : zM) : zV (d + 1) n_Mo_begins [.ref a0, .int x1, .int x2] M = zx_Mo_begins (zV d) (zG d n_Mo_begins) a0 x1 x2 M := by
  refine (zE_sg (m := zm_Mo_begins) rfl 400 _ rfl M).trans ?_
  show zw true zm_Mo_begins (zV d) (zG d n_Mo_begins) 400 0 [some (.ref a0), some (.int x1), some (.int x2)] [] M = _
  unfold zx_Mo_begins
  refine zw_aload_n (p := 1) (Or.inl rfl) rfl rfl rfl ?_
  refine zw_get_ref (p := 4) (Or.inr rfl) rfl rfl (fun q1 => ?_)
  refine zw_iload_n (p := 5) (Or.inr rfl) rfl rfl rfl ?_
  refine zw_iconst (p := 6) (x := (1 : Int32)) (Or.inr rfl) rfl rfl rfl ?_
  refine zw_bastore (p := 7) (Or.inr rfl) rfl rfl (fun M1 => ?_)
  refine zw_aload_n (p := 8) (Or.inr rfl) rfl rfl rfl ?_
  refine zw_get_ref (p := 11) (Or.inr rfl) rfl rfl (fun q2 => ?_)
  refine zw_iload_n (p := 12) (Or.inr rfl) rfl rfl rfl ?_
  refine zw_iconst (p := 13) (x := (0 : Int32)) (Or.inr rfl) rfl rfl rfl ?_
  refine zw_iastore (p := 14) (Or.inr rfl) rfl rfl (fun M2 => ?_)
  refine zw_aload_n (p := 15) (Or.inr rfl) rfl rfl rfl ?_
  refine zw_get_ref (p := 18) (Or.inr rfl) rfl rfl (fun q3 => ?_)
  refine zw_iload_n (p := 19) (Or.inr rfl) rfl rfl rfl ?_
  refine zw_bipush (p := 21) (x := (-4 : Int32)) (Or.inr rfl) rfl rfl rfl ?_
  refine zw_iastore (p := 22) (Or.inr rfl) rfl rfl (fun M3 => ?_)
  refine zw_aload_n (p := 23) (Or.inr rfl) rfl rfl rfl ?_
  refine zw_get_ref (p := 26) (Or.inr rfl) rfl rfl (fun q4 => ?_)
  refine zw_iload_n (p := 27) (Or.inr rfl) rfl rfl rfl ?_
  refine zw_aload_n (p := 28) (Or.inr rfl) rfl rfl rfl ?_
  refine zw_iconst (p := 29) (x := (2 : Int32)) (Or.inr rfl) rfl rfl rfl ?_
  refine zw_iload_n (p := 30) (Or.inr rfl) rfl rfl rfl ?_
  refine zw_imul (p := 31) (Or.inr rfl) rfl rfl ?_
  refine zw_iconst (p := 32) (x := (1 : Int32)) (Or.inr rfl) rfl rfl rfl ?_
  refine zw_iadd (p := 33) (Or.inr rfl) rfl rfl ?_
  refine zw_virtualL (p := 36) (as := [.ref a0, .int (((2 : Int32) * x1) + (1 : Int32))]) (rest := [.int x2, .ref q4]) (Or.inr rfl) rfl rfl rfl rfl rfl rfl rfl (fun w1 M4 => ?_)
  refine zw_lastore (p := 37) (Or.inr rfl) rfl rfl (fun M5 => ?_)
  refine zw_aload_n (p := 38) (Or.inr rfl) rfl rfl rfl ?_
  refine zw_get_ref (p := 41) (Or.inr rfl) rfl rfl (fun q5 => ?_)
  refine zw_iconst (p := 42) (x := (2 : Int32)) (Or.inr rfl) rfl rfl rfl ?_
  refine zw_iload_n (p := 43) (Or.inr rfl) rfl rfl rfl ?_
  refine zw_imul (p := 44) (Or.inr rfl) rfl rfl ?_
  refine zw_iaload (p := 45) (Or.inr rfl) rfl rfl ?_
  refine zw_if_ne (t := 58) (p := 48) (Or.inr rfl) rfl rfl rfl ?_ ?_
  · refine zw_aload_n (p := 59) (Or.inr rfl) rfl rfl rfl ?_
    refine zw_iconst (p := 60) (x := (2 : Int32)) (Or.inr rfl) rfl rfl rfl ?_
    refine zw_iload_n (p := 61) (Or.inr rfl) rfl rfl rfl ?_
    refine zw_imul (p := 62) (Or.inr rfl) rfl rfl ?_
    refine zw_iconst (p := 63) (x := (1 : Int32)) (Or.inr rfl) rfl rfl rfl ?_
    refine zw_iadd (p := 64) (Or.inr rfl) rfl rfl ?_
    refine zw_iload_n (p := 65) (Or.inr rfl) rfl rfl rfl ?_
    refine zw_iload_n (p := 66) (Or.inr rfl) rfl rfl rfl ?_
    refine zw_virtualV (p := 69) (as := [.ref a0, .int (((2 : Int32) * x1) + (1 : Int32)), .int x2, .int x2]) (rest := []) (Or.inr rfl) rfl rfl rfl rfl rfl rfl rfl (fun M6 => ?_)
    exact zw_return (Or.inr rfl) rfl rfl
  refine zw_aload_n (p := 49) (Or.inr rfl) rfl rfl rfl ?_
  refine zw_iload_n (p := 50) (Or.inr rfl) rfl rfl rfl ?_
  refine zw_iload_n (p := 51) (Or.inr rfl) rfl rfl rfl ?_
  refine zw_iload_n (p := 52) (Or.inr rfl) rfl rfl rfl ?_
  refine zw_virtualV (p := 55) (as := [.ref a0, .int x1, .int x2, .int x2]) (rest := []) (Or.inr rfl) rfl rfl rfl rfl rfl rfl rfl (fun M7 => ?_)
  refine zw_goto (t := 69) (Or.inr rfl) rfl rfl ?_
  exact zw_return (Or.inr rfl) rfl rfl
def zx_Mo_isAny (E : zE0) (K : zKt) (a0 : Nat) (x1 : Int32) (x2 : Int32) (x3 : Int32) (M : zM) : zO :=
  K 6 [some (.ref a0), none, some (.int x2), some (.int x3), some (.int (0 : Int32)), some (.int x1)] [] M
set_option maxRecDepth 20000 in
theorem ze_Mo_isAny (d : Nat) (a0 : Nat) (x1 : Int32) (x2 : Int32) (x3 : Int32) (M : zM) : zV (d + 1) n_Mo_isAny [.ref a0, .int x1, .int x2, .int x3] M = zx_Mo_isAny (zV d) (zG d n_Mo_isAny) a0 x1 x2 x3 M := by
  refine (zE_sg (m := zm_Mo_isAny) rfl 400 _ rfl M).trans ?_
  show zw true zm_Mo_isAny (zV d) (zG d n_Mo_isAny) 400 0 [some (.ref a0), some (.int x1), some (.int x2), some (.int x3), none, none] [] M = _
  unfold zx_Mo_isAny
  refine zw_iconst (p := 1) (x := (0 : Int32)) (Or.inl rfl) rfl rfl rfl ?_
  refine zw_istore (p := 3) (l2 := [some (.ref a0), some (.int x1), some (.int x2), some (.int x3), some (.int (0 : Int32)), none]) (Or.inr rfl) rfl rfl rfl rfl ?_
  refine zw_iload_n (p := 4) (Or.inr rfl) rfl rfl rfl ?_
  refine zw_istore (p := 6) (l2 := [some (.ref a0), some (.int x1), some (.int x2), some (.int x3), some (.int (0 : Int32)), some (.int x1)]) (Or.inr rfl) rfl rfl rfl rfl ?_
  exact zw_end rfl rfl
def zx_Mo_isAny_6 (E : zE0) (K : zKt) (a0 : Nat) (x2 : Int32) (x3 : Int32) (x4 : Int32) (x5 : Int32) (M : zM) : zO :=
  if x2 < x5 then (zif (x4 = 0 ∨ x4 = 1) (some (some (.int x4), M)))
  else if x4 ≠ 0 then (zbi (x5 + (1 : Int32)) fun u1 =>
    K 6 [some (.ref a0), none, some (.int x2), some (.int x3), some (.int (1 : Int32)), some (.int u1)] [] M)
  else zif ((zK M a0).1 = 11)
  (zoR (zR M a0 44) fun q1 =>
  zif (((zK M q1).1 = 21 ∨ (zK M q1).1 = 22) ∧ zin x5 (zK M q1).2 = true)
  (if (zI M q1 (Int32.toNatClampNeg x5)) = 0 then (zbi (x5 + (1 : Int32)) fun u2 =>
    K 6 [some (.ref a0), none, some (.int x2), some (.int x3), some (.int (0 : Int32)), some (.int u2)] [] M)
  else if x3 = (-4 : Int32) then (zbi (x5 + (1 : Int32)) fun u3 =>
    K 6 [some (.ref a0), none, some (.int x2), some (.int x3), some (.int (1 : Int32)), some (.int u3)] [] M)
  else zif ((zK M a0).1 = 11)
  (zoR (zR M a0 42) fun q2 =>
  zif (((zK M q2).1 = 20 ∨ (zK M q2).1 = 24) ∧ zin x5 (zK M q2).2 = true)
  (if (zI M q2 (Int32.toNatClampNeg x5)) ≠ x3 then (zbi (x5 + (1 : Int32)) fun u4 =>
    K 6 [some (.ref a0), none, some (.int x2), some (.int x3), some (.int (0 : Int32)), some (.int u4)] [] M)
  else zbi (x5 + (1 : Int32)) fun u5 =>
  K 6 [some (.ref a0), none, some (.int x2), some (.int x3), some (.int (1 : Int32)), some (.int u5)] [] M))))
set_option maxRecDepth 20000 in
theorem zg_Mo_isAny_6 (d : Nat) (a0 : Nat) (x2 : Int32) (x3 : Int32) (x4 : Int32) (x5 : Int32) (M : zM) : zG d n_Mo_isAny 6 [some (.ref a0), none, some (.int x2), some (.int x3), some (.int x4), some (.int x5)] [] M = zx_Mo_isAny_6 (zV d) (zG d n_Mo_isAny) a0 x2 x3 x4 x5 M := by
  refine (zG_sg (m := zm_Mo_isAny) rfl 400 _ _ _ M).trans ?_
  show zw true zm_Mo_isAny (zV d) (zG d n_Mo_isAny) 400 6 [some (.ref a0), none, some (.int x2), some (.int x3), some (.int x4), some (.int x5)] [] M = _
  unfold zx_Mo_isAny_6
  refine zw_iload (p := 8) (Or.inl rfl) rfl rfl rfl ?_
  refine zw_iload_n (p := 9) (Or.inr rfl) rfl rfl rfl ?_
  refine zw_icmp_gt (t := 57) (p := 12) (Or.inr rfl) rfl rfl rfl ?_ ?_
  · refine zw_iload (p := 59) (Or.inr rfl) rfl rfl rfl ?_
    exact zw_ireturn2 (Or.inr rfl) rfl rfl
  refine zw_iload (p := 14) (Or.inr rfl) rfl rfl rfl ?_
  refine zw_if_ne (t := 44) (p := 17) (Or.inr rfl) rfl rfl rfl ?_ ?_
  · refine zw_iconst (p := 45) (x := (1 : Int32)) (Or.inr rfl) rfl rfl rfl ?_
    refine zw_goto (t := 49) (Or.inr rfl) rfl rfl ?_
    refine zw_istore (p := 51) (l2 := [some (.ref a0), none, some (.int x2), some (.int x3), some (.int (1 : Int32)), some (.int x5)]) (Or.inr rfl) rfl rfl rfl rfl ?_
    refine zw_iinc (p := 54) (c := (1 : Int32)) (L2 := fun u1 => [some (.ref a0), none, some (.int x2), some (.int x3), some (.int (1 : Int32)), some (.int u1)]) (Or.inr rfl) rfl rfl rfl rfl (fun _ => rfl) rfl (fun u1 => ?_)
    refine zw_goto (t := 6) (Or.inr rfl) rfl rfl ?_
    exact zw_end rfl rfl
  refine zw_aload_n (p := 18) (Or.inr rfl) rfl rfl rfl ?_
  refine zw_get_ref (p := 21) (Or.inr rfl) rfl rfl (fun q1 => ?_)
  refine zw_iload (p := 23) (Or.inr rfl) rfl rfl rfl ?_
  refine zw_baload (p := 24) (Or.inr rfl) rfl rfl ?_
  refine zw_if_eq (t := 48) (p := 27) (Or.inr rfl) rfl rfl rfl ?_ ?_
  · refine zw_iconst (p := 49) (x := (0 : Int32)) (Or.inr rfl) rfl rfl rfl ?_
    refine zw_istore (p := 51) (l2 := [some (.ref a0), none, some (.int x2), some (.int x3), some (.int (0 : Int32)), some (.int x5)]) (Or.inr rfl) rfl rfl rfl rfl ?_
    refine zw_iinc (p := 54) (c := (1 : Int32)) (L2 := fun u2 => [some (.ref a0), none, some (.int x2), some (.int x3), some (.int (0 : Int32)), some (.int u2)]) (Or.inr rfl) rfl rfl rfl rfl (fun _ => rfl) rfl (fun u2 => ?_)
    refine zw_goto (t := 6) (Or.inr rfl) rfl rfl ?_
    exact zw_end rfl rfl
  refine zw_iload_n (p := 28) (Or.inr rfl) rfl rfl rfl ?_
  refine zw_bipush (p := 30) (x := (-4 : Int32)) (Or.inr rfl) rfl rfl rfl ?_
  refine zw_icmp_eq (t := 44) (p := 33) (Or.inr rfl) rfl rfl rfl ?_ ?_
  · refine zw_iconst (p := 45) (x := (1 : Int32)) (Or.inr rfl) rfl rfl rfl ?_
    refine zw_goto (t := 49) (Or.inr rfl) rfl rfl ?_
    refine zw_istore (p := 51) (l2 := [some (.ref a0), none, some (.int x2), some (.int x3), some (.int (1 : Int32)), some (.int x5)]) (Or.inr rfl) rfl rfl rfl rfl ?_
    refine zw_iinc (p := 54) (c := (1 : Int32)) (L2 := fun u3 => [some (.ref a0), none, some (.int x2), some (.int x3), some (.int (1 : Int32)), some (.int u3)]) (Or.inr rfl) rfl rfl rfl rfl (fun _ => rfl) rfl (fun u3 => ?_)
    refine zw_goto (t := 6) (Or.inr rfl) rfl rfl ?_
    exact zw_end rfl rfl
  refine zw_aload_n (p := 34) (Or.inr rfl) rfl rfl rfl ?_
  refine zw_get_ref (p := 37) (Or.inr rfl) rfl rfl (fun q2 => ?_)
  refine zw_iload (p := 39) (Or.inr rfl) rfl rfl rfl ?_
  refine zw_iaload (p := 40) (Or.inr rfl) rfl rfl ?_
  refine zw_iload_n (p := 41) (Or.inr rfl) rfl rfl rfl ?_
  refine zw_icmp_ne (t := 48) (p := 44) (Or.inr rfl) rfl rfl rfl ?_ ?_
  · refine zw_iconst (p := 49) (x := (0 : Int32)) (Or.inr rfl) rfl rfl rfl ?_
    refine zw_istore (p := 51) (l2 := [some (.ref a0), none, some (.int x2), some (.int x3), some (.int (0 : Int32)), some (.int x5)]) (Or.inr rfl) rfl rfl rfl rfl ?_
    refine zw_iinc (p := 54) (c := (1 : Int32)) (L2 := fun u4 => [some (.ref a0), none, some (.int x2), some (.int x3), some (.int (0 : Int32)), some (.int u4)]) (Or.inr rfl) rfl rfl rfl rfl (fun _ => rfl) rfl (fun u4 => ?_)
    refine zw_goto (t := 6) (Or.inr rfl) rfl rfl ?_
    exact zw_end rfl rfl
  refine zw_iconst (p := 45) (x := (1 : Int32)) (Or.inr rfl) rfl rfl rfl ?_
  refine zw_goto (t := 49) (Or.inr rfl) rfl rfl ?_
  refine zw_istore (p := 51) (l2 := [some (.ref a0), none, some (.int x2), some (.int x3), some (.int (1 : Int32)), some (.int x5)]) (Or.inr rfl) rfl rfl rfl rfl ?_
  refine zw_iinc (p := 54) (c := (1 : Int32)) (L2 := fun u5 => [some (.ref a0), none, some (.int x2), some (.int x3), some (.int (1 : Int32)), some (.int u5)]) (Or.inr rfl) rfl rfl rfl rfl (fun _ => rfl) rfl (fun u5 => ?_)
  refine zw_goto (t := 6) (Or.inr rfl) rfl rfl ?_
  exact zw_end rfl rfl
def zx_Mo_goesThrough (E : zE0) (K : zKt) (a0 : Nat) (x1 : Int32) (x2 : Int32) (M : zM) : zO :=
  zif ((zK M a0).1 = 11)
  (zbL (E n_Mo_firstOf [.ref a0, .int ((2 : Int32) * x1)] M) fun w1 M1 =>
  zif ((zK M1 a0).1 = 11)
  (zbm (zsI M1 a0 45 (0 : Int32)) fun M2 =>
  zif ((zK M2 a0).1 = 11)
  (zbm (zsI M2 a0 46 (-4 : Int32)) fun M3 =>
  K 22 [some (.ref a0), some (.int x1), some (.int x2), some (.long w1), none, some (.int x2), none, none, none] [] M3)))
set_option maxRecDepth 20000 in
theorem ze_Mo_goesThrough (d : Nat) (a0 : Nat) (x1 : Int32) (x2 : Int32) (M : zM) : zV (d + 1) n_Mo_goesThrough [.ref a0, .int x1, .int x2] M = zx_Mo_goesThrough (zV d) (zG d n_Mo_goesThrough) a0 x1 x2 M := by
  refine (zE_sg (m := zm_Mo_goesThrough) rfl 400 _ rfl M).trans ?_
  show zw true zm_Mo_goesThrough (zV d) (zG d n_Mo_goesThrough) 400 0 [some (.ref a0), some (.int x1), some (.int x2), none, none, none, none, none, none] [] M = _
  unfold zx_Mo_goesThrough
  refine zw_aload_n (p := 1) (Or.inl rfl) rfl rfl rfl ?_
  refine zw_iconst (p := 2) (x := (2 : Int32)) (Or.inr rfl) rfl rfl rfl ?_
  refine zw_iload_n (p := 3) (Or.inr rfl) rfl rfl rfl ?_
  refine zw_imul (p := 4) (Or.inr rfl) rfl rfl ?_
  refine zw_virtualL (p := 7) (as := [.ref a0, .int ((2 : Int32) * x1)]) (rest := []) (Or.inr rfl) rfl rfl rfl rfl rfl rfl rfl (fun w1 M1 => ?_)
  refine zw_lstore_n (p := 8) (l2 := [some (.ref a0), some (.int x1), some (.int x2), some (.long w1), none, none, none, none, none]) (Or.inr rfl) rfl rfl rfl rfl ?_
  refine zw_aload_n (p := 9) (Or.inr rfl) rfl rfl rfl ?_
  refine zw_iconst (p := 10) (x := (0 : Int32)) (Or.inr rfl) rfl rfl rfl ?_
  refine zw_put_int (p := 13) (Or.inr rfl) rfl rfl (fun M2 => ?_)
  refine zw_aload_n (p := 14) (Or.inr rfl) rfl rfl rfl ?_
  refine zw_bipush (p := 16) (x := (-4 : Int32)) (Or.inr rfl) rfl rfl rfl ?_
  refine zw_put_int (p := 19) (Or.inr rfl) rfl rfl (fun M3 => ?_)
  refine zw_iload_n (p := 20) (Or.inr rfl) rfl rfl rfl ?_
  refine zw_istore (p := 22) (l2 := [some (.ref a0), some (.int x1), some (.int x2), some (.long w1), none, some (.int x2), none, none, none]) (Or.inr rfl) rfl rfl rfl rfl ?_
  exact zw_end rfl rfl
def zx_Mo_goesThrough_22 (E : zE0) (K : zKt) (a0 : Nat) (x1 : Int32) (x2 : Int32) (l3 : Int64) (x5 : Int32) (M : zM) : zO :=
  zif ((zK M a0).1 = 11)
  (zoR (zR M a0 9) fun q1 =>
  zif (((zK M q1).1 = 20 ∨ (zK M q1).1 = 24) ∧ zin (0 : Int32) (zK M q1).2 = true)
  (if (zI M q1 (Int32.toNatClampNeg (0 : Int32))) ≤ x5 then (some (none, M))
  else zif ((zK M a0).1 = 11)
  (zoR (zR M a0 40) fun q2 =>
  zif (((zK M q2).1 = 23 ∨ (zK M q2).1 = 25) ∧ zin x5 (zK M q2).2 = true)
  (zbl (l3 &&& (zL M q2 (Int32.toNatClampNeg x5))) fun w1 =>
  zif ((zK M a0).1 = 11)
  (zbL (E n_Mo_nextOf [.ref a0, .int ((2 : Int32) * x1), .long w1] M) fun w2 M1 =>
  K 57 [some (.ref a0), some (.int x1), some (.int x2), some (.long w2), none, some (.int x5), some (.long w1), none, some (.int x2)] [] M1)))))
set_option maxRecDepth 20000 in
theorem zg_Mo_goesThrough_22 (d : Nat) (a0 : Nat) (x1 : Int32) (x2 : Int32) (l3 : Int64) (x5 : Int32) (M : zM) : zG d n_Mo_goesThrough 22 [some (.ref a0), some (.int x1), some (.int x2), some (.long l3), none, some (.int x5), none, none, none] [] M = zx_Mo_goesThrough_22 (zV d) (zG d n_Mo_goesThrough) a0 x1 x2 l3 x5 M := by
  refine (zG_sg (m := zm_Mo_goesThrough) rfl 400 _ _ _ M).trans ?_
  show zw true zm_Mo_goesThrough (zV d) (zG d n_Mo_goesThrough) 400 22 [some (.ref a0), some (.int x1), some (.int x2), some (.long l3), none, some (.int x5), none, none, none] [] M = _
  unfold zx_Mo_goesThrough_22
  refine zw_iload (p := 24) (Or.inl rfl) rfl rfl rfl ?_
  refine zw_aload_n (p := 25) (Or.inr rfl) rfl rfl rfl ?_
  refine zw_get_ref (p := 28) (Or.inr rfl) rfl rfl (fun q1 => ?_)
  refine zw_iconst (p := 29) (x := (0 : Int32)) (Or.inr rfl) rfl rfl rfl ?_
  refine zw_iaload (p := 30) (Or.inr rfl) rfl rfl ?_
  refine zw_icmp_ge (t := 170) (p := 33) (Or.inr rfl) rfl rfl rfl ?_ ?_
  · exact zw_return (Or.inr rfl) rfl rfl
  refine zw_lload_n (p := 34) (Or.inr rfl) rfl rfl rfl ?_
  refine zw_aload_n (p := 35) (Or.inr rfl) rfl rfl rfl ?_
  refine zw_get_ref (p := 38) (Or.inr rfl) rfl rfl (fun q2 => ?_)
  refine zw_iload (p := 40) (Or.inr rfl) rfl rfl rfl ?_
  refine zw_laload (p := 41) (Or.inr rfl) rfl rfl ?_
  refine zw_land (p := 42) (Or.inr rfl) rfl rfl ?_
  refine zw_lstoreN (p := 44) (L2 := fun w1 => [some (.ref a0), some (.int x1), some (.int x2), some (.long l3), none, some (.int x5), some (.long w1), none, none]) (Or.inr rfl) rfl rfl (fun _ => rfl) rfl (fun w1 => ?_)
  refine zw_aload_n (p := 45) (Or.inr rfl) rfl rfl rfl ?_
  refine zw_iconst (p := 46) (x := (2 : Int32)) (Or.inr rfl) rfl rfl rfl ?_
  refine zw_iload_n (p := 47) (Or.inr rfl) rfl rfl rfl ?_
  refine zw_imul (p := 48) (Or.inr rfl) rfl rfl ?_
  refine zw_lload (p := 50) (Or.inr rfl) rfl rfl rfl ?_
  refine zw_virtualL (p := 53) (as := [.ref a0, .int ((2 : Int32) * x1), .long w1]) (rest := []) (Or.inr rfl) rfl rfl rfl rfl rfl rfl rfl (fun w2 M1 => ?_)
  refine zw_lstore_n (p := 54) (l2 := [some (.ref a0), some (.int x1), some (.int x2), some (.long w2), none, some (.int x5), some (.long w1), none, none]) (Or.inr rfl) rfl rfl rfl rfl ?_
  refine zw_iload_n (p := 55) (Or.inr rfl) rfl rfl rfl ?_
  refine zw_istore (p := 57) (l2 := [some (.ref a0), some (.int x1), some (.int x2), some (.long w2), none, some (.int x5), some (.long w1), none, some (.int x2)]) (Or.inr rfl) rfl rfl rfl rfl ?_
  exact zw_end rfl rfl
def zx_Mo_goesThrough_57 (E : zE0) (K : zKt) (a0 : Nat) (x1 : Int32) (x2 : Int32) (l3 : Int64) (x5 : Int32) (l6 : Int64) (x8 : Int32) (M : zM) : zO :=
  if x5 ≤ x8 then (zif ((zK M a0).1 = 11)
    (zoR (zR M a0 44) fun q1 =>
    zbast M q1 x5 (0 : Int32) fun M1 =>
    zif ((zK M1 a0).1 = 11)
    (zbI (E n_Mo_isEnd [.ref a0, .int ((2 : Int32) * x1), .long l6] M1) fun u1 M2 =>
    if u1 = 0 then (K 126 [some (.ref a0), some (.int x1), some (.int x2), some (.long l3), none, some (.int x5), none, none, none] [] M2)
    else zif ((zK M2 a0).1 = 11)
    (zbV (E n_Mo_begins [.ref a0, .int x1, .int x5] M2) fun M3 =>
    K 126 [some (.ref a0), some (.int x1), some (.int x2), some (.long l3), none, some (.int x5), none, none, none] [] M3))))
  else zif ((zK M a0).1 = 11)
  (zoR (zR M a0 44) fun q2 =>
  zif (((zK M q2).1 = 21 ∨ (zK M q2).1 = 22) ∧ zin x8 (zK M q2).2 = true)
  (if (zI M q2 (Int32.toNatClampNeg x8)) = 0 then (zbi (x8 + (1 : Int32)) fun u2 =>
    K 57 [some (.ref a0), some (.int x1), some (.int x2), some (.long l3), none, some (.int x5), some (.long l6), none, some (.int u2)] [] M)
  else zif ((zK M a0).1 = 11)
  (zoR (zR M a0 42) fun q3 =>
  zif (((zK M q3).1 = 20 ∨ (zK M q3).1 = 24) ∧ zin x8 (zK M q3).2 = true)
  (if (zI M q3 (Int32.toNatClampNeg x8)) ≠ 0 then (zbi (x8 + (1 : Int32)) fun u3 =>
    K 57 [some (.ref a0), some (.int x1), some (.int x2), some (.long l3), none, some (.int x5), some (.long l6), none, some (.int u3)] [] M)
  else zif ((zK M a0).1 = 11)
  (zbV (E n_Mo_goesOn [.ref a0, .int x1, .int x8, .int x5] M) fun M4 =>
  zbi (x8 + (1 : Int32)) fun u4 =>
  K 57 [some (.ref a0), some (.int x1), some (.int x2), some (.long l3), none, some (.int x5), some (.long l6), none, some (.int u4)] [] M4)))))
set_option maxRecDepth 20000 in
theorem zg_Mo_goesThrough_57 (d : Nat) (a0 : Nat) (x1 : Int32) (x2 : Int32) (l3 : Int64) (x5 : Int32) (l6 : Int64) (x8 : Int32) (M : zM) : zG d n_Mo_goesThrough 57 [some (.ref a0), some (.int x1), some (.int x2), some (.long l3), none, some (.int x5), some (.long l6), none, some (.int x8)] [] M = zx_Mo_goesThrough_57 (zV d) (zG d n_Mo_goesThrough) a0 x1 x2 l3 x5 l6 x8 M := by
  refine (zG_sg (m := zm_Mo_goesThrough) rfl 400 _ _ _ M).trans ?_
  show zw true zm_Mo_goesThrough (zV d) (zG d n_Mo_goesThrough) 400 57 [some (.ref a0), some (.int x1), some (.int x2), some (.long l3), none, some (.int x5), some (.long l6), none, some (.int x8)] [] M = _
  unfold zx_Mo_goesThrough_57
  refine zw_iload (p := 59) (Or.inl rfl) rfl rfl rfl ?_
  refine zw_iload (p := 61) (Or.inr rfl) rfl rfl rfl ?_
  refine zw_icmp_ge (t := 99) (p := 64) (Or.inr rfl) rfl rfl rfl ?_ ?_
  · refine zw_aload_n (p := 100) (Or.inr rfl) rfl rfl rfl ?_
    refine zw_get_ref (p := 103) (Or.inr rfl) rfl rfl (fun q1 => ?_)
    refine zw_iload (p := 105) (Or.inr rfl) rfl rfl rfl ?_
    refine zw_iconst (p := 106) (x := (0 : Int32)) (Or.inr rfl) rfl rfl rfl ?_
    refine zw_bastore (p := 107) (Or.inr rfl) rfl rfl (fun M1 => ?_)
    refine zw_aload_n (p := 108) (Or.inr rfl) rfl rfl rfl ?_
    refine zw_iconst (p := 109) (x := (2 : Int32)) (Or.inr rfl) rfl rfl rfl ?_
    refine zw_iload_n (p := 110) (Or.inr rfl) rfl rfl rfl ?_
    refine zw_imul (p := 111) (Or.inr rfl) rfl rfl ?_
    refine zw_lload (p := 113) (Or.inr rfl) rfl rfl rfl ?_
    refine zw_virtualI (p := 116) (as := [.ref a0, .int ((2 : Int32) * x1), .long l6]) (rest := []) (Or.inr rfl) rfl rfl rfl rfl rfl rfl rfl (fun u1 M2 => ?_)
    refine zw_if_eq (t := 126) (p := 119) (Or.inr rfl) rfl rfl rfl ?_ ?_
    · exact zw_end rfl rfl
    refine zw_aload_n (p := 120) (Or.inr rfl) rfl rfl rfl ?_
    refine zw_iload_n (p := 121) (Or.inr rfl) rfl rfl rfl ?_
    refine zw_iload (p := 123) (Or.inr rfl) rfl rfl rfl ?_
    refine zw_virtualV (p := 126) (as := [.ref a0, .int x1, .int x5]) (rest := []) (Or.inr rfl) rfl rfl rfl rfl rfl rfl rfl (fun M3 => ?_)
    exact zw_end rfl rfl
  refine zw_aload_n (p := 65) (Or.inr rfl) rfl rfl rfl ?_
  refine zw_get_ref (p := 68) (Or.inr rfl) rfl rfl (fun q2 => ?_)
  refine zw_iload (p := 70) (Or.inr rfl) rfl rfl rfl ?_
  refine zw_baload (p := 71) (Or.inr rfl) rfl rfl ?_
  refine zw_if_eq (t := 93) (p := 74) (Or.inr rfl) rfl rfl rfl ?_ ?_
  · refine zw_iinc (p := 96) (c := (1 : Int32)) (L2 := fun u2 => [some (.ref a0), some (.int x1), some (.int x2), some (.long l3), none, some (.int x5), some (.long l6), none, some (.int u2)]) (Or.inr rfl) rfl rfl rfl rfl (fun _ => rfl) rfl (fun u2 => ?_)
    refine zw_goto (t := 57) (Or.inr rfl) rfl rfl ?_
    exact zw_end rfl rfl
  refine zw_aload_n (p := 75) (Or.inr rfl) rfl rfl rfl ?_
  refine zw_get_ref (p := 78) (Or.inr rfl) rfl rfl (fun q3 => ?_)
  refine zw_iload (p := 80) (Or.inr rfl) rfl rfl rfl ?_
  refine zw_iaload (p := 81) (Or.inr rfl) rfl rfl ?_
  refine zw_if_ne (t := 93) (p := 84) (Or.inr rfl) rfl rfl rfl ?_ ?_
  · refine zw_iinc (p := 96) (c := (1 : Int32)) (L2 := fun u3 => [some (.ref a0), some (.int x1), some (.int x2), some (.long l3), none, some (.int x5), some (.long l6), none, some (.int u3)]) (Or.inr rfl) rfl rfl rfl rfl (fun _ => rfl) rfl (fun u3 => ?_)
    refine zw_goto (t := 57) (Or.inr rfl) rfl rfl ?_
    exact zw_end rfl rfl
  refine zw_aload_n (p := 85) (Or.inr rfl) rfl rfl rfl ?_
  refine zw_iload_n (p := 86) (Or.inr rfl) rfl rfl rfl ?_
  refine zw_iload (p := 88) (Or.inr rfl) rfl rfl rfl ?_
  refine zw_iload (p := 90) (Or.inr rfl) rfl rfl rfl ?_
  refine zw_virtualV (p := 93) (as := [.ref a0, .int x1, .int x8, .int x5]) (rest := []) (Or.inr rfl) rfl rfl rfl rfl rfl rfl rfl (fun M4 => ?_)
  refine zw_iinc (p := 96) (c := (1 : Int32)) (L2 := fun u4 => [some (.ref a0), some (.int x1), some (.int x2), some (.long l3), none, some (.int x5), some (.long l6), none, some (.int u4)]) (Or.inr rfl) rfl rfl rfl rfl (fun _ => rfl) rfl (fun u4 => ?_)
  refine zw_goto (t := 57) (Or.inr rfl) rfl rfl ?_
  exact zw_end rfl rfl
def zx_Mo_goesThrough_126 (E : zE0) (K : zKt) (a0 : Nat) (x1 : Int32) (x2 : Int32) (l3 : Int64) (x5 : Int32) (M : zM) : zO :=
  zif ((zK M a0).1 = 11)
  (if (zI M a0 45) ≠ 0 then (zbi (x5 + (1 : Int32)) fun u1 =>
    K 22 [some (.ref a0), some (.int x1), some (.int x2), some (.long l3), none, some (.int u1), none, none, none] [] M)
  else zif ((zK M a0).1 = 11)
  (zbI (E n_Mo_verdictBy [.ref a0, .int x1, .int x2, .int x5, .long l3] M) fun u2 M1 =>
  zif ((zK M1 a0).1 = 11)
  (zbm (zsI M1 a0 45 u2) fun M2 =>
  zif ((zK M2 a0).1 = 11)
  (if (zI M2 a0 45) ≠ 0 then (zif ((zK M2 a0).1 = 11)
    (zbm (zsI M2 a0 46 x5) fun M3 =>
    zbi (x5 + (1 : Int32)) fun u3 =>
    K 22 [some (.ref a0), some (.int x1), some (.int x2), some (.long l3), none, some (.int u3), none, none, none] [] M3))
  else zif ((zK M2 a0).1 = 11)
  (zbm (zsI M2 a0 46 (-4 : Int32)) fun M4 =>
  zbi (x5 + (1 : Int32)) fun u4 =>
  K 22 [some (.ref a0), some (.int x1), some (.int x2), some (.long l3), none, some (.int u4), none, none, none] [] M4)))))
set_option maxRecDepth 20000 in
theorem zg_Mo_goesThrough_126 (d : Nat) (a0 : Nat) (x1 : Int32) (x2 : Int32) (l3 : Int64) (x5 : Int32) (M : zM) : zG d n_Mo_goesThrough 126 [some (.ref a0), some (.int x1), some (.int x2), some (.long l3), none, some (.int x5), none, none, none] [] M = zx_Mo_goesThrough_126 (zV d) (zG d n_Mo_goesThrough) a0 x1 x2 l3 x5 M := by
  refine (zG_sg (m := zm_Mo_goesThrough) rfl 400 _ _ _ M).trans ?_
  show zw true zm_Mo_goesThrough (zV d) (zG d n_Mo_goesThrough) 400 126 [some (.ref a0), some (.int x1), some (.int x2), some (.long l3), none, some (.int x5), none, none, none] [] M = _
  unfold zx_Mo_goesThrough_126
  refine zw_aload_n (p := 127) (Or.inl rfl) rfl rfl rfl ?_
  refine zw_get_int (p := 130) (Or.inr rfl) rfl rfl ?_
  refine zw_if_ne (t := 164) (p := 133) (Or.inr rfl) rfl rfl rfl ?_ ?_
  · refine zw_iinc (p := 167) (c := (1 : Int32)) (L2 := fun u1 => [some (.ref a0), some (.int x1), some (.int x2), some (.long l3), none, some (.int u1), none, none, none]) (Or.inr rfl) rfl rfl rfl rfl (fun _ => rfl) rfl (fun u1 => ?_)
    refine zw_goto (t := 22) (Or.inr rfl) rfl rfl ?_
    exact zw_end rfl rfl
  refine zw_aload_n (p := 134) (Or.inr rfl) rfl rfl rfl ?_
  refine zw_aload_n (p := 135) (Or.inr rfl) rfl rfl rfl ?_
  refine zw_iload_n (p := 136) (Or.inr rfl) rfl rfl rfl ?_
  refine zw_iload_n (p := 137) (Or.inr rfl) rfl rfl rfl ?_
  refine zw_iload (p := 139) (Or.inr rfl) rfl rfl rfl ?_
  refine zw_lload_n (p := 140) (Or.inr rfl) rfl rfl rfl ?_
  refine zw_virtualI (p := 143) (as := [.ref a0, .int x1, .int x2, .int x5, .long l3]) (rest := [.ref a0]) (Or.inr rfl) rfl rfl rfl rfl rfl rfl rfl (fun u2 M1 => ?_)
  refine zw_put_int (p := 146) (Or.inr rfl) rfl rfl (fun M2 => ?_)
  refine zw_aload_n (p := 147) (Or.inr rfl) rfl rfl rfl ?_
  refine zw_aload_n (p := 148) (Or.inr rfl) rfl rfl rfl ?_
  refine zw_get_int (p := 151) (Or.inr rfl) rfl rfl ?_
  refine zw_if_ne (t := 159) (p := 154) (Or.inr rfl) rfl rfl rfl ?_ ?_
  · refine zw_iload (p := 161) (Or.inr rfl) rfl rfl rfl ?_
    refine zw_put_int (p := 164) (Or.inr rfl) rfl rfl (fun M3 => ?_)
    refine zw_iinc (p := 167) (c := (1 : Int32)) (L2 := fun u3 => [some (.ref a0), some (.int x1), some (.int x2), some (.long l3), none, some (.int u3), none, none, none]) (Or.inr rfl) rfl rfl rfl rfl (fun _ => rfl) rfl (fun u3 => ?_)
    refine zw_goto (t := 22) (Or.inr rfl) rfl rfl ?_
    exact zw_end rfl rfl
  refine zw_bipush (p := 156) (x := (-4 : Int32)) (Or.inr rfl) rfl rfl rfl ?_
  refine zw_goto (t := 161) (Or.inr rfl) rfl rfl ?_
  refine zw_put_int (p := 164) (Or.inr rfl) rfl rfl (fun M4 => ?_)
  refine zw_iinc (p := 167) (c := (1 : Int32)) (L2 := fun u4 => [some (.ref a0), some (.int x1), some (.int x2), some (.long l3), none, some (.int u4), none, none, none]) (Or.inr rfl) rfl rfl rfl rfl (fun _ => rfl) rfl (fun u4 => ?_)
  refine zw_goto (t := 22) (Or.inr rfl) rfl rfl ?_
  exact zw_end rfl rfl
def zx_Mo_verdictBy (E : zE0) (K : zKt) (a0 : Nat) (x1 : Int32) (x2 : Int32) (x3 : Int32) (l4 : Int64) (M : zM) : zO :=
  zif ((zK M a0).1 = 11)
  (zoR (zR M a0 9) fun q1 =>
  zif (((zK M q1).1 = 20 ∨ (zK M q1).1 = 24) ∧ zin ((1 : Int32) + x3) (zK M q1).2 = true)
  (zif ((zK M a0).1 = 11)
  (zbI (E n_Mo_fulfilsOff [.ref a0, .int x1, .int (zI M q1 (Int32.toNatClampNeg ((1 : Int32) + x3)))] M) fun u1 M1 =>
  if u1 = 0 then (zif ((zK M1 a0).1 = 11)
    (zbI (E n_Mo_isAny [.ref a0, .int x2, .int x3, .int (2 : Int32)] M1) fun u2 M2 =>
    if u2 = 0 then (zif ((zK M2 a0).1 = 11)
      (zbI (E n_Mo_isAny [.ref a0, .int x2, .int x3, .int (0 : Int32)] M2) fun u3 M3 =>
      if u3 ≠ 0 then (some (some (.int (0 : Int32)), M3))
      else zif ((zK M3 a0).1 = 11)
      (zbI (E n_Mo_canEnd [.ref a0, .int ((2 : Int32) * x1), .long l4] M3) fun u4 M4 =>
      if u4 = 0 then (zif ((zK M4 a0).1 = 11)
        (zbI (E n_Mo_isAny [.ref a0, .int x2, .int x3, .int (-4 : Int32)] M4) fun u5 M5 =>
        if u5 = 0 then (some (some (.int (3 : Int32)), M5))
        else some (some (.int (1 : Int32)), M5)))
      else some (some (.int (0 : Int32)), M4))))
    else some (some (.int (2 : Int32)), M2)))
  else some (some (.int (4 : Int32)), M1))))
set_option maxRecDepth 20000 in
theorem ze_Mo_verdictBy (d : Nat) (a0 : Nat) (x1 : Int32) (x2 : Int32) (x3 : Int32) (l4 : Int64) (M : zM) : zV (d + 1) n_Mo_verdictBy [.ref a0, .int x1, .int x2, .int x3, .long l4] M = zx_Mo_verdictBy (zV d) (zG d n_Mo_verdictBy) a0 x1 x2 x3 l4 M := by
  refine (zE_sg (m := zm_Mo_verdictBy) rfl 400 _ rfl M).trans ?_
  show zw true zm_Mo_verdictBy (zV d) (zG d n_Mo_verdictBy) 400 0 [some (.ref a0), some (.int x1), some (.int x2), some (.int x3), some (.long l4), none] [] M = _
  unfold zx_Mo_verdictBy
  refine zw_aload_n (p := 1) (Or.inl rfl) rfl rfl rfl ?_
  refine zw_iload_n (p := 2) (Or.inr rfl) rfl rfl rfl ?_
  refine zw_aload_n (p := 3) (Or.inr rfl) rfl rfl rfl ?_
  refine zw_get_ref (p := 6) (Or.inr rfl) rfl rfl (fun q1 => ?_)
  refine zw_iconst (p := 7) (x := (1 : Int32)) (Or.inr rfl) rfl rfl rfl ?_
  refine zw_iload_n (p := 8) (Or.inr rfl) rfl rfl rfl ?_
  refine zw_iadd (p := 9) (Or.inr rfl) rfl rfl ?_
  refine zw_iaload (p := 10) (Or.inr rfl) rfl rfl ?_
  refine zw_virtualI (p := 13) (as := [.ref a0, .int x1, .int (zI M q1 (Int32.toNatClampNeg ((1 : Int32) + x3)))]) (rest := []) (Or.inr rfl) rfl rfl rfl rfl rfl rfl rfl (fun u1 M1 => ?_)
  refine zw_if_eq (t := 18) (p := 16) (Or.inr rfl) rfl rfl rfl ?_ ?_
  · refine zw_aload_n (p := 19) (Or.inr rfl) rfl rfl rfl ?_
    refine zw_iload_n (p := 20) (Or.inr rfl) rfl rfl rfl ?_
    refine zw_iload_n (p := 21) (Or.inr rfl) rfl rfl rfl ?_
    refine zw_iconst (p := 22) (x := (2 : Int32)) (Or.inr rfl) rfl rfl rfl ?_
    refine zw_virtualI (p := 25) (as := [.ref a0, .int x2, .int x3, .int (2 : Int32)]) (rest := []) (Or.inr rfl) rfl rfl rfl rfl rfl rfl rfl (fun u2 M2 => ?_)
    refine zw_if_eq (t := 30) (p := 28) (Or.inr rfl) rfl rfl rfl ?_ ?_
    · refine zw_aload_n (p := 31) (Or.inr rfl) rfl rfl rfl ?_
      refine zw_iload_n (p := 32) (Or.inr rfl) rfl rfl rfl ?_
      refine zw_iload_n (p := 33) (Or.inr rfl) rfl rfl rfl ?_
      refine zw_iconst (p := 34) (x := (0 : Int32)) (Or.inr rfl) rfl rfl rfl ?_
      refine zw_virtualI (p := 37) (as := [.ref a0, .int x2, .int x3, .int (0 : Int32)]) (rest := []) (Or.inr rfl) rfl rfl rfl rfl rfl rfl rfl (fun u3 M3 => ?_)
      refine zw_if_ne (t := 52) (p := 40) (Or.inr rfl) rfl rfl rfl ?_ ?_
      · refine zw_iconst (p := 53) (x := (0 : Int32)) (Or.inr rfl) rfl rfl rfl ?_
        exact zw_ireturn1 (Or.inr rfl) rfl rfl
      refine zw_aload_n (p := 41) (Or.inr rfl) rfl rfl rfl ?_
      refine zw_iconst (p := 42) (x := (2 : Int32)) (Or.inr rfl) rfl rfl rfl ?_
      refine zw_iload_n (p := 43) (Or.inr rfl) rfl rfl rfl ?_
      refine zw_imul (p := 44) (Or.inr rfl) rfl rfl ?_
      refine zw_lload (p := 46) (Or.inr rfl) rfl rfl rfl ?_
      refine zw_virtualI (p := 49) (as := [.ref a0, .int ((2 : Int32) * x1), .long l4]) (rest := []) (Or.inr rfl) rfl rfl rfl rfl rfl rfl rfl (fun u4 M4 => ?_)
      refine zw_if_eq (t := 54) (p := 52) (Or.inr rfl) rfl rfl rfl ?_ ?_
      · refine zw_aload_n (p := 55) (Or.inr rfl) rfl rfl rfl ?_
        refine zw_iload_n (p := 56) (Or.inr rfl) rfl rfl rfl ?_
        refine zw_iload_n (p := 57) (Or.inr rfl) rfl rfl rfl ?_
        refine zw_bipush (p := 59) (x := (-4 : Int32)) (Or.inr rfl) rfl rfl rfl ?_
        refine zw_virtualI (p := 62) (as := [.ref a0, .int x2, .int x3, .int (-4 : Int32)]) (rest := []) (Or.inr rfl) rfl rfl rfl rfl rfl rfl rfl (fun u5 M5 => ?_)
        refine zw_if_eq (t := 69) (p := 65) (Or.inr rfl) rfl rfl rfl ?_ ?_
        · refine zw_iconst (p := 70) (x := (3 : Int32)) (Or.inr rfl) rfl rfl rfl ?_
          exact zw_ireturn1 (Or.inr rfl) rfl rfl
        refine zw_iconst (p := 66) (x := (1 : Int32)) (Or.inr rfl) rfl rfl rfl ?_
        refine zw_goto (t := 70) (Or.inr rfl) rfl rfl ?_
        exact zw_ireturn1 (Or.inr rfl) rfl rfl
      refine zw_iconst (p := 53) (x := (0 : Int32)) (Or.inr rfl) rfl rfl rfl ?_
      exact zw_ireturn1 (Or.inr rfl) rfl rfl
    refine zw_iconst (p := 29) (x := (2 : Int32)) (Or.inr rfl) rfl rfl rfl ?_
    exact zw_ireturn1 (Or.inr rfl) rfl rfl
  refine zw_iconst (p := 17) (x := (4 : Int32)) (Or.inr rfl) rfl rfl rfl ?_
  exact zw_ireturn1 (Or.inr rfl) rfl rfl
def zx_Mo_isTick (E : zE0) (K : zKt) (a0 : Nat) (x1 : Int32) (M : zM) : zO :=
  zif ((zK M a0).1 = 11)
  (zoR (zR M a0 9) fun q1 =>
  zif (((zK M q1).1 = 20 ∨ (zK M q1).1 = 24) ∧ zin (0 : Int32) (zK M q1).2 = true)
  (zbI (E n_Mo_in [.long (Int32.toInt64 x1), .long (0 : Int64), .long (Int32.toInt64 ((zI M q1 (Int32.toNatClampNeg (0 : Int32))) - (1 : Int32)))] M) fun u1 M1 =>
  zif (u1 = 0 ∨ u1 = 1) (some (some (.int u1), M1))))
set_option maxRecDepth 20000 in
theorem ze_Mo_isTick (d : Nat) (a0 : Nat) (x1 : Int32) (M : zM) : zV (d + 1) n_Mo_isTick [.ref a0, .int x1] M = zx_Mo_isTick (zV d) (zG d n_Mo_isTick) a0 x1 M := by
  refine (zE_sg (m := zm_Mo_isTick) rfl 400 _ rfl M).trans ?_
  show zw true zm_Mo_isTick (zV d) (zG d n_Mo_isTick) 400 0 [some (.ref a0), some (.int x1)] [] M = _
  unfold zx_Mo_isTick
  refine zw_iload_n (p := 1) (Or.inl rfl) rfl rfl rfl ?_
  refine zw_i2l (p := 2) (Or.inr rfl) rfl rfl ?_
  refine zw_lconst (p := 3) (x := (0 : Int64)) (Or.inr rfl) rfl rfl rfl ?_
  refine zw_aload_n (p := 4) (Or.inr rfl) rfl rfl rfl ?_
  refine zw_get_ref (p := 7) (Or.inr rfl) rfl rfl (fun q1 => ?_)
  refine zw_iconst (p := 8) (x := (0 : Int32)) (Or.inr rfl) rfl rfl rfl ?_
  refine zw_iaload (p := 9) (Or.inr rfl) rfl rfl ?_
  refine zw_iconst (p := 10) (x := (1 : Int32)) (Or.inr rfl) rfl rfl rfl ?_
  refine zw_isub (p := 11) (Or.inr rfl) rfl rfl ?_
  refine zw_i2l (p := 12) (Or.inr rfl) rfl rfl ?_
  refine zw_staticI (p := 15) (as := [.long (Int32.toInt64 x1), .long (0 : Int64), .long (Int32.toInt64 ((zI M q1 (Int32.toNatClampNeg (0 : Int32))) - (1 : Int32)))]) (rest := []) (Or.inr rfl) rfl rfl rfl rfl rfl rfl (fun u1 M1 => ?_)
  exact zw_ireturn2 (Or.inr rfl) rfl rfl
def zx_Mo_isTry (E : zE0) (K : zKt) (a0 : Nat) (x1 : Int32) (x2 : Int32) (M : zM) : zO :=
  zif ((zK M a0).1 = 11)
  (zbI (E n_Mo_isPromise [.ref a0, .int x1] M) fun u1 M1 =>
  if u1 = 0 then (zif ((0 : Int32) = 0 ∨ (0 : Int32) = 1) (some (some (.int (0 : Int32)), M1)))
  else zif ((zK M1 a0).1 = 11)
  (zbI (E n_Mo_isTick [.ref a0, .int x2] M1) fun u2 M2 =>
  if u2 ≠ 0 then (zif ((zK M2 a0).1 = 11)
    (zbV (E n_Mo_findsFulfilling [.ref a0, .int x1] M2) fun M3 =>
    zif ((zK M3 a0).1 = 11)
    (zbV (E n_Mo_goesThrough [.ref a0, .int x1, .int x2] M3) fun M4 =>
    zif ((1 : Int32) = 0 ∨ (1 : Int32) = 1) (some (some (.int (1 : Int32)), M4)))))
  else zif ((0 : Int32) = 0 ∨ (0 : Int32) = 1) (some (some (.int (0 : Int32)), M2))))
set_option maxRecDepth 20000 in
theorem ze_Mo_isTry (d : Nat) (a0 : Nat) (x1 : Int32) (x2 : Int32) (M : zM) : zV (d + 1) n_Mo_isTry [.ref a0, .int x1, .int x2] M = zx_Mo_isTry (zV d) (zG d n_Mo_isTry) a0 x1 x2 M := by
  refine (zE_sg (m := zm_Mo_isTry) rfl 400 _ rfl M).trans ?_
  show zw true zm_Mo_isTry (zV d) (zG d n_Mo_isTry) 400 0 [some (.ref a0), some (.int x1), some (.int x2)] [] M = _
  unfold zx_Mo_isTry
  refine zw_aload_n (p := 1) (Or.inl rfl) rfl rfl rfl ?_
  refine zw_iload_n (p := 2) (Or.inr rfl) rfl rfl rfl ?_
  refine zw_virtualI (p := 5) (as := [.ref a0, .int x1]) (rest := []) (Or.inr rfl) rfl rfl rfl rfl rfl rfl rfl (fun u1 M1 => ?_)
  refine zw_if_eq (t := 16) (p := 8) (Or.inr rfl) rfl rfl rfl ?_ ?_
  · refine zw_iconst (p := 17) (x := (0 : Int32)) (Or.inr rfl) rfl rfl rfl ?_
    exact zw_ireturn2 (Or.inr rfl) rfl rfl
  refine zw_aload_n (p := 9) (Or.inr rfl) rfl rfl rfl ?_
  refine zw_iload_n (p := 10) (Or.inr rfl) rfl rfl rfl ?_
  refine zw_virtualI (p := 13) (as := [.ref a0, .int x2]) (rest := []) (Or.inr rfl) rfl rfl rfl rfl rfl rfl rfl (fun u2 M2 => ?_)
  refine zw_if_ne (t := 18) (p := 16) (Or.inr rfl) rfl rfl rfl ?_ ?_
  · refine zw_aload_n (p := 19) (Or.inr rfl) rfl rfl rfl ?_
    refine zw_iload_n (p := 20) (Or.inr rfl) rfl rfl rfl ?_
    refine zw_virtualV (p := 23) (as := [.ref a0, .int x1]) (rest := []) (Or.inr rfl) rfl rfl rfl rfl rfl rfl rfl (fun M3 => ?_)
    refine zw_aload_n (p := 24) (Or.inr rfl) rfl rfl rfl ?_
    refine zw_iload_n (p := 25) (Or.inr rfl) rfl rfl rfl ?_
    refine zw_iload_n (p := 26) (Or.inr rfl) rfl rfl rfl ?_
    refine zw_virtualV (p := 29) (as := [.ref a0, .int x1, .int x2]) (rest := []) (Or.inr rfl) rfl rfl rfl rfl rfl rfl rfl (fun M4 => ?_)
    refine zw_iconst (p := 30) (x := (1 : Int32)) (Or.inr rfl) rfl rfl rfl ?_
    exact zw_ireturn2 (Or.inr rfl) rfl rfl
  refine zw_iconst (p := 17) (x := (0 : Int32)) (Or.inr rfl) rfl rfl rfl ?_
  exact zw_ireturn2 (Or.inr rfl) rfl rfl
def zx_Mo_dutiesFrom (E : zE0) (K : zKt) (a0 : Nat) (x1 : Int32) (M : zM) : zO :=
  K 4 [some (.ref a0), none, some (.int (0 : Int32)), some (.int x1)] [] M
set_option maxRecDepth 20000 in
theorem ze_Mo_dutiesFrom (d : Nat) (a0 : Nat) (x1 : Int32) (M : zM) : zV (d + 1) n_Mo_dutiesFrom [.ref a0, .int x1] M = zx_Mo_dutiesFrom (zV d) (zG d n_Mo_dutiesFrom) a0 x1 M := by
  refine (zE_sg (m := zm_Mo_dutiesFrom) rfl 400 _ rfl M).trans ?_
  show zw true zm_Mo_dutiesFrom (zV d) (zG d n_Mo_dutiesFrom) 400 0 [some (.ref a0), some (.int x1), none, none] [] M = _
  unfold zx_Mo_dutiesFrom
  refine zw_iconst (p := 1) (x := (0 : Int32)) (Or.inl rfl) rfl rfl rfl ?_
  refine zw_istore_n (p := 2) (l2 := [some (.ref a0), some (.int x1), some (.int (0 : Int32)), none]) (Or.inr rfl) rfl rfl rfl rfl ?_
  refine zw_iload_n (p := 3) (Or.inr rfl) rfl rfl rfl ?_
  refine zw_istore_n (p := 4) (l2 := [some (.ref a0), some (.int x1), some (.int (0 : Int32)), some (.int x1)]) (Or.inr rfl) rfl rfl rfl rfl ?_
  exact zw_end rfl rfl
def zx_Mo_dutiesFrom_4 (E : zE0) (K : zKt) (a0 : Nat) (x2 : Int32) (x3 : Int32) (M : zM) : zO :=
  zif ((zK M a0).1 = 11)
  (zoR (zR M a0 9) fun q1 =>
  zif (((zK M q1).1 = 20 ∨ (zK M q1).1 = 24) ∧ zin (0 : Int32) (zK M q1).2 = true)
  (if (zI M q1 (Int32.toNatClampNeg (0 : Int32))) ≤ x3 then (some (some (.int x2), M))
  else zif ((zK M a0).1 = 11)
  (zoR (zR M a0 44) fun q2 =>
  zif (((zK M q2).1 = 21 ∨ (zK M q2).1 = 22) ∧ zin x3 (zK M q2).2 = true)
  (zbI (E n_Mo_flag [.int (zI M q2 (Int32.toNatClampNeg x3))] M) fun u1 M1 =>
  zbi (x2 + u1) fun u2 =>
  zbi (x3 + (1 : Int32)) fun u3 =>
  K 4 [some (.ref a0), none, some (.int u2), some (.int u3)] [] M1))))
set_option maxRecDepth 20000 in
theorem zg_Mo_dutiesFrom_4 (d : Nat) (a0 : Nat) (x2 : Int32) (x3 : Int32) (M : zM) : zG d n_Mo_dutiesFrom 4 [some (.ref a0), none, some (.int x2), some (.int x3)] [] M = zx_Mo_dutiesFrom_4 (zV d) (zG d n_Mo_dutiesFrom) a0 x2 x3 M := by
  refine (zG_sg (m := zm_Mo_dutiesFrom) rfl 400 _ _ _ M).trans ?_
  show zw true zm_Mo_dutiesFrom (zV d) (zG d n_Mo_dutiesFrom) 400 4 [some (.ref a0), none, some (.int x2), some (.int x3)] [] M = _
  unfold zx_Mo_dutiesFrom_4
  refine zw_iload_n (p := 5) (Or.inl rfl) rfl rfl rfl ?_
  refine zw_aload_n (p := 6) (Or.inr rfl) rfl rfl rfl ?_
  refine zw_get_ref (p := 9) (Or.inr rfl) rfl rfl (fun q1 => ?_)
  refine zw_iconst (p := 10) (x := (0 : Int32)) (Or.inr rfl) rfl rfl rfl ?_
  refine zw_iaload (p := 11) (Or.inr rfl) rfl rfl ?_
  refine zw_icmp_ge (t := 32) (p := 14) (Or.inr rfl) rfl rfl rfl ?_ ?_
  · refine zw_iload_n (p := 33) (Or.inr rfl) rfl rfl rfl ?_
    exact zw_ireturn1 (Or.inr rfl) rfl rfl
  refine zw_iload_n (p := 15) (Or.inr rfl) rfl rfl rfl ?_
  refine zw_aload_n (p := 16) (Or.inr rfl) rfl rfl rfl ?_
  refine zw_get_ref (p := 19) (Or.inr rfl) rfl rfl (fun q2 => ?_)
  refine zw_iload_n (p := 20) (Or.inr rfl) rfl rfl rfl ?_
  refine zw_baload (p := 21) (Or.inr rfl) rfl rfl ?_
  refine zw_staticI (p := 24) (as := [.int (zI M q2 (Int32.toNatClampNeg x3))]) (rest := [.int x2]) (Or.inr rfl) rfl rfl rfl rfl rfl rfl (fun u1 M1 => ?_)
  refine zw_iadd (p := 25) (Or.inr rfl) rfl rfl ?_
  refine zw_istore_nN (p := 26) (L2 := fun u2 => [some (.ref a0), none, some (.int u2), some (.int x3)]) (Or.inr rfl) rfl rfl (fun _ => rfl) rfl (fun u2 => ?_)
  refine zw_iinc (p := 29) (c := (1 : Int32)) (L2 := fun u3 => [some (.ref a0), none, some (.int u2), some (.int u3)]) (Or.inr rfl) rfl rfl rfl rfl (fun _ => rfl) rfl (fun u3 => ?_)
  refine zw_goto (t := 4) (Or.inr rfl) rfl rfl ?_
  exact zw_end rfl rfl
def zx_Mo_verdict (E : zE0) (K : zKt) (a0 : Nat) (x1 : Int32) (x2 : Int32) (M : zM) : zO :=
  zif ((zK M a0).1 = 11)
  (zbI (E n_Mo_isTry [.ref a0, .int x1, .int x2] M) fun u1 M1 =>
  if u1 = 0 then (some (some (.int (-1 : Int32)), M1))
  else zif ((zK M1 a0).1 = 11)
  (some (some (.int (zI M1 a0 45)), M1)))
set_option maxRecDepth 20000 in
theorem ze_Mo_verdict (d : Nat) (a0 : Nat) (x1 : Int32) (x2 : Int32) (M : zM) : zV (d + 1) n_Mo_verdict [.ref a0, .int x1, .int x2] M = zx_Mo_verdict (zV d) (zG d n_Mo_verdict) a0 x1 x2 M := by
  refine (zE_sg (m := zm_Mo_verdict) rfl 400 _ rfl M).trans ?_
  show zw true zm_Mo_verdict (zV d) (zG d n_Mo_verdict) 400 0 [some (.ref a0), some (.int x1), some (.int x2)] [] M = _
  unfold zx_Mo_verdict
  refine zw_aload_n (p := 1) (Or.inl rfl) rfl rfl rfl ?_
  refine zw_iload_n (p := 2) (Or.inr rfl) rfl rfl rfl ?_
  refine zw_iload_n (p := 3) (Or.inr rfl) rfl rfl rfl ?_
  refine zw_virtualI (p := 6) (as := [.ref a0, .int x1, .int x2]) (rest := []) (Or.inr rfl) rfl rfl rfl rfl rfl rfl rfl (fun u1 M1 => ?_)
  refine zw_if_eq (t := 16) (p := 9) (Or.inr rfl) rfl rfl rfl ?_ ?_
  · refine zw_iconst (p := 17) (x := (-1 : Int32)) (Or.inr rfl) rfl rfl rfl ?_
    exact zw_ireturn1 (Or.inr rfl) rfl rfl
  refine zw_aload_n (p := 10) (Or.inr rfl) rfl rfl rfl ?_
  refine zw_get_int (p := 13) (Or.inr rfl) rfl rfl ?_
  refine zw_goto (t := 17) (Or.inr rfl) rfl rfl ?_
  exact zw_ireturn1 (Or.inr rfl) rfl rfl
def zx_Mo_decided (E : zE0) (K : zKt) (a0 : Nat) (x1 : Int32) (x2 : Int32) (M : zM) : zO :=
  zif ((zK M a0).1 = 11)
  (zbI (E n_Mo_isTry [.ref a0, .int x1, .int x2] M) fun u1 M1 =>
  if u1 = 0 then (some (some (.int (-1 : Int32)), M1))
  else zif ((zK M1 a0).1 = 11)
  (some (some (.int (zI M1 a0 46)), M1)))
set_option maxRecDepth 20000 in
theorem ze_Mo_decided (d : Nat) (a0 : Nat) (x1 : Int32) (x2 : Int32) (M : zM) : zV (d + 1) n_Mo_decided [.ref a0, .int x1, .int x2] M = zx_Mo_decided (zV d) (zG d n_Mo_decided) a0 x1 x2 M := by
  refine (zE_sg (m := zm_Mo_decided) rfl 400 _ rfl M).trans ?_
  show zw true zm_Mo_decided (zV d) (zG d n_Mo_decided) 400 0 [some (.ref a0), some (.int x1), some (.int x2)] [] M = _
  unfold zx_Mo_decided
  refine zw_aload_n (p := 1) (Or.inl rfl) rfl rfl rfl ?_
  refine zw_iload_n (p := 2) (Or.inr rfl) rfl rfl rfl ?_
  refine zw_iload_n (p := 3) (Or.inr rfl) rfl rfl rfl ?_
  refine zw_virtualI (p := 6) (as := [.ref a0, .int x1, .int x2]) (rest := []) (Or.inr rfl) rfl rfl rfl rfl rfl rfl rfl (fun u1 M1 => ?_)
  refine zw_if_eq (t := 16) (p := 9) (Or.inr rfl) rfl rfl rfl ?_ ?_
  · refine zw_iconst (p := 17) (x := (-1 : Int32)) (Or.inr rfl) rfl rfl rfl ?_
    exact zw_ireturn1 (Or.inr rfl) rfl rfl
  refine zw_aload_n (p := 10) (Or.inr rfl) rfl rfl rfl ?_
  refine zw_get_int (p := 13) (Or.inr rfl) rfl rfl ?_
  refine zw_goto (t := 17) (Or.inr rfl) rfl rfl ?_
  exact zw_ireturn1 (Or.inr rfl) rfl rfl
def zx_Mo_duties (E : zE0) (K : zKt) (a0 : Nat) (x1 : Int32) (x2 : Int32) (M : zM) : zO :=
  zif ((zK M a0).1 = 11)
  (zbI (E n_Mo_isTry [.ref a0, .int x1, .int x2] M) fun u1 M1 =>
  if u1 = 0 then (some (some (.int (-1 : Int32)), M1))
  else zif ((zK M1 a0).1 = 11)
  (zbI (E n_Mo_dutiesFrom [.ref a0, .int x2] M1) fun u2 M2 =>
  some (some (.int u2), M2)))
set_option maxRecDepth 20000 in
theorem ze_Mo_duties (d : Nat) (a0 : Nat) (x1 : Int32) (x2 : Int32) (M : zM) : zV (d + 1) n_Mo_duties [.ref a0, .int x1, .int x2] M = zx_Mo_duties (zV d) (zG d n_Mo_duties) a0 x1 x2 M := by
  refine (zE_sg (m := zm_Mo_duties) rfl 400 _ rfl M).trans ?_
  show zw true zm_Mo_duties (zV d) (zG d n_Mo_duties) 400 0 [some (.ref a0), some (.int x1), some (.int x2)] [] M = _
  unfold zx_Mo_duties
  refine zw_aload_n (p := 1) (Or.inl rfl) rfl rfl rfl ?_
  refine zw_iload_n (p := 2) (Or.inr rfl) rfl rfl rfl ?_
  refine zw_iload_n (p := 3) (Or.inr rfl) rfl rfl rfl ?_
  refine zw_virtualI (p := 6) (as := [.ref a0, .int x1, .int x2]) (rest := []) (Or.inr rfl) rfl rfl rfl rfl rfl rfl rfl (fun u1 M1 => ?_)
  refine zw_if_eq (t := 17) (p := 9) (Or.inr rfl) rfl rfl rfl ?_ ?_
  · refine zw_iconst (p := 18) (x := (-1 : Int32)) (Or.inr rfl) rfl rfl rfl ?_
    exact zw_ireturn1 (Or.inr rfl) rfl rfl
  refine zw_aload_n (p := 10) (Or.inr rfl) rfl rfl rfl ?_
  refine zw_iload_n (p := 11) (Or.inr rfl) rfl rfl rfl ?_
  refine zw_virtualI (p := 14) (as := [.ref a0, .int x2]) (rest := []) (Or.inr rfl) rfl rfl rfl rfl rfl rfl rfl (fun u2 M2 => ?_)
  refine zw_goto (t := 18) (Or.inr rfl) rfl rfl ?_
  exact zw_ireturn1 (Or.inr rfl) rfl rfl
def zx_Mo_duty (E : zE0) (K : zKt) (a0 : Nat) (x1 : Int32) (x2 : Int32) (x3 : Int32) (x4 : Int32) (M : zM) : zO :=
  zif ((zK M a0).1 = 11)
  (zbI (E n_Mo_isTry [.ref a0, .int x1, .int x2] M) fun u1 M1 =>
  if u1 = 0 then (some (some (.int (-1 : Int32)), M1))
  else if x3 < 0 then (some (some (.int (-1 : Int32)), M1))
  else zbI (E n_Mo_in [.long (Int32.toInt64 x4), .long (0 : Int64), .long (2 : Int64)] M1) fun u2 M2 =>
  if u2 ≠ 0 then (K 34 [some (.ref a0), none, none, none, some (.int x4), some (.int x3), some (.int x2)] [] M2)
  else some (some (.int (-1 : Int32)), M2))
set_option maxRecDepth 20000 in
theorem ze_Mo_duty (d : Nat) (a0 : Nat) (x1 : Int32) (x2 : Int32) (x3 : Int32) (x4 : Int32) (M : zM) : zV (d + 1) n_Mo_duty [.ref a0, .int x1, .int x2, .int x3, .int x4] M = zx_Mo_duty (zV d) (zG d n_Mo_duty) a0 x1 x2 x3 x4 M := by
  refine (zE_sg (m := zm_Mo_duty) rfl 400 _ rfl M).trans ?_
  show zw true zm_Mo_duty (zV d) (zG d n_Mo_duty) 400 0 [some (.ref a0), some (.int x1), some (.int x2), some (.int x3), some (.int x4), none, none] [] M = _
  unfold zx_Mo_duty
  refine zw_aload_n (p := 1) (Or.inl rfl) rfl rfl rfl ?_
  refine zw_iload_n (p := 2) (Or.inr rfl) rfl rfl rfl ?_
  refine zw_iload_n (p := 3) (Or.inr rfl) rfl rfl rfl ?_
  refine zw_virtualI (p := 6) (as := [.ref a0, .int x1, .int x2]) (rest := []) (Or.inr rfl) rfl rfl rfl rfl rfl rfl rfl (fun u1 M1 => ?_)
  refine zw_if_eq (t := 26) (p := 9) (Or.inr rfl) rfl rfl rfl ?_ ?_
  · refine zw_iconst (p := 27) (x := (-1 : Int32)) (Or.inr rfl) rfl rfl rfl ?_
    exact zw_ireturn1 (Or.inr rfl) rfl rfl
  refine zw_iload_n (p := 10) (Or.inr rfl) rfl rfl rfl ?_
  refine zw_if_lt (t := 26) (p := 13) (Or.inr rfl) rfl rfl rfl ?_ ?_
  · refine zw_iconst (p := 27) (x := (-1 : Int32)) (Or.inr rfl) rfl rfl rfl ?_
    exact zw_ireturn1 (Or.inr rfl) rfl rfl
  refine zw_iload (p := 15) (Or.inr rfl) rfl rfl rfl ?_
  refine zw_i2l (p := 16) (Or.inr rfl) rfl rfl ?_
  refine zw_lconst (p := 17) (x := (0 : Int64)) (Or.inr rfl) rfl rfl rfl ?_
  refine zw_ldc2_w (p := 20) (x := (2 : Int64)) (Or.inr rfl) rfl rfl rfl ?_
  refine zw_staticI (p := 23) (as := [.long (Int32.toInt64 x4), .long (0 : Int64), .long (2 : Int64)]) (rest := []) (Or.inr rfl) rfl rfl rfl rfl rfl rfl (fun u2 M2 => ?_)
  refine zw_if_ne (t := 28) (p := 26) (Or.inr rfl) rfl rfl rfl ?_ ?_
  · refine zw_iload_n (p := 29) (Or.inr rfl) rfl rfl rfl ?_
    refine zw_istore (p := 31) (l2 := [some (.ref a0), some (.int x1), some (.int x2), some (.int x3), some (.int x4), some (.int x3), none]) (Or.inr rfl) rfl rfl rfl rfl ?_
    refine zw_iload_n (p := 32) (Or.inr rfl) rfl rfl rfl ?_
    refine zw_istore (p := 34) (l2 := [some (.ref a0), some (.int x1), some (.int x2), some (.int x3), some (.int x4), some (.int x3), some (.int x2)]) (Or.inr rfl) rfl rfl rfl rfl ?_
    exact zw_end rfl rfl
  refine zw_iconst (p := 27) (x := (-1 : Int32)) (Or.inr rfl) rfl rfl rfl ?_
  exact zw_ireturn1 (Or.inr rfl) rfl rfl
def zx_Mo_duty_34 (E : zE0) (K : zKt) (a0 : Nat) (x4 : Int32) (x5 : Int32) (x6 : Int32) (M : zM) : zO :=
  zif ((zK M a0).1 = 11)
  (zoR (zR M a0 9) fun q1 =>
  zif (((zK M q1).1 = 20 ∨ (zK M q1).1 = 24) ∧ zin (0 : Int32) (zK M q1).2 = true)
  (if (zI M q1 (Int32.toNatClampNeg (0 : Int32))) ≤ x6 then (some (some (.int (-4 : Int32)), M))
  else zif ((zK M a0).1 = 11)
  (zoR (zR M a0 44) fun q2 =>
  zif (((zK M q2).1 = 21 ∨ (zK M q2).1 = 22) ∧ zin x6 (zK M q2).2 = true)
  (if (zI M q2 (Int32.toNatClampNeg x6)) = 0 then (zbi (x6 + (1 : Int32)) fun u1 =>
    K 34 [some (.ref a0), none, none, none, some (.int x4), some (.int x5), some (.int u1)] [] M)
  else if x5 ≠ 0 then (zbi (x5 + (-1 : Int32)) fun u2 =>
    zbi (x6 + (1 : Int32)) fun u3 =>
    K 34 [some (.ref a0), none, none, none, some (.int x4), some (.int u2), some (.int u3)] [] M)
  else if x4 ≠ 0 then (if x4 ≠ (1 : Int32) then (zif ((zK M a0).1 = 11)
      (zoR (zR M a0 43) fun q3 =>
      zif (((zK M q3).1 = 20 ∨ (zK M q3).1 = 24) ∧ zin x6 (zK M q3).2 = true)
      (some (some (.int (zI M q3 (Int32.toNatClampNeg x6))), M))))
    else zif ((zK M a0).1 = 11)
    (zoR (zR M a0 42) fun q4 =>
    zif (((zK M q4).1 = 20 ∨ (zK M q4).1 = 24) ∧ zin x6 (zK M q4).2 = true)
    (some (some (.int (zI M q4 (Int32.toNatClampNeg x6))), M))))
  else some (some (.int x6), M)))))
set_option maxRecDepth 20000 in
theorem zg_Mo_duty_34 (d : Nat) (a0 : Nat) (x4 : Int32) (x5 : Int32) (x6 : Int32) (M : zM) : zG d n_Mo_duty 34 [some (.ref a0), none, none, none, some (.int x4), some (.int x5), some (.int x6)] [] M = zx_Mo_duty_34 (zV d) (zG d n_Mo_duty) a0 x4 x5 x6 M := by
  refine (zG_sg (m := zm_Mo_duty) rfl 400 _ _ _ M).trans ?_
  show zw true zm_Mo_duty (zV d) (zG d n_Mo_duty) 400 34 [some (.ref a0), none, none, none, some (.int x4), some (.int x5), some (.int x6)] [] M = _
  unfold zx_Mo_duty_34
  refine zw_iload (p := 36) (Or.inl rfl) rfl rfl rfl ?_
  refine zw_aload_n (p := 37) (Or.inr rfl) rfl rfl rfl ?_
  refine zw_get_ref (p := 40) (Or.inr rfl) rfl rfl (fun q1 => ?_)
  refine zw_iconst (p := 41) (x := (0 : Int32)) (Or.inr rfl) rfl rfl rfl ?_
  refine zw_iaload (p := 42) (Or.inr rfl) rfl rfl ?_
  refine zw_icmp_ge (t := 103) (p := 45) (Or.inr rfl) rfl rfl rfl ?_ ?_
  · refine zw_bipush (p := 105) (x := (-4 : Int32)) (Or.inr rfl) rfl rfl rfl ?_
    exact zw_ireturn1 (Or.inr rfl) rfl rfl
  refine zw_aload_n (p := 46) (Or.inr rfl) rfl rfl rfl ?_
  refine zw_get_ref (p := 49) (Or.inr rfl) rfl rfl (fun q2 => ?_)
  refine zw_iload (p := 51) (Or.inr rfl) rfl rfl rfl ?_
  refine zw_baload (p := 52) (Or.inr rfl) rfl rfl ?_
  refine zw_if_eq (t := 97) (p := 55) (Or.inr rfl) rfl rfl rfl ?_ ?_
  · refine zw_iinc (p := 100) (c := (1 : Int32)) (L2 := fun u1 => [some (.ref a0), none, none, none, some (.int x4), some (.int x5), some (.int u1)]) (Or.inr rfl) rfl rfl rfl rfl (fun _ => rfl) rfl (fun u1 => ?_)
    refine zw_goto (t := 34) (Or.inr rfl) rfl rfl ?_
    exact zw_end rfl rfl
  refine zw_iload (p := 57) (Or.inr rfl) rfl rfl rfl ?_
  refine zw_if_ne (t := 94) (p := 60) (Or.inr rfl) rfl rfl rfl ?_ ?_
  · refine zw_iinc (p := 97) (c := (-1 : Int32)) (L2 := fun u2 => [some (.ref a0), none, none, none, some (.int x4), some (.int u2), some (.int x6)]) (Or.inr rfl) rfl rfl rfl rfl (fun _ => rfl) rfl (fun u2 => ?_)
    refine zw_iinc (p := 100) (c := (1 : Int32)) (L2 := fun u3 => [some (.ref a0), none, none, none, some (.int x4), some (.int u2), some (.int u3)]) (Or.inr rfl) rfl rfl rfl rfl (fun _ => rfl) rfl (fun u3 => ?_)
    refine zw_goto (t := 34) (Or.inr rfl) rfl rfl ?_
    exact zw_end rfl rfl
  refine zw_iload (p := 62) (Or.inr rfl) rfl rfl rfl ?_
  refine zw_if_ne (t := 70) (p := 65) (Or.inr rfl) rfl rfl rfl ?_ ?_
  · refine zw_iload (p := 72) (Or.inr rfl) rfl rfl rfl ?_
    refine zw_iconst (p := 73) (x := (1 : Int32)) (Or.inr rfl) rfl rfl rfl ?_
    refine zw_icmp_ne (t := 86) (p := 76) (Or.inr rfl) rfl rfl rfl ?_ ?_
    · refine zw_aload_n (p := 87) (Or.inr rfl) rfl rfl rfl ?_
      refine zw_get_ref (p := 90) (Or.inr rfl) rfl rfl (fun q3 => ?_)
      refine zw_iload (p := 92) (Or.inr rfl) rfl rfl rfl ?_
      refine zw_iaload (p := 93) (Or.inr rfl) rfl rfl ?_
      exact zw_ireturn1 (Or.inr rfl) rfl rfl
    refine zw_aload_n (p := 77) (Or.inr rfl) rfl rfl rfl ?_
    refine zw_get_ref (p := 80) (Or.inr rfl) rfl rfl (fun q4 => ?_)
    refine zw_iload (p := 82) (Or.inr rfl) rfl rfl rfl ?_
    refine zw_iaload (p := 83) (Or.inr rfl) rfl rfl ?_
    refine zw_goto (t := 93) (Or.inr rfl) rfl rfl ?_
    exact zw_ireturn1 (Or.inr rfl) rfl rfl
  refine zw_iload (p := 67) (Or.inr rfl) rfl rfl rfl ?_
  refine zw_goto (t := 93) (Or.inr rfl) rfl rfl ?_
  exact zw_ireturn1 (Or.inr rfl) rfl rfl
def zx_Mo_triesOf (E : zE0) (K : zKt) (a0 : Nat) (x1 : Int32) (x2 : Int32) (M : zM) : zO :=
  zif ((zK M a0).1 = 11)
  (zbV (E n_Mo_findsFulfilling [.ref a0, .int x1] M) fun M1 =>
  K 10 [some (.ref a0), some (.int x1), some (.int x2), some (.int (0 : Int32)), some (.int (0 : Int32))] [] M1)
set_option maxRecDepth 20000 in
theorem ze_Mo_triesOf (d : Nat) (a0 : Nat) (x1 : Int32) (x2 : Int32) (M : zM) : zV (d + 1) n_Mo_triesOf [.ref a0, .int x1, .int x2] M = zx_Mo_triesOf (zV d) (zG d n_Mo_triesOf) a0 x1 x2 M := by
  refine (zE_sg (m := zm_Mo_triesOf) rfl 400 _ rfl M).trans ?_
  show zw true zm_Mo_triesOf (zV d) (zG d n_Mo_triesOf) 400 0 [some (.ref a0), some (.int x1), some (.int x2), none, none] [] M = _
  unfold zx_Mo_triesOf
  refine zw_iconst (p := 1) (x := (0 : Int32)) (Or.inl rfl) rfl rfl rfl ?_
  refine zw_istore_n (p := 2) (l2 := [some (.ref a0), some (.int x1), some (.int x2), some (.int (0 : Int32)), none]) (Or.inr rfl) rfl rfl rfl rfl ?_
  refine zw_aload_n (p := 3) (Or.inr rfl) rfl rfl rfl ?_
  refine zw_iload_n (p := 4) (Or.inr rfl) rfl rfl rfl ?_
  refine zw_virtualV (p := 7) (as := [.ref a0, .int x1]) (rest := []) (Or.inr rfl) rfl rfl rfl rfl rfl rfl rfl (fun M1 => ?_)
  refine zw_iconst (p := 8) (x := (0 : Int32)) (Or.inr rfl) rfl rfl rfl ?_
  refine zw_istore (p := 10) (l2 := [some (.ref a0), some (.int x1), some (.int x2), some (.int (0 : Int32)), some (.int (0 : Int32))]) (Or.inr rfl) rfl rfl rfl rfl ?_
  exact zw_end rfl rfl
def zx_Mo_triesOf_10 (E : zE0) (K : zKt) (a0 : Nat) (x1 : Int32) (x2 : Int32) (x3 : Int32) (x4 : Int32) (M : zM) : zO :=
  zif ((zK M a0).1 = 11)
  (zoR (zR M a0 9) fun q1 =>
  zif (((zK M q1).1 = 20 ∨ (zK M q1).1 = 24) ∧ zin (0 : Int32) (zK M q1).2 = true)
  (if (zI M q1 (Int32.toNatClampNeg (0 : Int32))) ≤ x4 then (some (some (.int x3), M))
  else zif ((zK M a0).1 = 11)
  (zbV (E n_Mo_goesThrough [.ref a0, .int x1, .int x4] M) fun M1 =>
  zif ((zK M1 a0).1 = 11)
  (if (zI M1 a0 45) ≠ x2 then (zbI (E n_Mo_flag [.int (0 : Int32)] M1) fun u1 M2 =>
    zbi (x3 + u1) fun u2 =>
    zbi (x4 + (1 : Int32)) fun u3 =>
    K 10 [some (.ref a0), some (.int x1), some (.int x2), some (.int u2), some (.int u3)] [] M2)
  else zbI (E n_Mo_flag [.int (1 : Int32)] M1) fun u4 M3 =>
  zbi (x3 + u4) fun u5 =>
  zbi (x4 + (1 : Int32)) fun u6 =>
  K 10 [some (.ref a0), some (.int x1), some (.int x2), some (.int u5), some (.int u6)] [] M3))))
set_option maxRecDepth 20000 in
theorem zg_Mo_triesOf_10 (d : Nat) (a0 : Nat) (x1 : Int32) (x2 : Int32) (x3 : Int32) (x4 : Int32) (M : zM) : zG d n_Mo_triesOf 10 [some (.ref a0), some (.int x1), some (.int x2), some (.int x3), some (.int x4)] [] M = zx_Mo_triesOf_10 (zV d) (zG d n_Mo_triesOf) a0 x1 x2 x3 x4 M := by
  refine (zG_sg (m := zm_Mo_triesOf) rfl 400 _ _ _ M).trans ?_
  show zw true zm_Mo_triesOf (zV d) (zG d n_Mo_triesOf) 400 10 [some (.ref a0), some (.int x1), some (.int x2), some (.int x3), some (.int x4)] [] M = _
  unfold zx_Mo_triesOf_10
  refine zw_iload (p := 12) (Or.inl rfl) rfl rfl rfl ?_
  refine zw_aload_n (p := 13) (Or.inr rfl) rfl rfl rfl ?_
  refine zw_get_ref (p := 16) (Or.inr rfl) rfl rfl (fun q1 => ?_)
  refine zw_iconst (p := 17) (x := (0 : Int32)) (Or.inr rfl) rfl rfl rfl ?_
  refine zw_iaload (p := 18) (Or.inr rfl) rfl rfl ?_
  refine zw_icmp_ge (t := 53) (p := 21) (Or.inr rfl) rfl rfl rfl ?_ ?_
  · refine zw_iload_n (p := 54) (Or.inr rfl) rfl rfl rfl ?_
    exact zw_ireturn1 (Or.inr rfl) rfl rfl
  refine zw_aload_n (p := 22) (Or.inr rfl) rfl rfl rfl ?_
  refine zw_iload_n (p := 23) (Or.inr rfl) rfl rfl rfl ?_
  refine zw_iload (p := 25) (Or.inr rfl) rfl rfl rfl ?_
  refine zw_virtualV (p := 28) (as := [.ref a0, .int x1, .int x4]) (rest := []) (Or.inr rfl) rfl rfl rfl rfl rfl rfl rfl (fun M1 => ?_)
  refine zw_iload_n (p := 29) (Or.inr rfl) rfl rfl rfl ?_
  refine zw_aload_n (p := 30) (Or.inr rfl) rfl rfl rfl ?_
  refine zw_get_int (p := 33) (Or.inr rfl) rfl rfl ?_
  refine zw_iload_n (p := 34) (Or.inr rfl) rfl rfl rfl ?_
  refine zw_icmp_ne (t := 41) (p := 37) (Or.inr rfl) rfl rfl rfl ?_ ?_
  · refine zw_iconst (p := 42) (x := (0 : Int32)) (Or.inr rfl) rfl rfl rfl ?_
    refine zw_staticI (p := 45) (as := [.int (0 : Int32)]) (rest := [.int x3]) (Or.inr rfl) rfl rfl rfl rfl rfl rfl (fun u1 M2 => ?_)
    refine zw_iadd (p := 46) (Or.inr rfl) rfl rfl ?_
    refine zw_istore_nN (p := 47) (L2 := fun u2 => [some (.ref a0), some (.int x1), some (.int x2), some (.int u2), some (.int x4)]) (Or.inr rfl) rfl rfl (fun _ => rfl) rfl (fun u2 => ?_)
    refine zw_iinc (p := 50) (c := (1 : Int32)) (L2 := fun u3 => [some (.ref a0), some (.int x1), some (.int x2), some (.int u2), some (.int u3)]) (Or.inr rfl) rfl rfl rfl rfl (fun _ => rfl) rfl (fun u3 => ?_)
    refine zw_goto (t := 10) (Or.inr rfl) rfl rfl ?_
    exact zw_end rfl rfl
  refine zw_iconst (p := 38) (x := (1 : Int32)) (Or.inr rfl) rfl rfl rfl ?_
  refine zw_goto (t := 42) (Or.inr rfl) rfl rfl ?_
  refine zw_staticI (p := 45) (as := [.int (1 : Int32)]) (rest := [.int x3]) (Or.inr rfl) rfl rfl rfl rfl rfl rfl (fun u4 M3 => ?_)
  refine zw_iadd (p := 46) (Or.inr rfl) rfl rfl ?_
  refine zw_istore_nN (p := 47) (L2 := fun u5 => [some (.ref a0), some (.int x1), some (.int x2), some (.int u5), some (.int x4)]) (Or.inr rfl) rfl rfl (fun _ => rfl) rfl (fun u5 => ?_)
  refine zw_iinc (p := 50) (c := (1 : Int32)) (L2 := fun u6 => [some (.ref a0), some (.int x1), some (.int x2), some (.int u5), some (.int u6)]) (Or.inr rfl) rfl rfl rfl rfl (fun _ => rfl) rfl (fun u6 => ?_)
  refine zw_goto (t := 10) (Or.inr rfl) rfl rfl ?_
  exact zw_end rfl rfl
def zx_Mo_tries (E : zE0) (K : zKt) (a0 : Nat) (x1 : Int32) (x2 : Int32) (M : zM) : zO :=
  zif ((zK M a0).1 = 11)
  (zbI (E n_Mo_isPromise [.ref a0, .int x1] M) fun u1 M1 =>
  if u1 = 0 then (some (some (.int (-1 : Int32)), M1))
  else zbI (E n_Mo_in [.long (Int32.toInt64 x2), .long (0 : Int64), .long (4 : Int64)] M1) fun u2 M2 =>
  if u2 = 0 then (some (some (.int (-1 : Int32)), M2))
  else zif ((zK M2 a0).1 = 11)
  (zbI (E n_Mo_triesOf [.ref a0, .int x1, .int x2] M2) fun u3 M3 =>
  some (some (.int u3), M3)))
set_option maxRecDepth 20000 in
theorem ze_Mo_tries (d : Nat) (a0 : Nat) (x1 : Int32) (x2 : Int32) (M : zM) : zV (d + 1) n_Mo_tries [.ref a0, .int x1, .int x2] M = zx_Mo_tries (zV d) (zG d n_Mo_tries) a0 x1 x2 M := by
  refine (zE_sg (m := zm_Mo_tries) rfl 400 _ rfl M).trans ?_
  show zw true zm_Mo_tries (zV d) (zG d n_Mo_tries) 400 0 [some (.ref a0), some (.int x1), some (.int x2)] [] M = _
  unfold zx_Mo_tries
  refine zw_aload_n (p := 1) (Or.inl rfl) rfl rfl rfl ?_
  refine zw_iload_n (p := 2) (Or.inr rfl) rfl rfl rfl ?_
  refine zw_virtualI (p := 5) (as := [.ref a0, .int x1]) (rest := []) (Or.inr rfl) rfl rfl rfl rfl rfl rfl rfl (fun u1 M1 => ?_)
  refine zw_if_eq (t := 29) (p := 8) (Or.inr rfl) rfl rfl rfl ?_ ?_
  · refine zw_iconst (p := 30) (x := (-1 : Int32)) (Or.inr rfl) rfl rfl rfl ?_
    exact zw_ireturn1 (Or.inr rfl) rfl rfl
  refine zw_iload_n (p := 9) (Or.inr rfl) rfl rfl rfl ?_
  refine zw_i2l (p := 10) (Or.inr rfl) rfl rfl ?_
  refine zw_lconst (p := 11) (x := (0 : Int64)) (Or.inr rfl) rfl rfl rfl ?_
  refine zw_ldc2_w (p := 14) (x := (4 : Int64)) (Or.inr rfl) rfl rfl rfl ?_
  refine zw_staticI (p := 17) (as := [.long (Int32.toInt64 x2), .long (0 : Int64), .long (4 : Int64)]) (rest := []) (Or.inr rfl) rfl rfl rfl rfl rfl rfl (fun u2 M2 => ?_)
  refine zw_if_eq (t := 29) (p := 20) (Or.inr rfl) rfl rfl rfl ?_ ?_
  · refine zw_iconst (p := 30) (x := (-1 : Int32)) (Or.inr rfl) rfl rfl rfl ?_
    exact zw_ireturn1 (Or.inr rfl) rfl rfl
  refine zw_aload_n (p := 21) (Or.inr rfl) rfl rfl rfl ?_
  refine zw_iload_n (p := 22) (Or.inr rfl) rfl rfl rfl ?_
  refine zw_iload_n (p := 23) (Or.inr rfl) rfl rfl rfl ?_
  refine zw_virtualI (p := 26) (as := [.ref a0, .int x1, .int x2]) (rest := []) (Or.inr rfl) rfl rfl rfl rfl rfl rfl rfl (fun u3 M3 => ?_)
  refine zw_goto (t := 30) (Or.inr rfl) rfl rfl ?_
  exact zw_ireturn1 (Or.inr rfl) rfl rfl
def zx_Mo_first (E : zE0) (K : zKt) (a0 : Nat) (x1 : Int32) (x2 : Int32) (M : zM) : zO :=
  zif ((zK M a0).1 = 11)
  (zbI (E n_Mo_isPromise [.ref a0, .int x1] M) fun u1 M1 =>
  if u1 = 0 then (some (some (.int (-1 : Int32)), M1))
  else zbI (E n_Mo_in [.long (Int32.toInt64 x2), .long (0 : Int64), .long (4 : Int64)] M1) fun u2 M2 =>
  if u2 ≠ 0 then (zif ((zK M2 a0).1 = 11)
    (zbV (E n_Mo_findsFulfilling [.ref a0, .int x1] M2) fun M3 =>
    K 29 [some (.ref a0), some (.int x1), some (.int x2), some (.int (0 : Int32))] [] M3))
  else some (some (.int (-1 : Int32)), M2))
set_option maxRecDepth 20000 in
theorem ze_Mo_first (d : Nat) (a0 : Nat) (x1 : Int32) (x2 : Int32) (M : zM) : zV (d + 1) n_Mo_first [.ref a0, .int x1, .int x2] M = zx_Mo_first (zV d) (zG d n_Mo_first) a0 x1 x2 M := by
  refine (zE_sg (m := zm_Mo_first) rfl 400 _ rfl M).trans ?_
  show zw true zm_Mo_first (zV d) (zG d n_Mo_first) 400 0 [some (.ref a0), some (.int x1), some (.int x2), none] [] M = _
  unfold zx_Mo_first
  refine zw_aload_n (p := 1) (Or.inl rfl) rfl rfl rfl ?_
  refine zw_iload_n (p := 2) (Or.inr rfl) rfl rfl rfl ?_
  refine zw_virtualI (p := 5) (as := [.ref a0, .int x1]) (rest := []) (Or.inr rfl) rfl rfl rfl rfl rfl rfl rfl (fun u1 M1 => ?_)
  refine zw_if_eq (t := 20) (p := 8) (Or.inr rfl) rfl rfl rfl ?_ ?_
  · refine zw_iconst (p := 21) (x := (-1 : Int32)) (Or.inr rfl) rfl rfl rfl ?_
    exact zw_ireturn1 (Or.inr rfl) rfl rfl
  refine zw_iload_n (p := 9) (Or.inr rfl) rfl rfl rfl ?_
  refine zw_i2l (p := 10) (Or.inr rfl) rfl rfl ?_
  refine zw_lconst (p := 11) (x := (0 : Int64)) (Or.inr rfl) rfl rfl rfl ?_
  refine zw_ldc2_w (p := 14) (x := (4 : Int64)) (Or.inr rfl) rfl rfl rfl ?_
  refine zw_staticI (p := 17) (as := [.long (Int32.toInt64 x2), .long (0 : Int64), .long (4 : Int64)]) (rest := []) (Or.inr rfl) rfl rfl rfl rfl rfl rfl (fun u2 M2 => ?_)
  refine zw_if_ne (t := 22) (p := 20) (Or.inr rfl) rfl rfl rfl ?_ ?_
  · refine zw_aload_n (p := 23) (Or.inr rfl) rfl rfl rfl ?_
    refine zw_iload_n (p := 24) (Or.inr rfl) rfl rfl rfl ?_
    refine zw_virtualV (p := 27) (as := [.ref a0, .int x1]) (rest := []) (Or.inr rfl) rfl rfl rfl rfl rfl rfl rfl (fun M3 => ?_)
    refine zw_iconst (p := 28) (x := (0 : Int32)) (Or.inr rfl) rfl rfl rfl ?_
    refine zw_istore_n (p := 29) (l2 := [some (.ref a0), some (.int x1), some (.int x2), some (.int (0 : Int32))]) (Or.inr rfl) rfl rfl rfl rfl ?_
    exact zw_end rfl rfl
  refine zw_iconst (p := 21) (x := (-1 : Int32)) (Or.inr rfl) rfl rfl rfl ?_
  exact zw_ireturn1 (Or.inr rfl) rfl rfl
def zx_Mo_first_29 (E : zE0) (K : zKt) (a0 : Nat) (x1 : Int32) (x2 : Int32) (x3 : Int32) (M : zM) : zO :=
  zif ((zK M a0).1 = 11)
  (zoR (zR M a0 9) fun q1 =>
  zif (((zK M q1).1 = 20 ∨ (zK M q1).1 = 24) ∧ zin (0 : Int32) (zK M q1).2 = true)
  (if (zI M q1 (Int32.toNatClampNeg (0 : Int32))) ≤ x3 then (some (some (.int (-4 : Int32)), M))
  else zif ((zK M a0).1 = 11)
  (zbV (E n_Mo_goesThrough [.ref a0, .int x1, .int x3] M) fun M1 =>
  zif ((zK M1 a0).1 = 11)
  (if (zI M1 a0 45) ≠ x2 then (zbi (x3 + (1 : Int32)) fun u1 =>
    K 29 [some (.ref a0), some (.int x1), some (.int x2), some (.int u1)] [] M1)
  else some (some (.int x3), M1)))))
set_option maxRecDepth 20000 in
theorem zg_Mo_first_29 (d : Nat) (a0 : Nat) (x1 : Int32) (x2 : Int32) (x3 : Int32) (M : zM) : zG d n_Mo_first 29 [some (.ref a0), some (.int x1), some (.int x2), some (.int x3)] [] M = zx_Mo_first_29 (zV d) (zG d n_Mo_first) a0 x1 x2 x3 M := by
  refine (zG_sg (m := zm_Mo_first) rfl 400 _ _ _ M).trans ?_
  show zw true zm_Mo_first (zV d) (zG d n_Mo_first) 400 29 [some (.ref a0), some (.int x1), some (.int x2), some (.int x3)] [] M = _
  unfold zx_Mo_first_29
  refine zw_iload_n (p := 30) (Or.inl rfl) rfl rfl rfl ?_
  refine zw_aload_n (p := 31) (Or.inr rfl) rfl rfl rfl ?_
  refine zw_get_ref (p := 34) (Or.inr rfl) rfl rfl (fun q1 => ?_)
  refine zw_iconst (p := 35) (x := (0 : Int32)) (Or.inr rfl) rfl rfl rfl ?_
  refine zw_iaload (p := 36) (Or.inr rfl) rfl rfl ?_
  refine zw_icmp_ge (t := 61) (p := 39) (Or.inr rfl) rfl rfl rfl ?_ ?_
  · refine zw_bipush (p := 63) (x := (-4 : Int32)) (Or.inr rfl) rfl rfl rfl ?_
    exact zw_ireturn1 (Or.inr rfl) rfl rfl
  refine zw_aload_n (p := 40) (Or.inr rfl) rfl rfl rfl ?_
  refine zw_iload_n (p := 41) (Or.inr rfl) rfl rfl rfl ?_
  refine zw_iload_n (p := 42) (Or.inr rfl) rfl rfl rfl ?_
  refine zw_virtualV (p := 45) (as := [.ref a0, .int x1, .int x3]) (rest := []) (Or.inr rfl) rfl rfl rfl rfl rfl rfl rfl (fun M1 => ?_)
  refine zw_aload_n (p := 46) (Or.inr rfl) rfl rfl rfl ?_
  refine zw_get_int (p := 49) (Or.inr rfl) rfl rfl ?_
  refine zw_iload_n (p := 50) (Or.inr rfl) rfl rfl rfl ?_
  refine zw_icmp_ne (t := 55) (p := 53) (Or.inr rfl) rfl rfl rfl ?_ ?_
  · refine zw_iinc (p := 58) (c := (1 : Int32)) (L2 := fun u1 => [some (.ref a0), some (.int x1), some (.int x2), some (.int u1)]) (Or.inr rfl) rfl rfl rfl rfl (fun _ => rfl) rfl (fun u1 => ?_)
    refine zw_goto (t := 29) (Or.inr rfl) rfl rfl ?_
    exact zw_end rfl rfl
  refine zw_iload_n (p := 54) (Or.inr rfl) rfl rfl rfl ?_
  exact zw_ireturn1 (Or.inr rfl) rfl rfl
def zx_Mo_allDuties (E : zE0) (K : zKt) (a0 : Nat) (M : zM) : zO :=
  K 4 [some (.ref a0), some (.int (0 : Int32)), some (.int (0 : Int32)), none] [] M
set_option maxRecDepth 20000 in
theorem ze_Mo_allDuties (d : Nat) (a0 : Nat) (M : zM) : zV (d + 1) n_Mo_allDuties [.ref a0] M = zx_Mo_allDuties (zV d) (zG d n_Mo_allDuties) a0 M := by
  refine (zE_sg (m := zm_Mo_allDuties) rfl 400 _ rfl M).trans ?_
  show zw true zm_Mo_allDuties (zV d) (zG d n_Mo_allDuties) 400 0 [some (.ref a0), none, none, none] [] M = _
  unfold zx_Mo_allDuties
  refine zw_iconst (p := 1) (x := (0 : Int32)) (Or.inl rfl) rfl rfl rfl ?_
  refine zw_istore_n (p := 2) (l2 := [some (.ref a0), some (.int (0 : Int32)), none, none]) (Or.inr rfl) rfl rfl rfl rfl ?_
  refine zw_iconst (p := 3) (x := (0 : Int32)) (Or.inr rfl) rfl rfl rfl ?_
  refine zw_istore_n (p := 4) (l2 := [some (.ref a0), some (.int (0 : Int32)), some (.int (0 : Int32)), none]) (Or.inr rfl) rfl rfl rfl rfl ?_
  exact zw_end rfl rfl
def zx_Mo_allDuties_4 (E : zE0) (K : zKt) (a0 : Nat) (x1 : Int32) (x2 : Int32) (M : zM) : zO :=
  zif ((zK M a0).1 = 11)
  (if (zI M a0 8) ≤ x2 then (some (some (.int x1), M))
  else zif ((zK M a0).1 = 11)
  (zbV (E n_Mo_findsFulfilling [.ref a0, .int x2] M) fun M1 =>
  K 19 [some (.ref a0), some (.int x1), some (.int x2), some (.int (0 : Int32))] [] M1))
set_option maxRecDepth 20000 in
theorem zg_Mo_allDuties_4 (d : Nat) (a0 : Nat) (x1 : Int32) (x2 : Int32) (M : zM) : zG d n_Mo_allDuties 4 [some (.ref a0), some (.int x1), some (.int x2), none] [] M = zx_Mo_allDuties_4 (zV d) (zG d n_Mo_allDuties) a0 x1 x2 M := by
  refine (zG_sg (m := zm_Mo_allDuties) rfl 400 _ _ _ M).trans ?_
  show zw true zm_Mo_allDuties (zV d) (zG d n_Mo_allDuties) 400 4 [some (.ref a0), some (.int x1), some (.int x2), none] [] M = _
  unfold zx_Mo_allDuties_4
  refine zw_iload_n (p := 5) (Or.inl rfl) rfl rfl rfl ?_
  refine zw_aload_n (p := 6) (Or.inr rfl) rfl rfl rfl ?_
  refine zw_get_int (p := 9) (Or.inr rfl) rfl rfl ?_
  refine zw_icmp_ge (t := 55) (p := 12) (Or.inr rfl) rfl rfl rfl ?_ ?_
  · refine zw_iload_n (p := 56) (Or.inr rfl) rfl rfl rfl ?_
    exact zw_ireturn1 (Or.inr rfl) rfl rfl
  refine zw_aload_n (p := 13) (Or.inr rfl) rfl rfl rfl ?_
  refine zw_iload_n (p := 14) (Or.inr rfl) rfl rfl rfl ?_
  refine zw_virtualV (p := 17) (as := [.ref a0, .int x2]) (rest := []) (Or.inr rfl) rfl rfl rfl rfl rfl rfl rfl (fun M1 => ?_)
  refine zw_iconst (p := 18) (x := (0 : Int32)) (Or.inr rfl) rfl rfl rfl ?_
  refine zw_istore_n (p := 19) (l2 := [some (.ref a0), some (.int x1), some (.int x2), some (.int (0 : Int32))]) (Or.inr rfl) rfl rfl rfl rfl ?_
  exact zw_end rfl rfl
def zx_Mo_allDuties_19 (E : zE0) (K : zKt) (a0 : Nat) (x1 : Int32) (x2 : Int32) (x3 : Int32) (M : zM) : zO :=
  zif ((zK M a0).1 = 11)
  (zoR (zR M a0 9) fun q1 =>
  zif (((zK M q1).1 = 20 ∨ (zK M q1).1 = 24) ∧ zin (0 : Int32) (zK M q1).2 = true)
  (if (zI M q1 (Int32.toNatClampNeg (0 : Int32))) ≤ x3 then (zbi (x2 + (1 : Int32)) fun u1 =>
    K 4 [some (.ref a0), some (.int x1), some (.int u1), none] [] M)
  else zif ((zK M a0).1 = 11)
  (zbV (E n_Mo_goesThrough [.ref a0, .int x2, .int x3] M) fun M1 =>
  zif ((zK M1 a0).1 = 11)
  (zbI (E n_Mo_dutiesFrom [.ref a0, .int x3] M1) fun u2 M2 =>
  zbi (x1 + u2) fun u3 =>
  zbi (x3 + (1 : Int32)) fun u4 =>
  K 19 [some (.ref a0), some (.int u3), some (.int x2), some (.int u4)] [] M2))))
set_option maxRecDepth 20000 in
theorem zg_Mo_allDuties_19 (d : Nat) (a0 : Nat) (x1 : Int32) (x2 : Int32) (x3 : Int32) (M : zM) : zG d n_Mo_allDuties 19 [some (.ref a0), some (.int x1), some (.int x2), some (.int x3)] [] M = zx_Mo_allDuties_19 (zV d) (zG d n_Mo_allDuties) a0 x1 x2 x3 M := by
  refine (zG_sg (m := zm_Mo_allDuties) rfl 400 _ _ _ M).trans ?_
  show zw true zm_Mo_allDuties (zV d) (zG d n_Mo_allDuties) 400 19 [some (.ref a0), some (.int x1), some (.int x2), some (.int x3)] [] M = _
  unfold zx_Mo_allDuties_19
  refine zw_iload_n (p := 20) (Or.inl rfl) rfl rfl rfl ?_
  refine zw_aload_n (p := 21) (Or.inr rfl) rfl rfl rfl ?_
  refine zw_get_ref (p := 24) (Or.inr rfl) rfl rfl (fun q1 => ?_)
  refine zw_iconst (p := 25) (x := (0 : Int32)) (Or.inr rfl) rfl rfl rfl ?_
  refine zw_iaload (p := 26) (Or.inr rfl) rfl rfl ?_
  refine zw_icmp_ge (t := 49) (p := 29) (Or.inr rfl) rfl rfl rfl ?_ ?_
  · refine zw_iinc (p := 52) (c := (1 : Int32)) (L2 := fun u1 => [some (.ref a0), some (.int x1), some (.int u1), some (.int x3)]) (Or.inr rfl) rfl rfl rfl rfl (fun _ => rfl) rfl (fun u1 => ?_)
    refine zw_goto (t := 4) (Or.inr rfl) rfl rfl ?_
    exact zw_end rfl rfl
  refine zw_aload_n (p := 30) (Or.inr rfl) rfl rfl rfl ?_
  refine zw_iload_n (p := 31) (Or.inr rfl) rfl rfl rfl ?_
  refine zw_iload_n (p := 32) (Or.inr rfl) rfl rfl rfl ?_
  refine zw_virtualV (p := 35) (as := [.ref a0, .int x2, .int x3]) (rest := []) (Or.inr rfl) rfl rfl rfl rfl rfl rfl rfl (fun M1 => ?_)
  refine zw_iload_n (p := 36) (Or.inr rfl) rfl rfl rfl ?_
  refine zw_aload_n (p := 37) (Or.inr rfl) rfl rfl rfl ?_
  refine zw_iload_n (p := 38) (Or.inr rfl) rfl rfl rfl ?_
  refine zw_virtualI (p := 41) (as := [.ref a0, .int x3]) (rest := [.int x1]) (Or.inr rfl) rfl rfl rfl rfl rfl rfl rfl (fun u2 M2 => ?_)
  refine zw_iadd (p := 42) (Or.inr rfl) rfl rfl ?_
  refine zw_istore_nN (p := 43) (L2 := fun u3 => [some (.ref a0), some (.int u3), some (.int x2), some (.int x3)]) (Or.inr rfl) rfl rfl (fun _ => rfl) rfl (fun u3 => ?_)
  refine zw_iinc (p := 46) (c := (1 : Int32)) (L2 := fun u4 => [some (.ref a0), some (.int u3), some (.int x2), some (.int u4)]) (Or.inr rfl) rfl rfl rfl rfl (fun _ => rfl) rfl (fun u4 => ?_)
  refine zw_goto (t := 19) (Or.inr rfl) rfl rfl ?_
  exact zw_end rfl rfl
def zx_Mo_allTries (E : zE0) (K : zKt) (a0 : Nat) (x1 : Int32) (M : zM) : zO :=
  K 4 [some (.ref a0), some (.int x1), some (.int (0 : Int32)), some (.int (0 : Int32))] [] M
set_option maxRecDepth 20000 in
theorem ze_Mo_allTries (d : Nat) (a0 : Nat) (x1 : Int32) (M : zM) : zV (d + 1) n_Mo_allTries [.ref a0, .int x1] M = zx_Mo_allTries (zV d) (zG d n_Mo_allTries) a0 x1 M := by
  refine (zE_sg (m := zm_Mo_allTries) rfl 400 _ rfl M).trans ?_
  show zw true zm_Mo_allTries (zV d) (zG d n_Mo_allTries) 400 0 [some (.ref a0), some (.int x1), none, none] [] M = _
  unfold zx_Mo_allTries
  refine zw_iconst (p := 1) (x := (0 : Int32)) (Or.inl rfl) rfl rfl rfl ?_
  refine zw_istore_n (p := 2) (l2 := [some (.ref a0), some (.int x1), some (.int (0 : Int32)), none]) (Or.inr rfl) rfl rfl rfl rfl ?_
  refine zw_iconst (p := 3) (x := (0 : Int32)) (Or.inr rfl) rfl rfl rfl ?_
  refine zw_istore_n (p := 4) (l2 := [some (.ref a0), some (.int x1), some (.int (0 : Int32)), some (.int (0 : Int32))]) (Or.inr rfl) rfl rfl rfl rfl ?_
  exact zw_end rfl rfl
def zx_Mo_allTries_4 (E : zE0) (K : zKt) (a0 : Nat) (x1 : Int32) (x2 : Int32) (x3 : Int32) (M : zM) : zO :=
  zif ((zK M a0).1 = 11)
  (if (zI M a0 8) ≤ x3 then (some (some (.int x2), M))
  else zif ((zK M a0).1 = 11)
  (zbI (E n_Mo_triesOf [.ref a0, .int x3, .int x1] M) fun u1 M1 =>
  zbi (x2 + u1) fun u2 =>
  zbi (x3 + (1 : Int32)) fun u3 =>
  K 4 [some (.ref a0), some (.int x1), some (.int u2), some (.int u3)] [] M1))
set_option maxRecDepth 20000 in
theorem zg_Mo_allTries_4 (d : Nat) (a0 : Nat) (x1 : Int32) (x2 : Int32) (x3 : Int32) (M : zM) : zG d n_Mo_allTries 4 [some (.ref a0), some (.int x1), some (.int x2), some (.int x3)] [] M = zx_Mo_allTries_4 (zV d) (zG d n_Mo_allTries) a0 x1 x2 x3 M := by
  refine (zG_sg (m := zm_Mo_allTries) rfl 400 _ _ _ M).trans ?_
  show zw true zm_Mo_allTries (zV d) (zG d n_Mo_allTries) 400 4 [some (.ref a0), some (.int x1), some (.int x2), some (.int x3)] [] M = _
  unfold zx_Mo_allTries_4
  refine zw_iload_n (p := 5) (Or.inl rfl) rfl rfl rfl ?_
  refine zw_aload_n (p := 6) (Or.inr rfl) rfl rfl rfl ?_
  refine zw_get_int (p := 9) (Or.inr rfl) rfl rfl ?_
  refine zw_icmp_ge (t := 27) (p := 12) (Or.inr rfl) rfl rfl rfl ?_ ?_
  · refine zw_iload_n (p := 28) (Or.inr rfl) rfl rfl rfl ?_
    exact zw_ireturn1 (Or.inr rfl) rfl rfl
  refine zw_iload_n (p := 13) (Or.inr rfl) rfl rfl rfl ?_
  refine zw_aload_n (p := 14) (Or.inr rfl) rfl rfl rfl ?_
  refine zw_iload_n (p := 15) (Or.inr rfl) rfl rfl rfl ?_
  refine zw_iload_n (p := 16) (Or.inr rfl) rfl rfl rfl ?_
  refine zw_virtualI (p := 19) (as := [.ref a0, .int x3, .int x1]) (rest := [.int x2]) (Or.inr rfl) rfl rfl rfl rfl rfl rfl rfl (fun u1 M1 => ?_)
  refine zw_iadd (p := 20) (Or.inr rfl) rfl rfl ?_
  refine zw_istore_nN (p := 21) (L2 := fun u2 => [some (.ref a0), some (.int x1), some (.int u2), some (.int x3)]) (Or.inr rfl) rfl rfl (fun _ => rfl) rfl (fun u2 => ?_)
  refine zw_iinc (p := 24) (c := (1 : Int32)) (L2 := fun u3 => [some (.ref a0), some (.int x1), some (.int u2), some (.int u3)]) (Or.inr rfl) rfl rfl rfl rfl (fun _ => rfl) rfl (fun u3 => ?_)
  refine zw_goto (t := 4) (Or.inr rfl) rfl rfl ?_
  exact zw_end rfl rfl
def zx_Mo_rule (E : zE0) (K : zKt) (a0 : Nat) (x1 : Int32) (M : zM) : zO :=
  zbI (E n_Mo_in [.long (Int32.toInt64 x1), .long (0 : Int64), .long (7 : Int64)] M) fun u1 M1 =>
  if u1 ≠ 0 then (if x1 ≠ 0 then (if x1 ≠ (1 : Int32) then (if x1 ≠ (7 : Int32) then (zif ((zK M1 a0).1 = 11)
          (zbI (E n_Mo_allTries [.ref a0, .int (x1 - (2 : Int32))] M1) fun u2 M2 =>
          some (some (.int u2), M2)))
        else zif ((zK M1 a0).1 = 11)
        (zbI (E n_Mo_allDuties [.ref a0] M1) fun u3 M3 =>
        some (some (.int u3), M3)))
      else zif ((zK M1 a0).1 = 11)
      (zoR (zR M1 a0 9) fun q1 =>
      zif (((zK M1 q1).1 = 20 ∨ (zK M1 q1).1 = 24) ∧ zin (0 : Int32) (zK M1 q1).2 = true)
      (some (some (.int (zI M1 q1 (Int32.toNatClampNeg (0 : Int32)))), M1))))
    else zif ((zK M1 a0).1 = 11)
    (some (some (.int (zI M1 a0 8)), M1)))
  else some (some (.int (-1 : Int32)), M1)
set_option maxRecDepth 20000 in
theorem ze_Mo_rule (d : Nat) (a0 : Nat) (x1 : Int32) (M : zM) : zV (d + 1) n_Mo_rule [.ref a0, .int x1] M = zx_Mo_rule (zV d) (zG d n_Mo_rule) a0 x1 M := by
  refine (zE_sg (m := zm_Mo_rule) rfl 400 _ rfl M).trans ?_
  show zw true zm_Mo_rule (zV d) (zG d n_Mo_rule) 400 0 [some (.ref a0), some (.int x1)] [] M = _
  unfold zx_Mo_rule
  refine zw_iload_n (p := 1) (Or.inl rfl) rfl rfl rfl ?_
  refine zw_i2l (p := 2) (Or.inr rfl) rfl rfl ?_
  refine zw_lconst (p := 3) (x := (0 : Int64)) (Or.inr rfl) rfl rfl rfl ?_
  refine zw_ldc2_w (p := 6) (x := (7 : Int64)) (Or.inr rfl) rfl rfl rfl ?_
  refine zw_staticI (p := 9) (as := [.long (Int32.toInt64 x1), .long (0 : Int64), .long (7 : Int64)]) (rest := []) (Or.inr rfl) rfl rfl rfl rfl rfl rfl (fun u1 M1 => ?_)
  refine zw_if_ne (t := 14) (p := 12) (Or.inr rfl) rfl rfl rfl ?_ ?_
  · refine zw_iload_n (p := 15) (Or.inr rfl) rfl rfl rfl ?_
    refine zw_if_ne (t := 25) (p := 18) (Or.inr rfl) rfl rfl rfl ?_ ?_
    · refine zw_iload_n (p := 26) (Or.inr rfl) rfl rfl rfl ?_
      refine zw_iconst (p := 27) (x := (1 : Int32)) (Or.inr rfl) rfl rfl rfl ?_
      refine zw_icmp_ne (t := 39) (p := 30) (Or.inr rfl) rfl rfl rfl ?_ ?_
      · refine zw_iload_n (p := 40) (Or.inr rfl) rfl rfl rfl ?_
        refine zw_bipush (p := 42) (x := (7 : Int32)) (Or.inr rfl) rfl rfl rfl ?_
        refine zw_icmp_ne (t := 52) (p := 45) (Or.inr rfl) rfl rfl rfl ?_ ?_
        · refine zw_aload_n (p := 53) (Or.inr rfl) rfl rfl rfl ?_
          refine zw_iload_n (p := 54) (Or.inr rfl) rfl rfl rfl ?_
          refine zw_iconst (p := 55) (x := (2 : Int32)) (Or.inr rfl) rfl rfl rfl ?_
          refine zw_isub (p := 56) (Or.inr rfl) rfl rfl ?_
          refine zw_virtualI (p := 59) (as := [.ref a0, .int (x1 - (2 : Int32))]) (rest := []) (Or.inr rfl) rfl rfl rfl rfl rfl rfl rfl (fun u2 M2 => ?_)
          exact zw_ireturn1 (Or.inr rfl) rfl rfl
        refine zw_aload_n (p := 46) (Or.inr rfl) rfl rfl rfl ?_
        refine zw_virtualI (p := 49) (as := [.ref a0]) (rest := []) (Or.inr rfl) rfl rfl rfl rfl rfl rfl rfl (fun u3 M3 => ?_)
        refine zw_goto (t := 59) (Or.inr rfl) rfl rfl ?_
        exact zw_ireturn1 (Or.inr rfl) rfl rfl
      refine zw_aload_n (p := 31) (Or.inr rfl) rfl rfl rfl ?_
      refine zw_get_ref (p := 34) (Or.inr rfl) rfl rfl (fun q1 => ?_)
      refine zw_iconst (p := 35) (x := (0 : Int32)) (Or.inr rfl) rfl rfl rfl ?_
      refine zw_iaload (p := 36) (Or.inr rfl) rfl rfl ?_
      refine zw_goto (t := 59) (Or.inr rfl) rfl rfl ?_
      exact zw_ireturn1 (Or.inr rfl) rfl rfl
    refine zw_aload_n (p := 19) (Or.inr rfl) rfl rfl rfl ?_
    refine zw_get_int (p := 22) (Or.inr rfl) rfl rfl ?_
    refine zw_goto (t := 59) (Or.inr rfl) rfl rfl ?_
    exact zw_ireturn1 (Or.inr rfl) rfl rfl
  refine zw_iconst (p := 13) (x := (-1 : Int32)) (Or.inr rfl) rfl rfl rfl ?_
  exact zw_ireturn1 (Or.inr rfl) rfl rfl
def zx_Mo_failedBy (E : zE0) (K : zKt) (a0 : Nat) (x1 : Int32) (M : zM) : zO :=
  K 4 [some (.ref a0), some (.int x1), some (.int (0 : Int32)), some (.int (0 : Int32)), none] [] M
set_option maxRecDepth 20000 in
theorem ze_Mo_failedBy (d : Nat) (a0 : Nat) (x1 : Int32) (M : zM) : zV (d + 1) n_Mo_failedBy [.ref a0, .int x1] M = zx_Mo_failedBy (zV d) (zG d n_Mo_failedBy) a0 x1 M := by
  refine (zE_sg (m := zm_Mo_failedBy) rfl 400 _ rfl M).trans ?_
  show zw true zm_Mo_failedBy (zV d) (zG d n_Mo_failedBy) 400 0 [some (.ref a0), some (.int x1), none, none, none] [] M = _
  unfold zx_Mo_failedBy
  refine zw_iconst (p := 1) (x := (0 : Int32)) (Or.inl rfl) rfl rfl rfl ?_
  refine zw_istore_n (p := 2) (l2 := [some (.ref a0), some (.int x1), some (.int (0 : Int32)), none, none]) (Or.inr rfl) rfl rfl rfl rfl ?_
  refine zw_iconst (p := 3) (x := (0 : Int32)) (Or.inr rfl) rfl rfl rfl ?_
  refine zw_istore_n (p := 4) (l2 := [some (.ref a0), some (.int x1), some (.int (0 : Int32)), some (.int (0 : Int32)), none]) (Or.inr rfl) rfl rfl rfl rfl ?_
  exact zw_end rfl rfl
def zx_Mo_failedBy_4 (E : zE0) (K : zKt) (a0 : Nat) (x1 : Int32) (x2 : Int32) (x3 : Int32) (M : zM) : zO :=
  zif ((zK M a0).1 = 11)
  (if (zI M a0 8) ≤ x3 then (some (some (.int x2), M))
  else zif ((zK M a0).1 = 11)
  (zbV (E n_Mo_findsFulfilling [.ref a0, .int x3] M) fun M1 =>
  K 20 [some (.ref a0), some (.int x1), some (.int x2), some (.int x3), some (.int (0 : Int32))] [] M1))
set_option maxRecDepth 20000 in
theorem zg_Mo_failedBy_4 (d : Nat) (a0 : Nat) (x1 : Int32) (x2 : Int32) (x3 : Int32) (M : zM) : zG d n_Mo_failedBy 4 [some (.ref a0), some (.int x1), some (.int x2), some (.int x3), none] [] M = zx_Mo_failedBy_4 (zV d) (zG d n_Mo_failedBy) a0 x1 x2 x3 M := by
  refine (zG_sg (m := zm_Mo_failedBy) rfl 400 _ _ _ M).trans ?_
  show zw true zm_Mo_failedBy (zV d) (zG d n_Mo_failedBy) 400 4 [some (.ref a0), some (.int x1), some (.int x2), some (.int x3), none] [] M = _
  unfold zx_Mo_failedBy_4
  refine zw_iload_n (p := 5) (Or.inl rfl) rfl rfl rfl ?_
  refine zw_aload_n (p := 6) (Or.inr rfl) rfl rfl rfl ?_
  refine zw_get_int (p := 9) (Or.inr rfl) rfl rfl ?_
  refine zw_icmp_ge (t := 72) (p := 12) (Or.inr rfl) rfl rfl rfl ?_ ?_
  · refine zw_iload_n (p := 73) (Or.inr rfl) rfl rfl rfl ?_
    exact zw_ireturn1 (Or.inr rfl) rfl rfl
  refine zw_aload_n (p := 13) (Or.inr rfl) rfl rfl rfl ?_
  refine zw_iload_n (p := 14) (Or.inr rfl) rfl rfl rfl ?_
  refine zw_virtualV (p := 17) (as := [.ref a0, .int x3]) (rest := []) (Or.inr rfl) rfl rfl rfl rfl rfl rfl rfl (fun M1 => ?_)
  refine zw_iconst (p := 18) (x := (0 : Int32)) (Or.inr rfl) rfl rfl rfl ?_
  refine zw_istore (p := 20) (l2 := [some (.ref a0), some (.int x1), some (.int x2), some (.int x3), some (.int (0 : Int32))]) (Or.inr rfl) rfl rfl rfl rfl ?_
  exact zw_end rfl rfl
def zx_Mo_failedBy_20 (E : zE0) (K : zKt) (a0 : Nat) (x1 : Int32) (x2 : Int32) (x3 : Int32) (x4 : Int32) (M : zM) : zO :=
  if x1 < x4 then (zbi (x3 + (1 : Int32)) fun u1 =>
    K 4 [some (.ref a0), some (.int x1), some (.int x2), some (.int u1), none] [] M)
  else zif ((zK M a0).1 = 11)
  (zbV (E n_Mo_goesThrough [.ref a0, .int x3, .int x4] M) fun M1 =>
  zif ((zK M1 a0).1 = 11)
  (if (zI M1 a0 45) ≠ (2 : Int32) then (zbI (E n_Mo_flag [.int (0 : Int32)] M1) fun u2 M2 =>
    zbi (x2 + u2) fun u3 =>
    zbi (x4 + (1 : Int32)) fun u4 =>
    K 20 [some (.ref a0), some (.int x1), some (.int u3), some (.int x3), some (.int u4)] [] M2)
  else zif ((zK M1 a0).1 = 11)
  (if (zI M1 a0 46) ≠ x1 then (zbI (E n_Mo_flag [.int (0 : Int32)] M1) fun u5 M3 =>
    zbi (x2 + u5) fun u6 =>
    zbi (x4 + (1 : Int32)) fun u7 =>
    K 20 [some (.ref a0), some (.int x1), some (.int u6), some (.int x3), some (.int u7)] [] M3)
  else zbI (E n_Mo_flag [.int (1 : Int32)] M1) fun u8 M4 =>
  zbi (x2 + u8) fun u9 =>
  zbi (x4 + (1 : Int32)) fun u10 =>
  K 20 [some (.ref a0), some (.int x1), some (.int u9), some (.int x3), some (.int u10)] [] M4)))
set_option maxRecDepth 20000 in
theorem zg_Mo_failedBy_20 (d : Nat) (a0 : Nat) (x1 : Int32) (x2 : Int32) (x3 : Int32) (x4 : Int32) (M : zM) : zG d n_Mo_failedBy 20 [some (.ref a0), some (.int x1), some (.int x2), some (.int x3), some (.int x4)] [] M = zx_Mo_failedBy_20 (zV d) (zG d n_Mo_failedBy) a0 x1 x2 x3 x4 M := by
  refine (zG_sg (m := zm_Mo_failedBy) rfl 400 _ _ _ M).trans ?_
  show zw true zm_Mo_failedBy (zV d) (zG d n_Mo_failedBy) 400 20 [some (.ref a0), some (.int x1), some (.int x2), some (.int x3), some (.int x4)] [] M = _
  unfold zx_Mo_failedBy_20
  refine zw_iload (p := 22) (Or.inl rfl) rfl rfl rfl ?_
  refine zw_iload_n (p := 23) (Or.inr rfl) rfl rfl rfl ?_
  refine zw_icmp_gt (t := 66) (p := 26) (Or.inr rfl) rfl rfl rfl ?_ ?_
  · refine zw_iinc (p := 69) (c := (1 : Int32)) (L2 := fun u1 => [some (.ref a0), some (.int x1), some (.int x2), some (.int u1), some (.int x4)]) (Or.inr rfl) rfl rfl rfl rfl (fun _ => rfl) rfl (fun u1 => ?_)
    refine zw_goto (t := 4) (Or.inr rfl) rfl rfl ?_
    exact zw_end rfl rfl
  refine zw_aload_n (p := 27) (Or.inr rfl) rfl rfl rfl ?_
  refine zw_iload_n (p := 28) (Or.inr rfl) rfl rfl rfl ?_
  refine zw_iload (p := 30) (Or.inr rfl) rfl rfl rfl ?_
  refine zw_virtualV (p := 33) (as := [.ref a0, .int x3, .int x4]) (rest := []) (Or.inr rfl) rfl rfl rfl rfl rfl rfl rfl (fun M1 => ?_)
  refine zw_iload_n (p := 34) (Or.inr rfl) rfl rfl rfl ?_
  refine zw_aload_n (p := 35) (Or.inr rfl) rfl rfl rfl ?_
  refine zw_get_int (p := 38) (Or.inr rfl) rfl rfl ?_
  refine zw_iconst (p := 39) (x := (2 : Int32)) (Or.inr rfl) rfl rfl rfl ?_
  refine zw_icmp_ne (t := 54) (p := 42) (Or.inr rfl) rfl rfl rfl ?_ ?_
  · refine zw_iconst (p := 55) (x := (0 : Int32)) (Or.inr rfl) rfl rfl rfl ?_
    refine zw_staticI (p := 58) (as := [.int (0 : Int32)]) (rest := [.int x2]) (Or.inr rfl) rfl rfl rfl rfl rfl rfl (fun u2 M2 => ?_)
    refine zw_iadd (p := 59) (Or.inr rfl) rfl rfl ?_
    refine zw_istore_nN (p := 60) (L2 := fun u3 => [some (.ref a0), some (.int x1), some (.int u3), some (.int x3), some (.int x4)]) (Or.inr rfl) rfl rfl (fun _ => rfl) rfl (fun u3 => ?_)
    refine zw_iinc (p := 63) (c := (1 : Int32)) (L2 := fun u4 => [some (.ref a0), some (.int x1), some (.int u3), some (.int x3), some (.int u4)]) (Or.inr rfl) rfl rfl rfl rfl (fun _ => rfl) rfl (fun u4 => ?_)
    refine zw_goto (t := 20) (Or.inr rfl) rfl rfl ?_
    exact zw_end rfl rfl
  refine zw_aload_n (p := 43) (Or.inr rfl) rfl rfl rfl ?_
  refine zw_get_int (p := 46) (Or.inr rfl) rfl rfl ?_
  refine zw_iload_n (p := 47) (Or.inr rfl) rfl rfl rfl ?_
  refine zw_icmp_ne (t := 54) (p := 50) (Or.inr rfl) rfl rfl rfl ?_ ?_
  · refine zw_iconst (p := 55) (x := (0 : Int32)) (Or.inr rfl) rfl rfl rfl ?_
    refine zw_staticI (p := 58) (as := [.int (0 : Int32)]) (rest := [.int x2]) (Or.inr rfl) rfl rfl rfl rfl rfl rfl (fun u5 M3 => ?_)
    refine zw_iadd (p := 59) (Or.inr rfl) rfl rfl ?_
    refine zw_istore_nN (p := 60) (L2 := fun u6 => [some (.ref a0), some (.int x1), some (.int u6), some (.int x3), some (.int x4)]) (Or.inr rfl) rfl rfl (fun _ => rfl) rfl (fun u6 => ?_)
    refine zw_iinc (p := 63) (c := (1 : Int32)) (L2 := fun u7 => [some (.ref a0), some (.int x1), some (.int u6), some (.int x3), some (.int u7)]) (Or.inr rfl) rfl rfl rfl rfl (fun _ => rfl) rfl (fun u7 => ?_)
    refine zw_goto (t := 20) (Or.inr rfl) rfl rfl ?_
    exact zw_end rfl rfl
  refine zw_iconst (p := 51) (x := (1 : Int32)) (Or.inr rfl) rfl rfl rfl ?_
  refine zw_goto (t := 55) (Or.inr rfl) rfl rfl ?_
  refine zw_staticI (p := 58) (as := [.int (1 : Int32)]) (rest := [.int x2]) (Or.inr rfl) rfl rfl rfl rfl rfl rfl (fun u8 M4 => ?_)
  refine zw_iadd (p := 59) (Or.inr rfl) rfl rfl ?_
  refine zw_istore_nN (p := 60) (L2 := fun u9 => [some (.ref a0), some (.int x1), some (.int u9), some (.int x3), some (.int x4)]) (Or.inr rfl) rfl rfl (fun _ => rfl) rfl (fun u9 => ?_)
  refine zw_iinc (p := 63) (c := (1 : Int32)) (L2 := fun u10 => [some (.ref a0), some (.int x1), some (.int u9), some (.int x3), some (.int u10)]) (Or.inr rfl) rfl rfl rfl rfl (fun _ => rfl) rfl (fun u10 => ?_)
  refine zw_goto (t := 20) (Or.inr rfl) rfl rfl ?_
  exact zw_end rfl rfl
def zx_Mo_tick (E : zE0) (K : zKt) (a0 : Nat) (x1 : Int32) (M : zM) : zO :=
  zbI (E n_Mo_areBits [.int x1] M) fun u1 M1 =>
  if u1 ≠ 0 then (zif ((zK M1 a0).1 = 11)
    (zoR (zR M1 a0 9) fun q1 =>
    zif (((zK M1 q1).1 = 20 ∨ (zK M1 q1).1 = 24) ∧ zin (0 : Int32) (zK M1 q1).2 = true)
    (if (zI M1 q1 (Int32.toNatClampNeg (0 : Int32))) ≠ (48 : Int32) then (zif ((zK M1 a0).1 = 11)
      (zoR (zR M1 a0 9) fun q2 =>
      zif ((zK M1 a0).1 = 11)
      (zoR (zR M1 a0 9) fun q3 =>
      zif (((zK M1 q3).1 = 20 ∨ (zK M1 q3).1 = 24) ∧ zin (0 : Int32) (zK M1 q3).2 = true)
      (zif ((zK M1 q2).1 = 20 ∧ zin ((1 : Int32) + (zI M1 q3 (Int32.toNatClampNeg (0 : Int32)))) (zK M1 q2).2 = true)
      (zbm (zsI M1 q2 (Int32.toNatClampNeg ((1 : Int32) + (zI M1 q3 (Int32.toNatClampNeg (0 : Int32))))) x1) fun M2 =>
      zif ((zK M2 a0).1 = 11)
      (zoR (zR M2 a0 9) fun q4 =>
      zif (((zK M2 q4).1 = 20 ∨ (zK M2 q4).1 = 24) ∧ zin (0 : Int32) (zK M2 q4).2 = true)
      (zif ((zK M2 q4).1 = 20 ∧ zin (0 : Int32) (zK M2 q4).2 = true)
      (zbm (zsI M2 q4 (Int32.toNatClampNeg (0 : Int32)) ((zI M2 q4 (Int32.toNatClampNeg (0 : Int32))) + (1 : Int32))) fun M3 =>
      zif ((zK M3 a0).1 = 11)
      (zoR (zR M3 a0 9) fun q5 =>
      zif (((zK M3 q5).1 = 20 ∨ (zK M3 q5).1 = 24) ∧ zin (0 : Int32) (zK M3 q5).2 = true)
      (zif ((zK M3 a0).1 = 11)
      (zbI (E n_Mo_failedBy [.ref a0, .int ((zI M3 q5 (Int32.toNatClampNeg (0 : Int32))) - (1 : Int32))] M3) fun u2 M4 =>
      some (some (.int u2), M4))))))))))))
    else some (some (.int (-3 : Int32)), M1))))
  else some (some (.int (-1 : Int32)), M1)
set_option maxRecDepth 20000 in
theorem ze_Mo_tick (d : Nat) (a0 : Nat) (x1 : Int32) (M : zM) : zV (d + 1) n_Mo_tick [.ref a0, .int x1] M = zx_Mo_tick (zV d) (zG d n_Mo_tick) a0 x1 M := by
  refine (zE_sg (m := zm_Mo_tick) rfl 400 _ rfl M).trans ?_
  show zw true zm_Mo_tick (zV d) (zG d n_Mo_tick) 400 0 [some (.ref a0), some (.int x1)] [] M = _
  unfold zx_Mo_tick
  refine zw_iload_n (p := 1) (Or.inl rfl) rfl rfl rfl ?_
  refine zw_staticI (p := 4) (as := [.int x1]) (rest := []) (Or.inr rfl) rfl rfl rfl rfl rfl rfl (fun u1 M1 => ?_)
  refine zw_if_ne (t := 9) (p := 7) (Or.inr rfl) rfl rfl rfl ?_ ?_
  · refine zw_aload_n (p := 10) (Or.inr rfl) rfl rfl rfl ?_
    refine zw_get_ref (p := 13) (Or.inr rfl) rfl rfl (fun q1 => ?_)
    refine zw_iconst (p := 14) (x := (0 : Int32)) (Or.inr rfl) rfl rfl rfl ?_
    refine zw_iaload (p := 15) (Or.inr rfl) rfl rfl ?_
    refine zw_bipush (p := 17) (x := (48 : Int32)) (Or.inr rfl) rfl rfl rfl ?_
    refine zw_icmp_ne (t := 23) (p := 20) (Or.inr rfl) rfl rfl rfl ?_ ?_
    · refine zw_aload_n (p := 24) (Or.inr rfl) rfl rfl rfl ?_
      refine zw_get_ref (p := 27) (Or.inr rfl) rfl rfl (fun q2 => ?_)
      refine zw_iconst (p := 28) (x := (1 : Int32)) (Or.inr rfl) rfl rfl rfl ?_
      refine zw_aload_n (p := 29) (Or.inr rfl) rfl rfl rfl ?_
      refine zw_get_ref (p := 32) (Or.inr rfl) rfl rfl (fun q3 => ?_)
      refine zw_iconst (p := 33) (x := (0 : Int32)) (Or.inr rfl) rfl rfl rfl ?_
      refine zw_iaload (p := 34) (Or.inr rfl) rfl rfl ?_
      refine zw_iadd (p := 35) (Or.inr rfl) rfl rfl ?_
      refine zw_iload_n (p := 36) (Or.inr rfl) rfl rfl rfl ?_
      refine zw_iastore (p := 37) (Or.inr rfl) rfl rfl (fun M2 => ?_)
      refine zw_aload_n (p := 38) (Or.inr rfl) rfl rfl rfl ?_
      refine zw_get_ref (p := 41) (Or.inr rfl) rfl rfl (fun q4 => ?_)
      refine zw_iconst (p := 42) (x := (0 : Int32)) (Or.inr rfl) rfl rfl rfl ?_
      refine zw_dup2_ir (p := 43) (Or.inr rfl) rfl rfl ?_
      refine zw_iaload (p := 44) (Or.inr rfl) rfl rfl ?_
      refine zw_iconst (p := 45) (x := (1 : Int32)) (Or.inr rfl) rfl rfl rfl ?_
      refine zw_iadd (p := 46) (Or.inr rfl) rfl rfl ?_
      refine zw_iastore (p := 47) (Or.inr rfl) rfl rfl (fun M3 => ?_)
      refine zw_aload_n (p := 48) (Or.inr rfl) rfl rfl rfl ?_
      refine zw_aload_n (p := 49) (Or.inr rfl) rfl rfl rfl ?_
      refine zw_get_ref (p := 52) (Or.inr rfl) rfl rfl (fun q5 => ?_)
      refine zw_iconst (p := 53) (x := (0 : Int32)) (Or.inr rfl) rfl rfl rfl ?_
      refine zw_iaload (p := 54) (Or.inr rfl) rfl rfl ?_
      refine zw_iconst (p := 55) (x := (1 : Int32)) (Or.inr rfl) rfl rfl rfl ?_
      refine zw_isub (p := 56) (Or.inr rfl) rfl rfl ?_
      refine zw_virtualI (p := 59) (as := [.ref a0, .int ((zI M3 q5 (Int32.toNatClampNeg (0 : Int32))) - (1 : Int32))]) (rest := []) (Or.inr rfl) rfl rfl rfl rfl rfl rfl rfl (fun u2 M4 => ?_)
      exact zw_ireturn1 (Or.inr rfl) rfl rfl
    refine zw_bipush (p := 22) (x := (-3 : Int32)) (Or.inr rfl) rfl rfl rfl ?_
    exact zw_ireturn1 (Or.inr rfl) rfl rfl
  refine zw_iconst (p := 8) (x := (-1 : Int32)) (Or.inr rfl) rfl rfl rfl ?_
  exact zw_ireturn1 (Or.inr rfl) rfl rfl
def zx_Mo_bits (E : zE0) (K : zKt) (a0 : Nat) (x1 : Int32) (M : zM) : zO :=
  zif ((zK M a0).1 = 11)
  (zbI (E n_Mo_isTick [.ref a0, .int x1] M) fun u1 M1 =>
  if u1 = 0 then (some (some (.int (-1 : Int32)), M1))
  else zif ((zK M1 a0).1 = 11)
  (zoR (zR M1 a0 9) fun q1 =>
  zif (((zK M1 q1).1 = 20 ∨ (zK M1 q1).1 = 24) ∧ zin ((1 : Int32) + x1) (zK M1 q1).2 = true)
  (some (some (.int (zI M1 q1 (Int32.toNatClampNeg ((1 : Int32) + x1)))), M1))))
set_option maxRecDepth 20000 in
theorem ze_Mo_bits (d : Nat) (a0 : Nat) (x1 : Int32) (M : zM) : zV (d + 1) n_Mo_bits [.ref a0, .int x1] M = zx_Mo_bits (zV d) (zG d n_Mo_bits) a0 x1 M := by
  refine (zE_sg (m := zm_Mo_bits) rfl 400 _ rfl M).trans ?_
  show zw true zm_Mo_bits (zV d) (zG d n_Mo_bits) 400 0 [some (.ref a0), some (.int x1)] [] M = _
  unfold zx_Mo_bits
  refine zw_aload_n (p := 1) (Or.inl rfl) rfl rfl rfl ?_
  refine zw_iload_n (p := 2) (Or.inr rfl) rfl rfl rfl ?_
  refine zw_virtualI (p := 5) (as := [.ref a0, .int x1]) (rest := []) (Or.inr rfl) rfl rfl rfl rfl rfl rfl rfl (fun u1 M1 => ?_)
  refine zw_if_eq (t := 19) (p := 8) (Or.inr rfl) rfl rfl rfl ?_ ?_
  · refine zw_iconst (p := 20) (x := (-1 : Int32)) (Or.inr rfl) rfl rfl rfl ?_
    exact zw_ireturn1 (Or.inr rfl) rfl rfl
  refine zw_aload_n (p := 9) (Or.inr rfl) rfl rfl rfl ?_
  refine zw_get_ref (p := 12) (Or.inr rfl) rfl rfl (fun q1 => ?_)
  refine zw_iconst (p := 13) (x := (1 : Int32)) (Or.inr rfl) rfl rfl rfl ?_
  refine zw_iload_n (p := 14) (Or.inr rfl) rfl rfl rfl ?_
  refine zw_iadd (p := 15) (Or.inr rfl) rfl rfl ?_
  refine zw_iaload (p := 16) (Or.inr rfl) rfl rfl ?_
  refine zw_goto (t := 20) (Or.inr rfl) rfl rfl ?_
  exact zw_ireturn1 (Or.inr rfl) rfl rfl
def zx_Mo_put (E : zE0) (K : zKt) (a0 : Nat) (x1 : Int32) (x2 : Int32) (M : zM) : zO :=
  zif ((zK M a0).1 = 11)
  (zbI (E n_Mo_isTick [.ref a0, .int x1] M) fun u1 M1 =>
  if u1 = 0 then (some (some (.int (-1 : Int32)), M1))
  else zbI (E n_Mo_areBits [.int x2] M1) fun u2 M2 =>
  if u2 ≠ 0 then (zif ((zK M2 a0).1 = 11)
    (zoR (zR M2 a0 9) fun q1 =>
    zif (((zK M2 q1).1 = 20 ∨ (zK M2 q1).1 = 24) ∧ zin ((1 : Int32) + x1) (zK M2 q1).2 = true)
    (zbi (zI M2 q1 (Int32.toNatClampNeg ((1 : Int32) + x1))) fun u3 =>
    zif ((zK M2 a0).1 = 11)
    (zoR (zR M2 a0 9) fun q2 =>
    zif ((zK M2 q2).1 = 20 ∧ zin ((1 : Int32) + x1) (zK M2 q2).2 = true)
    (zbm (zsI M2 q2 (Int32.toNatClampNeg ((1 : Int32) + x1)) x2) fun M3 =>
    some (some (.int u3), M3))))))
  else some (some (.int (-1 : Int32)), M2))
set_option maxRecDepth 20000 in
theorem ze_Mo_put (d : Nat) (a0 : Nat) (x1 : Int32) (x2 : Int32) (M : zM) : zV (d + 1) n_Mo_put [.ref a0, .int x1, .int x2] M = zx_Mo_put (zV d) (zG d n_Mo_put) a0 x1 x2 M := by
  refine (zE_sg (m := zm_Mo_put) rfl 400 _ rfl M).trans ?_
  show zw true zm_Mo_put (zV d) (zG d n_Mo_put) 400 0 [some (.ref a0), some (.int x1), some (.int x2), none] [] M = _
  unfold zx_Mo_put
  refine zw_aload_n (p := 1) (Or.inl rfl) rfl rfl rfl ?_
  refine zw_iload_n (p := 2) (Or.inr rfl) rfl rfl rfl ?_
  refine zw_virtualI (p := 5) (as := [.ref a0, .int x1]) (rest := []) (Or.inr rfl) rfl rfl rfl rfl rfl rfl rfl (fun u1 M1 => ?_)
  refine zw_if_eq (t := 15) (p := 8) (Or.inr rfl) rfl rfl rfl ?_ ?_
  · refine zw_iconst (p := 16) (x := (-1 : Int32)) (Or.inr rfl) rfl rfl rfl ?_
    exact zw_ireturn1 (Or.inr rfl) rfl rfl
  refine zw_iload_n (p := 9) (Or.inr rfl) rfl rfl rfl ?_
  refine zw_staticI (p := 12) (as := [.int x2]) (rest := []) (Or.inr rfl) rfl rfl rfl rfl rfl rfl (fun u2 M2 => ?_)
  refine zw_if_ne (t := 17) (p := 15) (Or.inr rfl) rfl rfl rfl ?_ ?_
  · refine zw_aload_n (p := 18) (Or.inr rfl) rfl rfl rfl ?_
    refine zw_get_ref (p := 21) (Or.inr rfl) rfl rfl (fun q1 => ?_)
    refine zw_iconst (p := 22) (x := (1 : Int32)) (Or.inr rfl) rfl rfl rfl ?_
    refine zw_iload_n (p := 23) (Or.inr rfl) rfl rfl rfl ?_
    refine zw_iadd (p := 24) (Or.inr rfl) rfl rfl ?_
    refine zw_iaload (p := 25) (Or.inr rfl) rfl rfl ?_
    refine zw_istore_nN (p := 26) (L2 := fun u3 => [some (.ref a0), some (.int x1), some (.int x2), some (.int u3)]) (Or.inr rfl) rfl rfl (fun _ => rfl) rfl (fun u3 => ?_)
    refine zw_aload_n (p := 27) (Or.inr rfl) rfl rfl rfl ?_
    refine zw_get_ref (p := 30) (Or.inr rfl) rfl rfl (fun q2 => ?_)
    refine zw_iconst (p := 31) (x := (1 : Int32)) (Or.inr rfl) rfl rfl rfl ?_
    refine zw_iload_n (p := 32) (Or.inr rfl) rfl rfl rfl ?_
    refine zw_iadd (p := 33) (Or.inr rfl) rfl rfl ?_
    refine zw_iload_n (p := 34) (Or.inr rfl) rfl rfl rfl ?_
    refine zw_iastore (p := 35) (Or.inr rfl) rfl rfl (fun M3 => ?_)
    refine zw_iload_n (p := 36) (Or.inr rfl) rfl rfl rfl ?_
    exact zw_ireturn1 (Or.inr rfl) rfl rfl
  refine zw_iconst (p := 16) (x := (-1 : Int32)) (Or.inr rfl) rfl rfl rfl ?_
  exact zw_ireturn1 (Or.inr rfl) rfl rfl
def zx_Mo_keeps (E : zE0) (K : zKt) (a0 : Nat) (x1 : Int32) (M : zM) : zO :=
  zif ((zK M a0).1 = 11)
  (zoR (zR M a0 9) fun q1 =>
  zif (((zK M q1).1 = 20 ∨ (zK M q1).1 = 24) ∧ zin (0 : Int32) (zK M q1).2 = true)
  (zbI (E n_Mo_in [.long (Int32.toInt64 x1), .long (0 : Int64), .long (Int32.toInt64 (zI M q1 (Int32.toNatClampNeg (0 : Int32))))] M) fun u1 M1 =>
  if u1 ≠ 0 then (zif ((zK M1 a0).1 = 11)
    (zoR (zR M1 a0 9) fun q2 =>
    zif (((zK M1 q2).1 = 20 ∨ (zK M1 q2).1 = 24) ∧ zin (0 : Int32) (zK M1 q2).2 = true)
    (zbi (zI M1 q2 (Int32.toNatClampNeg (0 : Int32))) fun u2 =>
    zif ((zK M1 a0).1 = 11)
    (zoR (zR M1 a0 9) fun q3 =>
    zif ((zK M1 q3).1 = 20 ∧ zin (0 : Int32) (zK M1 q3).2 = true)
    (zbm (zsI M1 q3 (Int32.toNatClampNeg (0 : Int32)) x1) fun M2 =>
    some (some (.int u2), M2))))))
  else some (some (.int (-1 : Int32)), M1)))
set_option maxRecDepth 20000 in
theorem ze_Mo_keeps (d : Nat) (a0 : Nat) (x1 : Int32) (M : zM) : zV (d + 1) n_Mo_keeps [.ref a0, .int x1] M = zx_Mo_keeps (zV d) (zG d n_Mo_keeps) a0 x1 M := by
  refine (zE_sg (m := zm_Mo_keeps) rfl 400 _ rfl M).trans ?_
  show zw true zm_Mo_keeps (zV d) (zG d n_Mo_keeps) 400 0 [some (.ref a0), some (.int x1), none] [] M = _
  unfold zx_Mo_keeps
  refine zw_iload_n (p := 1) (Or.inl rfl) rfl rfl rfl ?_
  refine zw_i2l (p := 2) (Or.inr rfl) rfl rfl ?_
  refine zw_lconst (p := 3) (x := (0 : Int64)) (Or.inr rfl) rfl rfl rfl ?_
  refine zw_aload_n (p := 4) (Or.inr rfl) rfl rfl rfl ?_
  refine zw_get_ref (p := 7) (Or.inr rfl) rfl rfl (fun q1 => ?_)
  refine zw_iconst (p := 8) (x := (0 : Int32)) (Or.inr rfl) rfl rfl rfl ?_
  refine zw_iaload (p := 9) (Or.inr rfl) rfl rfl ?_
  refine zw_i2l (p := 10) (Or.inr rfl) rfl rfl ?_
  refine zw_staticI (p := 13) (as := [.long (Int32.toInt64 x1), .long (0 : Int64), .long (Int32.toInt64 (zI M q1 (Int32.toNatClampNeg (0 : Int32))))]) (rest := []) (Or.inr rfl) rfl rfl rfl rfl rfl rfl (fun u1 M1 => ?_)
  refine zw_if_ne (t := 18) (p := 16) (Or.inr rfl) rfl rfl rfl ?_ ?_
  · refine zw_aload_n (p := 19) (Or.inr rfl) rfl rfl rfl ?_
    refine zw_get_ref (p := 22) (Or.inr rfl) rfl rfl (fun q2 => ?_)
    refine zw_iconst (p := 23) (x := (0 : Int32)) (Or.inr rfl) rfl rfl rfl ?_
    refine zw_iaload (p := 24) (Or.inr rfl) rfl rfl ?_
    refine zw_istore_nN (p := 25) (L2 := fun u2 => [some (.ref a0), some (.int x1), some (.int u2)]) (Or.inr rfl) rfl rfl (fun _ => rfl) rfl (fun u2 => ?_)
    refine zw_aload_n (p := 26) (Or.inr rfl) rfl rfl rfl ?_
    refine zw_get_ref (p := 29) (Or.inr rfl) rfl rfl (fun q3 => ?_)
    refine zw_iconst (p := 30) (x := (0 : Int32)) (Or.inr rfl) rfl rfl rfl ?_
    refine zw_iload_n (p := 31) (Or.inr rfl) rfl rfl rfl ?_
    refine zw_iastore (p := 32) (Or.inr rfl) rfl rfl (fun M2 => ?_)
    refine zw_iload_n (p := 33) (Or.inr rfl) rfl rfl rfl ?_
    exact zw_ireturn1 (Or.inr rfl) rfl rfl
  refine zw_iconst (p := 17) (x := (-1 : Int32)) (Or.inr rfl) rfl rfl rfl ?_
  exact zw_ireturn1 (Or.inr rfl) rfl rfl
def zx_Mo_gets (E : zE0) (K : zKt) (a0 : Nat) (M : zM) : zO :=
  zif ((zK M a0).1 = 11)
  (zif ((zK M a0).1 = 11)
  (zbm (zsI M a0 47 (((zI M a0 47) * (1103515245 : Int32)) + (12345 : Int32))) fun M1 =>
  zif ((zK M1 a0).1 = 11)
  (some (some (.int (((zI M1 a0 47) >>> ((16 : Int32) &&& 31)) &&& (32767 : Int32))), M1))))
set_option maxRecDepth 20000 in
theorem ze_Mo_gets (d : Nat) (a0 : Nat) (M : zM) : zV (d + 1) n_Mo_gets [.ref a0] M = zx_Mo_gets (zV d) (zG d n_Mo_gets) a0 M := by
  refine (zE_sg (m := zm_Mo_gets) rfl 400 _ rfl M).trans ?_
  show zw true zm_Mo_gets (zV d) (zG d n_Mo_gets) 400 0 [some (.ref a0)] [] M = _
  unfold zx_Mo_gets
  refine zw_aload_n (p := 1) (Or.inl rfl) rfl rfl rfl ?_
  refine zw_aload_n (p := 2) (Or.inr rfl) rfl rfl rfl ?_
  refine zw_get_int (p := 5) (Or.inr rfl) rfl rfl ?_
  refine zw_ldc_w (p := 8) (x := (1103515245 : Int32)) (Or.inr rfl) rfl rfl rfl ?_
  refine zw_imul (p := 9) (Or.inr rfl) rfl rfl ?_
  refine zw_sipush (p := 12) (x := (12345 : Int32)) (Or.inr rfl) rfl rfl rfl ?_
  refine zw_iadd (p := 13) (Or.inr rfl) rfl rfl ?_
  refine zw_put_int (p := 16) (Or.inr rfl) rfl rfl (fun M1 => ?_)
  refine zw_aload_n (p := 17) (Or.inr rfl) rfl rfl rfl ?_
  refine zw_get_int (p := 20) (Or.inr rfl) rfl rfl ?_
  refine zw_bipush (p := 22) (x := (16 : Int32)) (Or.inr rfl) rfl rfl rfl ?_
  refine zw_ishr (p := 23) (Or.inr rfl) rfl rfl ?_
  refine zw_sipush (p := 26) (x := (32767 : Int32)) (Or.inr rfl) rfl rfl rfl ?_
  refine zw_iand (p := 27) (Or.inr rfl) rfl rfl ?_
  exact zw_ireturn1 (Or.inr rfl) rfl rfl
def zx_Mo_draw (E : zE0) (K : zKt) (a0 : Nat) (x1 : Int32) (x2 : Int32) (M : zM) : zO :=
  zbI (E n_Mo_in [.long (Int32.toInt64 x2), .long (1 : Int64), .long (20 : Int64)] M) fun u1 M1 =>
  if u1 ≠ 0 then (zif ((zK M1 a0).1 = 11)
    (zoR (zR M1 a0 9) fun q1 =>
    zif (((zK M1 q1).1 = 20 ∨ (zK M1 q1).1 = 24) ∧ zin (0 : Int32) (zK M1 q1).2 = true)
    (if ((zI M1 q1 (Int32.toNatClampNeg (0 : Int32))) + x2) ≤ (48 : Int32) then (zif ((zK M1 a0).1 = 11)
      (zbm (zsI M1 a0 47 x1) fun M2 =>
      K 37 [some (.ref a0), none, some (.int x2), some (.int (0 : Int32)), none] [] M2))
    else some (some (.int (-3 : Int32)), M1))))
  else some (some (.int (-1 : Int32)), M1)
set_option maxRecDepth 20000 in
theorem ze_Mo_draw (d : Nat) (a0 : Nat) (x1 : Int32) (x2 : Int32) (M : zM) : zV (d + 1) n_Mo_draw [.ref a0, .int x1, .int x2] M = zx_Mo_draw (zV d) (zG d n_Mo_draw) a0 x1 x2 M := by
  refine (zE_sg (m := zm_Mo_draw) rfl 400 _ rfl M).trans ?_
  show zw true zm_Mo_draw (zV d) (zG d n_Mo_draw) 400 0 [some (.ref a0), some (.int x1), some (.int x2), none, none] [] M = _
  unfold zx_Mo_draw
  refine zw_iload_n (p := 1) (Or.inl rfl) rfl rfl rfl ?_
  refine zw_i2l (p := 2) (Or.inr rfl) rfl rfl ?_
  refine zw_lconst (p := 3) (x := (1 : Int64)) (Or.inr rfl) rfl rfl rfl ?_
  refine zw_ldc2_w (p := 6) (x := (20 : Int64)) (Or.inr rfl) rfl rfl rfl ?_
  refine zw_staticI (p := 9) (as := [.long (Int32.toInt64 x2), .long (1 : Int64), .long (20 : Int64)]) (rest := []) (Or.inr rfl) rfl rfl rfl rfl rfl rfl (fun u1 M1 => ?_)
  refine zw_if_ne (t := 14) (p := 12) (Or.inr rfl) rfl rfl rfl ?_ ?_
  · refine zw_aload_n (p := 15) (Or.inr rfl) rfl rfl rfl ?_
    refine zw_get_ref (p := 18) (Or.inr rfl) rfl rfl (fun q1 => ?_)
    refine zw_iconst (p := 19) (x := (0 : Int32)) (Or.inr rfl) rfl rfl rfl ?_
    refine zw_iaload (p := 20) (Or.inr rfl) rfl rfl ?_
    refine zw_iload_n (p := 21) (Or.inr rfl) rfl rfl rfl ?_
    refine zw_iadd (p := 22) (Or.inr rfl) rfl rfl ?_
    refine zw_bipush (p := 24) (x := (48 : Int32)) (Or.inr rfl) rfl rfl rfl ?_
    refine zw_icmp_le (t := 30) (p := 27) (Or.inr rfl) rfl rfl rfl ?_ ?_
    · refine zw_aload_n (p := 31) (Or.inr rfl) rfl rfl rfl ?_
      refine zw_iload_n (p := 32) (Or.inr rfl) rfl rfl rfl ?_
      refine zw_put_int (p := 35) (Or.inr rfl) rfl rfl (fun M2 => ?_)
      refine zw_iconst (p := 36) (x := (0 : Int32)) (Or.inr rfl) rfl rfl rfl ?_
      refine zw_istore_n (p := 37) (l2 := [some (.ref a0), some (.int x1), some (.int x2), some (.int (0 : Int32)), none]) (Or.inr rfl) rfl rfl rfl rfl ?_
      exact zw_end rfl rfl
    refine zw_bipush (p := 29) (x := (-3 : Int32)) (Or.inr rfl) rfl rfl rfl ?_
    exact zw_ireturn1 (Or.inr rfl) rfl rfl
  refine zw_iconst (p := 13) (x := (-1 : Int32)) (Or.inr rfl) rfl rfl rfl ?_
  exact zw_ireturn1 (Or.inr rfl) rfl rfl
def zx_Mo_draw_37 (E : zE0) (K : zKt) (a0 : Nat) (x2 : Int32) (x3 : Int32) (M : zM) : zO :=
  if x2 ≤ x3 then (zif ((zK M a0).1 = 11)
    (zoR (zR M a0 9) fun q1 =>
    zif (((zK M q1).1 = 20 ∨ (zK M q1).1 = 24) ∧ zin (0 : Int32) (zK M q1).2 = true)
    (some (some (.int (zI M q1 (Int32.toNatClampNeg (0 : Int32)))), M))))
  else zif ((zK M a0).1 = 11)
  (zbI (E n_Mo_gets [.ref a0] M) fun u1 M1 =>
  zif (¬ (256 : Int32) = 0) (zbi (u1 - u1 / (256 : Int32) * (256 : Int32)) fun u2 =>
  zif ((zK M1 a0).1 = 11)
  (zoR (zR M1 a0 9) fun q2 =>
  zif ((zK M1 a0).1 = 11)
  (zoR (zR M1 a0 9) fun q3 =>
  zif (((zK M1 q3).1 = 20 ∨ (zK M1 q3).1 = 24) ∧ zin (0 : Int32) (zK M1 q3).2 = true)
  (zif ((zK M1 a0).1 = 11)
  (zbI (E n_Mo_gets [.ref a0] M1) fun u3 M2 =>
  zif (¬ (256 : Int32) = 0) (zif ((zK M2 q2).1 = 20 ∧ zin ((1 : Int32) + (zI M1 q3 (Int32.toNatClampNeg (0 : Int32)))) (zK M2 q2).2 = true)
  (zbm (zsI M2 q2 (Int32.toNatClampNeg ((1 : Int32) + (zI M1 q3 (Int32.toNatClampNeg (0 : Int32))))) (u2 &&& (u3 - u3 / (256 : Int32) * (256 : Int32)))) fun M3 =>
  zif ((zK M3 a0).1 = 11)
  (zoR (zR M3 a0 9) fun q4 =>
  zif (((zK M3 q4).1 = 20 ∨ (zK M3 q4).1 = 24) ∧ zin (0 : Int32) (zK M3 q4).2 = true)
  (zif ((zK M3 q4).1 = 20 ∧ zin (0 : Int32) (zK M3 q4).2 = true)
  (zbm (zsI M3 q4 (Int32.toNatClampNeg (0 : Int32)) ((zI M3 q4 (Int32.toNatClampNeg (0 : Int32))) + (1 : Int32))) fun M4 =>
  zbi (x3 + (1 : Int32)) fun u4 =>
  K 37 [some (.ref a0), none, some (.int x2), some (.int u4), none] [] M4)))))))))))
set_option maxRecDepth 20000 in
theorem zg_Mo_draw_37 (d : Nat) (a0 : Nat) (x2 : Int32) (x3 : Int32) (M : zM) : zG d n_Mo_draw 37 [some (.ref a0), none, some (.int x2), some (.int x3), none] [] M = zx_Mo_draw_37 (zV d) (zG d n_Mo_draw) a0 x2 x3 M := by
  refine (zG_sg (m := zm_Mo_draw) rfl 400 _ _ _ M).trans ?_
  show zw true zm_Mo_draw (zV d) (zG d n_Mo_draw) 400 37 [some (.ref a0), none, some (.int x2), some (.int x3), none] [] M = _
  unfold zx_Mo_draw_37
  refine zw_iload_n (p := 38) (Or.inl rfl) rfl rfl rfl ?_
  refine zw_iload_n (p := 39) (Or.inr rfl) rfl rfl rfl ?_
  refine zw_icmp_ge (t := 92) (p := 42) (Or.inr rfl) rfl rfl rfl ?_ ?_
  · refine zw_aload_n (p := 93) (Or.inr rfl) rfl rfl rfl ?_
    refine zw_get_ref (p := 96) (Or.inr rfl) rfl rfl (fun q1 => ?_)
    refine zw_iconst (p := 97) (x := (0 : Int32)) (Or.inr rfl) rfl rfl rfl ?_
    refine zw_iaload (p := 98) (Or.inr rfl) rfl rfl ?_
    exact zw_ireturn1 (Or.inr rfl) rfl rfl
  refine zw_aload_n (p := 43) (Or.inr rfl) rfl rfl rfl ?_
  refine zw_virtualI (p := 46) (as := [.ref a0]) (rest := []) (Or.inr rfl) rfl rfl rfl rfl rfl rfl rfl (fun u1 M1 => ?_)
  refine zw_sipush (p := 49) (x := (256 : Int32)) (Or.inr rfl) rfl rfl rfl ?_
  refine zw_irem (p := 50) (Or.inr rfl) rfl rfl ?_
  refine zw_istoreN (p := 52) (L2 := fun u2 => [some (.ref a0), none, some (.int x2), some (.int x3), some (.int u2)]) (Or.inr rfl) rfl rfl (fun _ => rfl) rfl (fun u2 => ?_)
  refine zw_aload_n (p := 53) (Or.inr rfl) rfl rfl rfl ?_
  refine zw_get_ref (p := 56) (Or.inr rfl) rfl rfl (fun q2 => ?_)
  refine zw_iconst (p := 57) (x := (1 : Int32)) (Or.inr rfl) rfl rfl rfl ?_
  refine zw_aload_n (p := 58) (Or.inr rfl) rfl rfl rfl ?_
  refine zw_get_ref (p := 61) (Or.inr rfl) rfl rfl (fun q3 => ?_)
  refine zw_iconst (p := 62) (x := (0 : Int32)) (Or.inr rfl) rfl rfl rfl ?_
  refine zw_iaload (p := 63) (Or.inr rfl) rfl rfl ?_
  refine zw_iadd (p := 64) (Or.inr rfl) rfl rfl ?_
  refine zw_iload (p := 66) (Or.inr rfl) rfl rfl rfl ?_
  refine zw_aload_n (p := 67) (Or.inr rfl) rfl rfl rfl ?_
  refine zw_virtualI (p := 70) (as := [.ref a0]) (rest := [.int u2, .int ((1 : Int32) + (zI M1 q3 (Int32.toNatClampNeg (0 : Int32)))), .ref q2]) (Or.inr rfl) rfl rfl rfl rfl rfl rfl rfl (fun u3 M2 => ?_)
  refine zw_sipush (p := 73) (x := (256 : Int32)) (Or.inr rfl) rfl rfl rfl ?_
  refine zw_irem (p := 74) (Or.inr rfl) rfl rfl ?_
  refine zw_iand (p := 75) (Or.inr rfl) rfl rfl ?_
  refine zw_iastore (p := 76) (Or.inr rfl) rfl rfl (fun M3 => ?_)
  refine zw_aload_n (p := 77) (Or.inr rfl) rfl rfl rfl ?_
  refine zw_get_ref (p := 80) (Or.inr rfl) rfl rfl (fun q4 => ?_)
  refine zw_iconst (p := 81) (x := (0 : Int32)) (Or.inr rfl) rfl rfl rfl ?_
  refine zw_dup2_ir (p := 82) (Or.inr rfl) rfl rfl ?_
  refine zw_iaload (p := 83) (Or.inr rfl) rfl rfl ?_
  refine zw_iconst (p := 84) (x := (1 : Int32)) (Or.inr rfl) rfl rfl rfl ?_
  refine zw_iadd (p := 85) (Or.inr rfl) rfl rfl ?_
  refine zw_iastore (p := 86) (Or.inr rfl) rfl rfl (fun M4 => ?_)
  refine zw_iinc (p := 89) (c := (1 : Int32)) (L2 := fun u4 => [some (.ref a0), none, some (.int x2), some (.int u4), some (.int u2)]) (Or.inr rfl) rfl rfl rfl rfl (fun _ => rfl) rfl (fun u4 => ?_)
  refine zw_goto (t := 37) (Or.inr rfl) rfl rfl ?_
  exact zw_end rfl rfl
def zx_Mo_keep (E : zE0) (K : zKt) (a0 : Nat) (x1 : Int32) (M : zM) : zO :=
  zbI (E n_Mo_in [.long (Int32.toInt64 x1), .long (0 : Int64), .long (1 : Int64)] M) fun u1 M1 =>
  if u1 ≠ 0 then (zif ((zK M1 a0).1 = 11)
    (zoR (zR M1 a0 11) fun q1 =>
    zif (((zK M1 q1).1 = 21 ∨ (zK M1 q1).1 = 22) ∧ zin x1 (zK M1 q1).2 = true)
    (zbI (E n_Mo_flag [.int (zI M1 q1 (Int32.toNatClampNeg x1))] M1) fun u2 M2 =>
    zif ((zK M2 a0).1 = 11)
    (zoR (zR M2 a0 11) fun q2 =>
    zbast M2 q2 x1 (1 : Int32) fun M3 =>
    K 31 [some (.ref a0), some (.int x1), some (.int u2), some (.int (0 : Int32))] [] M3))))
  else some (some (.int (-1 : Int32)), M1)
set_option maxRecDepth 20000 in
theorem ze_Mo_keep (d : Nat) (a0 : Nat) (x1 : Int32) (M : zM) : zV (d + 1) n_Mo_keep [.ref a0, .int x1] M = zx_Mo_keep (zV d) (zG d n_Mo_keep) a0 x1 M := by
  refine (zE_sg (m := zm_Mo_keep) rfl 400 _ rfl M).trans ?_
  show zw true zm_Mo_keep (zV d) (zG d n_Mo_keep) 400 0 [some (.ref a0), some (.int x1), none, none] [] M = _
  unfold zx_Mo_keep
  refine zw_iload_n (p := 1) (Or.inl rfl) rfl rfl rfl ?_
  refine zw_i2l (p := 2) (Or.inr rfl) rfl rfl ?_
  refine zw_lconst (p := 3) (x := (0 : Int64)) (Or.inr rfl) rfl rfl rfl ?_
  refine zw_lconst (p := 4) (x := (1 : Int64)) (Or.inr rfl) rfl rfl rfl ?_
  refine zw_staticI (p := 7) (as := [.long (Int32.toInt64 x1), .long (0 : Int64), .long (1 : Int64)]) (rest := []) (Or.inr rfl) rfl rfl rfl rfl rfl rfl (fun u1 M1 => ?_)
  refine zw_if_ne (t := 12) (p := 10) (Or.inr rfl) rfl rfl rfl ?_ ?_
  · refine zw_aload_n (p := 13) (Or.inr rfl) rfl rfl rfl ?_
    refine zw_get_ref (p := 16) (Or.inr rfl) rfl rfl (fun q1 => ?_)
    refine zw_iload_n (p := 17) (Or.inr rfl) rfl rfl rfl ?_
    refine zw_baload (p := 18) (Or.inr rfl) rfl rfl ?_
    refine zw_staticI (p := 21) (as := [.int (zI M1 q1 (Int32.toNatClampNeg x1))]) (rest := []) (Or.inr rfl) rfl rfl rfl rfl rfl rfl (fun u2 M2 => ?_)
    refine zw_istore_n (p := 22) (l2 := [some (.ref a0), some (.int x1), some (.int u2), none]) (Or.inr rfl) rfl rfl rfl rfl ?_
    refine zw_aload_n (p := 23) (Or.inr rfl) rfl rfl rfl ?_
    refine zw_get_ref (p := 26) (Or.inr rfl) rfl rfl (fun q2 => ?_)
    refine zw_iload_n (p := 27) (Or.inr rfl) rfl rfl rfl ?_
    refine zw_iconst (p := 28) (x := (1 : Int32)) (Or.inr rfl) rfl rfl rfl ?_
    refine zw_bastore (p := 29) (Or.inr rfl) rfl rfl (fun M3 => ?_)
    refine zw_iconst (p := 30) (x := (0 : Int32)) (Or.inr rfl) rfl rfl rfl ?_
    refine zw_istore_n (p := 31) (l2 := [some (.ref a0), some (.int x1), some (.int u2), some (.int (0 : Int32))]) (Or.inr rfl) rfl rfl rfl rfl ?_
    exact zw_end rfl rfl
  refine zw_iconst (p := 11) (x := (-1 : Int32)) (Or.inr rfl) rfl rfl rfl ?_
  exact zw_ireturn1 (Or.inr rfl) rfl rfl
def zx_Mo_keep_31 (E : zE0) (K : zKt) (a0 : Nat) (x1 : Int32) (x2 : Int32) (x3 : Int32) (M : zM) : zO :=
  if (49 : Int32) ≤ x3 then (some (some (.int x2), M))
  else zif ((zK M a0).1 = 11)
  (zoR (zR M a0 10) fun q1 =>
  zif ((zK M a0).1 = 11)
  (zoR (zR M a0 9) fun q2 =>
  zif (((zK M q2).1 = 20 ∨ (zK M q2).1 = 24) ∧ zin x3 (zK M q2).2 = true)
  (zif ((zK M q1).1 = 20 ∧ zin (((49 : Int32) * x1) + x3) (zK M q1).2 = true)
  (zbm (zsI M q1 (Int32.toNatClampNeg (((49 : Int32) * x1) + x3)) (zI M q2 (Int32.toNatClampNeg x3))) fun M1 =>
  zbi (x3 + (1 : Int32)) fun u1 =>
  K 31 [some (.ref a0), some (.int x1), some (.int x2), some (.int u1)] [] M1))))
set_option maxRecDepth 20000 in
theorem zg_Mo_keep_31 (d : Nat) (a0 : Nat) (x1 : Int32) (x2 : Int32) (x3 : Int32) (M : zM) : zG d n_Mo_keep 31 [some (.ref a0), some (.int x1), some (.int x2), some (.int x3)] [] M = zx_Mo_keep_31 (zV d) (zG d n_Mo_keep) a0 x1 x2 x3 M := by
  refine (zG_sg (m := zm_Mo_keep) rfl 400 _ _ _ M).trans ?_
  show zw true zm_Mo_keep (zV d) (zG d n_Mo_keep) 400 31 [some (.ref a0), some (.int x1), some (.int x2), some (.int x3)] [] M = _
  unfold zx_Mo_keep_31
  refine zw_iload_n (p := 32) (Or.inl rfl) rfl rfl rfl ?_
  refine zw_bipush (p := 34) (x := (49 : Int32)) (Or.inr rfl) rfl rfl rfl ?_
  refine zw_icmp_ge (t := 60) (p := 37) (Or.inr rfl) rfl rfl rfl ?_ ?_
  · refine zw_iload_n (p := 61) (Or.inr rfl) rfl rfl rfl ?_
    exact zw_ireturn1 (Or.inr rfl) rfl rfl
  refine zw_aload_n (p := 38) (Or.inr rfl) rfl rfl rfl ?_
  refine zw_get_ref (p := 41) (Or.inr rfl) rfl rfl (fun q1 => ?_)
  refine zw_bipush (p := 43) (x := (49 : Int32)) (Or.inr rfl) rfl rfl rfl ?_
  refine zw_iload_n (p := 44) (Or.inr rfl) rfl rfl rfl ?_
  refine zw_imul (p := 45) (Or.inr rfl) rfl rfl ?_
  refine zw_iload_n (p := 46) (Or.inr rfl) rfl rfl rfl ?_
  refine zw_iadd (p := 47) (Or.inr rfl) rfl rfl ?_
  refine zw_aload_n (p := 48) (Or.inr rfl) rfl rfl rfl ?_
  refine zw_get_ref (p := 51) (Or.inr rfl) rfl rfl (fun q2 => ?_)
  refine zw_iload_n (p := 52) (Or.inr rfl) rfl rfl rfl ?_
  refine zw_iaload (p := 53) (Or.inr rfl) rfl rfl ?_
  refine zw_iastore (p := 54) (Or.inr rfl) rfl rfl (fun M1 => ?_)
  refine zw_iinc (p := 57) (c := (1 : Int32)) (L2 := fun u1 => [some (.ref a0), some (.int x1), some (.int x2), some (.int u1)]) (Or.inr rfl) rfl rfl rfl rfl (fun _ => rfl) rfl (fun u1 => ?_)
  refine zw_goto (t := 31) (Or.inr rfl) rfl rfl ?_
  exact zw_end rfl rfl
def zx_Mo_back (E : zE0) (K : zKt) (a0 : Nat) (x1 : Int32) (M : zM) : zO :=
  zbI (E n_Mo_in [.long (Int32.toInt64 x1), .long (0 : Int64), .long (1 : Int64)] M) fun u1 M1 =>
  if u1 ≠ 0 then (zif ((zK M1 a0).1 = 11)
    (zoR (zR M1 a0 11) fun q1 =>
    zif (((zK M1 q1).1 = 21 ∨ (zK M1 q1).1 = 22) ∧ zin x1 (zK M1 q1).2 = true)
    (if (zI M1 q1 (Int32.toNatClampNeg x1)) ≠ 0 then (K 26 [some (.ref a0), some (.int x1), some (.int (0 : Int32))] [] M1)
    else some (some (.int (-2 : Int32)), M1))))
  else some (some (.int (-1 : Int32)), M1)
set_option maxRecDepth 20000 in
theorem ze_Mo_back (d : Nat) (a0 : Nat) (x1 : Int32) (M : zM) : zV (d + 1) n_Mo_back [.ref a0, .int x1] M = zx_Mo_back (zV d) (zG d n_Mo_back) a0 x1 M := by
  refine (zE_sg (m := zm_Mo_back) rfl 400 _ rfl M).trans ?_
  show zw true zm_Mo_back (zV d) (zG d n_Mo_back) 400 0 [some (.ref a0), some (.int x1), none] [] M = _
  unfold zx_Mo_back
  refine zw_iload_n (p := 1) (Or.inl rfl) rfl rfl rfl ?_
  refine zw_i2l (p := 2) (Or.inr rfl) rfl rfl ?_
  refine zw_lconst (p := 3) (x := (0 : Int64)) (Or.inr rfl) rfl rfl rfl ?_
  refine zw_lconst (p := 4) (x := (1 : Int64)) (Or.inr rfl) rfl rfl rfl ?_
  refine zw_staticI (p := 7) (as := [.long (Int32.toInt64 x1), .long (0 : Int64), .long (1 : Int64)]) (rest := []) (Or.inr rfl) rfl rfl rfl rfl rfl rfl (fun u1 M1 => ?_)
  refine zw_if_ne (t := 12) (p := 10) (Or.inr rfl) rfl rfl rfl ?_ ?_
  · refine zw_aload_n (p := 13) (Or.inr rfl) rfl rfl rfl ?_
    refine zw_get_ref (p := 16) (Or.inr rfl) rfl rfl (fun q1 => ?_)
    refine zw_iload_n (p := 17) (Or.inr rfl) rfl rfl rfl ?_
    refine zw_baload (p := 18) (Or.inr rfl) rfl rfl ?_
    refine zw_if_ne (t := 24) (p := 21) (Or.inr rfl) rfl rfl rfl ?_ ?_
    · refine zw_iconst (p := 25) (x := (0 : Int32)) (Or.inr rfl) rfl rfl rfl ?_
      refine zw_istore_n (p := 26) (l2 := [some (.ref a0), some (.int x1), some (.int (0 : Int32))]) (Or.inr rfl) rfl rfl rfl rfl ?_
      exact zw_end rfl rfl
    refine zw_bipush (p := 23) (x := (-2 : Int32)) (Or.inr rfl) rfl rfl rfl ?_
    exact zw_ireturn1 (Or.inr rfl) rfl rfl
  refine zw_iconst (p := 11) (x := (-1 : Int32)) (Or.inr rfl) rfl rfl rfl ?_
  exact zw_ireturn1 (Or.inr rfl) rfl rfl
def zx_Mo_back_26 (E : zE0) (K : zKt) (a0 : Nat) (x1 : Int32) (x2 : Int32) (M : zM) : zO :=
  if (49 : Int32) ≤ x2 then (zif ((zK M a0).1 = 11)
    (zoR (zR M a0 9) fun q1 =>
    zif (((zK M q1).1 = 20 ∨ (zK M q1).1 = 24) ∧ zin (0 : Int32) (zK M q1).2 = true)
    (some (some (.int (zI M q1 (Int32.toNatClampNeg (0 : Int32)))), M))))
  else zif ((zK M a0).1 = 11)
  (zoR (zR M a0 9) fun q2 =>
  zif ((zK M a0).1 = 11)
  (zoR (zR M a0 10) fun q3 =>
  zif (((zK M q3).1 = 20 ∨ (zK M q3).1 = 24) ∧ zin (((49 : Int32) * x1) + x2) (zK M q3).2 = true)
  (zif ((zK M q2).1 = 20 ∧ zin x2 (zK M q2).2 = true)
  (zbm (zsI M q2 (Int32.toNatClampNeg x2) (zI M q3 (Int32.toNatClampNeg (((49 : Int32) * x1) + x2)))) fun M1 =>
  zbi (x2 + (1 : Int32)) fun u1 =>
  K 26 [some (.ref a0), some (.int x1), some (.int u1)] [] M1))))
set_option maxRecDepth 20000 in
theorem zg_Mo_back_26 (d : Nat) (a0 : Nat) (x1 : Int32) (x2 : Int32) (M : zM) : zG d n_Mo_back 26 [some (.ref a0), some (.int x1), some (.int x2)] [] M = zx_Mo_back_26 (zV d) (zG d n_Mo_back) a0 x1 x2 M := by
  refine (zG_sg (m := zm_Mo_back) rfl 400 _ _ _ M).trans ?_
  show zw true zm_Mo_back (zV d) (zG d n_Mo_back) 400 26 [some (.ref a0), some (.int x1), some (.int x2)] [] M = _
  unfold zx_Mo_back_26
  refine zw_iload_n (p := 27) (Or.inl rfl) rfl rfl rfl ?_
  refine zw_bipush (p := 29) (x := (49 : Int32)) (Or.inr rfl) rfl rfl rfl ?_
  refine zw_icmp_ge (t := 55) (p := 32) (Or.inr rfl) rfl rfl rfl ?_ ?_
  · refine zw_aload_n (p := 56) (Or.inr rfl) rfl rfl rfl ?_
    refine zw_get_ref (p := 59) (Or.inr rfl) rfl rfl (fun q1 => ?_)
    refine zw_iconst (p := 60) (x := (0 : Int32)) (Or.inr rfl) rfl rfl rfl ?_
    refine zw_iaload (p := 61) (Or.inr rfl) rfl rfl ?_
    exact zw_ireturn1 (Or.inr rfl) rfl rfl
  refine zw_aload_n (p := 33) (Or.inr rfl) rfl rfl rfl ?_
  refine zw_get_ref (p := 36) (Or.inr rfl) rfl rfl (fun q2 => ?_)
  refine zw_iload_n (p := 37) (Or.inr rfl) rfl rfl rfl ?_
  refine zw_aload_n (p := 38) (Or.inr rfl) rfl rfl rfl ?_
  refine zw_get_ref (p := 41) (Or.inr rfl) rfl rfl (fun q3 => ?_)
  refine zw_bipush (p := 43) (x := (49 : Int32)) (Or.inr rfl) rfl rfl rfl ?_
  refine zw_iload_n (p := 44) (Or.inr rfl) rfl rfl rfl ?_
  refine zw_imul (p := 45) (Or.inr rfl) rfl rfl ?_
  refine zw_iload_n (p := 46) (Or.inr rfl) rfl rfl rfl ?_
  refine zw_iadd (p := 47) (Or.inr rfl) rfl rfl ?_
  refine zw_iaload (p := 48) (Or.inr rfl) rfl rfl ?_
  refine zw_iastore (p := 49) (Or.inr rfl) rfl rfl (fun M1 => ?_)
  refine zw_iinc (p := 52) (c := (1 : Int32)) (L2 := fun u1 => [some (.ref a0), some (.int x1), some (.int u1)]) (Or.inr rfl) rfl rfl rfl rfl (fun _ => rfl) rfl (fun u1 => ?_)
  refine zw_goto (t := 26) (Or.inr rfl) rfl rfl ?_
  exact zw_end rfl rfl
def zx_Mo_isSheet (E : zE0) (K : zKt) (x0 : Int32) (x1 : Int32) (M : zM) : zO :=
  zbI (E n_Mo_in [.long (Int32.toInt64 x0), .long (0 : Int64), .long (3 : Int64)] M) fun u1 M1 =>
  if u1 = 0 then (zif ((0 : Int32) = 0 ∨ (0 : Int32) = 1) (some (some (.int (0 : Int32)), M1)))
  else zbI (E n_Mo_in [.long (Int32.toInt64 x1), .long (0 : Int64), .long (2 : Int64)] M1) fun u2 M2 =>
  if u2 = 0 then (zif ((0 : Int32) = 0 ∨ (0 : Int32) = 1) (some (some (.int (0 : Int32)), M2)))
  else zif ((1 : Int32) = 0 ∨ (1 : Int32) = 1) (some (some (.int (1 : Int32)), M2))
set_option maxRecDepth 20000 in
theorem ze_Mo_isSheet (d : Nat) (x0 : Int32) (x1 : Int32) (M : zM) : zV (d + 1) n_Mo_isSheet [.int x0, .int x1] M = zx_Mo_isSheet (zV d) (zG d n_Mo_isSheet) x0 x1 M := by
  refine (zE_sg (m := zm_Mo_isSheet) rfl 400 _ rfl M).trans ?_
  show zw true zm_Mo_isSheet (zV d) (zG d n_Mo_isSheet) 400 0 [some (.int x0), some (.int x1)] [] M = _
  unfold zx_Mo_isSheet
  refine zw_iload_n (p := 1) (Or.inl rfl) rfl rfl rfl ?_
  refine zw_i2l (p := 2) (Or.inr rfl) rfl rfl ?_
  refine zw_lconst (p := 3) (x := (0 : Int64)) (Or.inr rfl) rfl rfl rfl ?_
  refine zw_ldc2_w (p := 6) (x := (3 : Int64)) (Or.inr rfl) rfl rfl rfl ?_
  refine zw_staticI (p := 9) (as := [.long (Int32.toInt64 x0), .long (0 : Int64), .long (3 : Int64)]) (rest := []) (Or.inr rfl) rfl rfl rfl rfl rfl rfl (fun u1 M1 => ?_)
  refine zw_if_eq (t := 28) (p := 12) (Or.inr rfl) rfl rfl rfl ?_ ?_
  · refine zw_iconst (p := 29) (x := (0 : Int32)) (Or.inr rfl) rfl rfl rfl ?_
    exact zw_ireturn2 (Or.inr rfl) rfl rfl
  refine zw_iload_n (p := 13) (Or.inr rfl) rfl rfl rfl ?_
  refine zw_i2l (p := 14) (Or.inr rfl) rfl rfl ?_
  refine zw_lconst (p := 15) (x := (0 : Int64)) (Or.inr rfl) rfl rfl rfl ?_
  refine zw_ldc2_w (p := 18) (x := (2 : Int64)) (Or.inr rfl) rfl rfl rfl ?_
  refine zw_staticI (p := 21) (as := [.long (Int32.toInt64 x1), .long (0 : Int64), .long (2 : Int64)]) (rest := []) (Or.inr rfl) rfl rfl rfl rfl rfl rfl (fun u2 M2 => ?_)
  refine zw_if_eq (t := 28) (p := 24) (Or.inr rfl) rfl rfl rfl ?_ ?_
  · refine zw_iconst (p := 29) (x := (0 : Int32)) (Or.inr rfl) rfl rfl rfl ?_
    exact zw_ireturn2 (Or.inr rfl) rfl rfl
  refine zw_iconst (p := 25) (x := (1 : Int32)) (Or.inr rfl) rfl rfl rfl ?_
  refine zw_goto (t := 29) (Or.inr rfl) rfl rfl ?_
  exact zw_ireturn2 (Or.inr rfl) rfl rfl
def zx_Mo_sheet (E : zE0) (K : zKt) (a0 : Nat) (x1 : Int32) (x2 : Int32) (x3 : Int32) (M : zM) : zO :=
  zbI (E n_Mo_isSheet [.int x1, .int x2] M) fun u1 M1 =>
  if u1 = 0 then (some (some (.int (-1 : Int32)), M1))
  else if x3 ≤ (40 : Int32) then (if 0 ≤ x3 then (zif ((zK M1 a0).1 = 11)
      (zoR (zR M1 a0 48) fun q1 =>
      zif ((zK M1 q1).1 = 20 ∧ zin x1 (zK M1 q1).2 = true)
      (zbm (zsI M1 q1 (Int32.toNatClampNeg x1) x2) fun M2 =>
      zif ((zK M2 a0).1 = 11)
      (zoR (zR M2 a0 49) fun q2 =>
      zif ((zK M2 q2).1 = 20 ∧ zin x1 (zK M2 q2).2 = true)
      (zbm (zsI M2 q2 (Int32.toNatClampNeg x1) x3) fun M3 =>
      K 40 [some (.ref a0), some (.int x1), none, none, some (.int (0 : Int32))] [] M3)))))
    else some (some (.int (-14 : Int32)), M1))
  else some (some (.int (-1 : Int32)), M1)
set_option maxRecDepth 20000 in
theorem ze_Mo_sheet (d : Nat) (a0 : Nat) (x1 : Int32) (x2 : Int32) (x3 : Int32) (M : zM) : zV (d + 1) n_Mo_sheet [.ref a0, .int x1, .int x2, .int x3] M = zx_Mo_sheet (zV d) (zG d n_Mo_sheet) a0 x1 x2 x3 M := by
  refine (zE_sg (m := zm_Mo_sheet) rfl 400 _ rfl M).trans ?_
  show zw true zm_Mo_sheet (zV d) (zG d n_Mo_sheet) 400 0 [some (.ref a0), some (.int x1), some (.int x2), some (.int x3), none] [] M = _
  unfold zx_Mo_sheet
  refine zw_iload_n (p := 1) (Or.inl rfl) rfl rfl rfl ?_
  refine zw_iload_n (p := 2) (Or.inr rfl) rfl rfl rfl ?_
  refine zw_staticI (p := 5) (as := [.int x1, .int x2]) (rest := []) (Or.inr rfl) rfl rfl rfl rfl rfl rfl (fun u1 M1 => ?_)
  refine zw_if_eq (t := 14) (p := 8) (Or.inr rfl) rfl rfl rfl ?_ ?_
  · refine zw_iconst (p := 15) (x := (-1 : Int32)) (Or.inr rfl) rfl rfl rfl ?_
    exact zw_ireturn1 (Or.inr rfl) rfl rfl
  refine zw_iload_n (p := 9) (Or.inr rfl) rfl rfl rfl ?_
  refine zw_bipush (p := 11) (x := (40 : Int32)) (Or.inr rfl) rfl rfl rfl ?_
  refine zw_icmp_le (t := 16) (p := 14) (Or.inr rfl) rfl rfl rfl ?_ ?_
  · refine zw_iload_n (p := 17) (Or.inr rfl) rfl rfl rfl ?_
    refine zw_if_ge (t := 23) (p := 20) (Or.inr rfl) rfl rfl rfl ?_ ?_
    · refine zw_aload_n (p := 24) (Or.inr rfl) rfl rfl rfl ?_
      refine zw_get_ref (p := 27) (Or.inr rfl) rfl rfl (fun q1 => ?_)
      refine zw_iload_n (p := 28) (Or.inr rfl) rfl rfl rfl ?_
      refine zw_iload_n (p := 29) (Or.inr rfl) rfl rfl rfl ?_
      refine zw_iastore (p := 30) (Or.inr rfl) rfl rfl (fun M2 => ?_)
      refine zw_aload_n (p := 31) (Or.inr rfl) rfl rfl rfl ?_
      refine zw_get_ref (p := 34) (Or.inr rfl) rfl rfl (fun q2 => ?_)
      refine zw_iload_n (p := 35) (Or.inr rfl) rfl rfl rfl ?_
      refine zw_iload_n (p := 36) (Or.inr rfl) rfl rfl rfl ?_
      refine zw_iastore (p := 37) (Or.inr rfl) rfl rfl (fun M3 => ?_)
      refine zw_iconst (p := 38) (x := (0 : Int32)) (Or.inr rfl) rfl rfl rfl ?_
      refine zw_istore (p := 40) (l2 := [some (.ref a0), some (.int x1), some (.int x2), some (.int x3), some (.int (0 : Int32))]) (Or.inr rfl) rfl rfl rfl rfl ?_
      exact zw_end rfl rfl
    refine zw_bipush (p := 22) (x := (-14 : Int32)) (Or.inr rfl) rfl rfl rfl ?_
    exact zw_ireturn1 (Or.inr rfl) rfl rfl
  refine zw_iconst (p := 15) (x := (-1 : Int32)) (Or.inr rfl) rfl rfl rfl ?_
  exact zw_ireturn1 (Or.inr rfl) rfl rfl
def zx_Mo_sheet_40 (E : zE0) (K : zKt) (a0 : Nat) (x1 : Int32) (x4 : Int32) (M : zM) : zO :=
  if (40 : Int32) ≤ x4 then (some (some (.int (1 : Int32)), M))
  else zif ((zK M a0).1 = 11)
  (zoR (zR M a0 50) fun q1 =>
  zif ((zK M q1).1 = 20 ∧ zin (((40 : Int32) * x1) + x4) (zK M q1).2 = true)
  (zbm (zsI M q1 (Int32.toNatClampNeg (((40 : Int32) * x1) + x4)) (0 : Int32)) fun M1 =>
  zbi (x4 + (1 : Int32)) fun u1 =>
  K 40 [some (.ref a0), some (.int x1), none, none, some (.int u1)] [] M1))
set_option maxRecDepth 20000 in
theorem zg_Mo_sheet_40 (d : Nat) (a0 : Nat) (x1 : Int32) (x4 : Int32) (M : zM) : zG d n_Mo_sheet 40 [some (.ref a0), some (.int x1), none, none, some (.int x4)] [] M = zx_Mo_sheet_40 (zV d) (zG d n_Mo_sheet) a0 x1 x4 M := by
  refine (zG_sg (m := zm_Mo_sheet) rfl 400 _ _ _ M).trans ?_
  show zw true zm_Mo_sheet (zV d) (zG d n_Mo_sheet) 400 40 [some (.ref a0), some (.int x1), none, none, some (.int x4)] [] M = _
  unfold zx_Mo_sheet_40
  refine zw_iload (p := 42) (Or.inl rfl) rfl rfl rfl ?_
  refine zw_bipush (p := 44) (x := (40 : Int32)) (Or.inr rfl) rfl rfl rfl ?_
  refine zw_icmp_ge (t := 66) (p := 47) (Or.inr rfl) rfl rfl rfl ?_ ?_
  · refine zw_iconst (p := 67) (x := (1 : Int32)) (Or.inr rfl) rfl rfl rfl ?_
    exact zw_ireturn1 (Or.inr rfl) rfl rfl
  refine zw_aload_n (p := 48) (Or.inr rfl) rfl rfl rfl ?_
  refine zw_get_ref (p := 51) (Or.inr rfl) rfl rfl (fun q1 => ?_)
  refine zw_bipush (p := 53) (x := (40 : Int32)) (Or.inr rfl) rfl rfl rfl ?_
  refine zw_iload_n (p := 54) (Or.inr rfl) rfl rfl rfl ?_
  refine zw_imul (p := 55) (Or.inr rfl) rfl rfl ?_
  refine zw_iload (p := 57) (Or.inr rfl) rfl rfl rfl ?_
  refine zw_iadd (p := 58) (Or.inr rfl) rfl rfl ?_
  refine zw_iconst (p := 59) (x := (0 : Int32)) (Or.inr rfl) rfl rfl rfl ?_
  refine zw_iastore (p := 60) (Or.inr rfl) rfl rfl (fun M1 => ?_)
  refine zw_iinc (p := 63) (c := (1 : Int32)) (L2 := fun u1 => [some (.ref a0), some (.int x1), none, none, some (.int u1)]) (Or.inr rfl) rfl rfl rfl rfl (fun _ => rfl) rfl (fun u1 => ?_)
  refine zw_goto (t := 40) (Or.inr rfl) rfl rfl ?_
  exact zw_end rfl rfl
def zx_Mo_lay (E : zE0) (K : zKt) (a0 : Nat) (x1 : Int32) (x2 : Int32) (x3 : Int32) (M : zM) : zO :=
  zbI (E n_Mo_isSheet [.int x1, .int (0 : Int32)] M) fun u1 M1 =>
  if u1 ≠ 0 then (zif ((zK M1 a0).1 = 11)
    (zoR (zR M1 a0 48) fun q1 =>
    zif (((zK M1 q1).1 = 20 ∨ (zK M1 q1).1 = 24) ∧ zin x1 (zK M1 q1).2 = true)
    (if (zI M1 q1 (Int32.toNatClampNeg x1)) ≠ (-4 : Int32) then (zif ((zK M1 a0).1 = 11)
      (zoR (zR M1 a0 49) fun q2 =>
      zif (((zK M1 q2).1 = 20 ∨ (zK M1 q2).1 = 24) ∧ zin x1 (zK M1 q2).2 = true)
      (zbI (E n_Mo_in [.long (Int32.toInt64 x2), .long (0 : Int64), .long (Int32.toInt64 ((zI M1 q2 (Int32.toNatClampNeg x1)) - (1 : Int32)))] M1) fun u2 M2 =>
      if u2 ≠ 0 then (zif ((zK M2 a0).1 = 11)
        (zoR (zR M2 a0 50) fun q3 =>
        zif ((zK M2 a0).1 = 11)
        (zoR (zR M2 a0 48) fun q4 =>
        zif (((zK M2 q4).1 = 20 ∨ (zK M2 q4).1 = 24) ∧ zin x1 (zK M2 q4).2 = true)
        (if (zI M2 q4 (Int32.toNatClampNeg x1)) ≠ 0 then (zif ((zK M2 a0).1 = 11)
          (zoR (zR M2 a0 48) fun q5 =>
          zif (((zK M2 q5).1 = 20 ∨ (zK M2 q5).1 = 24) ∧ zin x1 (zK M2 q5).2 = true)
          (if (zI M2 q5 (Int32.toNatClampNeg x1)) ≠ (1 : Int32) then (zif ((zK M2 q3).1 = 20 ∧ zin (((40 : Int32) * x1) + x2) (zK M2 q3).2 = true)
            (zbm (zsI M2 q3 (Int32.toNatClampNeg (((40 : Int32) * x1) + x2)) x3) fun M3 =>
            some (some (.int (1 : Int32)), M3)))
          else zif ((zK M2 q3).1 = 20 ∧ zin (((40 : Int32) * x1) + x2) (zK M2 q3).2 = true)
          (zbm (zsI M2 q3 (Int32.toNatClampNeg (((40 : Int32) * x1) + x2)) (x3 &&& (65535 : Int32))) fun M4 =>
          some (some (.int (1 : Int32)), M4)))))
        else zif ((zK M2 q3).1 = 20 ∧ zin (((40 : Int32) * x1) + x2) (zK M2 q3).2 = true)
        (zbm (zsI M2 q3 (Int32.toNatClampNeg (((40 : Int32) * x1) + x2)) ((Int32.toInt8 x3).toInt32)) fun M5 =>
        some (some (.int (1 : Int32)), M5))))))
      else some (some (.int (-13 : Int32)), M2))))
    else some (some (.int (-11 : Int32)), M1))))
  else some (some (.int (-1 : Int32)), M1)
set_option maxRecDepth 20000 in
theorem ze_Mo_lay (d : Nat) (a0 : Nat) (x1 : Int32) (x2 : Int32) (x3 : Int32) (M : zM) : zV (d + 1) n_Mo_lay [.ref a0, .int x1, .int x2, .int x3] M = zx_Mo_lay (zV d) (zG d n_Mo_lay) a0 x1 x2 x3 M := by
  refine (zE_sg (m := zm_Mo_lay) rfl 400 _ rfl M).trans ?_
  show zw true zm_Mo_lay (zV d) (zG d n_Mo_lay) 400 0 [some (.ref a0), some (.int x1), some (.int x2), some (.int x3)] [] M = _
  unfold zx_Mo_lay
  refine zw_iload_n (p := 1) (Or.inl rfl) rfl rfl rfl ?_
  refine zw_iconst (p := 2) (x := (0 : Int32)) (Or.inr rfl) rfl rfl rfl ?_
  refine zw_staticI (p := 5) (as := [.int x1, .int (0 : Int32)]) (rest := []) (Or.inr rfl) rfl rfl rfl rfl rfl rfl (fun u1 M1 => ?_)
  refine zw_if_ne (t := 10) (p := 8) (Or.inr rfl) rfl rfl rfl ?_ ?_
  · refine zw_aload_n (p := 11) (Or.inr rfl) rfl rfl rfl ?_
    refine zw_get_ref (p := 14) (Or.inr rfl) rfl rfl (fun q1 => ?_)
    refine zw_iload_n (p := 15) (Or.inr rfl) rfl rfl rfl ?_
    refine zw_iaload (p := 16) (Or.inr rfl) rfl rfl ?_
    refine zw_bipush (p := 18) (x := (-4 : Int32)) (Or.inr rfl) rfl rfl rfl ?_
    refine zw_icmp_ne (t := 24) (p := 21) (Or.inr rfl) rfl rfl rfl ?_ ?_
    · refine zw_iload_n (p := 25) (Or.inr rfl) rfl rfl rfl ?_
      refine zw_i2l (p := 26) (Or.inr rfl) rfl rfl ?_
      refine zw_lconst (p := 27) (x := (0 : Int64)) (Or.inr rfl) rfl rfl rfl ?_
      refine zw_aload_n (p := 28) (Or.inr rfl) rfl rfl rfl ?_
      refine zw_get_ref (p := 31) (Or.inr rfl) rfl rfl (fun q2 => ?_)
      refine zw_iload_n (p := 32) (Or.inr rfl) rfl rfl rfl ?_
      refine zw_iaload (p := 33) (Or.inr rfl) rfl rfl ?_
      refine zw_iconst (p := 34) (x := (1 : Int32)) (Or.inr rfl) rfl rfl rfl ?_
      refine zw_isub (p := 35) (Or.inr rfl) rfl rfl ?_
      refine zw_i2l (p := 36) (Or.inr rfl) rfl rfl ?_
      refine zw_staticI (p := 39) (as := [.long (Int32.toInt64 x2), .long (0 : Int64), .long (Int32.toInt64 ((zI M1 q2 (Int32.toNatClampNeg x1)) - (1 : Int32)))]) (rest := []) (Or.inr rfl) rfl rfl rfl rfl rfl rfl (fun u2 M2 => ?_)
      refine zw_if_ne (t := 45) (p := 42) (Or.inr rfl) rfl rfl rfl ?_ ?_
      · refine zw_aload_n (p := 46) (Or.inr rfl) rfl rfl rfl ?_
        refine zw_get_ref (p := 49) (Or.inr rfl) rfl rfl (fun q3 => ?_)
        refine zw_bipush (p := 51) (x := (40 : Int32)) (Or.inr rfl) rfl rfl rfl ?_
        refine zw_iload_n (p := 52) (Or.inr rfl) rfl rfl rfl ?_
        refine zw_imul (p := 53) (Or.inr rfl) rfl rfl ?_
        refine zw_iload_n (p := 54) (Or.inr rfl) rfl rfl rfl ?_
        refine zw_iadd (p := 55) (Or.inr rfl) rfl rfl ?_
        refine zw_aload_n (p := 56) (Or.inr rfl) rfl rfl rfl ?_
        refine zw_get_ref (p := 59) (Or.inr rfl) rfl rfl (fun q4 => ?_)
        refine zw_iload_n (p := 60) (Or.inr rfl) rfl rfl rfl ?_
        refine zw_iaload (p := 61) (Or.inr rfl) rfl rfl ?_
        refine zw_if_ne (t := 69) (p := 64) (Or.inr rfl) rfl rfl rfl ?_ ?_
        · refine zw_aload_n (p := 70) (Or.inr rfl) rfl rfl rfl ?_
          refine zw_get_ref (p := 73) (Or.inr rfl) rfl rfl (fun q5 => ?_)
          refine zw_iload_n (p := 74) (Or.inr rfl) rfl rfl rfl ?_
          refine zw_iaload (p := 75) (Or.inr rfl) rfl rfl ?_
          refine zw_iconst (p := 76) (x := (1 : Int32)) (Or.inr rfl) rfl rfl rfl ?_
          refine zw_icmp_ne (t := 87) (p := 79) (Or.inr rfl) rfl rfl rfl ?_ ?_
          · refine zw_iload_n (p := 88) (Or.inr rfl) rfl rfl rfl ?_
            refine zw_iastore (p := 89) (Or.inr rfl) rfl rfl (fun M3 => ?_)
            refine zw_iconst (p := 90) (x := (1 : Int32)) (Or.inr rfl) rfl rfl rfl ?_
            exact zw_ireturn1 (Or.inr rfl) rfl rfl
          refine zw_iload_n (p := 80) (Or.inr rfl) rfl rfl rfl ?_
          refine zw_ldc_w (p := 83) (x := (65535 : Int32)) (Or.inr rfl) rfl rfl rfl ?_
          refine zw_iand (p := 84) (Or.inr rfl) rfl rfl ?_
          refine zw_goto (t := 88) (Or.inr rfl) rfl rfl ?_
          refine zw_iastore (p := 89) (Or.inr rfl) rfl rfl (fun M4 => ?_)
          refine zw_iconst (p := 90) (x := (1 : Int32)) (Or.inr rfl) rfl rfl rfl ?_
          exact zw_ireturn1 (Or.inr rfl) rfl rfl
        refine zw_iload_n (p := 65) (Or.inr rfl) rfl rfl rfl ?_
        refine zw_i2b (p := 66) (Or.inr rfl) rfl rfl ?_
        refine zw_goto (t := 88) (Or.inr rfl) rfl rfl ?_
        refine zw_iastore (p := 89) (Or.inr rfl) rfl rfl (fun M5 => ?_)
        refine zw_iconst (p := 90) (x := (1 : Int32)) (Or.inr rfl) rfl rfl rfl ?_
        exact zw_ireturn1 (Or.inr rfl) rfl rfl
      refine zw_bipush (p := 44) (x := (-13 : Int32)) (Or.inr rfl) rfl rfl rfl ?_
      exact zw_ireturn1 (Or.inr rfl) rfl rfl
    refine zw_bipush (p := 23) (x := (-11 : Int32)) (Or.inr rfl) rfl rfl rfl ?_
    exact zw_ireturn1 (Or.inr rfl) rfl rfl
  refine zw_iconst (p := 9) (x := (-1 : Int32)) (Or.inr rfl) rfl rfl rfl ?_
  exact zw_ireturn1 (Or.inr rfl) rfl rfl
def zx_Mo_run (E : zE0) (K : zKt) (a0 : Nat) (x1 : Int32) (x2 : Int32) (x3 : Int32) (x4 : Int32) (M : zM) : zO :=
  zbI (E n_Mo_isSheet [.int x1, .int x2] M) fun u1 M1 =>
  if u1 = 0 then (some (some (.int (-1 : Int32)), M1))
  else zbI (E n_Mo_in [.long (Int32.toInt64 x4), .long (0 : Int64), .long (20 : Int64)] M1) fun u2 M2 =>
  if u2 ≠ 0 then (zif ((zK M2 a0).1 = 11)
    (zbm (zsI M2 a0 51 (0 : Int32)) fun M3 =>
    K 31 [some (.ref a0), some (.int x1), some (.int x2), some (.int x3), some (.int x4), some (.int (0 : Int32)), none, none] [] M3))
  else some (some (.int (-1 : Int32)), M2)
set_option maxRecDepth 20000 in
theorem ze_Mo_run (d : Nat) (a0 : Nat) (x1 : Int32) (x2 : Int32) (x3 : Int32) (x4 : Int32) (M : zM) : zV (d + 1) n_Mo_run [.ref a0, .int x1, .int x2, .int x3, .int x4] M = zx_Mo_run (zV d) (zG d n_Mo_run) a0 x1 x2 x3 x4 M := by
  refine (zE_sg (m := zm_Mo_run) rfl 400 _ rfl M).trans ?_
  show zw true zm_Mo_run (zV d) (zG d n_Mo_run) 400 0 [some (.ref a0), some (.int x1), some (.int x2), some (.int x3), some (.int x4), none, none, none] [] M = _
  unfold zx_Mo_run
  refine zw_iload_n (p := 1) (Or.inl rfl) rfl rfl rfl ?_
  refine zw_iload_n (p := 2) (Or.inr rfl) rfl rfl rfl ?_
  refine zw_staticI (p := 5) (as := [.int x1, .int x2]) (rest := []) (Or.inr rfl) rfl rfl rfl rfl rfl rfl (fun u1 M1 => ?_)
  refine zw_if_eq (t := 21) (p := 8) (Or.inr rfl) rfl rfl rfl ?_ ?_
  · refine zw_iconst (p := 22) (x := (-1 : Int32)) (Or.inr rfl) rfl rfl rfl ?_
    exact zw_ireturn1 (Or.inr rfl) rfl rfl
  refine zw_iload (p := 10) (Or.inr rfl) rfl rfl rfl ?_
  refine zw_i2l (p := 11) (Or.inr rfl) rfl rfl ?_
  refine zw_lconst (p := 12) (x := (0 : Int64)) (Or.inr rfl) rfl rfl rfl ?_
  refine zw_ldc2_w (p := 15) (x := (20 : Int64)) (Or.inr rfl) rfl rfl rfl ?_
  refine zw_staticI (p := 18) (as := [.long (Int32.toInt64 x4), .long (0 : Int64), .long (20 : Int64)]) (rest := []) (Or.inr rfl) rfl rfl rfl rfl rfl rfl (fun u2 M2 => ?_)
  refine zw_if_ne (t := 23) (p := 21) (Or.inr rfl) rfl rfl rfl ?_ ?_
  · refine zw_iconst (p := 24) (x := (0 : Int32)) (Or.inr rfl) rfl rfl rfl ?_
    refine zw_istore (p := 26) (l2 := [some (.ref a0), some (.int x1), some (.int x2), some (.int x3), some (.int x4), some (.int (0 : Int32)), none, none]) (Or.inr rfl) rfl rfl rfl rfl ?_
    refine zw_aload_n (p := 27) (Or.inr rfl) rfl rfl rfl ?_
    refine zw_iconst (p := 28) (x := (0 : Int32)) (Or.inr rfl) rfl rfl rfl ?_
    refine zw_put_int (p := 31) (Or.inr rfl) rfl rfl (fun M3 => ?_)
    exact zw_end rfl rfl
  refine zw_iconst (p := 22) (x := (-1 : Int32)) (Or.inr rfl) rfl rfl rfl ?_
  exact zw_ireturn1 (Or.inr rfl) rfl rfl
def zx_Mo_run_31 (E : zE0) (K : zKt) (a0 : Nat) (x1 : Int32) (x2 : Int32) (x3 : Int32) (x4 : Int32) (x5 : Int32) (M : zM) : zO :=
  if x4 ≤ x5 then (some (some (.int x5), M))
  else zif ((zK M a0).1 = 11)
  (if (zI M a0 51) ≠ 0 then (some (some (.int x5), M))
  else zif ((zK M a0).1 = 11)
  (zoR (zR M a0 9) fun q1 =>
  zif (((zK M q1).1 = 20 ∨ (zK M q1).1 = 24) ∧ zin (0 : Int32) (zK M q1).2 = true)
  (if (48 : Int32) ≤ (zI M q1 (Int32.toNatClampNeg (0 : Int32))) then (some (some (.int x5), M))
  else zbl ((Int32.toInt64 x3) + (Int32.toInt64 x5)) fun w1 =>
  zif ((zK M a0).1 = 11)
  (zoR (zR M a0 48) fun q2 =>
  zif (((zK M q2).1 = 20 ∨ (zK M q2).1 = 24) ∧ zin x1 (zK M q2).2 = true)
  (if (zI M q2 (Int32.toNatClampNeg x1)) ≠ (-4 : Int32) then (zif ((zK M a0).1 = 11)
    (zoR (zR M a0 48) fun q3 =>
    zif (((zK M q3).1 = 20 ∨ (zK M q3).1 = 24) ∧ zin x1 (zK M q3).2 = true)
    (if (zI M q3 (Int32.toNatClampNeg x1)) = x2 then (zif ((zK M a0).1 = 11)
      (zoR (zR M a0 49) fun q4 =>
      zif (((zK M q4).1 = 20 ∨ (zK M q4).1 = 24) ∧ zin x1 (zK M q4).2 = true)
      (zbI (E n_Mo_in [.long w1, .long (0 : Int64), .long (Int32.toInt64 ((zI M q4 (Int32.toNatClampNeg x1)) - (1 : Int32)))] M) fun u1 M1 =>
      if u1 = 0 then (K 117 [some (.ref a0), some (.int x1), some (.int x2), some (.int x3), some (.int x4), some (.int x5), some (.long w1), none] [.int (3 : Int32), .ref a0] M1)
      else K 117 [some (.ref a0), some (.int x1), some (.int x2), some (.int x3), some (.int x4), some (.int x5), some (.long w1), none] [.int (0 : Int32), .ref a0] M1)))
    else K 117 [some (.ref a0), some (.int x1), some (.int x2), some (.int x3), some (.int x4), some (.int x5), some (.long w1), none] [.int (2 : Int32), .ref a0] M)))
  else K 117 [some (.ref a0), some (.int x1), some (.int x2), some (.int x3), some (.int x4), some (.int x5), some (.long w1), none] [.int (1 : Int32), .ref a0] M)))))
set_option maxRecDepth 20000 in
theorem zg_Mo_run_31 (d : Nat) (a0 : Nat) (x1 : Int32) (x2 : Int32) (x3 : Int32) (x4 : Int32) (x5 : Int32) (M : zM) : zG d n_Mo_run 31 [some (.ref a0), some (.int x1), some (.int x2), some (.int x3), some (.int x4), some (.int x5), none, none] [] M = zx_Mo_run_31 (zV d) (zG d n_Mo_run) a0 x1 x2 x3 x4 x5 M := by
  refine (zG_sg (m := zm_Mo_run) rfl 400 _ _ _ M).trans ?_
  show zw true zm_Mo_run (zV d) (zG d n_Mo_run) 400 31 [some (.ref a0), some (.int x1), some (.int x2), some (.int x3), some (.int x4), some (.int x5), none, none] [] M = _
  unfold zx_Mo_run_31
  refine zw_iload (p := 33) (Or.inl rfl) rfl rfl rfl ?_
  refine zw_iload (p := 35) (Or.inr rfl) rfl rfl rfl ?_
  refine zw_icmp_ge (t := 173) (p := 38) (Or.inr rfl) rfl rfl rfl ?_ ?_
  · refine zw_iload (p := 175) (Or.inr rfl) rfl rfl rfl ?_
    exact zw_ireturn1 (Or.inr rfl) rfl rfl
  refine zw_aload_n (p := 39) (Or.inr rfl) rfl rfl rfl ?_
  refine zw_get_int (p := 42) (Or.inr rfl) rfl rfl ?_
  refine zw_if_ne (t := 173) (p := 45) (Or.inr rfl) rfl rfl rfl ?_ ?_
  · refine zw_iload (p := 175) (Or.inr rfl) rfl rfl rfl ?_
    exact zw_ireturn1 (Or.inr rfl) rfl rfl
  refine zw_aload_n (p := 46) (Or.inr rfl) rfl rfl rfl ?_
  refine zw_get_ref (p := 49) (Or.inr rfl) rfl rfl (fun q1 => ?_)
  refine zw_iconst (p := 50) (x := (0 : Int32)) (Or.inr rfl) rfl rfl rfl ?_
  refine zw_iaload (p := 51) (Or.inr rfl) rfl rfl ?_
  refine zw_bipush (p := 53) (x := (48 : Int32)) (Or.inr rfl) rfl rfl rfl ?_
  refine zw_icmp_ge (t := 173) (p := 56) (Or.inr rfl) rfl rfl rfl ?_ ?_
  · refine zw_iload (p := 175) (Or.inr rfl) rfl rfl rfl ?_
    exact zw_ireturn1 (Or.inr rfl) rfl rfl
  refine zw_iload_n (p := 57) (Or.inr rfl) rfl rfl rfl ?_
  refine zw_i2l (p := 58) (Or.inr rfl) rfl rfl ?_
  refine zw_iload (p := 60) (Or.inr rfl) rfl rfl rfl ?_
  refine zw_i2l (p := 61) (Or.inr rfl) rfl rfl ?_
  refine zw_ladd (p := 62) (Or.inr rfl) rfl rfl ?_
  refine zw_lstoreN (p := 64) (L2 := fun w1 => [some (.ref a0), some (.int x1), some (.int x2), some (.int x3), some (.int x4), some (.int x5), some (.long w1), none]) (Or.inr rfl) rfl rfl (fun _ => rfl) rfl (fun w1 => ?_)
  refine zw_aload_n (p := 65) (Or.inr rfl) rfl rfl rfl ?_
  refine zw_aload_n (p := 66) (Or.inr rfl) rfl rfl rfl ?_
  refine zw_get_ref (p := 69) (Or.inr rfl) rfl rfl (fun q2 => ?_)
  refine zw_iload_n (p := 70) (Or.inr rfl) rfl rfl rfl ?_
  refine zw_iaload (p := 71) (Or.inr rfl) rfl rfl ?_
  refine zw_bipush (p := 73) (x := (-4 : Int32)) (Or.inr rfl) rfl rfl rfl ?_
  refine zw_icmp_ne (t := 80) (p := 76) (Or.inr rfl) rfl rfl rfl ?_ ?_
  · refine zw_aload_n (p := 81) (Or.inr rfl) rfl rfl rfl ?_
    refine zw_get_ref (p := 84) (Or.inr rfl) rfl rfl (fun q3 => ?_)
    refine zw_iload_n (p := 85) (Or.inr rfl) rfl rfl rfl ?_
    refine zw_iaload (p := 86) (Or.inr rfl) rfl rfl ?_
    refine zw_iload_n (p := 87) (Or.inr rfl) rfl rfl rfl ?_
    refine zw_icmp_eq (t := 94) (p := 90) (Or.inr rfl) rfl rfl rfl ?_ ?_
    · refine zw_lload (p := 96) (Or.inr rfl) rfl rfl rfl ?_
      refine zw_lconst (p := 97) (x := (0 : Int64)) (Or.inr rfl) rfl rfl rfl ?_
      refine zw_aload_n (p := 98) (Or.inr rfl) rfl rfl rfl ?_
      refine zw_get_ref (p := 101) (Or.inr rfl) rfl rfl (fun q4 => ?_)
      refine zw_iload_n (p := 102) (Or.inr rfl) rfl rfl rfl ?_
      refine zw_iaload (p := 103) (Or.inr rfl) rfl rfl ?_
      refine zw_iconst (p := 104) (x := (1 : Int32)) (Or.inr rfl) rfl rfl rfl ?_
      refine zw_isub (p := 105) (Or.inr rfl) rfl rfl ?_
      refine zw_i2l (p := 106) (Or.inr rfl) rfl rfl ?_
      refine zw_staticI (p := 109) (as := [.long w1, .long (0 : Int64), .long (Int32.toInt64 ((zI M q4 (Int32.toNatClampNeg x1)) - (1 : Int32)))]) (rest := [.ref a0]) (Or.inr rfl) rfl rfl rfl rfl rfl rfl (fun u1 M1 => ?_)
      refine zw_if_eq (t := 116) (p := 112) (Or.inr rfl) rfl rfl rfl ?_ ?_
      · refine zw_iconst (p := 117) (x := (3 : Int32)) (Or.inr rfl) rfl rfl rfl ?_
        exact zw_end rfl rfl
      refine zw_iconst (p := 113) (x := (0 : Int32)) (Or.inr rfl) rfl rfl rfl ?_
      refine zw_goto (t := 117) (Or.inr rfl) rfl rfl ?_
      exact zw_end rfl rfl
    refine zw_iconst (p := 91) (x := (2 : Int32)) (Or.inr rfl) rfl rfl rfl ?_
    refine zw_goto (t := 117) (Or.inr rfl) rfl rfl ?_
    exact zw_end rfl rfl
  refine zw_iconst (p := 77) (x := (1 : Int32)) (Or.inr rfl) rfl rfl rfl ?_
  refine zw_goto (t := 117) (Or.inr rfl) rfl rfl ?_
  exact zw_end rfl rfl
def zx_Mo_run_117 (E : zE0) (K : zKt) (a0 : Nat) (x1 : Int32) (x2 : Int32) (x3 : Int32) (x4 : Int32) (x5 : Int32) (l6 : Int64) (s0 : Int32) (s1 : Nat) (M : zM) : zO :=
  zif ((zK M s1).1 = 11)
  (zbm (zsI M s1 51 s0) fun M1 =>
  zif ((zK M1 a0).1 = 11)
  (if (zI M1 a0 51) ≠ 0 then (K 31 [some (.ref a0), some (.int x1), some (.int x2), some (.int x3), some (.int x4), some (.int x5), none, none] [] M1)
  else zif ((zK M1 a0).1 = 11)
  (zoR (zR M1 a0 9) fun q1 =>
  zif ((zK M1 a0).1 = 11)
  (zoR (zR M1 a0 9) fun q2 =>
  zif (((zK M1 q2).1 = 20 ∨ (zK M1 q2).1 = 24) ∧ zin (0 : Int32) (zK M1 q2).2 = true)
  (zif ((zK M1 a0).1 = 11)
  (zoR (zR M1 a0 50) fun q3 =>
  zif (((zK M1 q3).1 = 20 ∨ (zK M1 q3).1 = 24) ∧ zin (((40 : Int32) * x1) + (Int64.toInt32 l6)) (zK M1 q3).2 = true)
  (zif ((zK M1 q1).1 = 20 ∧ zin ((1 : Int32) + (zI M1 q2 (Int32.toNatClampNeg (0 : Int32)))) (zK M1 q1).2 = true)
  (zbm (zsI M1 q1 (Int32.toNatClampNeg ((1 : Int32) + (zI M1 q2 (Int32.toNatClampNeg (0 : Int32))))) ((zI M1 q3 (Int32.toNatClampNeg (((40 : Int32) * x1) + (Int64.toInt32 l6)))) &&& (255 : Int32))) fun M2 =>
  zif ((zK M2 a0).1 = 11)
  (zoR (zR M2 a0 9) fun q4 =>
  zif (((zK M2 q4).1 = 20 ∨ (zK M2 q4).1 = 24) ∧ zin (0 : Int32) (zK M2 q4).2 = true)
  (zif ((zK M2 q4).1 = 20 ∧ zin (0 : Int32) (zK M2 q4).2 = true)
  (zbm (zsI M2 q4 (Int32.toNatClampNeg (0 : Int32)) ((zI M2 q4 (Int32.toNatClampNeg (0 : Int32))) + (1 : Int32))) fun M3 =>
  zbi (x5 + (1 : Int32)) fun u1 =>
  K 31 [some (.ref a0), some (.int x1), some (.int x2), some (.int x3), some (.int x4), some (.int u1), none, none] [] M3)))))))))))
set_option maxRecDepth 20000 in
theorem zg_Mo_run_117 (d : Nat) (a0 : Nat) (x1 : Int32) (x2 : Int32) (x3 : Int32) (x4 : Int32) (x5 : Int32) (l6 : Int64) (s0 : Int32) (s1 : Nat) (M : zM) : zG d n_Mo_run 117 [some (.ref a0), some (.int x1), some (.int x2), some (.int x3), some (.int x4), some (.int x5), some (.long l6), none] [.int s0, .ref s1] M = zx_Mo_run_117 (zV d) (zG d n_Mo_run) a0 x1 x2 x3 x4 x5 l6 s0 s1 M := by
  refine (zG_sg (m := zm_Mo_run) rfl 400 _ _ _ M).trans ?_
  show zw true zm_Mo_run (zV d) (zG d n_Mo_run) 400 117 [some (.ref a0), some (.int x1), some (.int x2), some (.int x3), some (.int x4), some (.int x5), some (.long l6), none] [.int s0, .ref s1] M = _
  unfold zx_Mo_run_117
  refine zw_put_int (p := 120) (Or.inl rfl) rfl rfl (fun M1 => ?_)
  refine zw_aload_n (p := 121) (Or.inr rfl) rfl rfl rfl ?_
  refine zw_get_int (p := 124) (Or.inr rfl) rfl rfl ?_
  refine zw_if_ne (t := 170) (p := 127) (Or.inr rfl) rfl rfl rfl ?_ ?_
  · refine zw_goto (t := 31) (Or.inr rfl) rfl rfl ?_
    exact zw_end rfl rfl
  refine zw_aload_n (p := 128) (Or.inr rfl) rfl rfl rfl ?_
  refine zw_get_ref (p := 131) (Or.inr rfl) rfl rfl (fun q1 => ?_)
  refine zw_iconst (p := 132) (x := (1 : Int32)) (Or.inr rfl) rfl rfl rfl ?_
  refine zw_aload_n (p := 133) (Or.inr rfl) rfl rfl rfl ?_
  refine zw_get_ref (p := 136) (Or.inr rfl) rfl rfl (fun q2 => ?_)
  refine zw_iconst (p := 137) (x := (0 : Int32)) (Or.inr rfl) rfl rfl rfl ?_
  refine zw_iaload (p := 138) (Or.inr rfl) rfl rfl ?_
  refine zw_iadd (p := 139) (Or.inr rfl) rfl rfl ?_
  refine zw_aload_n (p := 140) (Or.inr rfl) rfl rfl rfl ?_
  refine zw_get_ref (p := 143) (Or.inr rfl) rfl rfl (fun q3 => ?_)
  refine zw_bipush (p := 145) (x := (40 : Int32)) (Or.inr rfl) rfl rfl rfl ?_
  refine zw_iload_n (p := 146) (Or.inr rfl) rfl rfl rfl ?_
  refine zw_imul (p := 147) (Or.inr rfl) rfl rfl ?_
  refine zw_lload (p := 149) (Or.inr rfl) rfl rfl rfl ?_
  refine zw_l2i (p := 150) (Or.inr rfl) rfl rfl ?_
  refine zw_iadd (p := 151) (Or.inr rfl) rfl rfl ?_
  refine zw_iaload (p := 152) (Or.inr rfl) rfl rfl ?_
  refine zw_sipush (p := 155) (x := (255 : Int32)) (Or.inr rfl) rfl rfl rfl ?_
  refine zw_iand (p := 156) (Or.inr rfl) rfl rfl ?_
  refine zw_iastore (p := 157) (Or.inr rfl) rfl rfl (fun M2 => ?_)
  refine zw_aload_n (p := 158) (Or.inr rfl) rfl rfl rfl ?_
  refine zw_get_ref (p := 161) (Or.inr rfl) rfl rfl (fun q4 => ?_)
  refine zw_iconst (p := 162) (x := (0 : Int32)) (Or.inr rfl) rfl rfl rfl ?_
  refine zw_dup2_ir (p := 163) (Or.inr rfl) rfl rfl ?_
  refine zw_iaload (p := 164) (Or.inr rfl) rfl rfl ?_
  refine zw_iconst (p := 165) (x := (1 : Int32)) (Or.inr rfl) rfl rfl rfl ?_
  refine zw_iadd (p := 166) (Or.inr rfl) rfl rfl ?_
  refine zw_iastore (p := 167) (Or.inr rfl) rfl rfl (fun M3 => ?_)
  refine zw_iinc (p := 170) (c := (1 : Int32)) (L2 := fun u1 => [some (.ref a0), some (.int x1), some (.int x2), some (.int x3), some (.int x4), some (.int u1), some (.long l6), none]) (Or.inr rfl) rfl rfl rfl rfl (fun _ => rfl) rfl (fun u1 => ?_)
  refine zw_goto (t := 31) (Or.inr rfl) rfl rfl ?_
  exact zw_end rfl rfl
def zx_Mo_torn (E : zE0) (K : zKt) (a0 : Nat) (M : zM) : zO :=
  zif ((zK M a0).1 = 11)
  (some (some (.int (zI M a0 51)), M))
set_option maxRecDepth 20000 in
theorem ze_Mo_torn (d : Nat) (a0 : Nat) (M : zM) : zV (d + 1) n_Mo_torn [.ref a0] M = zx_Mo_torn (zV d) (zG d n_Mo_torn) a0 M := by
  refine (zE_sg (m := zm_Mo_torn) rfl 400 _ rfl M).trans ?_
  show zw true zm_Mo_torn (zV d) (zG d n_Mo_torn) 400 0 [some (.ref a0)] [] M = _
  unfold zx_Mo_torn
  refine zw_aload_n (p := 1) (Or.inl rfl) rfl rfl rfl ?_
  refine zw_get_int (p := 4) (Or.inr rfl) rfl rfl ?_
  exact zw_ireturn1 (Or.inr rfl) rfl rfl
def zx_Mo_count (E : zE0) (K : zKt) (a0 : Nat) (x1 : Int32) (M : zM) : zO :=
  if x1 = (0 : Int32) then (zif ((zK M a0).1 = 11)
    (zoR (zR M a0 11) fun q1 =>
    zif (((zK M q1).1 = 21 ∨ (zK M q1).1 = 22) ∧ zin (0 : Int32) (zK M q1).2 = true)
    (zbI (E n_Mo_flag [.int (zI M q1 (Int32.toNatClampNeg (0 : Int32)))] M) fun u1 M1 =>
    zif ((zK M1 a0).1 = 11)
    (zoR (zR M1 a0 11) fun q2 =>
    zif (((zK M1 q2).1 = 21 ∨ (zK M1 q2).1 = 22) ∧ zin (1 : Int32) (zK M1 q2).2 = true)
    (zbI (E n_Mo_flag [.int (zI M1 q2 (Int32.toNatClampNeg (1 : Int32)))] M1) fun u2 M2 =>
    some (some (.int (u1 + u2)), M2))))))
  else if x1 = (1 : Int32) then (zif ((zK M a0).1 = 11)
    (some (some (.int (zI M a0 13)), M)))
  else if x1 = (2 : Int32) then (zif ((zK M a0).1 = 11)
    (zoR (zR M a0 48) fun q3 =>
    zif (((zK M q3).1 = 20 ∨ (zK M q3).1 = 24) ∧ zin (0 : Int32) (zK M q3).2 = true)
    (if (zI M q3 (Int32.toNatClampNeg (0 : Int32))) ≠ (-4 : Int32) then (zif ((zK M a0).1 = 11)
      (zoR (zR M a0 49) fun q4 =>
      zif (((zK M q4).1 = 20 ∨ (zK M q4).1 = 24) ∧ zin (0 : Int32) (zK M q4).2 = true)
      (some (some (.int (zI M q4 (Int32.toNatClampNeg (0 : Int32)))), M))))
    else some (some (.int (-4 : Int32)), M))))
  else some (some (.int (-1 : Int32)), M)
set_option maxRecDepth 20000 in
theorem ze_Mo_count (d : Nat) (a0 : Nat) (x1 : Int32) (M : zM) : zV (d + 1) n_Mo_count [.ref a0, .int x1] M = zx_Mo_count (zV d) (zG d n_Mo_count) a0 x1 M := by
  refine (zE_sg (m := zm_Mo_count) rfl 400 _ rfl M).trans ?_
  show zw true zm_Mo_count (zV d) (zG d n_Mo_count) 400 0 [some (.ref a0), some (.int x1)] [] M = _
  unfold zx_Mo_count
  refine zw_iload_n (p := 1) (Or.inl rfl) rfl rfl rfl ?_
  refine zw_table (Or.inr rfl) rfl ?_
  refine zsw_c (lo2 := 1) rfl ?_ ?_
  · refine zw_aload_n (p := 29) (Or.inr rfl) rfl rfl rfl ?_
    refine zw_get_ref (p := 32) (Or.inr rfl) rfl rfl (fun q1 => ?_)
    refine zw_iconst (p := 33) (x := (0 : Int32)) (Or.inr rfl) rfl rfl rfl ?_
    refine zw_baload (p := 34) (Or.inr rfl) rfl rfl ?_
    refine zw_staticI (p := 37) (as := [.int (zI M q1 (Int32.toNatClampNeg (0 : Int32)))]) (rest := []) (Or.inr rfl) rfl rfl rfl rfl rfl rfl (fun u1 M1 => ?_)
    refine zw_aload_n (p := 38) (Or.inr rfl) rfl rfl rfl ?_
    refine zw_get_ref (p := 41) (Or.inr rfl) rfl rfl (fun q2 => ?_)
    refine zw_iconst (p := 42) (x := (1 : Int32)) (Or.inr rfl) rfl rfl rfl ?_
    refine zw_baload (p := 43) (Or.inr rfl) rfl rfl ?_
    refine zw_staticI (p := 46) (as := [.int (zI M1 q2 (Int32.toNatClampNeg (1 : Int32)))]) (rest := [.int u1]) (Or.inr rfl) rfl rfl rfl rfl rfl rfl (fun u2 M2 => ?_)
    refine zw_iadd (p := 47) (Or.inr rfl) rfl rfl ?_
    exact zw_ireturn1 (Or.inr rfl) rfl rfl
  refine zsw_c (lo2 := 2) rfl ?_ ?_
  · refine zw_aload_n (p := 49) (Or.inr rfl) rfl rfl rfl ?_
    refine zw_get_int (p := 52) (Or.inr rfl) rfl rfl ?_
    exact zw_ireturn1 (Or.inr rfl) rfl rfl
  refine zsw_c (lo2 := 3) rfl ?_ ?_
  · refine zw_aload_n (p := 54) (Or.inr rfl) rfl rfl rfl ?_
    refine zw_get_ref (p := 57) (Or.inr rfl) rfl rfl (fun q3 => ?_)
    refine zw_iconst (p := 58) (x := (0 : Int32)) (Or.inr rfl) rfl rfl rfl ?_
    refine zw_iaload (p := 59) (Or.inr rfl) rfl rfl ?_
    refine zw_bipush (p := 61) (x := (-4 : Int32)) (Or.inr rfl) rfl rfl rfl ?_
    refine zw_icmp_ne (t := 69) (p := 64) (Or.inr rfl) rfl rfl rfl ?_ ?_
    · refine zw_aload_n (p := 70) (Or.inr rfl) rfl rfl rfl ?_
      refine zw_get_ref (p := 73) (Or.inr rfl) rfl rfl (fun q4 => ?_)
      refine zw_iconst (p := 74) (x := (0 : Int32)) (Or.inr rfl) rfl rfl rfl ?_
      refine zw_iaload (p := 75) (Or.inr rfl) rfl rfl ?_
      exact zw_ireturn1 (Or.inr rfl) rfl rfl
    refine zw_bipush (p := 66) (x := (-4 : Int32)) (Or.inr rfl) rfl rfl rfl ?_
    refine zw_goto (t := 75) (Or.inr rfl) rfl rfl ?_
    exact zw_ireturn1 (Or.inr rfl) rfl rfl
  refine zsw_n ?_
  refine zw_iconst (p := 77) (x := (-1 : Int32)) (Or.inr rfl) rfl rfl rfl ?_
  exact zw_ireturn1 (Or.inr rfl) rfl rfl
