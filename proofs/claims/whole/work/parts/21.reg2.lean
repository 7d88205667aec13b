def zx_PT_feed (E : zE0) (K : zKt) (a0 : Nat) (x1 : Int32) (M : zM) : zO :=
  if x1 < 0 then (some (some (.int (-1 : Int32)), M))
  else if x1 ≤ (127 : Int32) then (zif ((zK M a0).1 = 10)
    (zoR (zR M a0 1) fun q1 =>
    zif ((zK M q1).1 = 6)
    (if (zI M q1 1) < (200 : Int32) then (zif ((zK M a0).1 = 10)
      (zoR (zR M a0 1) fun q2 =>
      zif ((zK M q2).1 = 6)
      (zoR (zR M q2 0) fun q3 =>
      zif ((zK M a0).1 = 10)
      (zoR (zR M a0 1) fun q4 =>
      zif ((zK M q4).1 = 6)
      (zbast M q3 (zI M q4 1) ((Int32.toInt8 x1).toInt32) fun M1 =>
      zif ((zK M1 a0).1 = 10)
      (zoR (zR M1 a0 1) fun q5 =>
      zif ((zK M1 q5).1 = 6)
      (zif ((zK M1 q5).1 = 6)
      (zbm (zsI M1 q5 1 ((zI M1 q5 1) + (1 : Int32))) fun M2 =>
      zif ((zK M2 a0).1 = 10)
      (zoR (zR M2 a0 1) fun q6 =>
      zif ((zK M2 q6).1 = 6)
      (some (some (.int (zI M2 q6 1)), M2)))))))))))
    else some (some (.int (-3 : Int32)), M))))
  else some (some (.int (-1 : Int32)), M)
set_option maxRecDepth 20000 in
theorem ze_PT_feed (d : Nat) (a0 : Nat) (x1 : Int32) (M : zM) : zV (d + 1) n_PT_feed [.ref a0, .int x1] M = zx_PT_feed (zV d) (zG d n_PT_feed) a0 x1 M := by
  refine (zE_sg (m := zm_PT_feed) rfl 400 _ rfl M).trans ?_
  show zw true zm_PT_feed (zV d) (zG d n_PT_feed) 400 0 [some (.ref a0), some (.int x1)] [] M = _
  unfold zx_PT_feed
  refine zw_iload_n (p := 1) (Or.inl rfl) rfl rfl rfl ?_
  refine zw_if_lt (t := 10) (p := 4) (Or.inr rfl) rfl rfl rfl ?_ ?_
  · refine zw_iconst (p := 11) (x := (-1 : Int32)) (Or.inr rfl) rfl rfl rfl ?_
    exact zw_ireturn1 (Or.inr rfl) rfl rfl
  refine zw_iload_n (p := 5) (Or.inr rfl) rfl rfl rfl ?_
  refine zw_bipush (p := 7) (x := (127 : Int32)) (Or.inr rfl) rfl rfl rfl ?_
  refine zw_icmp_le (t := 12) (p := 10) (Or.inr rfl) rfl rfl rfl ?_ ?_
  · refine zw_aload_n (p := 13) (Or.inr rfl) rfl rfl rfl ?_
    refine zw_get_ref (p := 16) (Or.inr rfl) rfl rfl (fun q1 => ?_)
    refine zw_get_int (p := 19) (Or.inr rfl) rfl rfl ?_
    refine zw_sipush (p := 22) (x := (200 : Int32)) (Or.inr rfl) rfl rfl rfl ?_
    refine zw_icmp_lt (t := 28) (p := 25) (Or.inr rfl) rfl rfl rfl ?_ ?_
    · refine zw_aload_n (p := 29) (Or.inr rfl) rfl rfl rfl ?_
      refine zw_get_ref (p := 32) (Or.inr rfl) rfl rfl (fun q2 => ?_)
      refine zw_get_ref (p := 35) (Or.inr rfl) rfl rfl (fun q3 => ?_)
      refine zw_aload_n (p := 36) (Or.inr rfl) rfl rfl rfl ?_
      refine zw_get_ref (p := 39) (Or.inr rfl) rfl rfl (fun q4 => ?_)
      refine zw_get_int (p := 42) (Or.inr rfl) rfl rfl ?_
      refine zw_iload_n (p := 43) (Or.inr rfl) rfl rfl rfl ?_
      refine zw_i2b (p := 44) (Or.inr rfl) rfl rfl ?_
      refine zw_bastore (p := 45) (Or.inr rfl) rfl rfl (fun M1 => ?_)
      refine zw_aload_n (p := 46) (Or.inr rfl) rfl rfl rfl ?_
      refine zw_get_ref (p := 49) (Or.inr rfl) rfl rfl (fun q5 => ?_)
      refine zw_dup_ref (p := 50) (Or.inr rfl) rfl rfl ?_
      refine zw_get_int (p := 53) (Or.inr rfl) rfl rfl ?_
      refine zw_iconst (p := 54) (x := (1 : Int32)) (Or.inr rfl) rfl rfl rfl ?_
      refine zw_iadd (p := 55) (Or.inr rfl) rfl rfl ?_
      refine zw_put_int (p := 58) (Or.inr rfl) rfl rfl (fun M2 => ?_)
      refine zw_aload_n (p := 59) (Or.inr rfl) rfl rfl rfl ?_
      refine zw_get_ref (p := 62) (Or.inr rfl) rfl rfl (fun q6 => ?_)
      refine zw_get_int (p := 65) (Or.inr rfl) rfl rfl ?_
      exact zw_ireturn1 (Or.inr rfl) rfl rfl
    refine zw_bipush (p := 27) (x := (-3 : Int32)) (Or.inr rfl) rfl rfl rfl ?_
    exact zw_ireturn1 (Or.inr rfl) rfl rfl
  refine zw_iconst (p := 11) (x := (-1 : Int32)) (Or.inr rfl) rfl rfl rfl ?_
  exact zw_ireturn1 (Or.inr rfl) rfl rfl
def zx_PT_end (E : zE0) (K : zKt) (a0 : Nat) (x1 : Int32) (M : zM) : zO :=
  zif ((zK M a0).1 = 10)
  (zoR (zR M a0 1) fun q1 =>
  zif ((zK M q1).1 = 6)
  (zbi (zI M q1 1) fun u1 =>
  if x1 < 0 then (some (some (.int (-1 : Int32)), M))
  else if x1 ≤ u1 then (zif ((zK M a0).1 = 10)
    (zoR (zR M a0 1) fun q2 =>
    zif ((zK M q2).1 = 6)
    (zbm (zsI M q2 1 x1) fun M1 =>
    some (some (.int u1), M1))))
  else some (some (.int (-1 : Int32)), M)))
set_option maxRecDepth 20000 in
theorem ze_PT_end (d : Nat) (a0 : Nat) (x1 : Int32) (M : zM) : zV (d + 1) n_PT_end [.ref a0, .int x1] M = zx_PT_end (zV d) (zG d n_PT_end) a0 x1 M := by
  refine (zE_sg (m := zm_PT_end) rfl 400 _ rfl M).trans ?_
  show zw true zm_PT_end (zV d) (zG d n_PT_end) 400 0 [some (.ref a0), some (.int x1), none] [] M = _
  unfold zx_PT_end
  refine zw_aload_n (p := 1) (Or.inl rfl) rfl rfl rfl ?_
  refine zw_get_ref (p := 4) (Or.inr rfl) rfl rfl (fun q1 => ?_)
  refine zw_get_int (p := 7) (Or.inr rfl) rfl rfl ?_
  refine zw_istore_nN (p := 8) (L2 := fun u1 => [some (.ref a0), some (.int x1), some (.int u1)]) (Or.inr rfl) rfl rfl (fun _ => rfl) rfl (fun u1 => ?_)
  refine zw_iload_n (p := 9) (Or.inr rfl) rfl rfl rfl ?_
  refine zw_if_lt (t := 17) (p := 12) (Or.inr rfl) rfl rfl rfl ?_ ?_
  · refine zw_iconst (p := 18) (x := (-1 : Int32)) (Or.inr rfl) rfl rfl rfl ?_
    exact zw_ireturn1 (Or.inr rfl) rfl rfl
  refine zw_iload_n (p := 13) (Or.inr rfl) rfl rfl rfl ?_
  refine zw_iload_n (p := 14) (Or.inr rfl) rfl rfl rfl ?_
  refine zw_icmp_le (t := 19) (p := 17) (Or.inr rfl) rfl rfl rfl ?_ ?_
  · refine zw_aload_n (p := 20) (Or.inr rfl) rfl rfl rfl ?_
    refine zw_get_ref (p := 23) (Or.inr rfl) rfl rfl (fun q2 => ?_)
    refine zw_iload_n (p := 24) (Or.inr rfl) rfl rfl rfl ?_
    refine zw_put_int (p := 27) (Or.inr rfl) rfl rfl (fun M1 => ?_)
    refine zw_iload_n (p := 28) (Or.inr rfl) rfl rfl rfl ?_
    exact zw_ireturn1 (Or.inr rfl) rfl rfl
  refine zw_iconst (p := 18) (x := (-1 : Int32)) (Or.inr rfl) rfl rfl rfl ?_
  exact zw_ireturn1 (Or.inr rfl) rfl rfl
def zx_PT_text (E : zE0) (K : zKt) (a0 : Nat) (M : zM) : zO :=
  zif ((zK M a0).1 = 10)
  (zoR (zR M a0 0) fun q1 =>
  zif ((zK M a0).1 = 10)
  (zoR (zR M a0 8) fun q2 =>
  zif ((zK M q1).1 = 3)
  (zbI (E n_Re_readAll [.ref q1, .ref q2] M) fun u1 M1 =>
  zif ((zK M1 a0).1 = 10)
  (zoR (zR M1 a0 1) fun q3 =>
  zif ((zK M1 q3).1 = 6)
  (zbm (zsI M1 q3 1 (0 : Int32)) fun M2 =>
  zif ((zK M2 a0).1 = 10)
  (zoR (zR M2 a0 1) fun q4 =>
  zif ((zK M2 q4).1 = 6)
  (zif ((zK M2 a0).1 = 10)
  (zbm (zsI M2 a0 10 (zI M2 q4 6)) fun M3 =>
  if 0 ≤ u1 then (zif ((zK M3 a0).1 = 10)
    (zoR (zR M3 a0 7) fun q5 =>
    zif ((zK M3 a0).1 = 10)
    (zoR (zR M3 a0 8) fun q6 =>
    zif ((zK M3 a0).1 = 10)
    (zbm (zsR M3 a0 7 (some q6)) fun M4 =>
    zif ((zK M4 a0).1 = 10)
    (zbm (zsR M4 a0 8 (some q5)) fun M5 =>
    zif ((zK M5 a0).1 = 10)
    (zbm (zsI M5 a0 9 u1) fun M6 =>
    K 71 [some (.ref a0), some (.int u1), none, some (.int (0 : Int32))] [] M6))))))
  else zif ((zK M3 a0).1 = 10)
  (zoR (zR M3 a0 1) fun q7 =>
  zif ((zK M3 q7).1 = 6)
  (some (some (.int ((-10 : Int32) - (zI M3 q7 7))), M3)))))))))))
set_option maxRecDepth 20000 in
theorem ze_PT_text (d : Nat) (a0 : Nat) (M : zM) : zV (d + 1) n_PT_text [.ref a0] M = zx_PT_text (zV d) (zG d n_PT_text) a0 M := by
  refine (zE_sg (m := zm_PT_text) rfl 400 _ rfl M).trans ?_
  show zw true zm_PT_text (zV d) (zG d n_PT_text) 400 0 [some (.ref a0), none, none, none] [] M = _
  unfold zx_PT_text
  refine zw_aload_n (p := 1) (Or.inl rfl) rfl rfl rfl ?_
  refine zw_get_ref (p := 4) (Or.inr rfl) rfl rfl (fun q1 => ?_)
  refine zw_aload_n (p := 5) (Or.inr rfl) rfl rfl rfl ?_
  refine zw_get_ref (p := 8) (Or.inr rfl) rfl rfl (fun q2 => ?_)
  refine zw_virtualI (p := 11) (as := [.ref q1, .ref q2]) (rest := []) (Or.inr rfl) rfl rfl rfl rfl rfl rfl rfl (fun u1 M1 => ?_)
  refine zw_istore_n (p := 12) (l2 := [some (.ref a0), some (.int u1), none, none]) (Or.inr rfl) rfl rfl rfl rfl ?_
  refine zw_aload_n (p := 13) (Or.inr rfl) rfl rfl rfl ?_
  refine zw_get_ref (p := 16) (Or.inr rfl) rfl rfl (fun q3 => ?_)
  refine zw_iconst (p := 17) (x := (0 : Int32)) (Or.inr rfl) rfl rfl rfl ?_
  refine zw_put_int (p := 20) (Or.inr rfl) rfl rfl (fun M2 => ?_)
  refine zw_aload_n (p := 21) (Or.inr rfl) rfl rfl rfl ?_
  refine zw_aload_n (p := 22) (Or.inr rfl) rfl rfl rfl ?_
  refine zw_get_ref (p := 25) (Or.inr rfl) rfl rfl (fun q4 => ?_)
  refine zw_get_int (p := 28) (Or.inr rfl) rfl rfl ?_
  refine zw_put_int (p := 31) (Or.inr rfl) rfl rfl (fun M3 => ?_)
  refine zw_iload_n (p := 32) (Or.inr rfl) rfl rfl rfl ?_
  refine zw_if_ge (t := 46) (p := 35) (Or.inr rfl) rfl rfl rfl ?_ ?_
  · refine zw_aload_n (p := 47) (Or.inr rfl) rfl rfl rfl ?_
    refine zw_get_ref (p := 50) (Or.inr rfl) rfl rfl (fun q5 => ?_)
    refine zw_astore_n (p := 51) (l2 := [some (.ref a0), some (.int u1), some (.ref q5), none]) (Or.inr rfl) rfl rfl rfl rfl ?_
    refine zw_aload_n (p := 52) (Or.inr rfl) rfl rfl rfl ?_
    refine zw_aload_n (p := 53) (Or.inr rfl) rfl rfl rfl ?_
    refine zw_get_ref (p := 56) (Or.inr rfl) rfl rfl (fun q6 => ?_)
    refine zw_put_ref (p := 59) (Or.inr rfl) rfl rfl (fun M4 => ?_)
    refine zw_aload_n (p := 60) (Or.inr rfl) rfl rfl rfl ?_
    refine zw_aload_n (p := 61) (Or.inr rfl) rfl rfl rfl ?_
    refine zw_put_ref (p := 64) (Or.inr rfl) rfl rfl (fun M5 => ?_)
    refine zw_aload_n (p := 65) (Or.inr rfl) rfl rfl rfl ?_
    refine zw_iload_n (p := 66) (Or.inr rfl) rfl rfl rfl ?_
    refine zw_put_int (p := 69) (Or.inr rfl) rfl rfl (fun M6 => ?_)
    refine zw_iconst (p := 70) (x := (0 : Int32)) (Or.inr rfl) rfl rfl rfl ?_
    refine zw_istore_n (p := 71) (l2 := [some (.ref a0), some (.int u1), some (.ref q5), some (.int (0 : Int32))]) (Or.inr rfl) rfl rfl rfl rfl ?_
    exact zw_end rfl rfl
  refine zw_bipush (p := 37) (x := (-10 : Int32)) (Or.inr rfl) rfl rfl rfl ?_
  refine zw_aload_n (p := 38) (Or.inr rfl) rfl rfl rfl ?_
  refine zw_get_ref (p := 41) (Or.inr rfl) rfl rfl (fun q7 => ?_)
  refine zw_get_int (p := 44) (Or.inr rfl) rfl rfl ?_
  refine zw_isub (p := 45) (Or.inr rfl) rfl rfl ?_
  exact zw_ireturn1 (Or.inr rfl) rfl rfl
def zx_PT_text_71 (E : zE0) (K : zKt) (a0 : Nat) (x1 : Int32) (x3 : Int32) (M : zM) : zO :=
  if (2 : Int32) ≤ x3 then (zif ((zK M a0).1 = 10)
    (zbV (E n_PT_watchAnew [.ref a0] M) fun M1 =>
    some (some (.int x1), M1)))
  else zif ((zK M a0).1 = 10)
  (zoR (zR M a0 5) fun q1 =>
  zbast M q1 x3 (0 : Int32) fun M2 =>
  zbi (x3 + (1 : Int32)) fun u1 =>
  K 71 [some (.ref a0), some (.int x1), none, some (.int u1)] [] M2)
set_option maxRecDepth 20000 in
theorem zg_PT_text_71 (d : Nat) (a0 : Nat) (x1 : Int32) (x3 : Int32) (M : zM) : zG d n_PT_text 71 [some (.ref a0), some (.int x1), none, some (.int x3)] [] M = zx_PT_text_71 (zV d) (zG d n_PT_text) a0 x1 x3 M := by
  refine (zG_sg (m := zm_PT_text) rfl 400 _ _ _ M).trans ?_
  show zw true zm_PT_text (zV d) (zG d n_PT_text) 400 71 [some (.ref a0), some (.int x1), none, some (.int x3)] [] M = _
  unfold zx_PT_text_71
  refine zw_iload_n (p := 72) (Or.inl rfl) rfl rfl rfl ?_
  refine zw_iconst (p := 73) (x := (2 : Int32)) (Or.inr rfl) rfl rfl rfl ?_
  refine zw_icmp_ge (t := 89) (p := 76) (Or.inr rfl) rfl rfl rfl ?_ ?_
  · refine zw_aload_n (p := 90) (Or.inr rfl) rfl rfl rfl ?_
    refine zw_virtualV (p := 93) (as := [.ref a0]) (rest := []) (Or.inr rfl) rfl rfl rfl rfl rfl rfl rfl (fun M1 => ?_)
    refine zw_iload_n (p := 94) (Or.inr rfl) rfl rfl rfl ?_
    exact zw_ireturn1 (Or.inr rfl) rfl rfl
  refine zw_aload_n (p := 77) (Or.inr rfl) rfl rfl rfl ?_
  refine zw_get_ref (p := 80) (Or.inr rfl) rfl rfl (fun q1 => ?_)
  refine zw_iload_n (p := 81) (Or.inr rfl) rfl rfl rfl ?_
  refine zw_iconst (p := 82) (x := (0 : Int32)) (Or.inr rfl) rfl rfl rfl ?_
  refine zw_bastore (p := 83) (Or.inr rfl) rfl rfl (fun M2 => ?_)
  refine zw_iinc (p := 86) (c := (1 : Int32)) (L2 := fun u1 => [some (.ref a0), some (.int x1), none, some (.int u1)]) (Or.inr rfl) rfl rfl rfl rfl (fun _ => rfl) rfl (fun u1 => ?_)
  refine zw_goto (t := 71) (Or.inr rfl) rfl rfl ?_
  exact zw_end rfl rfl
def zx_PT_fault (E : zE0) (K : zKt) (a0 : Nat) (M : zM) : zO :=
  zif ((zK M a0).1 = 10)
  (some (some (.int (zI M a0 10)), M))
set_option maxRecDepth 20000 in
theorem ze_PT_fault (d : Nat) (a0 : Nat) (M : zM) : zV (d + 1) n_PT_fault [.ref a0] M = zx_PT_fault (zV d) (zG d n_PT_fault) a0 M := by
  refine (zE_sg (m := zm_PT_fault) rfl 400 _ rfl M).trans ?_
  show zw true zm_PT_fault (zV d) (zG d n_PT_fault) 400 0 [some (.ref a0)] [] M = _
  unfold zx_PT_fault
  refine zw_aload_n (p := 1) (Or.inl rfl) rfl rfl rfl ?_
  refine zw_get_int (p := 4) (Or.inr rfl) rfl rfl ?_
  exact zw_ireturn1 (Or.inr rfl) rfl rfl
def zx_PT_rule (E : zE0) (K : zKt) (a0 : Nat) (x1 : Int32) (M : zM) : zO :=
  if x1 < 0 then (some (some (.int (-1 : Int32)), M))
  else if x1 ≤ (7 : Int32) then (if x1 ≠ 0 then (if x1 ≠ (1 : Int32) then (K 38 [some (.ref a0), some (.int x1), some (.int (0 : Int32)), some (.int (0 : Int32)), none] [] M)
      else zif ((zK M a0).1 = 10)
      (zoR (zR M a0 3) fun q1 =>
      zif ((zK M q1).1 = 7)
      (some (some (.int (zI M q1 1)), M))))
    else zif ((zK M a0).1 = 10)
    (some (some (.int (zI M a0 9)), M)))
  else some (some (.int (-1 : Int32)), M)
set_option maxRecDepth 20000 in
theorem ze_PT_rule (d : Nat) (a0 : Nat) (x1 : Int32) (M : zM) : zV (d + 1) n_PT_rule [.ref a0, .int x1] M = zx_PT_rule (zV d) (zG d n_PT_rule) a0 x1 M := by
  refine (zE_sg (m := zm_PT_rule) rfl 400 _ rfl M).trans ?_
  show zw true zm_PT_rule (zV d) (zG d n_PT_rule) 400 0 [some (.ref a0), some (.int x1), none, none, none] [] M = _
  unfold zx_PT_rule
  refine zw_iload_n (p := 1) (Or.inl rfl) rfl rfl rfl ?_
  refine zw_if_lt (t := 10) (p := 4) (Or.inr rfl) rfl rfl rfl ?_ ?_
  · refine zw_iconst (p := 11) (x := (-1 : Int32)) (Or.inr rfl) rfl rfl rfl ?_
    exact zw_ireturn1 (Or.inr rfl) rfl rfl
  refine zw_iload_n (p := 5) (Or.inr rfl) rfl rfl rfl ?_
  refine zw_bipush (p := 7) (x := (7 : Int32)) (Or.inr rfl) rfl rfl rfl ?_
  refine zw_icmp_le (t := 12) (p := 10) (Or.inr rfl) rfl rfl rfl ?_ ?_
  · refine zw_iload_n (p := 13) (Or.inr rfl) rfl rfl rfl ?_
    refine zw_if_ne (t := 21) (p := 16) (Or.inr rfl) rfl rfl rfl ?_ ?_
    · refine zw_iload_n (p := 22) (Or.inr rfl) rfl rfl rfl ?_
      refine zw_iconst (p := 23) (x := (1 : Int32)) (Or.inr rfl) rfl rfl rfl ?_
      refine zw_icmp_ne (t := 34) (p := 26) (Or.inr rfl) rfl rfl rfl ?_ ?_
      · refine zw_iconst (p := 35) (x := (0 : Int32)) (Or.inr rfl) rfl rfl rfl ?_
        refine zw_istore_n (p := 36) (l2 := [some (.ref a0), some (.int x1), some (.int (0 : Int32)), none, none]) (Or.inr rfl) rfl rfl rfl rfl ?_
        refine zw_iconst (p := 37) (x := (0 : Int32)) (Or.inr rfl) rfl rfl rfl ?_
        refine zw_istore_n (p := 38) (l2 := [some (.ref a0), some (.int x1), some (.int (0 : Int32)), some (.int (0 : Int32)), none]) (Or.inr rfl) rfl rfl rfl rfl ?_
        exact zw_end rfl rfl
      refine zw_aload_n (p := 27) (Or.inr rfl) rfl rfl rfl ?_
      refine zw_get_ref (p := 30) (Or.inr rfl) rfl rfl (fun q1 => ?_)
      refine zw_get_int (p := 33) (Or.inr rfl) rfl rfl ?_
      exact zw_ireturn1 (Or.inr rfl) rfl rfl
    refine zw_aload_n (p := 17) (Or.inr rfl) rfl rfl rfl ?_
    refine zw_get_int (p := 20) (Or.inr rfl) rfl rfl ?_
    exact zw_ireturn1 (Or.inr rfl) rfl rfl
  refine zw_iconst (p := 11) (x := (-1 : Int32)) (Or.inr rfl) rfl rfl rfl ?_
  exact zw_ireturn1 (Or.inr rfl) rfl rfl
def zx_PT_rule_38 (E : zE0) (K : zKt) (a0 : Nat) (x1 : Int32) (x2 : Int32) (x3 : Int32) (M : zM) : zO :=
  zif ((zK M a0).1 = 10)
  (if (zI M a0 9) ≤ x3 then (some (some (.int x2), M))
  else zif ((zK M a0).1 = 10)
  (zbR (E n_PT_watchOf [.ref a0, .int x3] M) fun q1 M1 =>
  if x1 ≠ (7 : Int32) then (zif ((zK M1 q1).1 = 9)
    (zbI (E n_Wa_howMany [.ref q1, .int (x1 - (2 : Int32))] M1) fun u1 M2 =>
    zbi (x2 + u1) fun u2 =>
    zbi (x3 + (1 : Int32)) fun u3 =>
    K 38 [some (.ref a0), some (.int x1), some (.int u2), some (.int u3), none] [] M2))
  else zif ((zK M1 q1).1 = 9)
  (zbI (E n_Wa_allDuties [.ref q1] M1) fun u4 M3 =>
  zbi (x2 + u4) fun u5 =>
  zbi (x3 + (1 : Int32)) fun u6 =>
  K 38 [some (.ref a0), some (.int x1), some (.int u5), some (.int u6), none] [] M3)))
set_option maxRecDepth 20000 in
theorem zg_PT_rule_38 (d : Nat) (a0 : Nat) (x1 : Int32) (x2 : Int32) (x3 : Int32) (M : zM) : zG d n_PT_rule 38 [some (.ref a0), some (.int x1), some (.int x2), some (.int x3), none] [] M = zx_PT_rule_38 (zV d) (zG d n_PT_rule) a0 x1 x2 x3 M := by
  refine (zG_sg (m := zm_PT_rule) rfl 400 _ _ _ M).trans ?_
  show zw true zm_PT_rule (zV d) (zG d n_PT_rule) 400 38 [some (.ref a0), some (.int x1), some (.int x2), some (.int x3), none] [] M = _
  unfold zx_PT_rule_38
  refine zw_iload_n (p := 39) (Or.inl rfl) rfl rfl rfl ?_
  refine zw_aload_n (p := 40) (Or.inr rfl) rfl rfl rfl ?_
  refine zw_get_int (p := 43) (Or.inr rfl) rfl rfl ?_
  refine zw_icmp_ge (t := 84) (p := 46) (Or.inr rfl) rfl rfl rfl ?_ ?_
  · refine zw_iload_n (p := 85) (Or.inr rfl) rfl rfl rfl ?_
    exact zw_ireturn1 (Or.inr rfl) rfl rfl
  refine zw_aload_n (p := 47) (Or.inr rfl) rfl rfl rfl ?_
  refine zw_iload_n (p := 48) (Or.inr rfl) rfl rfl rfl ?_
  refine zw_virtualR (p := 51) (as := [.ref a0, .int x3]) (rest := []) (Or.inr rfl) rfl rfl rfl rfl rfl rfl rfl (fun q1 M1 => ?_)
  refine zw_astore (p := 53) (l2 := [some (.ref a0), some (.int x1), some (.int x2), some (.int x3), some (.ref q1)]) (Or.inr rfl) rfl rfl rfl rfl ?_
  refine zw_iload_n (p := 54) (Or.inr rfl) rfl rfl rfl ?_
  refine zw_iload_n (p := 55) (Or.inr rfl) rfl rfl rfl ?_
  refine zw_bipush (p := 57) (x := (7 : Int32)) (Or.inr rfl) rfl rfl rfl ?_
  refine zw_icmp_ne (t := 68) (p := 60) (Or.inr rfl) rfl rfl rfl ?_ ?_
  · refine zw_aload (p := 70) (Or.inr rfl) rfl rfl rfl ?_
    refine zw_iload_n (p := 71) (Or.inr rfl) rfl rfl rfl ?_
    refine zw_iconst (p := 72) (x := (2 : Int32)) (Or.inr rfl) rfl rfl rfl ?_
    refine zw_isub (p := 73) (Or.inr rfl) rfl rfl ?_
    refine zw_virtualI (p := 76) (as := [.ref q1, .int (x1 - (2 : Int32))]) (rest := [.int x2]) (Or.inr rfl) rfl rfl rfl rfl rfl rfl rfl (fun u1 M2 => ?_)
    refine zw_iadd (p := 77) (Or.inr rfl) rfl rfl ?_
    refine zw_istore_nN (p := 78) (L2 := fun u2 => [some (.ref a0), some (.int x1), some (.int u2), some (.int x3), some (.ref q1)]) (Or.inr rfl) rfl rfl (fun _ => rfl) rfl (fun u2 => ?_)
    refine zw_iinc (p := 81) (c := (1 : Int32)) (L2 := fun u3 => [some (.ref a0), some (.int x1), some (.int u2), some (.int u3), some (.ref q1)]) (Or.inr rfl) rfl rfl rfl rfl (fun _ => rfl) rfl (fun u3 => ?_)
    refine zw_goto (t := 38) (Or.inr rfl) rfl rfl ?_
    exact zw_end rfl rfl
  refine zw_aload (p := 62) (Or.inr rfl) rfl rfl rfl ?_
  refine zw_virtualI (p := 65) (as := [.ref q1]) (rest := [.int x2]) (Or.inr rfl) rfl rfl rfl rfl rfl rfl rfl (fun u4 M3 => ?_)
  refine zw_goto (t := 76) (Or.inr rfl) rfl rfl ?_
  refine zw_iadd (p := 77) (Or.inr rfl) rfl rfl ?_
  refine zw_istore_nN (p := 78) (L2 := fun u5 => [some (.ref a0), some (.int x1), some (.int u5), some (.int x3), some (.ref q1)]) (Or.inr rfl) rfl rfl (fun _ => rfl) rfl (fun u5 => ?_)
  refine zw_iinc (p := 81) (c := (1 : Int32)) (L2 := fun u6 => [some (.ref a0), some (.int x1), some (.int u5), some (.int u6), some (.ref q1)]) (Or.inr rfl) rfl rfl rfl rfl (fun _ => rfl) rfl (fun u6 => ?_)
  refine zw_goto (t := 38) (Or.inr rfl) rfl rfl ?_
  exact zw_end rfl rfl
def zx_PT_promise (E : zE0) (K : zKt) (a0 : Nat) (x1 : Int32) (x2 : Int32) (M : zM) : zO :=
  zif ((zK M a0).1 = 10)
  (zbI (E n_PT_isPromise [.ref a0, .int x1] M) fun u1 M1 =>
  if u1 ≠ 0 then (zif ((zK M1 a0).1 = 10)
    (zoR (zR M1 a0 7) fun q1 =>
    zif (30 ≤ (zK M1 q1).1 ∧ zin x1 (zK M1 q1).2 = true)
    (zoR (zR M1 q1 (Int32.toNatClampNeg x1)) fun q2 =>
    if x2 = (0 : Int32) then (zif ((zK M1 q2).1 = 2)
      (some (some (.int (zI M1 q2 4)), M1)))
    else if x2 = (1 : Int32) then (zif ((zK M1 q2).1 = 2)
      (if (zI M1 q2 3) = 0 then (some (some (.int (0 : Int32)), M1))
      else some (some (.int (1 : Int32)), M1)))
    else if x2 = (2 : Int32) then (zif ((zK M1 q2).1 = 2)
      (zoR (zR M1 q2 0) fun q3 =>
      zif ((zK M1 q3).1 = 4)
      (some (some (.int (zI M1 q3 6)), M1))))
    else if x2 = (3 : Int32) then (zif ((zK M1 q2).1 = 2)
      (zoR (zR M1 q2 1) fun q4 =>
      zif ((zK M1 q4).1 = 4)
      (some (some (.int (zI M1 q4 6)), M1))))
    else if x2 = (4 : Int32) then (zif ((zK M1 q2).1 = 2)
      (zoR (zR M1 q2 0) fun q5 =>
      zif ((zK M1 q5).1 = 4)
      (some (some (.int (zI M1 q5 7)), M1))))
    else if x2 = (5 : Int32) then (zif ((zK M1 q2).1 = 2)
      (zoR (zR M1 q2 1) fun q6 =>
      zif ((zK M1 q6).1 = 4)
      (some (some (.int (zI M1 q6 7)), M1))))
    else if x2 = (6 : Int32) then (zif ((zK M1 q2).1 = 2)
      (zoR (zR M1 q2 0) fun q7 =>
      zif ((zK M1 q7).1 = 4)
      (some (some (.int (zI M1 q7 8)), M1))))
    else if x2 = (7 : Int32) then (zif ((zK M1 q2).1 = 2)
      (zoR (zR M1 q2 1) fun q8 =>
      zif ((zK M1 q8).1 = 4)
      (some (some (.int (zI M1 q8 8)), M1))))
    else if x2 = (8 : Int32) then (zif ((zK M1 q2).1 = 2)
      (zoR (zR M1 q2 0) fun q9 =>
      zif ((zK M1 q9).1 = 4)
      (some (some (.int (zI M1 q9 9)), M1))))
    else if x2 = (9 : Int32) then (zif ((zK M1 q2).1 = 2)
      (zoR (zR M1 q2 1) fun q10 =>
      zif ((zK M1 q10).1 = 4)
      (some (some (.int (zI M1 q10 9)), M1))))
    else some (some (.int (-1 : Int32)), M1))))
  else some (some (.int (-1 : Int32)), M1))
set_option maxRecDepth 20000 in
theorem ze_PT_promise (d : Nat) (a0 : Nat) (x1 : Int32) (x2 : Int32) (M : zM) : zV (d + 1) n_PT_promise [.ref a0, .int x1, .int x2] M = zx_PT_promise (zV d) (zG d n_PT_promise) a0 x1 x2 M := by
  refine (zE_sg (m := zm_PT_promise) rfl 400 _ rfl M).trans ?_
  show zw true zm_PT_promise (zV d) (zG d n_PT_promise) 400 0 [some (.ref a0), some (.int x1), some (.int x2), none] [] M = _
  unfold zx_PT_promise
  refine zw_aload_n (p := 1) (Or.inl rfl) rfl rfl rfl ?_
  refine zw_iload_n (p := 2) (Or.inr rfl) rfl rfl rfl ?_
  refine zw_virtualI (p := 5) (as := [.ref a0, .int x1]) (rest := []) (Or.inr rfl) rfl rfl rfl rfl rfl rfl rfl (fun u1 M1 => ?_)
  refine zw_if_ne (t := 10) (p := 8) (Or.inr rfl) rfl rfl rfl ?_ ?_
  · refine zw_aload_n (p := 11) (Or.inr rfl) rfl rfl rfl ?_
    refine zw_get_ref (p := 14) (Or.inr rfl) rfl rfl (fun q1 => ?_)
    refine zw_iload_n (p := 15) (Or.inr rfl) rfl rfl rfl ?_
    refine zw_aaload (p := 16) (Or.inr rfl) rfl rfl (fun q2 => ?_)
    refine zw_astore_n (p := 17) (l2 := [some (.ref a0), some (.int x1), some (.int x2), some (.ref q2)]) (Or.inr rfl) rfl rfl rfl rfl ?_
    refine zw_iload_n (p := 18) (Or.inr rfl) rfl rfl rfl ?_
    refine zw_table (Or.inr rfl) rfl ?_
    refine zsw_c (lo2 := 1) rfl ?_ ?_
    · refine zw_aload_n (p := 73) (Or.inr rfl) rfl rfl rfl ?_
      refine zw_get_int (p := 76) (Or.inr rfl) rfl rfl ?_
      exact zw_ireturn1 (Or.inr rfl) rfl rfl
    refine zsw_c (lo2 := 2) rfl ?_ ?_
    · refine zw_aload_n (p := 78) (Or.inr rfl) rfl rfl rfl ?_
      refine zw_get_int (p := 81) (Or.inr rfl) rfl rfl ?_
      refine zw_if_eq (t := 88) (p := 84) (Or.inr rfl) rfl rfl rfl ?_ ?_
      · refine zw_iconst (p := 89) (x := (0 : Int32)) (Or.inr rfl) rfl rfl rfl ?_
        exact zw_ireturn1 (Or.inr rfl) rfl rfl
      refine zw_iconst (p := 85) (x := (1 : Int32)) (Or.inr rfl) rfl rfl rfl ?_
      refine zw_goto (t := 89) (Or.inr rfl) rfl rfl ?_
      exact zw_ireturn1 (Or.inr rfl) rfl rfl
    refine zsw_c (lo2 := 3) rfl ?_ ?_
    · refine zw_aload_n (p := 91) (Or.inr rfl) rfl rfl rfl ?_
      refine zw_get_ref (p := 94) (Or.inr rfl) rfl rfl (fun q3 => ?_)
      refine zw_get_int (p := 97) (Or.inr rfl) rfl rfl ?_
      exact zw_ireturn1 (Or.inr rfl) rfl rfl
    refine zsw_c (lo2 := 4) rfl ?_ ?_
    · refine zw_aload_n (p := 99) (Or.inr rfl) rfl rfl rfl ?_
      refine zw_get_ref (p := 102) (Or.inr rfl) rfl rfl (fun q4 => ?_)
      refine zw_get_int (p := 105) (Or.inr rfl) rfl rfl ?_
      exact zw_ireturn1 (Or.inr rfl) rfl rfl
    refine zsw_c (lo2 := 5) rfl ?_ ?_
    · refine zw_aload_n (p := 107) (Or.inr rfl) rfl rfl rfl ?_
      refine zw_get_ref (p := 110) (Or.inr rfl) rfl rfl (fun q5 => ?_)
      refine zw_get_int (p := 113) (Or.inr rfl) rfl rfl ?_
      exact zw_ireturn1 (Or.inr rfl) rfl rfl
    refine zsw_c (lo2 := 6) rfl ?_ ?_
    · refine zw_aload_n (p := 115) (Or.inr rfl) rfl rfl rfl ?_
      refine zw_get_ref (p := 118) (Or.inr rfl) rfl rfl (fun q6 => ?_)
      refine zw_get_int (p := 121) (Or.inr rfl) rfl rfl ?_
      exact zw_ireturn1 (Or.inr rfl) rfl rfl
    refine zsw_c (lo2 := 7) rfl ?_ ?_
    · refine zw_aload_n (p := 123) (Or.inr rfl) rfl rfl rfl ?_
      refine zw_get_ref (p := 126) (Or.inr rfl) rfl rfl (fun q7 => ?_)
      refine zw_get_int (p := 129) (Or.inr rfl) rfl rfl ?_
      exact zw_ireturn1 (Or.inr rfl) rfl rfl
    refine zsw_c (lo2 := 8) rfl ?_ ?_
    · refine zw_aload_n (p := 131) (Or.inr rfl) rfl rfl rfl ?_
      refine zw_get_ref (p := 134) (Or.inr rfl) rfl rfl (fun q8 => ?_)
      refine zw_get_int (p := 137) (Or.inr rfl) rfl rfl ?_
      exact zw_ireturn1 (Or.inr rfl) rfl rfl
    refine zsw_c (lo2 := 9) rfl ?_ ?_
    · refine zw_aload_n (p := 139) (Or.inr rfl) rfl rfl rfl ?_
      refine zw_get_ref (p := 142) (Or.inr rfl) rfl rfl (fun q9 => ?_)
      refine zw_get_int (p := 145) (Or.inr rfl) rfl rfl ?_
      exact zw_ireturn1 (Or.inr rfl) rfl rfl
    refine zsw_c (lo2 := 10) rfl ?_ ?_
    · refine zw_aload_n (p := 147) (Or.inr rfl) rfl rfl rfl ?_
      refine zw_get_ref (p := 150) (Or.inr rfl) rfl rfl (fun q10 => ?_)
      refine zw_get_int (p := 153) (Or.inr rfl) rfl rfl ?_
      exact zw_ireturn1 (Or.inr rfl) rfl rfl
    refine zsw_n ?_
    refine zw_iconst (p := 155) (x := (-1 : Int32)) (Or.inr rfl) rfl rfl rfl ?_
    exact zw_ireturn1 (Or.inr rfl) rfl rfl
  refine zw_iconst (p := 9) (x := (-1 : Int32)) (Or.inr rfl) rfl rfl rfl ?_
  exact zw_ireturn1 (Or.inr rfl) rfl rfl
def zx_PT_fulfils (E : zE0) (K : zKt) (a0 : Nat) (x1 : Int32) (x2 : Int32) (x3 : Int32) (x4 : Int32) (M : zM) : zO :=
  zif ((zK M a0).1 = 10)
  (zbI (E n_PT_isCondition [.ref a0, .int x1, .int x2, .int x3] M) fun u1 M1 =>
  if u1 = 0 then (some (some (.int (-1 : Int32)), M1))
  else zbI (E n_PT_isBits [.int x4] M1) fun u2 M2 =>
  if u2 ≠ 0 then (if x2 ≠ (2 : Int32) then (zif ((zK M2 a0).1 = 10)
      (zoR (zR M2 a0 7) fun q1 =>
      zif (30 ≤ (zK M2 q1).1 ∧ zin x1 (zK M2 q1).2 = true)
      (zoR (zR M2 q1 (Int32.toNatClampNeg x1)) fun q2 =>
      zif ((zK M2 q2).1 = 2)
      (zbR (E n_Pl_sideOf [.ref q2, .int x2] M2) fun q3 M3 =>
      zif ((zK M3 q3).1 = 4)
      (zoR (zR M3 q3 2) fun q4 =>
      zbI (E n_PT_isFulfilled [.ref q4, .int x3, .int x4] M3) fun u3 M4 =>
      if u3 = 0 then (some (some (.int (0 : Int32)), M4))
      else some (some (.int (1 : Int32)), M4))))))
    else zif ((zK M2 a0).1 = 10)
    (zoR (zR M2 a0 7) fun q5 =>
    zif (30 ≤ (zK M2 q5).1 ∧ zin x1 (zK M2 q5).2 = true)
    (zoR (zR M2 q5 (Int32.toNatClampNeg x1)) fun q6 =>
    zif ((zK M2 q6).1 = 2)
    (zoR (zR M2 q6 2) fun q7 =>
    zbI (E n_PT_isFulfilled [.ref q7, .int (0 : Int32), .int x4] M2) fun u4 M5 =>
    if u4 = 0 then (some (some (.int (0 : Int32)), M5))
    else some (some (.int (1 : Int32)), M5)))))
  else some (some (.int (-1 : Int32)), M2))
set_option maxRecDepth 20000 in
theorem ze_PT_fulfils (d : Nat) (a0 : Nat) (x1 : Int32) (x2 : Int32) (x3 : Int32) (x4 : Int32) (M : zM) : zV (d + 1) n_PT_fulfils [.ref a0, .int x1, .int x2, .int x3, .int x4] M = zx_PT_fulfils (zV d) (zG d n_PT_fulfils) a0 x1 x2 x3 x4 M := by
  refine (zE_sg (m := zm_PT_fulfils) rfl 400 _ rfl M).trans ?_
  show zw true zm_PT_fulfils (zV d) (zG d n_PT_fulfils) 400 0 [some (.ref a0), some (.int x1), some (.int x2), some (.int x3), some (.int x4), none] [] M = _
  unfold zx_PT_fulfils
  refine zw_aload_n (p := 1) (Or.inl rfl) rfl rfl rfl ?_
  refine zw_iload_n (p := 2) (Or.inr rfl) rfl rfl rfl ?_
  refine zw_iload_n (p := 3) (Or.inr rfl) rfl rfl rfl ?_
  refine zw_iload_n (p := 4) (Or.inr rfl) rfl rfl rfl ?_
  refine zw_virtualI (p := 7) (as := [.ref a0, .int x1, .int x2, .int x3]) (rest := []) (Or.inr rfl) rfl rfl rfl rfl rfl rfl rfl (fun u1 M1 => ?_)
  refine zw_if_eq (t := 18) (p := 10) (Or.inr rfl) rfl rfl rfl ?_ ?_
  · refine zw_iconst (p := 19) (x := (-1 : Int32)) (Or.inr rfl) rfl rfl rfl ?_
    exact zw_ireturn1 (Or.inr rfl) rfl rfl
  refine zw_iload (p := 12) (Or.inr rfl) rfl rfl rfl ?_
  refine zw_staticI (p := 15) (as := [.int x4]) (rest := []) (Or.inr rfl) rfl rfl rfl rfl rfl rfl (fun u2 M2 => ?_)
  refine zw_if_ne (t := 20) (p := 18) (Or.inr rfl) rfl rfl rfl ?_ ?_
  · refine zw_iload_n (p := 21) (Or.inr rfl) rfl rfl rfl ?_
    refine zw_iconst (p := 22) (x := (2 : Int32)) (Or.inr rfl) rfl rfl rfl ?_
    refine zw_icmp_ne (t := 43) (p := 25) (Or.inr rfl) rfl rfl rfl ?_ ?_
    · refine zw_aload_n (p := 44) (Or.inr rfl) rfl rfl rfl ?_
      refine zw_get_ref (p := 47) (Or.inr rfl) rfl rfl (fun q1 => ?_)
      refine zw_iload_n (p := 48) (Or.inr rfl) rfl rfl rfl ?_
      refine zw_aaload (p := 49) (Or.inr rfl) rfl rfl (fun q2 => ?_)
      refine zw_iload_n (p := 50) (Or.inr rfl) rfl rfl rfl ?_
      refine zw_virtualR (p := 53) (as := [.ref q2, .int x2]) (rest := []) (Or.inr rfl) rfl rfl rfl rfl rfl rfl rfl (fun q3 M3 => ?_)
      refine zw_get_ref (p := 56) (Or.inr rfl) rfl rfl (fun q4 => ?_)
      refine zw_iload_n (p := 57) (Or.inr rfl) rfl rfl rfl ?_
      refine zw_iload (p := 59) (Or.inr rfl) rfl rfl rfl ?_
      refine zw_staticI (p := 62) (as := [.ref q4, .int x3, .int x4]) (rest := []) (Or.inr rfl) rfl rfl rfl rfl rfl rfl (fun u3 M4 => ?_)
      refine zw_istore (p := 64) (l2 := [some (.ref a0), some (.int x1), some (.int x2), some (.int x3), some (.int x4), some (.int u3)]) (Or.inr rfl) rfl rfl rfl rfl ?_
      refine zw_iload (p := 66) (Or.inr rfl) rfl rfl rfl ?_
      refine zw_if_eq (t := 73) (p := 69) (Or.inr rfl) rfl rfl rfl ?_ ?_
      · refine zw_iconst (p := 74) (x := (0 : Int32)) (Or.inr rfl) rfl rfl rfl ?_
        exact zw_ireturn1 (Or.inr rfl) rfl rfl
      refine zw_iconst (p := 70) (x := (1 : Int32)) (Or.inr rfl) rfl rfl rfl ?_
      refine zw_goto (t := 74) (Or.inr rfl) rfl rfl ?_
      exact zw_ireturn1 (Or.inr rfl) rfl rfl
    refine zw_aload_n (p := 26) (Or.inr rfl) rfl rfl rfl ?_
    refine zw_get_ref (p := 29) (Or.inr rfl) rfl rfl (fun q5 => ?_)
    refine zw_iload_n (p := 30) (Or.inr rfl) rfl rfl rfl ?_
    refine zw_aaload (p := 31) (Or.inr rfl) rfl rfl (fun q6 => ?_)
    refine zw_get_ref (p := 34) (Or.inr rfl) rfl rfl (fun q7 => ?_)
    refine zw_iconst (p := 35) (x := (0 : Int32)) (Or.inr rfl) rfl rfl rfl ?_
    refine zw_iload (p := 37) (Or.inr rfl) rfl rfl rfl ?_
    refine zw_staticI (p := 40) (as := [.ref q7, .int (0 : Int32), .int x4]) (rest := []) (Or.inr rfl) rfl rfl rfl rfl rfl rfl (fun u4 M5 => ?_)
    refine zw_goto (t := 62) (Or.inr rfl) rfl rfl ?_
    refine zw_istore (p := 64) (l2 := [some (.ref a0), some (.int x1), some (.int x2), some (.int x3), some (.int x4), some (.int u4)]) (Or.inr rfl) rfl rfl rfl rfl ?_
    refine zw_iload (p := 66) (Or.inr rfl) rfl rfl rfl ?_
    refine zw_if_eq (t := 73) (p := 69) (Or.inr rfl) rfl rfl rfl ?_ ?_
    · refine zw_iconst (p := 74) (x := (0 : Int32)) (Or.inr rfl) rfl rfl rfl ?_
      exact zw_ireturn1 (Or.inr rfl) rfl rfl
    refine zw_iconst (p := 70) (x := (1 : Int32)) (Or.inr rfl) rfl rfl rfl ?_
    refine zw_goto (t := 74) (Or.inr rfl) rfl rfl ?_
    exact zw_ireturn1 (Or.inr rfl) rfl rfl
  refine zw_iconst (p := 19) (x := (-1 : Int32)) (Or.inr rfl) rfl rfl rfl ?_
  exact zw_ireturn1 (Or.inr rfl) rfl rfl
def zx_PT_fulfilled (E : zE0) (K : zKt) (a0 : Nat) (x1 : Int32) (x2 : Int32) (x3 : Int32) (M : zM) : zO :=
  zif ((zK M a0).1 = 10)
  (zbI (E n_PT_isCondition [.ref a0, .int x1, .int x2, .int x3] M) fun u1 M1 =>
  if u1 ≠ 0 then (if x2 ≠ (2 : Int32) then (zif ((zK M1 a0).1 = 10)
      (zoR (zR M1 a0 7) fun q1 =>
      zif (30 ≤ (zK M1 q1).1 ∧ zin x1 (zK M1 q1).2 = true)
      (zoR (zR M1 q1 (Int32.toNatClampNeg x1)) fun q2 =>
      zif ((zK M1 q2).1 = 2)
      (zbR (E n_Pl_sideOf [.ref q2, .int x2] M1) fun q3 M2 =>
      zif ((zK M2 q3).1 = 4)
      (zoR (zR M2 q3 2) fun q4 =>
      zbI (E n_PT_howManyFulfil [.ref q4, .int x3] M2) fun u2 M3 =>
      some (some (.int u2), M3))))))
    else zif ((zK M1 a0).1 = 10)
    (zoR (zR M1 a0 7) fun q5 =>
    zif (30 ≤ (zK M1 q5).1 ∧ zin x1 (zK M1 q5).2 = true)
    (zoR (zR M1 q5 (Int32.toNatClampNeg x1)) fun q6 =>
    zif ((zK M1 q6).1 = 2)
    (zoR (zR M1 q6 2) fun q7 =>
    zbI (E n_PT_howManyFulfil [.ref q7, .int (0 : Int32)] M1) fun u3 M4 =>
    some (some (.int u3), M4)))))
  else some (some (.int (-1 : Int32)), M1))
set_option maxRecDepth 20000 in
theorem ze_PT_fulfilled (d : Nat) (a0 : Nat) (x1 : Int32) (x2 : Int32) (x3 : Int32) (M : zM) : zV (d + 1) n_PT_fulfilled [.ref a0, .int x1, .int x2, .int x3] M = zx_PT_fulfilled (zV d) (zG d n_PT_fulfilled) a0 x1 x2 x3 M := by
  refine (zE_sg (m := zm_PT_fulfilled) rfl 400 _ rfl M).trans ?_
  show zw true zm_PT_fulfilled (zV d) (zG d n_PT_fulfilled) 400 0 [some (.ref a0), some (.int x1), some (.int x2), some (.int x3)] [] M = _
  unfold zx_PT_fulfilled
  refine zw_aload_n (p := 1) (Or.inl rfl) rfl rfl rfl ?_
  refine zw_iload_n (p := 2) (Or.inr rfl) rfl rfl rfl ?_
  refine zw_iload_n (p := 3) (Or.inr rfl) rfl rfl rfl ?_
  refine zw_iload_n (p := 4) (Or.inr rfl) rfl rfl rfl ?_
  refine zw_virtualI (p := 7) (as := [.ref a0, .int x1, .int x2, .int x3]) (rest := []) (Or.inr rfl) rfl rfl rfl rfl rfl rfl rfl (fun u1 M1 => ?_)
  refine zw_if_ne (t := 12) (p := 10) (Or.inr rfl) rfl rfl rfl ?_ ?_
  · refine zw_iload_n (p := 13) (Or.inr rfl) rfl rfl rfl ?_
    refine zw_iconst (p := 14) (x := (2 : Int32)) (Or.inr rfl) rfl rfl rfl ?_
    refine zw_icmp_ne (t := 33) (p := 17) (Or.inr rfl) rfl rfl rfl ?_ ?_
    · refine zw_aload_n (p := 34) (Or.inr rfl) rfl rfl rfl ?_
      refine zw_get_ref (p := 37) (Or.inr rfl) rfl rfl (fun q1 => ?_)
      refine zw_iload_n (p := 38) (Or.inr rfl) rfl rfl rfl ?_
      refine zw_aaload (p := 39) (Or.inr rfl) rfl rfl (fun q2 => ?_)
      refine zw_iload_n (p := 40) (Or.inr rfl) rfl rfl rfl ?_
      refine zw_virtualR (p := 43) (as := [.ref q2, .int x2]) (rest := []) (Or.inr rfl) rfl rfl rfl rfl rfl rfl rfl (fun q3 M2 => ?_)
      refine zw_get_ref (p := 46) (Or.inr rfl) rfl rfl (fun q4 => ?_)
      refine zw_iload_n (p := 47) (Or.inr rfl) rfl rfl rfl ?_
      refine zw_staticI (p := 50) (as := [.ref q4, .int x3]) (rest := []) (Or.inr rfl) rfl rfl rfl rfl rfl rfl (fun u2 M3 => ?_)
      exact zw_ireturn1 (Or.inr rfl) rfl rfl
    refine zw_aload_n (p := 18) (Or.inr rfl) rfl rfl rfl ?_
    refine zw_get_ref (p := 21) (Or.inr rfl) rfl rfl (fun q5 => ?_)
    refine zw_iload_n (p := 22) (Or.inr rfl) rfl rfl rfl ?_
    refine zw_aaload (p := 23) (Or.inr rfl) rfl rfl (fun q6 => ?_)
    refine zw_get_ref (p := 26) (Or.inr rfl) rfl rfl (fun q7 => ?_)
    refine zw_iconst (p := 27) (x := (0 : Int32)) (Or.inr rfl) rfl rfl rfl ?_
    refine zw_staticI (p := 30) (as := [.ref q7, .int (0 : Int32)]) (rest := []) (Or.inr rfl) rfl rfl rfl rfl rfl rfl (fun u3 M4 => ?_)
    refine zw_goto (t := 50) (Or.inr rfl) rfl rfl ?_
    exact zw_ireturn1 (Or.inr rfl) rfl rfl
  refine zw_iconst (p := 11) (x := (-1 : Int32)) (Or.inr rfl) rfl rfl rfl ?_
  exact zw_ireturn1 (Or.inr rfl) rfl rfl
def zx_PT_matches (E : zE0) (K : zKt) (a0 : Nat) (x1 : Int32) (x2 : Int32) (x3 : Int32) (x4 : Int32) (M : zM) : zO :=
  zif ((zK M a0).1 = 10)
  (zbI (E n_PT_isPromise [.ref a0, .int x1] M) fun u1 M1 =>
  if u1 = 0 then (some (some (.int (-1 : Int32)), M1))
  else zbI (E n_PT_isSide [.int x2] M1) fun u2 M2 =>
  if u2 = 0 then (some (some (.int (-1 : Int32)), M2))
  else if x3 < 0 then (some (some (.int (-1 : Int32)), M2))
  else zif ((zK M2 a0).1 = 10)
  (zoR (zR M2 a0 3) fun q1 =>
  zif ((zK M2 q1).1 = 7)
  (if (zI M2 q1 1) < x3 then (some (some (.int (-1 : Int32)), M2))
  else if x4 < (x3 - (1 : Int32)) then (some (some (.int (-1 : Int32)), M2))
  else zif ((zK M2 a0).1 = 10)
  (zoR (zR M2 a0 3) fun q2 =>
  zif ((zK M2 q2).1 = 7)
  (if x4 < (zI M2 q2 1) then (zif ((zK M2 a0).1 = 10)
    (zoR (zR M2 a0 7) fun q3 =>
    zif (30 ≤ (zK M2 q3).1 ∧ zin x1 (zK M2 q3).2 = true)
    (zoR (zR M2 q3 (Int32.toNatClampNeg x1)) fun q4 =>
    zif ((zK M2 q4).1 = 2)
    (zbR (E n_Pl_sideOf [.ref q4, .int x2] M2) fun q5 M3 =>
    zif ((zK M3 a0).1 = 10)
    (zoR (zR M3 a0 3) fun q6 =>
    zif ((zK M3 q5).1 = 4)
    (zbL (E n_Se_walk [.ref q5, .ref q6, .int x3, .int (x4 + (1 : Int32))] M3) fun w1 M4 =>
    zif ((zK M4 q5).1 = 4)
    (zbI (E n_Se_hasEnded [.ref q5, .long w1] M4) fun u3 M5 =>
    if u3 = 0 then (some (some (.int (0 : Int32)), M5))
    else some (some (.int (1 : Int32)), M5))))))))
  else some (some (.int (-1 : Int32)), M2))))))
set_option maxRecDepth 20000 in
theorem ze_PT_matches (d : Nat) (a0 : Nat) (x1 : Int32) (x2 : Int32) (x3 : Int32) (x4 : Int32) (M : zM) : zV (d + 1) n_PT_matches [.ref a0, .int x1, .int x2, .int x3, .int x4] M = zx_PT_matches (zV d) (zG d n_PT_matches) a0 x1 x2 x3 x4 M := by
  refine (zE_sg (m := zm_PT_matches) rfl 400 _ rfl M).trans ?_
  show zw true zm_PT_matches (zV d) (zG d n_PT_matches) 400 0 [some (.ref a0), some (.int x1), some (.int x2), some (.int x3), some (.int x4), none] [] M = _
  unfold zx_PT_matches
  refine zw_aload_n (p := 1) (Or.inl rfl) rfl rfl rfl ?_
  refine zw_iload_n (p := 2) (Or.inr rfl) rfl rfl rfl ?_
  refine zw_virtualI (p := 5) (as := [.ref a0, .int x1]) (rest := []) (Or.inr rfl) rfl rfl rfl rfl rfl rfl rfl (fun u1 M1 => ?_)
  refine zw_if_eq (t := 50) (p := 8) (Or.inr rfl) rfl rfl rfl ?_ ?_
  · refine zw_iconst (p := 51) (x := (-1 : Int32)) (Or.inr rfl) rfl rfl rfl ?_
    exact zw_ireturn1 (Or.inr rfl) rfl rfl
  refine zw_iload_n (p := 9) (Or.inr rfl) rfl rfl rfl ?_
  refine zw_staticI (p := 12) (as := [.int x2]) (rest := []) (Or.inr rfl) rfl rfl rfl rfl rfl rfl (fun u2 M2 => ?_)
  refine zw_if_eq (t := 50) (p := 15) (Or.inr rfl) rfl rfl rfl ?_ ?_
  · refine zw_iconst (p := 51) (x := (-1 : Int32)) (Or.inr rfl) rfl rfl rfl ?_
    exact zw_ireturn1 (Or.inr rfl) rfl rfl
  refine zw_iload_n (p := 16) (Or.inr rfl) rfl rfl rfl ?_
  refine zw_if_lt (t := 50) (p := 19) (Or.inr rfl) rfl rfl rfl ?_ ?_
  · refine zw_iconst (p := 51) (x := (-1 : Int32)) (Or.inr rfl) rfl rfl rfl ?_
    exact zw_ireturn1 (Or.inr rfl) rfl rfl
  refine zw_iload_n (p := 20) (Or.inr rfl) rfl rfl rfl ?_
  refine zw_aload_n (p := 21) (Or.inr rfl) rfl rfl rfl ?_
  refine zw_get_ref (p := 24) (Or.inr rfl) rfl rfl (fun q1 => ?_)
  refine zw_get_int (p := 27) (Or.inr rfl) rfl rfl ?_
  refine zw_icmp_gt (t := 50) (p := 30) (Or.inr rfl) rfl rfl rfl ?_ ?_
  · refine zw_iconst (p := 51) (x := (-1 : Int32)) (Or.inr rfl) rfl rfl rfl ?_
    exact zw_ireturn1 (Or.inr rfl) rfl rfl
  refine zw_iload (p := 32) (Or.inr rfl) rfl rfl rfl ?_
  refine zw_iload_n (p := 33) (Or.inr rfl) rfl rfl rfl ?_
  refine zw_iconst (p := 34) (x := (1 : Int32)) (Or.inr rfl) rfl rfl rfl ?_
  refine zw_isub (p := 35) (Or.inr rfl) rfl rfl ?_
  refine zw_icmp_lt (t := 50) (p := 38) (Or.inr rfl) rfl rfl rfl ?_ ?_
  · refine zw_iconst (p := 51) (x := (-1 : Int32)) (Or.inr rfl) rfl rfl rfl ?_
    exact zw_ireturn1 (Or.inr rfl) rfl rfl
  refine zw_iload (p := 40) (Or.inr rfl) rfl rfl rfl ?_
  refine zw_aload_n (p := 41) (Or.inr rfl) rfl rfl rfl ?_
  refine zw_get_ref (p := 44) (Or.inr rfl) rfl rfl (fun q2 => ?_)
  refine zw_get_int (p := 47) (Or.inr rfl) rfl rfl ?_
  refine zw_icmp_lt (t := 52) (p := 50) (Or.inr rfl) rfl rfl rfl ?_ ?_
  · refine zw_aload_n (p := 53) (Or.inr rfl) rfl rfl rfl ?_
    refine zw_get_ref (p := 56) (Or.inr rfl) rfl rfl (fun q3 => ?_)
    refine zw_iload_n (p := 57) (Or.inr rfl) rfl rfl rfl ?_
    refine zw_aaload (p := 58) (Or.inr rfl) rfl rfl (fun q4 => ?_)
    refine zw_iload_n (p := 59) (Or.inr rfl) rfl rfl rfl ?_
    refine zw_virtualR (p := 62) (as := [.ref q4, .int x2]) (rest := []) (Or.inr rfl) rfl rfl rfl rfl rfl rfl rfl (fun q5 M3 => ?_)
    refine zw_astore (p := 64) (l2 := [some (.ref a0), some (.int x1), some (.int x2), some (.int x3), some (.int x4), some (.ref q5)]) (Or.inr rfl) rfl rfl rfl rfl ?_
    refine zw_aload (p := 66) (Or.inr rfl) rfl rfl rfl ?_
    refine zw_aload (p := 68) (Or.inr rfl) rfl rfl rfl ?_
    refine zw_aload_n (p := 69) (Or.inr rfl) rfl rfl rfl ?_
    refine zw_get_ref (p := 72) (Or.inr rfl) rfl rfl (fun q6 => ?_)
    refine zw_iload_n (p := 73) (Or.inr rfl) rfl rfl rfl ?_
    refine zw_iload (p := 75) (Or.inr rfl) rfl rfl rfl ?_
    refine zw_iconst (p := 76) (x := (1 : Int32)) (Or.inr rfl) rfl rfl rfl ?_
    refine zw_iadd (p := 77) (Or.inr rfl) rfl rfl ?_
    refine zw_virtualL (p := 80) (as := [.ref q5, .ref q6, .int x3, .int (x4 + (1 : Int32))]) (rest := [.ref q5]) (Or.inr rfl) rfl rfl rfl rfl rfl rfl rfl (fun w1 M4 => ?_)
    refine zw_virtualI (p := 83) (as := [.ref q5, .long w1]) (rest := []) (Or.inr rfl) rfl rfl rfl rfl rfl rfl rfl (fun u3 M5 => ?_)
    refine zw_if_eq (t := 90) (p := 86) (Or.inr rfl) rfl rfl rfl ?_ ?_
    · refine zw_iconst (p := 91) (x := (0 : Int32)) (Or.inr rfl) rfl rfl rfl ?_
      exact zw_ireturn1 (Or.inr rfl) rfl rfl
    refine zw_iconst (p := 87) (x := (1 : Int32)) (Or.inr rfl) rfl rfl rfl ?_
    refine zw_goto (t := 91) (Or.inr rfl) rfl rfl ?_
    exact zw_ireturn1 (Or.inr rfl) rfl rfl
  refine zw_iconst (p := 51) (x := (-1 : Int32)) (Or.inr rfl) rfl rfl rfl ?_
  exact zw_ireturn1 (Or.inr rfl) rfl rfl
def zx_PT_might (E : zE0) (K : zKt) (a0 : Nat) (x1 : Int32) (x2 : Int32) (x3 : Int32) (M : zM) : zO :=
  zif ((zK M a0).1 = 10)
  (zbI (E n_PT_isPromise [.ref a0, .int x1] M) fun u1 M1 =>
  if u1 = 0 then (some (some (.int (-1 : Int32)), M1))
  else zbI (E n_PT_isSide [.int x2] M1) fun u2 M2 =>
  if u2 = 0 then (some (some (.int (-1 : Int32)), M2))
  else if x3 < 0 then (some (some (.int (-1 : Int32)), M2))
  else zif ((zK M2 a0).1 = 10)
  (zoR (zR M2 a0 3) fun q1 =>
  zif ((zK M2 q1).1 = 7)
  (if x3 ≤ (zI M2 q1 1) then (zif ((zK M2 a0).1 = 10)
    (zoR (zR M2 a0 7) fun q2 =>
    zif (30 ≤ (zK M2 q2).1 ∧ zin x1 (zK M2 q2).2 = true)
    (zoR (zR M2 q2 (Int32.toNatClampNeg x1)) fun q3 =>
    zif ((zK M2 q3).1 = 2)
    (zbR (E n_Pl_sideOf [.ref q3, .int x2] M2) fun q4 M3 =>
    zif ((zK M3 a0).1 = 10)
    (zoR (zR M3 a0 3) fun q5 =>
    zif ((zK M3 a0).1 = 10)
    (zoR (zR M3 a0 3) fun q6 =>
    zif ((zK M3 q6).1 = 7)
    (zif ((zK M3 q4).1 = 4)
    (zbL (E n_Se_walk [.ref q4, .ref q5, .int x3, .int (zI M3 q6 1)] M3) fun w1 M4 =>
    zif ((zK M4 q4).1 = 4)
    (zbI (E n_Se_goesOn [.ref q4, .long w1] M4) fun u3 M5 =>
    if u3 = 0 then (some (some (.int (0 : Int32)), M5))
    else some (some (.int (1 : Int32)), M5))))))))))
  else some (some (.int (-1 : Int32)), M2))))
set_option maxRecDepth 20000 in
theorem ze_PT_might (d : Nat) (a0 : Nat) (x1 : Int32) (x2 : Int32) (x3 : Int32) (M : zM) : zV (d + 1) n_PT_might [.ref a0, .int x1, .int x2, .int x3] M = zx_PT_might (zV d) (zG d n_PT_might) a0 x1 x2 x3 M := by
  refine (zE_sg (m := zm_PT_might) rfl 400 _ rfl M).trans ?_
  show zw true zm_PT_might (zV d) (zG d n_PT_might) 400 0 [some (.ref a0), some (.int x1), some (.int x2), some (.int x3), none] [] M = _
  unfold zx_PT_might
  refine zw_aload_n (p := 1) (Or.inl rfl) rfl rfl rfl ?_
  refine zw_iload_n (p := 2) (Or.inr rfl) rfl rfl rfl ?_
  refine zw_virtualI (p := 5) (as := [.ref a0, .int x1]) (rest := []) (Or.inr rfl) rfl rfl rfl rfl rfl rfl rfl (fun u1 M1 => ?_)
  refine zw_if_eq (t := 30) (p := 8) (Or.inr rfl) rfl rfl rfl ?_ ?_
  · refine zw_iconst (p := 31) (x := (-1 : Int32)) (Or.inr rfl) rfl rfl rfl ?_
    exact zw_ireturn1 (Or.inr rfl) rfl rfl
  refine zw_iload_n (p := 9) (Or.inr rfl) rfl rfl rfl ?_
  refine zw_staticI (p := 12) (as := [.int x2]) (rest := []) (Or.inr rfl) rfl rfl rfl rfl rfl rfl (fun u2 M2 => ?_)
  refine zw_if_eq (t := 30) (p := 15) (Or.inr rfl) rfl rfl rfl ?_ ?_
  · refine zw_iconst (p := 31) (x := (-1 : Int32)) (Or.inr rfl) rfl rfl rfl ?_
    exact zw_ireturn1 (Or.inr rfl) rfl rfl
  refine zw_iload_n (p := 16) (Or.inr rfl) rfl rfl rfl ?_
  refine zw_if_lt (t := 30) (p := 19) (Or.inr rfl) rfl rfl rfl ?_ ?_
  · refine zw_iconst (p := 31) (x := (-1 : Int32)) (Or.inr rfl) rfl rfl rfl ?_
    exact zw_ireturn1 (Or.inr rfl) rfl rfl
  refine zw_iload_n (p := 20) (Or.inr rfl) rfl rfl rfl ?_
  refine zw_aload_n (p := 21) (Or.inr rfl) rfl rfl rfl ?_
  refine zw_get_ref (p := 24) (Or.inr rfl) rfl rfl (fun q1 => ?_)
  refine zw_get_int (p := 27) (Or.inr rfl) rfl rfl ?_
  refine zw_icmp_le (t := 32) (p := 30) (Or.inr rfl) rfl rfl rfl ?_ ?_
  · refine zw_aload_n (p := 33) (Or.inr rfl) rfl rfl rfl ?_
    refine zw_get_ref (p := 36) (Or.inr rfl) rfl rfl (fun q2 => ?_)
    refine zw_iload_n (p := 37) (Or.inr rfl) rfl rfl rfl ?_
    refine zw_aaload (p := 38) (Or.inr rfl) rfl rfl (fun q3 => ?_)
    refine zw_iload_n (p := 39) (Or.inr rfl) rfl rfl rfl ?_
    refine zw_virtualR (p := 42) (as := [.ref q3, .int x2]) (rest := []) (Or.inr rfl) rfl rfl rfl rfl rfl rfl rfl (fun q4 M3 => ?_)
    refine zw_astore (p := 44) (l2 := [some (.ref a0), some (.int x1), some (.int x2), some (.int x3), some (.ref q4)]) (Or.inr rfl) rfl rfl rfl rfl ?_
    refine zw_aload (p := 46) (Or.inr rfl) rfl rfl rfl ?_
    refine zw_aload (p := 48) (Or.inr rfl) rfl rfl rfl ?_
    refine zw_aload_n (p := 49) (Or.inr rfl) rfl rfl rfl ?_
    refine zw_get_ref (p := 52) (Or.inr rfl) rfl rfl (fun q5 => ?_)
    refine zw_iload_n (p := 53) (Or.inr rfl) rfl rfl rfl ?_
    refine zw_aload_n (p := 54) (Or.inr rfl) rfl rfl rfl ?_
    refine zw_get_ref (p := 57) (Or.inr rfl) rfl rfl (fun q6 => ?_)
    refine zw_get_int (p := 60) (Or.inr rfl) rfl rfl ?_
    refine zw_virtualL (p := 63) (as := [.ref q4, .ref q5, .int x3, .int (zI M3 q6 1)]) (rest := [.ref q4]) (Or.inr rfl) rfl rfl rfl rfl rfl rfl rfl (fun w1 M4 => ?_)
    refine zw_virtualI (p := 66) (as := [.ref q4, .long w1]) (rest := []) (Or.inr rfl) rfl rfl rfl rfl rfl rfl rfl (fun u3 M5 => ?_)
    refine zw_if_eq (t := 73) (p := 69) (Or.inr rfl) rfl rfl rfl ?_ ?_
    · refine zw_iconst (p := 74) (x := (0 : Int32)) (Or.inr rfl) rfl rfl rfl ?_
      exact zw_ireturn1 (Or.inr rfl) rfl rfl
    refine zw_iconst (p := 70) (x := (1 : Int32)) (Or.inr rfl) rfl rfl rfl ?_
    refine zw_goto (t := 74) (Or.inr rfl) rfl rfl ?_
    exact zw_ireturn1 (Or.inr rfl) rfl rfl
  refine zw_iconst (p := 31) (x := (-1 : Int32)) (Or.inr rfl) rfl rfl rfl ?_
  exact zw_ireturn1 (Or.inr rfl) rfl rfl
def zx_PT_tick (E : zE0) (K : zKt) (a0 : Nat) (x1 : Int32) (M : zM) : zO :=
  zbI (E n_PT_isBits [.int x1] M) fun u1 M1 =>
  if u1 ≠ 0 then (zif ((zK M1 a0).1 = 10)
    (zoR (zR M1 a0 3) fun q1 =>
    zif ((zK M1 q1).1 = 7)
    (if (zI M1 q1 1) < (48 : Int32) then (zif ((zK M1 a0).1 = 10)
      (zoR (zR M1 a0 3) fun q2 =>
      zif ((zK M1 q2).1 = 7)
      (zbV (E n_Tr_add [.ref q2, .int x1] M1) fun M2 =>
      K 36 [some (.ref a0), none, some (.int (0 : Int32)), some (.int (0 : Int32))] [] M2)))
    else some (some (.int (-3 : Int32)), M1))))
  else some (some (.int (-1 : Int32)), M1)
set_option maxRecDepth 20000 in
theorem ze_PT_tick (d : Nat) (a0 : Nat) (x1 : Int32) (M : zM) : zV (d + 1) n_PT_tick [.ref a0, .int x1] M = zx_PT_tick (zV d) (zG d n_PT_tick) a0 x1 M := by
  refine (zE_sg (m := zm_PT_tick) rfl 400 _ rfl M).trans ?_
  show zw true zm_PT_tick (zV d) (zG d n_PT_tick) 400 0 [some (.ref a0), some (.int x1), none, none] [] M = _
  unfold zx_PT_tick
  refine zw_iload_n (p := 1) (Or.inl rfl) rfl rfl rfl ?_
  refine zw_staticI (p := 4) (as := [.int x1]) (rest := []) (Or.inr rfl) rfl rfl rfl rfl rfl rfl (fun u1 M1 => ?_)
  refine zw_if_ne (t := 9) (p := 7) (Or.inr rfl) rfl rfl rfl ?_ ?_
  · refine zw_aload_n (p := 10) (Or.inr rfl) rfl rfl rfl ?_
    refine zw_get_ref (p := 13) (Or.inr rfl) rfl rfl (fun q1 => ?_)
    refine zw_get_int (p := 16) (Or.inr rfl) rfl rfl ?_
    refine zw_bipush (p := 18) (x := (48 : Int32)) (Or.inr rfl) rfl rfl rfl ?_
    refine zw_icmp_lt (t := 24) (p := 21) (Or.inr rfl) rfl rfl rfl ?_ ?_
    · refine zw_aload_n (p := 25) (Or.inr rfl) rfl rfl rfl ?_
      refine zw_get_ref (p := 28) (Or.inr rfl) rfl rfl (fun q2 => ?_)
      refine zw_iload_n (p := 29) (Or.inr rfl) rfl rfl rfl ?_
      refine zw_virtualV (p := 32) (as := [.ref q2, .int x1]) (rest := []) (Or.inr rfl) rfl rfl rfl rfl rfl rfl rfl (fun M2 => ?_)
      refine zw_iconst (p := 33) (x := (0 : Int32)) (Or.inr rfl) rfl rfl rfl ?_
      refine zw_istore_n (p := 34) (l2 := [some (.ref a0), some (.int x1), some (.int (0 : Int32)), none]) (Or.inr rfl) rfl rfl rfl rfl ?_
      refine zw_iconst (p := 35) (x := (0 : Int32)) (Or.inr rfl) rfl rfl rfl ?_
      refine zw_istore_n (p := 36) (l2 := [some (.ref a0), some (.int x1), some (.int (0 : Int32)), some (.int (0 : Int32))]) (Or.inr rfl) rfl rfl rfl rfl ?_
      exact zw_end rfl rfl
    refine zw_bipush (p := 23) (x := (-3 : Int32)) (Or.inr rfl) rfl rfl rfl ?_
    exact zw_ireturn1 (Or.inr rfl) rfl rfl
  refine zw_iconst (p := 8) (x := (-1 : Int32)) (Or.inr rfl) rfl rfl rfl ?_
  exact zw_ireturn1 (Or.inr rfl) rfl rfl
def zx_PT_tick_36 (E : zE0) (K : zKt) (a0 : Nat) (x2 : Int32) (x3 : Int32) (M : zM) : zO :=
  zif ((zK M a0).1 = 10)
  (if (zI M a0 9) ≤ x3 then (some (some (.int x2), M))
  else zif ((zK M a0).1 = 10)
  (zbR (E n_PT_watchOf [.ref a0, .int x3] M) fun q1 M1 =>
  zif ((zK M1 a0).1 = 10)
  (zoR (zR M1 a0 3) fun q2 =>
  zif ((zK M1 q2).1 = 7)
  (zif ((zK M1 q1).1 = 9)
  (zbI (E n_Wa_failedBy [.ref q1, .int ((zI M1 q2 1) - (1 : Int32))] M1) fun u1 M2 =>
  zbi (x2 + u1) fun u2 =>
  zbi (x3 + (1 : Int32)) fun u3 =>
  K 36 [some (.ref a0), none, some (.int u2), some (.int u3)] [] M2)))))
set_option maxRecDepth 20000 in
theorem zg_PT_tick_36 (d : Nat) (a0 : Nat) (x2 : Int32) (x3 : Int32) (M : zM) : zG d n_PT_tick 36 [some (.ref a0), none, some (.int x2), some (.int x3)] [] M = zx_PT_tick_36 (zV d) (zG d n_PT_tick) a0 x2 x3 M := by
  refine (zG_sg (m := zm_PT_tick) rfl 400 _ _ _ M).trans ?_
  show zw true zm_PT_tick (zV d) (zG d n_PT_tick) 400 36 [some (.ref a0), none, some (.int x2), some (.int x3)] [] M = _
  unfold zx_PT_tick_36
  refine zw_iload_n (p := 37) (Or.inl rfl) rfl rfl rfl ?_
  refine zw_aload_n (p := 38) (Or.inr rfl) rfl rfl rfl ?_
  refine zw_get_int (p := 41) (Or.inr rfl) rfl rfl ?_
  refine zw_icmp_ge (t := 70) (p := 44) (Or.inr rfl) rfl rfl rfl ?_ ?_
  · refine zw_iload_n (p := 71) (Or.inr rfl) rfl rfl rfl ?_
    exact zw_ireturn1 (Or.inr rfl) rfl rfl
  refine zw_iload_n (p := 45) (Or.inr rfl) rfl rfl rfl ?_
  refine zw_aload_n (p := 46) (Or.inr rfl) rfl rfl rfl ?_
  refine zw_iload_n (p := 47) (Or.inr rfl) rfl rfl rfl ?_
  refine zw_virtualR (p := 50) (as := [.ref a0, .int x3]) (rest := [.int x2]) (Or.inr rfl) rfl rfl rfl rfl rfl rfl rfl (fun q1 M1 => ?_)
  refine zw_aload_n (p := 51) (Or.inr rfl) rfl rfl rfl ?_
  refine zw_get_ref (p := 54) (Or.inr rfl) rfl rfl (fun q2 => ?_)
  refine zw_get_int (p := 57) (Or.inr rfl) rfl rfl ?_
  refine zw_iconst (p := 58) (x := (1 : Int32)) (Or.inr rfl) rfl rfl rfl ?_
  refine zw_isub (p := 59) (Or.inr rfl) rfl rfl ?_
  refine zw_virtualI (p := 62) (as := [.ref q1, .int ((zI M1 q2 1) - (1 : Int32))]) (rest := [.int x2]) (Or.inr rfl) rfl rfl rfl rfl rfl rfl rfl (fun u1 M2 => ?_)
  refine zw_iadd (p := 63) (Or.inr rfl) rfl rfl ?_
  refine zw_istore_nN (p := 64) (L2 := fun u2 => [some (.ref a0), none, some (.int u2), some (.int x3)]) (Or.inr rfl) rfl rfl (fun _ => rfl) rfl (fun u2 => ?_)
  refine zw_iinc (p := 67) (c := (1 : Int32)) (L2 := fun u3 => [some (.ref a0), none, some (.int u2), some (.int u3)]) (Or.inr rfl) rfl rfl rfl rfl (fun _ => rfl) rfl (fun u3 => ?_)
  refine zw_goto (t := 36) (Or.inr rfl) rfl rfl ?_
  exact zw_end rfl rfl
def zx_PT_bits (E : zE0) (K : zKt) (a0 : Nat) (x1 : Int32) (M : zM) : zO :=
  zif ((zK M a0).1 = 10)
  (zbI (E n_PT_isTick [.ref a0, .int x1] M) fun u1 M1 =>
  if u1 = 0 then (some (some (.int (-1 : Int32)), M1))
  else zif ((zK M1 a0).1 = 10)
  (zoR (zR M1 a0 3) fun q1 =>
  zif ((zK M1 q1).1 = 7)
  (zoR (zR M1 q1 0) fun q2 =>
  zif (((zK M1 q2).1 = 20 ∨ (zK M1 q2).1 = 24) ∧ zin x1 (zK M1 q2).2 = true)
  (some (some (.int (zI M1 q2 (Int32.toNatClampNeg x1))), M1)))))
set_option maxRecDepth 20000 in
theorem ze_PT_bits (d : Nat) (a0 : Nat) (x1 : Int32) (M : zM) : zV (d + 1) n_PT_bits [.ref a0, .int x1] M = zx_PT_bits (zV d) (zG d n_PT_bits) a0 x1 M := by
  refine (zE_sg (m := zm_PT_bits) rfl 400 _ rfl M).trans ?_
  show zw true zm_PT_bits (zV d) (zG d n_PT_bits) 400 0 [some (.ref a0), some (.int x1)] [] M = _
  unfold zx_PT_bits
  refine zw_aload_n (p := 1) (Or.inl rfl) rfl rfl rfl ?_
  refine zw_iload_n (p := 2) (Or.inr rfl) rfl rfl rfl ?_
  refine zw_virtualI (p := 5) (as := [.ref a0, .int x1]) (rest := []) (Or.inr rfl) rfl rfl rfl rfl rfl rfl rfl (fun u1 M1 => ?_)
  refine zw_if_eq (t := 20) (p := 8) (Or.inr rfl) rfl rfl rfl ?_ ?_
  · refine zw_iconst (p := 21) (x := (-1 : Int32)) (Or.inr rfl) rfl rfl rfl ?_
    exact zw_ireturn1 (Or.inr rfl) rfl rfl
  refine zw_aload_n (p := 9) (Or.inr rfl) rfl rfl rfl ?_
  refine zw_get_ref (p := 12) (Or.inr rfl) rfl rfl (fun q1 => ?_)
  refine zw_get_ref (p := 15) (Or.inr rfl) rfl rfl (fun q2 => ?_)
  refine zw_iload_n (p := 16) (Or.inr rfl) rfl rfl rfl ?_
  refine zw_iaload (p := 17) (Or.inr rfl) rfl rfl ?_
  refine zw_goto (t := 21) (Or.inr rfl) rfl rfl ?_
  exact zw_ireturn1 (Or.inr rfl) rfl rfl
def zx_PT_put (E : zE0) (K : zKt) (a0 : Nat) (x1 : Int32) (x2 : Int32) (M : zM) : zO :=
  zif ((zK M a0).1 = 10)
  (zbI (E n_PT_isTick [.ref a0, .int x1] M) fun u1 M1 =>
  if u1 = 0 then (some (some (.int (-1 : Int32)), M1))
  else zbI (E n_PT_isBits [.int x2] M1) fun u2 M2 =>
  if u2 ≠ 0 then (zif ((zK M2 a0).1 = 10)
    (zoR (zR M2 a0 3) fun q1 =>
    zif ((zK M2 q1).1 = 7)
    (zoR (zR M2 q1 0) fun q2 =>
    zif (((zK M2 q2).1 = 20 ∨ (zK M2 q2).1 = 24) ∧ zin x1 (zK M2 q2).2 = true)
    (zbi (zI M2 q2 (Int32.toNatClampNeg x1)) fun u3 =>
    zif ((zK M2 a0).1 = 10)
    (zoR (zR M2 a0 3) fun q3 =>
    zif ((zK M2 q3).1 = 7)
    (zoR (zR M2 q3 0) fun q4 =>
    zif ((zK M2 q4).1 = 20 ∧ zin x1 (zK M2 q4).2 = true)
    (zbm (zsI M2 q4 (Int32.toNatClampNeg x1) x2) fun M3 =>
    zif ((zK M3 a0).1 = 10)
    (zbV (E n_PT_watchAnew [.ref a0] M3) fun M4 =>
    some (some (.int u3), M4)))))))))
  else some (some (.int (-1 : Int32)), M2))
set_option maxRecDepth 20000 in
theorem ze_PT_put (d : Nat) (a0 : Nat) (x1 : Int32) (x2 : Int32) (M : zM) : zV (d + 1) n_PT_put [.ref a0, .int x1, .int x2] M = zx_PT_put (zV d) (zG d n_PT_put) a0 x1 x2 M := by
  refine (zE_sg (m := zm_PT_put) rfl 400 _ rfl M).trans ?_
  show zw true zm_PT_put (zV d) (zG d n_PT_put) 400 0 [some (.ref a0), some (.int x1), some (.int x2), none] [] M = _
  unfold zx_PT_put
  refine zw_aload_n (p := 1) (Or.inl rfl) rfl rfl rfl ?_
  refine zw_iload_n (p := 2) (Or.inr rfl) rfl rfl rfl ?_
  refine zw_virtualI (p := 5) (as := [.ref a0, .int x1]) (rest := []) (Or.inr rfl) rfl rfl rfl rfl rfl rfl rfl (fun u1 M1 => ?_)
  refine zw_if_eq (t := 15) (p := 8) (Or.inr rfl) rfl rfl rfl ?_ ?_
  · refine zw_iconst (p := 16) (x := (-1 : Int32)) (Or.inr rfl) rfl rfl rfl ?_
    exact zw_ireturn1 (Or.inr rfl) rfl rfl
  refine zw_iload_n (p := 9) (Or.inr rfl) rfl rfl rfl ?_
  refine zw_staticI (p := 12) (as := [.int x2]) (rest := []) (Or.inr rfl) rfl rfl rfl rfl rfl rfl (fun u2 M2 => ?_)
  refine zw_if_ne (t := 17) (p := 15) (Or.inr rfl) rfl rfl rfl ?_ ?_
  · refine zw_aload_n (p := 18) (Or.inr rfl) rfl rfl rfl ?_
    refine zw_get_ref (p := 21) (Or.inr rfl) rfl rfl (fun q1 => ?_)
    refine zw_get_ref (p := 24) (Or.inr rfl) rfl rfl (fun q2 => ?_)
    refine zw_iload_n (p := 25) (Or.inr rfl) rfl rfl rfl ?_
    refine zw_iaload (p := 26) (Or.inr rfl) rfl rfl ?_
    refine zw_istore_nN (p := 27) (L2 := fun u3 => [some (.ref a0), some (.int x1), some (.int x2), some (.int u3)]) (Or.inr rfl) rfl rfl (fun _ => rfl) rfl (fun u3 => ?_)
    refine zw_aload_n (p := 28) (Or.inr rfl) rfl rfl rfl ?_
    refine zw_get_ref (p := 31) (Or.inr rfl) rfl rfl (fun q3 => ?_)
    refine zw_get_ref (p := 34) (Or.inr rfl) rfl rfl (fun q4 => ?_)
    refine zw_iload_n (p := 35) (Or.inr rfl) rfl rfl rfl ?_
    refine zw_iload_n (p := 36) (Or.inr rfl) rfl rfl rfl ?_
    refine zw_iastore (p := 37) (Or.inr rfl) rfl rfl (fun M3 => ?_)
    refine zw_aload_n (p := 38) (Or.inr rfl) rfl rfl rfl ?_
    refine zw_virtualV (p := 41) (as := [.ref a0]) (rest := []) (Or.inr rfl) rfl rfl rfl rfl rfl rfl rfl (fun M4 => ?_)
    refine zw_iload_n (p := 42) (Or.inr rfl) rfl rfl rfl ?_
    exact zw_ireturn1 (Or.inr rfl) rfl rfl
  refine zw_iconst (p := 16) (x := (-1 : Int32)) (Or.inr rfl) rfl rfl rfl ?_
  exact zw_ireturn1 (Or.inr rfl) rfl rfl
def zx_PT_keeps (E : zE0) (K : zKt) (a0 : Nat) (x1 : Int32) (M : zM) : zO :=
  zif ((zK M a0).1 = 10)
  (zoR (zR M a0 3) fun q1 =>
  zif ((zK M q1).1 = 7)
  (zbi (zI M q1 1) fun u1 =>
  if x1 < 0 then (some (some (.int (-1 : Int32)), M))
  else if x1 ≤ u1 then (zif ((zK M a0).1 = 10)
    (zoR (zR M a0 3) fun q2 =>
    zif ((zK M q2).1 = 7)
    (zbm (zsI M q2 1 x1) fun M1 =>
    zif ((zK M1 a0).1 = 10)
    (zbV (E n_PT_watchAnew [.ref a0] M1) fun M2 =>
    some (some (.int u1), M2)))))
  else some (some (.int (-1 : Int32)), M)))
set_option maxRecDepth 20000 in
theorem ze_PT_keeps (d : Nat) (a0 : Nat) (x1 : Int32) (M : zM) : zV (d + 1) n_PT_keeps [.ref a0, .int x1] M = zx_PT_keeps (zV d) (zG d n_PT_keeps) a0 x1 M := by
  refine (zE_sg (m := zm_PT_keeps) rfl 400 _ rfl M).trans ?_
  show zw true zm_PT_keeps (zV d) (zG d n_PT_keeps) 400 0 [some (.ref a0), some (.int x1), none] [] M = _
  unfold zx_PT_keeps
  refine zw_aload_n (p := 1) (Or.inl rfl) rfl rfl rfl ?_
  refine zw_get_ref (p := 4) (Or.inr rfl) rfl rfl (fun q1 => ?_)
  refine zw_get_int (p := 7) (Or.inr rfl) rfl rfl ?_
  refine zw_istore_nN (p := 8) (L2 := fun u1 => [some (.ref a0), some (.int x1), some (.int u1)]) (Or.inr rfl) rfl rfl (fun _ => rfl) rfl (fun u1 => ?_)
  refine zw_iload_n (p := 9) (Or.inr rfl) rfl rfl rfl ?_
  refine zw_if_lt (t := 17) (p := 12) (Or.inr rfl) rfl rfl rfl ?_ ?_
  · refine zw_iconst (p := 18) (x := (-1 : Int32)) (Or.inr rfl) rfl rfl rfl ?_
    exact zw_ireturn1 (Or.inr rfl) rfl rfl
  refine zw_iload_n (p := 13) (Or.inr rfl) rfl rfl rfl ?_
  refine zw_iload_n (p := 14) (Or.inr rfl) rfl rfl rfl ?_
  refine zw_icmp_le (t := 19) (p := 17) (Or.inr rfl) rfl rfl rfl ?_ ?_
  · refine zw_aload_n (p := 20) (Or.inr rfl) rfl rfl rfl ?_
    refine zw_get_ref (p := 23) (Or.inr rfl) rfl rfl (fun q2 => ?_)
    refine zw_iload_n (p := 24) (Or.inr rfl) rfl rfl rfl ?_
    refine zw_put_int (p := 27) (Or.inr rfl) rfl rfl (fun M1 => ?_)
    refine zw_aload_n (p := 28) (Or.inr rfl) rfl rfl rfl ?_
    refine zw_virtualV (p := 31) (as := [.ref a0]) (rest := []) (Or.inr rfl) rfl rfl rfl rfl rfl rfl rfl (fun M2 => ?_)
    refine zw_iload_n (p := 32) (Or.inr rfl) rfl rfl rfl ?_
    exact zw_ireturn1 (Or.inr rfl) rfl rfl
  refine zw_iconst (p := 18) (x := (-1 : Int32)) (Or.inr rfl) rfl rfl rfl ?_
  exact zw_ireturn1 (Or.inr rfl) rfl rfl
def zx_PT_draw (E : zE0) (K : zKt) (a0 : Nat) (x1 : Int32) (x2 : Int32) (M : zM) : zO :=
  if x2 < (1 : Int32) then (some (some (.int (-1 : Int32)), M))
  else if x2 ≤ (20 : Int32) then (zif ((zK M a0).1 = 10)
    (zoR (zR M a0 3) fun q1 =>
    zif ((zK M q1).1 = 7)
    (if ((zI M q1 1) + x2) ≤ (48 : Int32) then (K 35 [some (.ref a0), none, some (.int x2), some (.int x1), some (.int (0 : Int32)), none] [] M)
    else some (some (.int (-3 : Int32)), M))))
  else some (some (.int (-1 : Int32)), M)
set_option maxRecDepth 20000 in
theorem ze_PT_draw (d : Nat) (a0 : Nat) (x1 : Int32) (x2 : Int32) (M : zM) : zV (d + 1) n_PT_draw [.ref a0, .int x1, .int x2] M = zx_PT_draw (zV d) (zG d n_PT_draw) a0 x1 x2 M := by
  refine (zE_sg (m := zm_PT_draw) rfl 400 _ rfl M).trans ?_
  show zw true zm_PT_draw (zV d) (zG d n_PT_draw) 400 0 [some (.ref a0), some (.int x1), some (.int x2), none, none, none] [] M = _
  unfold zx_PT_draw
  refine zw_iload_n (p := 1) (Or.inl rfl) rfl rfl rfl ?_
  refine zw_iconst (p := 2) (x := (1 : Int32)) (Or.inr rfl) rfl rfl rfl ?_
  refine zw_icmp_lt (t := 11) (p := 5) (Or.inr rfl) rfl rfl rfl ?_ ?_
  · refine zw_iconst (p := 12) (x := (-1 : Int32)) (Or.inr rfl) rfl rfl rfl ?_
    exact zw_ireturn1 (Or.inr rfl) rfl rfl
  refine zw_iload_n (p := 6) (Or.inr rfl) rfl rfl rfl ?_
  refine zw_bipush (p := 8) (x := (20 : Int32)) (Or.inr rfl) rfl rfl rfl ?_
  refine zw_icmp_le (t := 13) (p := 11) (Or.inr rfl) rfl rfl rfl ?_ ?_
  · refine zw_aload_n (p := 14) (Or.inr rfl) rfl rfl rfl ?_
    refine zw_get_ref (p := 17) (Or.inr rfl) rfl rfl (fun q1 => ?_)
    refine zw_get_int (p := 20) (Or.inr rfl) rfl rfl ?_
    refine zw_iload_n (p := 21) (Or.inr rfl) rfl rfl rfl ?_
    refine zw_iadd (p := 22) (Or.inr rfl) rfl rfl ?_
    refine zw_bipush (p := 24) (x := (48 : Int32)) (Or.inr rfl) rfl rfl rfl ?_
    refine zw_icmp_le (t := 30) (p := 27) (Or.inr rfl) rfl rfl rfl ?_ ?_
    · refine zw_iload_n (p := 31) (Or.inr rfl) rfl rfl rfl ?_
      refine zw_istore_n (p := 32) (l2 := [some (.ref a0), some (.int x1), some (.int x2), some (.int x1), none, none]) (Or.inr rfl) rfl rfl rfl rfl ?_
      refine zw_iconst (p := 33) (x := (0 : Int32)) (Or.inr rfl) rfl rfl rfl ?_
      refine zw_istore (p := 35) (l2 := [some (.ref a0), some (.int x1), some (.int x2), some (.int x1), some (.int (0 : Int32)), none]) (Or.inr rfl) rfl rfl rfl rfl ?_
      exact zw_end rfl rfl
    refine zw_bipush (p := 29) (x := (-3 : Int32)) (Or.inr rfl) rfl rfl rfl ?_
    exact zw_ireturn1 (Or.inr rfl) rfl rfl
  refine zw_iconst (p := 12) (x := (-1 : Int32)) (Or.inr rfl) rfl rfl rfl ?_
  exact zw_ireturn1 (Or.inr rfl) rfl rfl
def zx_PT_draw_35 (E : zE0) (K : zKt) (a0 : Nat) (x2 : Int32) (x3 : Int32) (x4 : Int32) (M : zM) : zO :=
  if x2 ≤ x4 then (zif ((zK M a0).1 = 10)
    (zoR (zR M a0 3) fun q1 =>
    zif ((zK M q1).1 = 7)
    (some (some (.int (zI M q1 1)), M))))
  else zbI (E n_PT_nextSeed [.int x3] M) fun u1 M1 =>
  zbI (E n_PT_got [.int u1] M1) fun u2 M2 =>
  zbI (E n_PT_nextSeed [.int u1] M2) fun u3 M3 =>
  zif ((zK M3 a0).1 = 10)
  (zoR (zR M3 a0 3) fun q2 =>
  zbI (E n_PT_got [.int u3] M3) fun u4 M4 =>
  zif ((zK M4 q2).1 = 7)
  (zbV (E n_Tr_add [.ref q2, .int (u2 &&& u4)] M4) fun M5 =>
  zbi (x4 + (1 : Int32)) fun u5 =>
  K 35 [some (.ref a0), none, some (.int x2), some (.int u3), some (.int u5), none] [] M5))
set_option maxRecDepth 20000 in
theorem zg_PT_draw_35 (d : Nat) (a0 : Nat) (x2 : Int32) (x3 : Int32) (x4 : Int32) (M : zM) : zG d n_PT_draw 35 [some (.ref a0), none, some (.int x2), some (.int x3), some (.int x4), none] [] M = zx_PT_draw_35 (zV d) (zG d n_PT_draw) a0 x2 x3 x4 M := by
  refine (zG_sg (m := zm_PT_draw) rfl 400 _ _ _ M).trans ?_
  show zw true zm_PT_draw (zV d) (zG d n_PT_draw) 400 35 [some (.ref a0), none, some (.int x2), some (.int x3), some (.int x4), none] [] M = _
  unfold zx_PT_draw_35
  refine zw_iload (p := 37) (Or.inl rfl) rfl rfl rfl ?_
  refine zw_iload_n (p := 38) (Or.inr rfl) rfl rfl rfl ?_
  refine zw_icmp_ge (t := 77) (p := 41) (Or.inr rfl) rfl rfl rfl ?_ ?_
  · refine zw_aload_n (p := 78) (Or.inr rfl) rfl rfl rfl ?_
    refine zw_get_ref (p := 81) (Or.inr rfl) rfl rfl (fun q1 => ?_)
    refine zw_get_int (p := 84) (Or.inr rfl) rfl rfl ?_
    exact zw_ireturn1 (Or.inr rfl) rfl rfl
  refine zw_iload_n (p := 42) (Or.inr rfl) rfl rfl rfl ?_
  refine zw_staticI (p := 45) (as := [.int x3]) (rest := []) (Or.inr rfl) rfl rfl rfl rfl rfl rfl (fun u1 M1 => ?_)
  refine zw_istore_n (p := 46) (l2 := [some (.ref a0), none, some (.int x2), some (.int u1), some (.int x4), none]) (Or.inr rfl) rfl rfl rfl rfl ?_
  refine zw_iload_n (p := 47) (Or.inr rfl) rfl rfl rfl ?_
  refine zw_staticI (p := 50) (as := [.int u1]) (rest := []) (Or.inr rfl) rfl rfl rfl rfl rfl rfl (fun u2 M2 => ?_)
  refine zw_istore (p := 52) (l2 := [some (.ref a0), none, some (.int x2), some (.int u1), some (.int x4), some (.int u2)]) (Or.inr rfl) rfl rfl rfl rfl ?_
  refine zw_iload_n (p := 53) (Or.inr rfl) rfl rfl rfl ?_
  refine zw_staticI (p := 56) (as := [.int u1]) (rest := []) (Or.inr rfl) rfl rfl rfl rfl rfl rfl (fun u3 M3 => ?_)
  refine zw_istore_n (p := 57) (l2 := [some (.ref a0), none, some (.int x2), some (.int u3), some (.int x4), some (.int u2)]) (Or.inr rfl) rfl rfl rfl rfl ?_
  refine zw_aload_n (p := 58) (Or.inr rfl) rfl rfl rfl ?_
  refine zw_get_ref (p := 61) (Or.inr rfl) rfl rfl (fun q2 => ?_)
  refine zw_iload (p := 63) (Or.inr rfl) rfl rfl rfl ?_
  refine zw_iload_n (p := 64) (Or.inr rfl) rfl rfl rfl ?_
  refine zw_staticI (p := 67) (as := [.int u3]) (rest := [.int u2, .ref q2]) (Or.inr rfl) rfl rfl rfl rfl rfl rfl (fun u4 M4 => ?_)
  refine zw_iand (p := 68) (Or.inr rfl) rfl rfl ?_
  refine zw_virtualV (p := 71) (as := [.ref q2, .int (u2 &&& u4)]) (rest := []) (Or.inr rfl) rfl rfl rfl rfl rfl rfl rfl (fun M5 => ?_)
  refine zw_iinc (p := 74) (c := (1 : Int32)) (L2 := fun u5 => [some (.ref a0), none, some (.int x2), some (.int u3), some (.int u5), some (.int u2)]) (Or.inr rfl) rfl rfl rfl rfl (fun _ => rfl) rfl (fun u5 => ?_)
  refine zw_goto (t := 35) (Or.inr rfl) rfl rfl ?_
  exact zw_end rfl rfl
def zx_PT_verdict (E : zE0) (K : zKt) (a0 : Nat) (x1 : Int32) (x2 : Int32) (M : zM) : zO :=
  zif ((zK M a0).1 = 10)
  (zbI (E n_PT_isTry [.ref a0, .int x1, .int x2] M) fun u1 M1 =>
  if u1 = 0 then (some (some (.int (-1 : Int32)), M1))
  else zif ((zK M1 a0).1 = 10)
  (zbR (E n_PT_watchOf [.ref a0, .int x1] M1) fun q1 M2 =>
  zif ((zK M2 q1).1 = 9)
  (zoR (zR M2 q1 4) fun q2 =>
  zif (((zK M2 q2).1 = 20 ∨ (zK M2 q2).1 = 24) ∧ zin x2 (zK M2 q2).2 = true)
  (some (some (.int (zI M2 q2 (Int32.toNatClampNeg x2))), M2)))))
set_option maxRecDepth 20000 in
theorem ze_PT_verdict (d : Nat) (a0 : Nat) (x1 : Int32) (x2 : Int32) (M : zM) : zV (d + 1) n_PT_verdict [.ref a0, .int x1, .int x2] M = zx_PT_verdict (zV d) (zG d n_PT_verdict) a0 x1 x2 M := by
  refine (zE_sg (m := zm_PT_verdict) rfl 400 _ rfl M).trans ?_
  show zw true zm_PT_verdict (zV d) (zG d n_PT_verdict) 400 0 [some (.ref a0), some (.int x1), some (.int x2)] [] M = _
  unfold zx_PT_verdict
  refine zw_aload_n (p := 1) (Or.inl rfl) rfl rfl rfl ?_
  refine zw_iload_n (p := 2) (Or.inr rfl) rfl rfl rfl ?_
  refine zw_iload_n (p := 3) (Or.inr rfl) rfl rfl rfl ?_
  refine zw_virtualI (p := 6) (as := [.ref a0, .int x1, .int x2]) (rest := []) (Or.inr rfl) rfl rfl rfl rfl rfl rfl rfl (fun u1 M1 => ?_)
  refine zw_if_eq (t := 22) (p := 9) (Or.inr rfl) rfl rfl rfl ?_ ?_
  · refine zw_iconst (p := 23) (x := (-1 : Int32)) (Or.inr rfl) rfl rfl rfl ?_
    exact zw_ireturn1 (Or.inr rfl) rfl rfl
  refine zw_aload_n (p := 10) (Or.inr rfl) rfl rfl rfl ?_
  refine zw_iload_n (p := 11) (Or.inr rfl) rfl rfl rfl ?_
  refine zw_virtualR (p := 14) (as := [.ref a0, .int x1]) (rest := []) (Or.inr rfl) rfl rfl rfl rfl rfl rfl rfl (fun q1 M2 => ?_)
  refine zw_get_ref (p := 17) (Or.inr rfl) rfl rfl (fun q2 => ?_)
  refine zw_iload_n (p := 18) (Or.inr rfl) rfl rfl rfl ?_
  refine zw_iaload (p := 19) (Or.inr rfl) rfl rfl ?_
  refine zw_goto (t := 23) (Or.inr rfl) rfl rfl ?_
  exact zw_ireturn1 (Or.inr rfl) rfl rfl
def zx_PT_decided (E : zE0) (K : zKt) (a0 : Nat) (x1 : Int32) (x2 : Int32) (M : zM) : zO :=
  zif ((zK M a0).1 = 10)
  (zbI (E n_PT_isTry [.ref a0, .int x1, .int x2] M) fun u1 M1 =>
  if u1 ≠ 0 then (zif ((zK M1 a0).1 = 10)
    (zbR (E n_PT_watchOf [.ref a0, .int x1] M1) fun q1 M2 =>
    zif ((zK M2 q1).1 = 9)
    (zoR (zR M2 q1 4) fun q2 =>
    zif (((zK M2 q2).1 = 20 ∨ (zK M2 q2).1 = 24) ∧ zin x2 (zK M2 q2).2 = true)
    (if (zI M2 q2 (Int32.toNatClampNeg x2)) ≠ 0 then (zif ((zK M2 q1).1 = 9)
      (zoR (zR M2 q1 5) fun q3 =>
      zif (((zK M2 q3).1 = 20 ∨ (zK M2 q3).1 = 24) ∧ zin x2 (zK M2 q3).2 = true)
      (some (some (.int (zI M2 q3 (Int32.toNatClampNeg x2))), M2))))
    else some (some (.int (-4 : Int32)), M2)))))
  else some (some (.int (-1 : Int32)), M1))
set_option maxRecDepth 20000 in
theorem ze_PT_decided (d : Nat) (a0 : Nat) (x1 : Int32) (x2 : Int32) (M : zM) : zV (d + 1) n_PT_decided [.ref a0, .int x1, .int x2] M = zx_PT_decided (zV d) (zG d n_PT_decided) a0 x1 x2 M := by
  refine (zE_sg (m := zm_PT_decided) rfl 400 _ rfl M).trans ?_
  show zw true zm_PT_decided (zV d) (zG d n_PT_decided) 400 0 [some (.ref a0), some (.int x1), some (.int x2), none] [] M = _
  unfold zx_PT_decided
  refine zw_aload_n (p := 1) (Or.inl rfl) rfl rfl rfl ?_
  refine zw_iload_n (p := 2) (Or.inr rfl) rfl rfl rfl ?_
  refine zw_iload_n (p := 3) (Or.inr rfl) rfl rfl rfl ?_
  refine zw_virtualI (p := 6) (as := [.ref a0, .int x1, .int x2]) (rest := []) (Or.inr rfl) rfl rfl rfl rfl rfl rfl rfl (fun u1 M1 => ?_)
  refine zw_if_ne (t := 11) (p := 9) (Or.inr rfl) rfl rfl rfl ?_ ?_
  · refine zw_aload_n (p := 12) (Or.inr rfl) rfl rfl rfl ?_
    refine zw_iload_n (p := 13) (Or.inr rfl) rfl rfl rfl ?_
    refine zw_virtualR (p := 16) (as := [.ref a0, .int x1]) (rest := []) (Or.inr rfl) rfl rfl rfl rfl rfl rfl rfl (fun q1 M2 => ?_)
    refine zw_astore_n (p := 17) (l2 := [some (.ref a0), some (.int x1), some (.int x2), some (.ref q1)]) (Or.inr rfl) rfl rfl rfl rfl ?_
    refine zw_aload_n (p := 18) (Or.inr rfl) rfl rfl rfl ?_
    refine zw_get_ref (p := 21) (Or.inr rfl) rfl rfl (fun q2 => ?_)
    refine zw_iload_n (p := 22) (Or.inr rfl) rfl rfl rfl ?_
    refine zw_iaload (p := 23) (Or.inr rfl) rfl rfl ?_
    refine zw_if_ne (t := 31) (p := 26) (Or.inr rfl) rfl rfl rfl ?_ ?_
    · refine zw_aload_n (p := 32) (Or.inr rfl) rfl rfl rfl ?_
      refine zw_get_ref (p := 35) (Or.inr rfl) rfl rfl (fun q3 => ?_)
      refine zw_iload_n (p := 36) (Or.inr rfl) rfl rfl rfl ?_
      refine zw_iaload (p := 37) (Or.inr rfl) rfl rfl ?_
      exact zw_ireturn1 (Or.inr rfl) rfl rfl
    refine zw_bipush (p := 28) (x := (-4 : Int32)) (Or.inr rfl) rfl rfl rfl ?_
    refine zw_goto (t := 37) (Or.inr rfl) rfl rfl ?_
    exact zw_ireturn1 (Or.inr rfl) rfl rfl
  refine zw_iconst (p := 10) (x := (-1 : Int32)) (Or.inr rfl) rfl rfl rfl ?_
  exact zw_ireturn1 (Or.inr rfl) rfl rfl
def zx_PT_duties (E : zE0) (K : zKt) (a0 : Nat) (x1 : Int32) (x2 : Int32) (M : zM) : zO :=
  zif ((zK M a0).1 = 10)
  (zbI (E n_PT_isTry [.ref a0, .int x1, .int x2] M) fun u1 M1 =>
  if u1 = 0 then (some (some (.int (-1 : Int32)), M1))
  else zif ((zK M1 a0).1 = 10)
  (zbR (E n_PT_watchOf [.ref a0, .int x1] M1) fun q1 M2 =>
  zif ((zK M2 q1).1 = 9)
  (zoR (zR M2 q1 3) fun q2 =>
  zif (((zK M2 q2).1 = 23 ∨ (zK M2 q2).1 = 25) ∧ zin x2 (zK M2 q2).2 = true)
  (zbI (E n_JL_bitCount [.long (zL M2 q2 (Int32.toNatClampNeg x2))] M2) fun u2 M3 =>
  some (some (.int u2), M3)))))
set_option maxRecDepth 20000 in
theorem ze_PT_duties (d : Nat) (a0 : Nat) (x1 : Int32) (x2 : Int32) (M : zM) : zV (d + 1) n_PT_duties [.ref a0, .int x1, .int x2] M = zx_PT_duties (zV d) (zG d n_PT_duties) a0 x1 x2 M := by
  refine (zE_sg (m := zm_PT_duties) rfl 400 _ rfl M).trans ?_
  show zw true zm_PT_duties (zV d) (zG d n_PT_duties) 400 0 [some (.ref a0), some (.int x1), some (.int x2)] [] M = _
  unfold zx_PT_duties
  refine zw_aload_n (p := 1) (Or.inl rfl) rfl rfl rfl ?_
  refine zw_iload_n (p := 2) (Or.inr rfl) rfl rfl rfl ?_
  refine zw_iload_n (p := 3) (Or.inr rfl) rfl rfl rfl ?_
  refine zw_virtualI (p := 6) (as := [.ref a0, .int x1, .int x2]) (rest := []) (Or.inr rfl) rfl rfl rfl rfl rfl rfl rfl (fun u1 M1 => ?_)
  refine zw_if_eq (t := 25) (p := 9) (Or.inr rfl) rfl rfl rfl ?_ ?_
  · refine zw_iconst (p := 26) (x := (-1 : Int32)) (Or.inr rfl) rfl rfl rfl ?_
    exact zw_ireturn1 (Or.inr rfl) rfl rfl
  refine zw_aload_n (p := 10) (Or.inr rfl) rfl rfl rfl ?_
  refine zw_iload_n (p := 11) (Or.inr rfl) rfl rfl rfl ?_
  refine zw_virtualR (p := 14) (as := [.ref a0, .int x1]) (rest := []) (Or.inr rfl) rfl rfl rfl rfl rfl rfl rfl (fun q1 M2 => ?_)
  refine zw_get_ref (p := 17) (Or.inr rfl) rfl rfl (fun q2 => ?_)
  refine zw_iload_n (p := 18) (Or.inr rfl) rfl rfl rfl ?_
  refine zw_laload (p := 19) (Or.inr rfl) rfl rfl ?_
  refine zw_staticI (p := 22) (as := [.long (zL M2 q2 (Int32.toNatClampNeg x2))]) (rest := []) (Or.inr rfl) rfl rfl rfl rfl rfl rfl (fun u2 M3 => ?_)
  refine zw_goto (t := 26) (Or.inr rfl) rfl rfl ?_
  exact zw_ireturn1 (Or.inr rfl) rfl rfl
def zx_PT_duty (E : zE0) (K : zKt) (a0 : Nat) (x1 : Int32) (x2 : Int32) (x3 : Int32) (x4 : Int32) (M : zM) : zO :=
  zif ((zK M a0).1 = 10)
  (zbI (E n_PT_isTry [.ref a0, .int x1, .int x2] M) fun u1 M1 =>
  if u1 = 0 then (some (some (.int (-1 : Int32)), M1))
  else if x3 < 0 then (some (some (.int (-1 : Int32)), M1))
  else if x4 < 0 then (some (some (.int (-1 : Int32)), M1))
  else if x4 ≤ (2 : Int32) then (zif ((zK M1 a0).1 = 10)
    (zbR (E n_PT_watchOf [.ref a0, .int x1] M1) fun q1 M2 =>
    zif ((zK M2 q1).1 = 9)
    (zbI (E n_Wa_dutyTick [.ref q1, .int x2, .int x3] M2) fun u2 M3 =>
    if 0 ≤ u2 then (if x4 ≠ 0 then (zif ((zK M3 q1).1 = 9)
        (zbI (E n_Wa_dutyState [.ref q1, .int u2] M3) fun u3 M4 =>
        if x4 ≠ (1 : Int32) then (if u3 ≠ 0 then (zif ((zK M4 q1).1 = 9)
            (zoR (zR M4 q1 2) fun q2 =>
            zif (((zK M4 q2).1 = 20 ∨ (zK M4 q2).1 = 24) ∧ zin u2 (zK M4 q2).2 = true)
            (some (some (.int (zI M4 q2 (Int32.toNatClampNeg u2))), M4))))
          else some (some (.int (-4 : Int32)), M4))
        else some (some (.int u3), M4)))
      else some (some (.int u2), M3))
    else some (some (.int (-4 : Int32)), M3))))
  else some (some (.int (-1 : Int32)), M1))
set_option maxRecDepth 20000 in
theorem ze_PT_duty (d : Nat) (a0 : Nat) (x1 : Int32) (x2 : Int32) (x3 : Int32) (x4 : Int32) (M : zM) : zV (d + 1) n_PT_duty [.ref a0, .int x1, .int x2, .int x3, .int x4] M = zx_PT_duty (zV d) (zG d n_PT_duty) a0 x1 x2 x3 x4 M := by
  refine (zE_sg (m := zm_PT_duty) rfl 400 _ rfl M).trans ?_
  show zw true zm_PT_duty (zV d) (zG d n_PT_duty) 400 0 [some (.ref a0), some (.int x1), some (.int x2), some (.int x3), some (.int x4), none, none, none] [] M = _
  unfold zx_PT_duty
  refine zw_aload_n (p := 1) (Or.inl rfl) rfl rfl rfl ?_
  refine zw_iload_n (p := 2) (Or.inr rfl) rfl rfl rfl ?_
  refine zw_iload_n (p := 3) (Or.inr rfl) rfl rfl rfl ?_
  refine zw_virtualI (p := 6) (as := [.ref a0, .int x1, .int x2]) (rest := []) (Or.inr rfl) rfl rfl rfl rfl rfl rfl rfl (fun u1 M1 => ?_)
  refine zw_if_eq (t := 24) (p := 9) (Or.inr rfl) rfl rfl rfl ?_ ?_
  · refine zw_iconst (p := 25) (x := (-1 : Int32)) (Or.inr rfl) rfl rfl rfl ?_
    exact zw_ireturn1 (Or.inr rfl) rfl rfl
  refine zw_iload_n (p := 10) (Or.inr rfl) rfl rfl rfl ?_
  refine zw_if_lt (t := 24) (p := 13) (Or.inr rfl) rfl rfl rfl ?_ ?_
  · refine zw_iconst (p := 25) (x := (-1 : Int32)) (Or.inr rfl) rfl rfl rfl ?_
    exact zw_ireturn1 (Or.inr rfl) rfl rfl
  refine zw_iload (p := 15) (Or.inr rfl) rfl rfl rfl ?_
  refine zw_if_lt (t := 24) (p := 18) (Or.inr rfl) rfl rfl rfl ?_ ?_
  · refine zw_iconst (p := 25) (x := (-1 : Int32)) (Or.inr rfl) rfl rfl rfl ?_
    exact zw_ireturn1 (Or.inr rfl) rfl rfl
  refine zw_iload (p := 20) (Or.inr rfl) rfl rfl rfl ?_
  refine zw_iconst (p := 21) (x := (2 : Int32)) (Or.inr rfl) rfl rfl rfl ?_
  refine zw_icmp_le (t := 26) (p := 24) (Or.inr rfl) rfl rfl rfl ?_ ?_
  · refine zw_aload_n (p := 27) (Or.inr rfl) rfl rfl rfl ?_
    refine zw_iload_n (p := 28) (Or.inr rfl) rfl rfl rfl ?_
    refine zw_virtualR (p := 31) (as := [.ref a0, .int x1]) (rest := []) (Or.inr rfl) rfl rfl rfl rfl rfl rfl rfl (fun q1 M2 => ?_)
    refine zw_astore (p := 33) (l2 := [some (.ref a0), some (.int x1), some (.int x2), some (.int x3), some (.int x4), some (.ref q1), none, none]) (Or.inr rfl) rfl rfl rfl rfl ?_
    refine zw_aload (p := 35) (Or.inr rfl) rfl rfl rfl ?_
    refine zw_iload_n (p := 36) (Or.inr rfl) rfl rfl rfl ?_
    refine zw_iload_n (p := 37) (Or.inr rfl) rfl rfl rfl ?_
    refine zw_virtualI (p := 40) (as := [.ref q1, .int x2, .int x3]) (rest := []) (Or.inr rfl) rfl rfl rfl rfl rfl rfl rfl (fun u2 M3 => ?_)
    refine zw_istore (p := 42) (l2 := [some (.ref a0), some (.int x1), some (.int x2), some (.int x3), some (.int x4), some (.ref q1), some (.int u2), none]) (Or.inr rfl) rfl rfl rfl rfl ?_
    refine zw_iload (p := 44) (Or.inr rfl) rfl rfl rfl ?_
    refine zw_if_ge (t := 50) (p := 47) (Or.inr rfl) rfl rfl rfl ?_ ?_
    · refine zw_iload (p := 52) (Or.inr rfl) rfl rfl rfl ?_
      refine zw_if_ne (t := 58) (p := 55) (Or.inr rfl) rfl rfl rfl ?_ ?_
      · refine zw_aload (p := 60) (Or.inr rfl) rfl rfl rfl ?_
        refine zw_iload (p := 62) (Or.inr rfl) rfl rfl rfl ?_
        refine zw_virtualI (p := 65) (as := [.ref q1, .int u2]) (rest := []) (Or.inr rfl) rfl rfl rfl rfl rfl rfl rfl (fun u3 M4 => ?_)
        refine zw_istore (p := 67) (l2 := [some (.ref a0), some (.int x1), some (.int x2), some (.int x3), some (.int x4), some (.ref q1), some (.int u2), some (.int u3)]) (Or.inr rfl) rfl rfl rfl rfl ?_
        refine zw_iload (p := 69) (Or.inr rfl) rfl rfl rfl ?_
        refine zw_iconst (p := 70) (x := (1 : Int32)) (Or.inr rfl) rfl rfl rfl ?_
        refine zw_icmp_ne (t := 76) (p := 73) (Or.inr rfl) rfl rfl rfl ?_ ?_
        · refine zw_iload (p := 78) (Or.inr rfl) rfl rfl rfl ?_
          refine zw_if_ne (t := 86) (p := 81) (Or.inr rfl) rfl rfl rfl ?_ ?_
          · refine zw_aload (p := 88) (Or.inr rfl) rfl rfl rfl ?_
            refine zw_get_ref (p := 91) (Or.inr rfl) rfl rfl (fun q2 => ?_)
            refine zw_iload (p := 93) (Or.inr rfl) rfl rfl rfl ?_
            refine zw_iaload (p := 94) (Or.inr rfl) rfl rfl ?_
            exact zw_ireturn1 (Or.inr rfl) rfl rfl
          refine zw_bipush (p := 83) (x := (-4 : Int32)) (Or.inr rfl) rfl rfl rfl ?_
          refine zw_goto (t := 94) (Or.inr rfl) rfl rfl ?_
          exact zw_ireturn1 (Or.inr rfl) rfl rfl
        refine zw_iload (p := 75) (Or.inr rfl) rfl rfl rfl ?_
        exact zw_ireturn1 (Or.inr rfl) rfl rfl
      refine zw_iload (p := 57) (Or.inr rfl) rfl rfl rfl ?_
      exact zw_ireturn1 (Or.inr rfl) rfl rfl
    refine zw_bipush (p := 49) (x := (-4 : Int32)) (Or.inr rfl) rfl rfl rfl ?_
    exact zw_ireturn1 (Or.inr rfl) rfl rfl
  refine zw_iconst (p := 25) (x := (-1 : Int32)) (Or.inr rfl) rfl rfl rfl ?_
  exact zw_ireturn1 (Or.inr rfl) rfl rfl
def zx_PT_tries (E : zE0) (K : zKt) (a0 : Nat) (x1 : Int32) (x2 : Int32) (M : zM) : zO :=
  zif ((zK M a0).1 = 10)
  (zbI (E n_PT_isPromise [.ref a0, .int x1] M) fun u1 M1 =>
  if u1 = 0 then (some (some (.int (-1 : Int32)), M1))
  else zbI (E n_PT_isVerdict [.int x2] M1) fun u2 M2 =>
  if u2 = 0 then (some (some (.int (-1 : Int32)), M2))
  else zif ((zK M2 a0).1 = 10)
  (zbR (E n_PT_watchOf [.ref a0, .int x1] M2) fun q1 M3 =>
  zif ((zK M3 q1).1 = 9)
  (zbI (E n_Wa_howMany [.ref q1, .int x2] M3) fun u3 M4 =>
  some (some (.int u3), M4))))
set_option maxRecDepth 20000 in
theorem ze_PT_tries (d : Nat) (a0 : Nat) (x1 : Int32) (x2 : Int32) (M : zM) : zV (d + 1) n_PT_tries [.ref a0, .int x1, .int x2] M = zx_PT_tries (zV d) (zG d n_PT_tries) a0 x1 x2 M := by
  refine (zE_sg (m := zm_PT_tries) rfl 400 _ rfl M).trans ?_
  show zw true zm_PT_tries (zV d) (zG d n_PT_tries) 400 0 [some (.ref a0), some (.int x1), some (.int x2)] [] M = _
  unfold zx_PT_tries
  refine zw_aload_n (p := 1) (Or.inl rfl) rfl rfl rfl ?_
  refine zw_iload_n (p := 2) (Or.inr rfl) rfl rfl rfl ?_
  refine zw_virtualI (p := 5) (as := [.ref a0, .int x1]) (rest := []) (Or.inr rfl) rfl rfl rfl rfl rfl rfl rfl (fun u1 M1 => ?_)
  refine zw_if_eq (t := 27) (p := 8) (Or.inr rfl) rfl rfl rfl ?_ ?_
  · refine zw_iconst (p := 28) (x := (-1 : Int32)) (Or.inr rfl) rfl rfl rfl ?_
    exact zw_ireturn1 (Or.inr rfl) rfl rfl
  refine zw_iload_n (p := 9) (Or.inr rfl) rfl rfl rfl ?_
  refine zw_staticI (p := 12) (as := [.int x2]) (rest := []) (Or.inr rfl) rfl rfl rfl rfl rfl rfl (fun u2 M2 => ?_)
  refine zw_if_eq (t := 27) (p := 15) (Or.inr rfl) rfl rfl rfl ?_ ?_
  · refine zw_iconst (p := 28) (x := (-1 : Int32)) (Or.inr rfl) rfl rfl rfl ?_
    exact zw_ireturn1 (Or.inr rfl) rfl rfl
  refine zw_aload_n (p := 16) (Or.inr rfl) rfl rfl rfl ?_
  refine zw_iload_n (p := 17) (Or.inr rfl) rfl rfl rfl ?_
  refine zw_virtualR (p := 20) (as := [.ref a0, .int x1]) (rest := []) (Or.inr rfl) rfl rfl rfl rfl rfl rfl rfl (fun q1 M3 => ?_)
  refine zw_iload_n (p := 21) (Or.inr rfl) rfl rfl rfl ?_
  refine zw_virtualI (p := 24) (as := [.ref q1, .int x2]) (rest := []) (Or.inr rfl) rfl rfl rfl rfl rfl rfl rfl (fun u3 M4 => ?_)
  refine zw_goto (t := 28) (Or.inr rfl) rfl rfl ?_
  exact zw_ireturn1 (Or.inr rfl) rfl rfl
def zx_PT_first (E : zE0) (K : zKt) (a0 : Nat) (x1 : Int32) (x2 : Int32) (M : zM) : zO :=
  zif ((zK M a0).1 = 10)
  (zbI (E n_PT_isPromise [.ref a0, .int x1] M) fun u1 M1 =>
  if u1 = 0 then (some (some (.int (-1 : Int32)), M1))
  else zbI (E n_PT_isVerdict [.int x2] M1) fun u2 M2 =>
  if u2 = 0 then (some (some (.int (-1 : Int32)), M2))
  else zif ((zK M2 a0).1 = 10)
  (zbR (E n_PT_watchOf [.ref a0, .int x1] M2) fun q1 M3 =>
  zif ((zK M3 q1).1 = 9)
  (zbI (E n_Wa_earliest [.ref q1, .int x2] M3) fun u3 M4 =>
  some (some (.int u3), M4))))
set_option maxRecDepth 20000 in
theorem ze_PT_first (d : Nat) (a0 : Nat) (x1 : Int32) (x2 : Int32) (M : zM) : zV (d + 1) n_PT_first [.ref a0, .int x1, .int x2] M = zx_PT_first (zV d) (zG d n_PT_first) a0 x1 x2 M := by
  refine (zE_sg (m := zm_PT_first) rfl 400 _ rfl M).trans ?_
  show zw true zm_PT_first (zV d) (zG d n_PT_first) 400 0 [some (.ref a0), some (.int x1), some (.int x2)] [] M = _
  unfold zx_PT_first
  refine zw_aload_n (p := 1) (Or.inl rfl) rfl rfl rfl ?_
  refine zw_iload_n (p := 2) (Or.inr rfl) rfl rfl rfl ?_
  refine zw_virtualI (p := 5) (as := [.ref a0, .int x1]) (rest := []) (Or.inr rfl) rfl rfl rfl rfl rfl rfl rfl (fun u1 M1 => ?_)
  refine zw_if_eq (t := 27) (p := 8) (Or.inr rfl) rfl rfl rfl ?_ ?_
  · refine zw_iconst (p := 28) (x := (-1 : Int32)) (Or.inr rfl) rfl rfl rfl ?_
    exact zw_ireturn1 (Or.inr rfl) rfl rfl
  refine zw_iload_n (p := 9) (Or.inr rfl) rfl rfl rfl ?_
  refine zw_staticI (p := 12) (as := [.int x2]) (rest := []) (Or.inr rfl) rfl rfl rfl rfl rfl rfl (fun u2 M2 => ?_)
  refine zw_if_eq (t := 27) (p := 15) (Or.inr rfl) rfl rfl rfl ?_ ?_
  · refine zw_iconst (p := 28) (x := (-1 : Int32)) (Or.inr rfl) rfl rfl rfl ?_
    exact zw_ireturn1 (Or.inr rfl) rfl rfl
  refine zw_aload_n (p := 16) (Or.inr rfl) rfl rfl rfl ?_
  refine zw_iload_n (p := 17) (Or.inr rfl) rfl rfl rfl ?_
  refine zw_virtualR (p := 20) (as := [.ref a0, .int x1]) (rest := []) (Or.inr rfl) rfl rfl rfl rfl rfl rfl rfl (fun q1 M3 => ?_)
  refine zw_iload_n (p := 21) (Or.inr rfl) rfl rfl rfl ?_
  refine zw_virtualI (p := 24) (as := [.ref q1, .int x2]) (rest := []) (Or.inr rfl) rfl rfl rfl rfl rfl rfl rfl (fun u3 M4 => ?_)
  refine zw_goto (t := 28) (Or.inr rfl) rfl rfl ?_
  exact zw_ireturn1 (Or.inr rfl) rfl rfl
def zx_PT_keep (E : zE0) (K : zKt) (a0 : Nat) (x1 : Int32) (M : zM) : zO :=
  zbI (E n_PT_isImage [.int x1] M) fun u1 M1 =>
  if u1 ≠ 0 then (zif ((zK M1 a0).1 = 10)
    (zoR (zR M1 a0 5) fun q1 =>
    zif (((zK M1 q1).1 = 21 ∨ (zK M1 q1).1 = 22) ∧ zin x1 (zK M1 q1).2 = true)
    (if (zI M1 q1 (Int32.toNatClampNeg x1)) = 0 then (zif ((zK M1 a0).1 = 10)
      (zoR (zR M1 a0 4) fun q2 =>
      zif (30 ≤ (zK M1 q2).1 ∧ zin x1 (zK M1 q2).2 = true)
      (zoR (zR M1 q2 (Int32.toNatClampNeg x1)) fun q3 =>
      zif ((zK M1 a0).1 = 10)
      (zoR (zR M1 a0 3) fun q4 =>
      zif ((zK M1 q3).1 = 7)
      (zbV (E n_Tr_become [.ref q3, .ref q4] M1) fun M2 =>
      zif ((zK M2 a0).1 = 10)
      (zoR (zR M2 a0 5) fun q5 =>
      zbast M2 q5 x1 (1 : Int32) fun M3 =>
      some (some (.int (0 : Int32)), M3)))))))
    else zif ((zK M1 a0).1 = 10)
    (zoR (zR M1 a0 4) fun q6 =>
    zif (30 ≤ (zK M1 q6).1 ∧ zin x1 (zK M1 q6).2 = true)
    (zoR (zR M1 q6 (Int32.toNatClampNeg x1)) fun q7 =>
    zif ((zK M1 a0).1 = 10)
    (zoR (zR M1 a0 3) fun q8 =>
    zif ((zK M1 q7).1 = 7)
    (zbV (E n_Tr_become [.ref q7, .ref q8] M1) fun M4 =>
    zif ((zK M4 a0).1 = 10)
    (zoR (zR M4 a0 5) fun q9 =>
    zbast M4 q9 x1 (1 : Int32) fun M5 =>
    some (some (.int (1 : Int32)), M5)))))))))
  else some (some (.int (-1 : Int32)), M1)
set_option maxRecDepth 20000 in
theorem ze_PT_keep (d : Nat) (a0 : Nat) (x1 : Int32) (M : zM) : zV (d + 1) n_PT_keep [.ref a0, .int x1] M = zx_PT_keep (zV d) (zG d n_PT_keep) a0 x1 M := by
  refine (zE_sg (m := zm_PT_keep) rfl 400 _ rfl M).trans ?_
  show zw true zm_PT_keep (zV d) (zG d n_PT_keep) 400 0 [some (.ref a0), some (.int x1), none] [] M = _
  unfold zx_PT_keep
  refine zw_iload_n (p := 1) (Or.inl rfl) rfl rfl rfl ?_
  refine zw_staticI (p := 4) (as := [.int x1]) (rest := []) (Or.inr rfl) rfl rfl rfl rfl rfl rfl (fun u1 M1 => ?_)
  refine zw_if_ne (t := 9) (p := 7) (Or.inr rfl) rfl rfl rfl ?_ ?_
  · refine zw_aload_n (p := 10) (Or.inr rfl) rfl rfl rfl ?_
    refine zw_get_ref (p := 13) (Or.inr rfl) rfl rfl (fun q1 => ?_)
    refine zw_iload_n (p := 14) (Or.inr rfl) rfl rfl rfl ?_
    refine zw_baload (p := 15) (Or.inr rfl) rfl rfl ?_
    refine zw_if_eq (t := 22) (p := 18) (Or.inr rfl) rfl rfl rfl ?_ ?_
    · refine zw_iconst (p := 23) (x := (0 : Int32)) (Or.inr rfl) rfl rfl rfl ?_
      refine zw_istore_n (p := 24) (l2 := [some (.ref a0), some (.int x1), some (.int (0 : Int32))]) (Or.inr rfl) rfl rfl rfl rfl ?_
      refine zw_aload_n (p := 25) (Or.inr rfl) rfl rfl rfl ?_
      refine zw_get_ref (p := 28) (Or.inr rfl) rfl rfl (fun q2 => ?_)
      refine zw_iload_n (p := 29) (Or.inr rfl) rfl rfl rfl ?_
      refine zw_aaload (p := 30) (Or.inr rfl) rfl rfl (fun q3 => ?_)
      refine zw_aload_n (p := 31) (Or.inr rfl) rfl rfl rfl ?_
      refine zw_get_ref (p := 34) (Or.inr rfl) rfl rfl (fun q4 => ?_)
      refine zw_virtualV (p := 37) (as := [.ref q3, .ref q4]) (rest := []) (Or.inr rfl) rfl rfl rfl rfl rfl rfl rfl (fun M2 => ?_)
      refine zw_aload_n (p := 38) (Or.inr rfl) rfl rfl rfl ?_
      refine zw_get_ref (p := 41) (Or.inr rfl) rfl rfl (fun q5 => ?_)
      refine zw_iload_n (p := 42) (Or.inr rfl) rfl rfl rfl ?_
      refine zw_iconst (p := 43) (x := (1 : Int32)) (Or.inr rfl) rfl rfl rfl ?_
      refine zw_bastore (p := 44) (Or.inr rfl) rfl rfl (fun M3 => ?_)
      refine zw_iload_n (p := 45) (Or.inr rfl) rfl rfl rfl ?_
      exact zw_ireturn1 (Or.inr rfl) rfl rfl
    refine zw_iconst (p := 19) (x := (1 : Int32)) (Or.inr rfl) rfl rfl rfl ?_
    refine zw_goto (t := 23) (Or.inr rfl) rfl rfl ?_
    refine zw_istore_n (p := 24) (l2 := [some (.ref a0), some (.int x1), some (.int (1 : Int32))]) (Or.inr rfl) rfl rfl rfl rfl ?_
    refine zw_aload_n (p := 25) (Or.inr rfl) rfl rfl rfl ?_
    refine zw_get_ref (p := 28) (Or.inr rfl) rfl rfl (fun q6 => ?_)
    refine zw_iload_n (p := 29) (Or.inr rfl) rfl rfl rfl ?_
    refine zw_aaload (p := 30) (Or.inr rfl) rfl rfl (fun q7 => ?_)
    refine zw_aload_n (p := 31) (Or.inr rfl) rfl rfl rfl ?_
    refine zw_get_ref (p := 34) (Or.inr rfl) rfl rfl (fun q8 => ?_)
    refine zw_virtualV (p := 37) (as := [.ref q7, .ref q8]) (rest := []) (Or.inr rfl) rfl rfl rfl rfl rfl rfl rfl (fun M4 => ?_)
    refine zw_aload_n (p := 38) (Or.inr rfl) rfl rfl rfl ?_
    refine zw_get_ref (p := 41) (Or.inr rfl) rfl rfl (fun q9 => ?_)
    refine zw_iload_n (p := 42) (Or.inr rfl) rfl rfl rfl ?_
    refine zw_iconst (p := 43) (x := (1 : Int32)) (Or.inr rfl) rfl rfl rfl ?_
    refine zw_bastore (p := 44) (Or.inr rfl) rfl rfl (fun M5 => ?_)
    refine zw_iload_n (p := 45) (Or.inr rfl) rfl rfl rfl ?_
    exact zw_ireturn1 (Or.inr rfl) rfl rfl
  refine zw_iconst (p := 8) (x := (-1 : Int32)) (Or.inr rfl) rfl rfl rfl ?_
  exact zw_ireturn1 (Or.inr rfl) rfl rfl
def zx_PT_back (E : zE0) (K : zKt) (a0 : Nat) (x1 : Int32) (M : zM) : zO :=
  zbI (E n_PT_isImage [.int x1] M) fun u1 M1 =>
  if u1 ≠ 0 then (zif ((zK M1 a0).1 = 10)
    (zoR (zR M1 a0 5) fun q1 =>
    zif (((zK M1 q1).1 = 21 ∨ (zK M1 q1).1 = 22) ∧ zin x1 (zK M1 q1).2 = true)
    (if (zI M1 q1 (Int32.toNatClampNeg x1)) ≠ 0 then (zif ((zK M1 a0).1 = 10)
      (zoR (zR M1 a0 3) fun q2 =>
      zif ((zK M1 a0).1 = 10)
      (zoR (zR M1 a0 4) fun q3 =>
      zif (30 ≤ (zK M1 q3).1 ∧ zin x1 (zK M1 q3).2 = true)
      (zoR (zR M1 q3 (Int32.toNatClampNeg x1)) fun q4 =>
      zif ((zK M1 q2).1 = 7)
      (zbV (E n_Tr_become [.ref q2, .ref q4] M1) fun M2 =>
      zif ((zK M2 a0).1 = 10)
      (zbV (E n_PT_watchAnew [.ref a0] M2) fun M3 =>
      zif ((zK M3 a0).1 = 10)
      (zoR (zR M3 a0 3) fun q5 =>
      zif ((zK M3 q5).1 = 7)
      (some (some (.int (zI M3 q5 1)), M3)))))))))
    else some (some (.int (-2 : Int32)), M1))))
  else some (some (.int (-1 : Int32)), M1)
set_option maxRecDepth 20000 in
theorem ze_PT_back (d : Nat) (a0 : Nat) (x1 : Int32) (M : zM) : zV (d + 1) n_PT_back [.ref a0, .int x1] M = zx_PT_back (zV d) (zG d n_PT_back) a0 x1 M := by
  refine (zE_sg (m := zm_PT_back) rfl 400 _ rfl M).trans ?_
  show zw true zm_PT_back (zV d) (zG d n_PT_back) 400 0 [some (.ref a0), some (.int x1)] [] M = _
  unfold zx_PT_back
  refine zw_iload_n (p := 1) (Or.inl rfl) rfl rfl rfl ?_
  refine zw_staticI (p := 4) (as := [.int x1]) (rest := []) (Or.inr rfl) rfl rfl rfl rfl rfl rfl (fun u1 M1 => ?_)
  refine zw_if_ne (t := 9) (p := 7) (Or.inr rfl) rfl rfl rfl ?_ ?_
  · refine zw_aload_n (p := 10) (Or.inr rfl) rfl rfl rfl ?_
    refine zw_get_ref (p := 13) (Or.inr rfl) rfl rfl (fun q1 => ?_)
    refine zw_iload_n (p := 14) (Or.inr rfl) rfl rfl rfl ?_
    refine zw_baload (p := 15) (Or.inr rfl) rfl rfl ?_
    refine zw_if_ne (t := 21) (p := 18) (Or.inr rfl) rfl rfl rfl ?_ ?_
    · refine zw_aload_n (p := 22) (Or.inr rfl) rfl rfl rfl ?_
      refine zw_get_ref (p := 25) (Or.inr rfl) rfl rfl (fun q2 => ?_)
      refine zw_aload_n (p := 26) (Or.inr rfl) rfl rfl rfl ?_
      refine zw_get_ref (p := 29) (Or.inr rfl) rfl rfl (fun q3 => ?_)
      refine zw_iload_n (p := 30) (Or.inr rfl) rfl rfl rfl ?_
      refine zw_aaload (p := 31) (Or.inr rfl) rfl rfl (fun q4 => ?_)
      refine zw_virtualV (p := 34) (as := [.ref q2, .ref q4]) (rest := []) (Or.inr rfl) rfl rfl rfl rfl rfl rfl rfl (fun M2 => ?_)
      refine zw_aload_n (p := 35) (Or.inr rfl) rfl rfl rfl ?_
      refine zw_virtualV (p := 38) (as := [.ref a0]) (rest := []) (Or.inr rfl) rfl rfl rfl rfl rfl rfl rfl (fun M3 => ?_)
      refine zw_aload_n (p := 39) (Or.inr rfl) rfl rfl rfl ?_
      refine zw_get_ref (p := 42) (Or.inr rfl) rfl rfl (fun q5 => ?_)
      refine zw_get_int (p := 45) (Or.inr rfl) rfl rfl ?_
      exact zw_ireturn1 (Or.inr rfl) rfl rfl
    refine zw_bipush (p := 20) (x := (-2 : Int32)) (Or.inr rfl) rfl rfl rfl ?_
    exact zw_ireturn1 (Or.inr rfl) rfl rfl
  refine zw_iconst (p := 8) (x := (-1 : Int32)) (Or.inr rfl) rfl rfl rfl ?_
  exact zw_ireturn1 (Or.inr rfl) rfl rfl
def zx_PT_sheet (E : zE0) (K : zKt) (a0 : Nat) (x1 : Int32) (x2 : Int32) (x3 : Int32) (M : zM) : zO :=
  zbI (E n_PT_isSheet [.int x1] M) fun u1 M1 =>
  if u1 = 0 then (some (some (.int (-1 : Int32)), M1))
  else zbI (E n_PT_isLane [.int x2] M1) fun u2 M2 =>
  if u2 = 0 then (some (some (.int (-1 : Int32)), M2))
  else if x3 ≤ (40 : Int32) then (if 0 ≤ x3 then (zif ((zK M2 a0).1 = 10)
      (zoR (zR M2 a0 6) fun q1 =>
      zif (30 ≤ (zK M2 q1).1 ∧ zin x1 (zK M2 q1).2 = true)
      (zoR (zR M2 q1 (Int32.toNatClampNeg x1)) fun q2 =>
      zif ((zK M2 q2).1 = 5)
      (zbV (E n_Sh_renew [.ref q2, .int x2, .int x3] M2) fun M3 =>
      some (some (.int (1 : Int32)), M3)))))
    else some (some (.int (-14 : Int32)), M2))
  else some (some (.int (-1 : Int32)), M2)
set_option maxRecDepth 20000 in
theorem ze_PT_sheet (d : Nat) (a0 : Nat) (x1 : Int32) (x2 : Int32) (x3 : Int32) (M : zM) : zV (d + 1) n_PT_sheet [.ref a0, .int x1, .int x2, .int x3] M = zx_PT_sheet (zV d) (zG d n_PT_sheet) a0 x1 x2 x3 M := by
  refine (zE_sg (m := zm_PT_sheet) rfl 400 _ rfl M).trans ?_
  show zw true zm_PT_sheet (zV d) (zG d n_PT_sheet) 400 0 [some (.ref a0), some (.int x1), some (.int x2), some (.int x3)] [] M = _
  unfold zx_PT_sheet
  refine zw_iload_n (p := 1) (Or.inl rfl) rfl rfl rfl ?_
  refine zw_staticI (p := 4) (as := [.int x1]) (rest := []) (Or.inr rfl) rfl rfl rfl rfl rfl rfl (fun u1 M1 => ?_)
  refine zw_if_eq (t := 20) (p := 7) (Or.inr rfl) rfl rfl rfl ?_ ?_
  · refine zw_iconst (p := 21) (x := (-1 : Int32)) (Or.inr rfl) rfl rfl rfl ?_
    exact zw_ireturn1 (Or.inr rfl) rfl rfl
  refine zw_iload_n (p := 8) (Or.inr rfl) rfl rfl rfl ?_
  refine zw_staticI (p := 11) (as := [.int x2]) (rest := []) (Or.inr rfl) rfl rfl rfl rfl rfl rfl (fun u2 M2 => ?_)
  refine zw_if_eq (t := 20) (p := 14) (Or.inr rfl) rfl rfl rfl ?_ ?_
  · refine zw_iconst (p := 21) (x := (-1 : Int32)) (Or.inr rfl) rfl rfl rfl ?_
    exact zw_ireturn1 (Or.inr rfl) rfl rfl
  refine zw_iload_n (p := 15) (Or.inr rfl) rfl rfl rfl ?_
  refine zw_bipush (p := 17) (x := (40 : Int32)) (Or.inr rfl) rfl rfl rfl ?_
  refine zw_icmp_le (t := 22) (p := 20) (Or.inr rfl) rfl rfl rfl ?_ ?_
  · refine zw_iload_n (p := 23) (Or.inr rfl) rfl rfl rfl ?_
    refine zw_if_ge (t := 29) (p := 26) (Or.inr rfl) rfl rfl rfl ?_ ?_
    · refine zw_aload_n (p := 30) (Or.inr rfl) rfl rfl rfl ?_
      refine zw_get_ref (p := 33) (Or.inr rfl) rfl rfl (fun q1 => ?_)
      refine zw_iload_n (p := 34) (Or.inr rfl) rfl rfl rfl ?_
      refine zw_aaload (p := 35) (Or.inr rfl) rfl rfl (fun q2 => ?_)
      refine zw_iload_n (p := 36) (Or.inr rfl) rfl rfl rfl ?_
      refine zw_iload_n (p := 37) (Or.inr rfl) rfl rfl rfl ?_
      refine zw_virtualV (p := 40) (as := [.ref q2, .int x2, .int x3]) (rest := []) (Or.inr rfl) rfl rfl rfl rfl rfl rfl rfl (fun M3 => ?_)
      refine zw_iconst (p := 41) (x := (1 : Int32)) (Or.inr rfl) rfl rfl rfl ?_
      exact zw_ireturn1 (Or.inr rfl) rfl rfl
    refine zw_bipush (p := 28) (x := (-14 : Int32)) (Or.inr rfl) rfl rfl rfl ?_
    exact zw_ireturn1 (Or.inr rfl) rfl rfl
  refine zw_iconst (p := 21) (x := (-1 : Int32)) (Or.inr rfl) rfl rfl rfl ?_
  exact zw_ireturn1 (Or.inr rfl) rfl rfl
def zx_PT_lay (E : zE0) (K : zKt) (a0 : Nat) (x1 : Int32) (x2 : Int32) (x3 : Int32) (M : zM) : zO :=
  zbI (E n_PT_isSheet [.int x1] M) fun u1 M1 =>
  if u1 ≠ 0 then (zif ((zK M1 a0).1 = 10)
    (zoR (zR M1 a0 6) fun q1 =>
    zif (30 ≤ (zK M1 q1).1 ∧ zin x1 (zK M1 q1).2 = true)
    (zoR (zR M1 q1 (Int32.toNatClampNeg x1)) fun q2 =>
    zif ((zK M1 q2).1 = 5)
    (zif ((zK M1 q2).1 = 5)
    (zbI (E n_Sh_tearAt [.ref q2, .int (zI M1 q2 1), .int x2] M1) fun u2 M2 =>
    if u2 = 0 then (zif ((zK M2 q2).1 = 5)
      (zbV (E n_Sh_setCell [.ref q2, .int x2, .int x3] M2) fun M3 =>
      some (some (.int (1 : Int32)), M3)))
    else some (some (.int ((-10 : Int32) - u2)), M2))))))
  else some (some (.int (-1 : Int32)), M1)
set_option maxRecDepth 20000 in
theorem ze_PT_lay (d : Nat) (a0 : Nat) (x1 : Int32) (x2 : Int32) (x3 : Int32) (M : zM) : zV (d + 1) n_PT_lay [.ref a0, .int x1, .int x2, .int x3] M = zx_PT_lay (zV d) (zG d n_PT_lay) a0 x1 x2 x3 M := by
  refine (zE_sg (m := zm_PT_lay) rfl 400 _ rfl M).trans ?_
  show zw true zm_PT_lay (zV d) (zG d n_PT_lay) 400 0 [some (.ref a0), some (.int x1), some (.int x2), some (.int x3), none, none] [] M = _
  unfold zx_PT_lay
  refine zw_iload_n (p := 1) (Or.inl rfl) rfl rfl rfl ?_
  refine zw_staticI (p := 4) (as := [.int x1]) (rest := []) (Or.inr rfl) rfl rfl rfl rfl rfl rfl (fun u1 M1 => ?_)
  refine zw_if_ne (t := 9) (p := 7) (Or.inr rfl) rfl rfl rfl ?_ ?_
  · refine zw_aload_n (p := 10) (Or.inr rfl) rfl rfl rfl ?_
    refine zw_get_ref (p := 13) (Or.inr rfl) rfl rfl (fun q1 => ?_)
    refine zw_iload_n (p := 14) (Or.inr rfl) rfl rfl rfl ?_
    refine zw_aaload (p := 15) (Or.inr rfl) rfl rfl (fun q2 => ?_)
    refine zw_astore (p := 17) (l2 := [some (.ref a0), some (.int x1), some (.int x2), some (.int x3), some (.ref q2), none]) (Or.inr rfl) rfl rfl rfl rfl ?_
    refine zw_aload (p := 19) (Or.inr rfl) rfl rfl rfl ?_
    refine zw_aload (p := 21) (Or.inr rfl) rfl rfl rfl ?_
    refine zw_get_int (p := 24) (Or.inr rfl) rfl rfl ?_
    refine zw_iload_n (p := 25) (Or.inr rfl) rfl rfl rfl ?_
    refine zw_virtualI (p := 28) (as := [.ref q2, .int (zI M1 q2 1), .int x2]) (rest := []) (Or.inr rfl) rfl rfl rfl rfl rfl rfl rfl (fun u2 M2 => ?_)
    refine zw_istore (p := 30) (l2 := [some (.ref a0), some (.int x1), some (.int x2), some (.int x3), some (.ref q2), some (.int u2)]) (Or.inr rfl) rfl rfl rfl rfl ?_
    refine zw_iload (p := 32) (Or.inr rfl) rfl rfl rfl ?_
    refine zw_if_eq (t := 41) (p := 35) (Or.inr rfl) rfl rfl rfl ?_ ?_
    · refine zw_aload (p := 43) (Or.inr rfl) rfl rfl rfl ?_
      refine zw_iload_n (p := 44) (Or.inr rfl) rfl rfl rfl ?_
      refine zw_iload_n (p := 45) (Or.inr rfl) rfl rfl rfl ?_
      refine zw_virtualV (p := 48) (as := [.ref q2, .int x2, .int x3]) (rest := []) (Or.inr rfl) rfl rfl rfl rfl rfl rfl rfl (fun M3 => ?_)
      refine zw_iconst (p := 49) (x := (1 : Int32)) (Or.inr rfl) rfl rfl rfl ?_
      exact zw_ireturn1 (Or.inr rfl) rfl rfl
    refine zw_bipush (p := 37) (x := (-10 : Int32)) (Or.inr rfl) rfl rfl rfl ?_
    refine zw_iload (p := 39) (Or.inr rfl) rfl rfl rfl ?_
    refine zw_isub (p := 40) (Or.inr rfl) rfl rfl ?_
    exact zw_ireturn1 (Or.inr rfl) rfl rfl
  refine zw_iconst (p := 8) (x := (-1 : Int32)) (Or.inr rfl) rfl rfl rfl ?_
  exact zw_ireturn1 (Or.inr rfl) rfl rfl
def zx_PT_run (E : zE0) (K : zKt) (a0 : Nat) (x1 : Int32) (x2 : Int32) (x3 : Int32) (x4 : Int32) (M : zM) : zO :=
  zbI (E n_PT_isSheet [.int x1] M) fun u1 M1 =>
  if u1 = 0 then (some (some (.int (-1 : Int32)), M1))
  else zbI (E n_PT_isLane [.int x2] M1) fun u2 M2 =>
  if u2 = 0 then (some (some (.int (-1 : Int32)), M2))
  else if x4 < 0 then (some (some (.int (-1 : Int32)), M2))
  else if x4 ≤ (20 : Int32) then (zif ((zK M2 a0).1 = 10)
    (zbm (zsI M2 a0 11 (0 : Int32)) fun M3 =>
    zif ((zK M3 a0).1 = 10)
    (zoR (zR M3 a0 6) fun q1 =>
    zif (30 ≤ (zK M3 q1).1 ∧ zin x1 (zK M3 q1).2 = true)
    (zoR (zR M3 q1 (Int32.toNatClampNeg x1)) fun q2 =>
    K 47 [some (.ref a0), none, some (.int x2), none, some (.int x4), some (.ref q2), some (.int x3), some (.int (0 : Int32))] [] M3))))
  else some (some (.int (-1 : Int32)), M2)
set_option maxRecDepth 20000 in
theorem ze_PT_run (d : Nat) (a0 : Nat) (x1 : Int32) (x2 : Int32) (x3 : Int32) (x4 : Int32) (M : zM) : zV (d + 1) n_PT_run [.ref a0, .int x1, .int x2, .int x3, .int x4] M = zx_PT_run (zV d) (zG d n_PT_run) a0 x1 x2 x3 x4 M := by
  refine (zE_sg (m := zm_PT_run) rfl 400 _ rfl M).trans ?_
  show zw true zm_PT_run (zV d) (zG d n_PT_run) 400 0 [some (.ref a0), some (.int x1), some (.int x2), some (.int x3), some (.int x4), none, none, none] [] M = _
  unfold zx_PT_run
  refine zw_iload_n (p := 1) (Or.inl rfl) rfl rfl rfl ?_
  refine zw_staticI (p := 4) (as := [.int x1]) (rest := []) (Or.inr rfl) rfl rfl rfl rfl rfl rfl (fun u1 M1 => ?_)
  refine zw_if_eq (t := 26) (p := 7) (Or.inr rfl) rfl rfl rfl ?_ ?_
  · refine zw_iconst (p := 27) (x := (-1 : Int32)) (Or.inr rfl) rfl rfl rfl ?_
    exact zw_ireturn1 (Or.inr rfl) rfl rfl
  refine zw_iload_n (p := 8) (Or.inr rfl) rfl rfl rfl ?_
  refine zw_staticI (p := 11) (as := [.int x2]) (rest := []) (Or.inr rfl) rfl rfl rfl rfl rfl rfl (fun u2 M2 => ?_)
  refine zw_if_eq (t := 26) (p := 14) (Or.inr rfl) rfl rfl rfl ?_ ?_
  · refine zw_iconst (p := 27) (x := (-1 : Int32)) (Or.inr rfl) rfl rfl rfl ?_
    exact zw_ireturn1 (Or.inr rfl) rfl rfl
  refine zw_iload (p := 16) (Or.inr rfl) rfl rfl rfl ?_
  refine zw_if_lt (t := 26) (p := 19) (Or.inr rfl) rfl rfl rfl ?_ ?_
  · refine zw_iconst (p := 27) (x := (-1 : Int32)) (Or.inr rfl) rfl rfl rfl ?_
    exact zw_ireturn1 (Or.inr rfl) rfl rfl
  refine zw_iload (p := 21) (Or.inr rfl) rfl rfl rfl ?_
  refine zw_bipush (p := 23) (x := (20 : Int32)) (Or.inr rfl) rfl rfl rfl ?_
  refine zw_icmp_le (t := 28) (p := 26) (Or.inr rfl) rfl rfl rfl ?_ ?_
  · refine zw_aload_n (p := 29) (Or.inr rfl) rfl rfl rfl ?_
    refine zw_iconst (p := 30) (x := (0 : Int32)) (Or.inr rfl) rfl rfl rfl ?_
    refine zw_put_int (p := 33) (Or.inr rfl) rfl rfl (fun M3 => ?_)
    refine zw_aload_n (p := 34) (Or.inr rfl) rfl rfl rfl ?_
    refine zw_get_ref (p := 37) (Or.inr rfl) rfl rfl (fun q1 => ?_)
    refine zw_iload_n (p := 38) (Or.inr rfl) rfl rfl rfl ?_
    refine zw_aaload (p := 39) (Or.inr rfl) rfl rfl (fun q2 => ?_)
    refine zw_astore (p := 41) (l2 := [some (.ref a0), some (.int x1), some (.int x2), some (.int x3), some (.int x4), some (.ref q2), none, none]) (Or.inr rfl) rfl rfl rfl rfl ?_
    refine zw_iload_n (p := 42) (Or.inr rfl) rfl rfl rfl ?_
    refine zw_istore (p := 44) (l2 := [some (.ref a0), some (.int x1), some (.int x2), some (.int x3), some (.int x4), some (.ref q2), some (.int x3), none]) (Or.inr rfl) rfl rfl rfl rfl ?_
    refine zw_iconst (p := 45) (x := (0 : Int32)) (Or.inr rfl) rfl rfl rfl ?_
    refine zw_istore (p := 47) (l2 := [some (.ref a0), some (.int x1), some (.int x2), some (.int x3), some (.int x4), some (.ref q2), some (.int x3), some (.int (0 : Int32))]) (Or.inr rfl) rfl rfl rfl rfl ?_
    exact zw_end rfl rfl
  refine zw_iconst (p := 27) (x := (-1 : Int32)) (Or.inr rfl) rfl rfl rfl ?_
  exact zw_ireturn1 (Or.inr rfl) rfl rfl
def zx_PT_run_47 (E : zE0) (K : zKt) (a0 : Nat) (x2 : Int32) (x4 : Int32) (a5 : Nat) (x6 : Int32) (x7 : Int32) (M : zM) : zO :=
  if x4 ≤ x7 then (some (some (.int x4), M))
  else zif ((zK M a0).1 = 10)
  (zoR (zR M a0 3) fun q1 =>
  zif ((zK M q1).1 = 7)
  (if (zI M q1 1) < (48 : Int32) then (zif ((zK M a5).1 = 5)
    (zbI (E n_Sh_tearAt [.ref a5, .int x2, .int x6] M) fun u1 M1 =>
    zif ((zK M1 a0).1 = 10)
    (zbm (zsI M1 a0 11 u1) fun M2 =>
    zif ((zK M2 a0).1 = 10)
    (if (zI M2 a0 11) = 0 then (zif ((zK M2 a0).1 = 10)
      (zoR (zR M2 a0 3) fun q2 =>
      zif ((zK M2 a5).1 = 5)
      (zoR (zR M2 a5 0) fun q3 =>
      zif (((zK M2 q3).1 = 20 ∨ (zK M2 q3).1 = 24) ∧ zin x6 (zK M2 q3).2 = true)
      (zif ((zK M2 q2).1 = 7)
      (zbV (E n_Tr_add [.ref q2, .int ((zI M2 q3 (Int32.toNatClampNeg x6)) &&& (255 : Int32))] M2) fun M3 =>
      zbi (x6 + (1 : Int32)) fun u2 =>
      zbi (x7 + (1 : Int32)) fun u3 =>
      K 47 [some (.ref a0), none, some (.int x2), none, some (.int x4), some (.ref a5), some (.int u2), some (.int u3)] [] M3)))))
    else some (some (.int x7), M2)))))
  else some (some (.int x7), M)))
set_option maxRecDepth 20000 in
theorem zg_PT_run_47 (d : Nat) (a0 : Nat) (x2 : Int32) (x4 : Int32) (a5 : Nat) (x6 : Int32) (x7 : Int32) (M : zM) : zG d n_PT_run 47 [some (.ref a0), none, some (.int x2), none, some (.int x4), some (.ref a5), some (.int x6), some (.int x7)] [] M = zx_PT_run_47 (zV d) (zG d n_PT_run) a0 x2 x4 a5 x6 x7 M := by
  refine (zG_sg (m := zm_PT_run) rfl 400 _ _ _ M).trans ?_
  show zw true zm_PT_run (zV d) (zG d n_PT_run) 400 47 [some (.ref a0), none, some (.int x2), none, some (.int x4), some (.ref a5), some (.int x6), some (.int x7)] [] M = _
  unfold zx_PT_run_47
  refine zw_iload (p := 49) (Or.inl rfl) rfl rfl rfl ?_
  refine zw_iload (p := 51) (Or.inr rfl) rfl rfl rfl ?_
  refine zw_icmp_ge (t := 119) (p := 54) (Or.inr rfl) rfl rfl rfl ?_ ?_
  · refine zw_iload (p := 121) (Or.inr rfl) rfl rfl rfl ?_
    exact zw_ireturn1 (Or.inr rfl) rfl rfl
  refine zw_aload_n (p := 55) (Or.inr rfl) rfl rfl rfl ?_
  refine zw_get_ref (p := 58) (Or.inr rfl) rfl rfl (fun q1 => ?_)
  refine zw_get_int (p := 61) (Or.inr rfl) rfl rfl ?_
  refine zw_bipush (p := 63) (x := (48 : Int32)) (Or.inr rfl) rfl rfl rfl ?_
  refine zw_icmp_lt (t := 69) (p := 66) (Or.inr rfl) rfl rfl rfl ?_ ?_
  · refine zw_aload_n (p := 70) (Or.inr rfl) rfl rfl rfl ?_
    refine zw_aload (p := 72) (Or.inr rfl) rfl rfl rfl ?_
    refine zw_iload_n (p := 73) (Or.inr rfl) rfl rfl rfl ?_
    refine zw_iload (p := 75) (Or.inr rfl) rfl rfl rfl ?_
    refine zw_virtualI (p := 78) (as := [.ref a5, .int x2, .int x6]) (rest := [.ref a0]) (Or.inr rfl) rfl rfl rfl rfl rfl rfl rfl (fun u1 M1 => ?_)
    refine zw_put_int (p := 81) (Or.inr rfl) rfl rfl (fun M2 => ?_)
    refine zw_aload_n (p := 82) (Or.inr rfl) rfl rfl rfl ?_
    refine zw_get_int (p := 85) (Or.inr rfl) rfl rfl ?_
    refine zw_if_eq (t := 91) (p := 88) (Or.inr rfl) rfl rfl rfl ?_ ?_
    · refine zw_aload_n (p := 92) (Or.inr rfl) rfl rfl rfl ?_
      refine zw_get_ref (p := 95) (Or.inr rfl) rfl rfl (fun q2 => ?_)
      refine zw_aload (p := 97) (Or.inr rfl) rfl rfl rfl ?_
      refine zw_get_ref (p := 100) (Or.inr rfl) rfl rfl (fun q3 => ?_)
      refine zw_iload (p := 102) (Or.inr rfl) rfl rfl rfl ?_
      refine zw_iaload (p := 103) (Or.inr rfl) rfl rfl ?_
      refine zw_sipush (p := 106) (x := (255 : Int32)) (Or.inr rfl) rfl rfl rfl ?_
      refine zw_iand (p := 107) (Or.inr rfl) rfl rfl ?_
      refine zw_virtualV (p := 110) (as := [.ref q2, .int ((zI M2 q3 (Int32.toNatClampNeg x6)) &&& (255 : Int32))]) (rest := []) (Or.inr rfl) rfl rfl rfl rfl rfl rfl rfl (fun M3 => ?_)
      refine zw_iinc (p := 113) (c := (1 : Int32)) (L2 := fun u2 => [some (.ref a0), none, some (.int x2), none, some (.int x4), some (.ref a5), some (.int u2), some (.int x7)]) (Or.inr rfl) rfl rfl rfl rfl (fun _ => rfl) rfl (fun u2 => ?_)
      refine zw_iinc (p := 116) (c := (1 : Int32)) (L2 := fun u3 => [some (.ref a0), none, some (.int x2), none, some (.int x4), some (.ref a5), some (.int u2), some (.int u3)]) (Or.inr rfl) rfl rfl rfl rfl (fun _ => rfl) rfl (fun u3 => ?_)
      refine zw_goto (t := 47) (Or.inr rfl) rfl rfl ?_
      exact zw_end rfl rfl
    refine zw_iload (p := 90) (Or.inr rfl) rfl rfl rfl ?_
    exact zw_ireturn1 (Or.inr rfl) rfl rfl
  refine zw_iload (p := 68) (Or.inr rfl) rfl rfl rfl ?_
  exact zw_ireturn1 (Or.inr rfl) rfl rfl
def zx_PT_torn (E : zE0) (K : zKt) (a0 : Nat) (M : zM) : zO :=
  zif ((zK M a0).1 = 10)
  (some (some (.int (zI M a0 11)), M))
set_option maxRecDepth 20000 in
theorem ze_PT_torn (d : Nat) (a0 : Nat) (M : zM) : zV (d + 1) n_PT_torn [.ref a0] M = zx_PT_torn (zV d) (zG d n_PT_torn) a0 M := by
  refine (zE_sg (m := zm_PT_torn) rfl 400 _ rfl M).trans ?_
  show zw true zm_PT_torn (zV d) (zG d n_PT_torn) 400 0 [some (.ref a0)] [] M = _
  unfold zx_PT_torn
  refine zw_aload_n (p := 1) (Or.inl rfl) rfl rfl rfl ?_
  refine zw_get_int (p := 4) (Or.inr rfl) rfl rfl ?_
  exact zw_ireturn1 (Or.inr rfl) rfl rfl
def zx_PT_count (E : zE0) (K : zKt) (a0 : Nat) (x1 : Int32) (M : zM) : zO :=
  if x1 = (0 : Int32) then (zif ((zK M a0).1 = 10)
    (zbI (E n_PT_howManyImages [.ref a0] M) fun u1 M1 =>
    some (some (.int u1), M1)))
  else if x1 = (1 : Int32) then (zif ((zK M a0).1 = 10)
    (zoR (zR M a0 1) fun q1 =>
    zif ((zK M q1).1 = 6)
    (some (some (.int (zI M q1 1)), M))))
  else if x1 = (2 : Int32) then (zif ((zK M a0).1 = 10)
    (zoR (zR M a0 6) fun q2 =>
    zif (30 ≤ (zK M q2).1 ∧ zin (0 : Int32) (zK M q2).2 = true)
    (zoR (zR M q2 (Int32.toNatClampNeg (0 : Int32))) fun q3 =>
    zif ((zK M q3).1 = 5)
    (if 0 ≤ (zI M q3 2) then (zif ((zK M a0).1 = 10)
      (zoR (zR M a0 6) fun q4 =>
      zif (30 ≤ (zK M q4).1 ∧ zin (0 : Int32) (zK M q4).2 = true)
      (zoR (zR M q4 (Int32.toNatClampNeg (0 : Int32))) fun q5 =>
      zif ((zK M q5).1 = 5)
      (some (some (.int (zI M q5 2)), M)))))
    else some (some (.int (-4 : Int32)), M)))))
  else some (some (.int (-1 : Int32)), M)
set_option maxRecDepth 20000 in
theorem ze_PT_count (d : Nat) (a0 : Nat) (x1 : Int32) (M : zM) : zV (d + 1) n_PT_count [.ref a0, .int x1] M = zx_PT_count (zV d) (zG d n_PT_count) a0 x1 M := by
  refine (zE_sg (m := zm_PT_count) rfl 400 _ rfl M).trans ?_
  show zw true zm_PT_count (zV d) (zG d n_PT_count) 400 0 [some (.ref a0), some (.int x1)] [] M = _
  unfold zx_PT_count
  refine zw_iload_n (p := 1) (Or.inl rfl) rfl rfl rfl ?_
  refine zw_table (Or.inr rfl) rfl ?_
  refine zsw_c (lo2 := 1) rfl ?_ ?_
  · refine zw_aload_n (p := 29) (Or.inr rfl) rfl rfl rfl ?_
    refine zw_virtualI (p := 32) (as := [.ref a0]) (rest := []) (Or.inr rfl) rfl rfl rfl rfl rfl rfl rfl (fun u1 M1 => ?_)
    exact zw_ireturn1 (Or.inr rfl) rfl rfl
  refine zsw_c (lo2 := 2) rfl ?_ ?_
  · refine zw_aload_n (p := 34) (Or.inr rfl) rfl rfl rfl ?_
    refine zw_get_ref (p := 37) (Or.inr rfl) rfl rfl (fun q1 => ?_)
    refine zw_get_int (p := 40) (Or.inr rfl) rfl rfl ?_
    exact zw_ireturn1 (Or.inr rfl) rfl rfl
  refine zsw_c (lo2 := 3) rfl ?_ ?_
  · refine zw_aload_n (p := 42) (Or.inr rfl) rfl rfl rfl ?_
    refine zw_get_ref (p := 45) (Or.inr rfl) rfl rfl (fun q2 => ?_)
    refine zw_iconst (p := 46) (x := (0 : Int32)) (Or.inr rfl) rfl rfl rfl ?_
    refine zw_aaload (p := 47) (Or.inr rfl) rfl rfl (fun q3 => ?_)
    refine zw_get_int (p := 50) (Or.inr rfl) rfl rfl ?_
    refine zw_if_ge (t := 58) (p := 53) (Or.inr rfl) rfl rfl rfl ?_ ?_
    · refine zw_aload_n (p := 59) (Or.inr rfl) rfl rfl rfl ?_
      refine zw_get_ref (p := 62) (Or.inr rfl) rfl rfl (fun q4 => ?_)
      refine zw_iconst (p := 63) (x := (0 : Int32)) (Or.inr rfl) rfl rfl rfl ?_
      refine zw_aaload (p := 64) (Or.inr rfl) rfl rfl (fun q5 => ?_)
      refine zw_get_int (p := 67) (Or.inr rfl) rfl rfl ?_
      exact zw_ireturn1 (Or.inr rfl) rfl rfl
    refine zw_bipush (p := 55) (x := (-4 : Int32)) (Or.inr rfl) rfl rfl rfl ?_
    refine zw_goto (t := 67) (Or.inr rfl) rfl rfl ?_
    exact zw_ireturn1 (Or.inr rfl) rfl rfl
  refine zsw_n ?_
  refine zw_iconst (p := 69) (x := (-1 : Int32)) (Or.inr rfl) rfl rfl rfl ?_
  exact zw_ireturn1 (Or.inr rfl) rfl rfl
def zx_PT_isPromise (E : zE0) (K : zKt) (a0 : Nat) (x1 : Int32) (M : zM) : zO :=
  if x1 < 0 then (zif ((0 : Int32) = 0 ∨ (0 : Int32) = 1) (some (some (.int (0 : Int32)), M)))
  else zif ((zK M a0).1 = 10)
  (if (zI M a0 9) ≤ x1 then (zif ((0 : Int32) = 0 ∨ (0 : Int32) = 1) (some (some (.int (0 : Int32)), M)))
  else zif ((1 : Int32) = 0 ∨ (1 : Int32) = 1) (some (some (.int (1 : Int32)), M)))
set_option maxRecDepth 20000 in
theorem ze_PT_isPromise (d : Nat) (a0 : Nat) (x1 : Int32) (M : zM) : zV (d + 1) n_PT_isPromise [.ref a0, .int x1] M = zx_PT_isPromise (zV d) (zG d n_PT_isPromise) a0 x1 M := by
  refine (zE_sg (m := zm_PT_isPromise) rfl 400 _ rfl M).trans ?_
  show zw true zm_PT_isPromise (zV d) (zG d n_PT_isPromise) 400 0 [some (.ref a0), some (.int x1)] [] M = _
  unfold zx_PT_isPromise
  refine zw_iload_n (p := 1) (Or.inl rfl) rfl rfl rfl ?_
  refine zw_if_lt (t := 16) (p := 4) (Or.inr rfl) rfl rfl rfl ?_ ?_
  · refine zw_iconst (p := 17) (x := (0 : Int32)) (Or.inr rfl) rfl rfl rfl ?_
    exact zw_ireturn2 (Or.inr rfl) rfl rfl
  refine zw_iload_n (p := 5) (Or.inr rfl) rfl rfl rfl ?_
  refine zw_aload_n (p := 6) (Or.inr rfl) rfl rfl rfl ?_
  refine zw_get_int (p := 9) (Or.inr rfl) rfl rfl ?_
  refine zw_icmp_ge (t := 16) (p := 12) (Or.inr rfl) rfl rfl rfl ?_ ?_
  · refine zw_iconst (p := 17) (x := (0 : Int32)) (Or.inr rfl) rfl rfl rfl ?_
    exact zw_ireturn2 (Or.inr rfl) rfl rfl
  refine zw_iconst (p := 13) (x := (1 : Int32)) (Or.inr rfl) rfl rfl rfl ?_
  refine zw_goto (t := 17) (Or.inr rfl) rfl rfl ?_
  exact zw_ireturn2 (Or.inr rfl) rfl rfl
def zx_PT_isTick (E : zE0) (K : zKt) (a0 : Nat) (x1 : Int32) (M : zM) : zO :=
  if x1 < 0 then (zif ((0 : Int32) = 0 ∨ (0 : Int32) = 1) (some (some (.int (0 : Int32)), M)))
  else zif ((zK M a0).1 = 10)
  (zoR (zR M a0 3) fun q1 =>
  zif ((zK M q1).1 = 7)
  (if (zI M q1 1) ≤ x1 then (zif ((0 : Int32) = 0 ∨ (0 : Int32) = 1) (some (some (.int (0 : Int32)), M)))
  else zif ((1 : Int32) = 0 ∨ (1 : Int32) = 1) (some (some (.int (1 : Int32)), M))))
set_option maxRecDepth 20000 in
theorem ze_PT_isTick (d : Nat) (a0 : Nat) (x1 : Int32) (M : zM) : zV (d + 1) n_PT_isTick [.ref a0, .int x1] M = zx_PT_isTick (zV d) (zG d n_PT_isTick) a0 x1 M := by
  refine (zE_sg (m := zm_PT_isTick) rfl 400 _ rfl M).trans ?_
  show zw true zm_PT_isTick (zV d) (zG d n_PT_isTick) 400 0 [some (.ref a0), some (.int x1)] [] M = _
  unfold zx_PT_isTick
  refine zw_iload_n (p := 1) (Or.inl rfl) rfl rfl rfl ?_
  refine zw_if_lt (t := 19) (p := 4) (Or.inr rfl) rfl rfl rfl ?_ ?_
  · refine zw_iconst (p := 20) (x := (0 : Int32)) (Or.inr rfl) rfl rfl rfl ?_
    exact zw_ireturn2 (Or.inr rfl) rfl rfl
  refine zw_iload_n (p := 5) (Or.inr rfl) rfl rfl rfl ?_
  refine zw_aload_n (p := 6) (Or.inr rfl) rfl rfl rfl ?_
  refine zw_get_ref (p := 9) (Or.inr rfl) rfl rfl (fun q1 => ?_)
  refine zw_get_int (p := 12) (Or.inr rfl) rfl rfl ?_
  refine zw_icmp_ge (t := 19) (p := 15) (Or.inr rfl) rfl rfl rfl ?_ ?_
  · refine zw_iconst (p := 20) (x := (0 : Int32)) (Or.inr rfl) rfl rfl rfl ?_
    exact zw_ireturn2 (Or.inr rfl) rfl rfl
  refine zw_iconst (p := 16) (x := (1 : Int32)) (Or.inr rfl) rfl rfl rfl ?_
  refine zw_goto (t := 20) (Or.inr rfl) rfl rfl ?_
  exact zw_ireturn2 (Or.inr rfl) rfl rfl
def zx_PT_isTry (E : zE0) (K : zKt) (a0 : Nat) (x1 : Int32) (x2 : Int32) (M : zM) : zO :=
  zif ((zK M a0).1 = 10)
  (zbI (E n_PT_isPromise [.ref a0, .int x1] M) fun u1 M1 =>
  if u1 = 0 then (zif ((0 : Int32) = 0 ∨ (0 : Int32) = 1) (some (some (.int (0 : Int32)), M1)))
  else zif ((zK M1 a0).1 = 10)
  (zbI (E n_PT_isTick [.ref a0, .int x2] M1) fun u2 M2 =>
  if u2 = 0 then (zif ((0 : Int32) = 0 ∨ (0 : Int32) = 1) (some (some (.int (0 : Int32)), M2)))
  else zif ((1 : Int32) = 0 ∨ (1 : Int32) = 1) (some (some (.int (1 : Int32)), M2))))
set_option maxRecDepth 20000 in
theorem ze_PT_isTry (d : Nat) (a0 : Nat) (x1 : Int32) (x2 : Int32) (M : zM) : zV (d + 1) n_PT_isTry [.ref a0, .int x1, .int x2] M = zx_PT_isTry (zV d) (zG d n_PT_isTry) a0 x1 x2 M := by
  refine (zE_sg (m := zm_PT_isTry) rfl 400 _ rfl M).trans ?_
  show zw true zm_PT_isTry (zV d) (zG d n_PT_isTry) 400 0 [some (.ref a0), some (.int x1), some (.int x2)] [] M = _
  unfold zx_PT_isTry
  refine zw_aload_n (p := 1) (Or.inl rfl) rfl rfl rfl ?_
  refine zw_iload_n (p := 2) (Or.inr rfl) rfl rfl rfl ?_
  refine zw_virtualI (p := 5) (as := [.ref a0, .int x1]) (rest := []) (Or.inr rfl) rfl rfl rfl rfl rfl rfl rfl (fun u1 M1 => ?_)
  refine zw_if_eq (t := 20) (p := 8) (Or.inr rfl) rfl rfl rfl ?_ ?_
  · refine zw_iconst (p := 21) (x := (0 : Int32)) (Or.inr rfl) rfl rfl rfl ?_
    exact zw_ireturn2 (Or.inr rfl) rfl rfl
  refine zw_aload_n (p := 9) (Or.inr rfl) rfl rfl rfl ?_
  refine zw_iload_n (p := 10) (Or.inr rfl) rfl rfl rfl ?_
  refine zw_virtualI (p := 13) (as := [.ref a0, .int x2]) (rest := []) (Or.inr rfl) rfl rfl rfl rfl rfl rfl rfl (fun u2 M2 => ?_)
  refine zw_if_eq (t := 20) (p := 16) (Or.inr rfl) rfl rfl rfl ?_ ?_
  · refine zw_iconst (p := 21) (x := (0 : Int32)) (Or.inr rfl) rfl rfl rfl ?_
    exact zw_ireturn2 (Or.inr rfl) rfl rfl
  refine zw_iconst (p := 17) (x := (1 : Int32)) (Or.inr rfl) rfl rfl rfl ?_
  refine zw_goto (t := 21) (Or.inr rfl) rfl rfl ?_
  exact zw_ireturn2 (Or.inr rfl) rfl rfl
def zx_PT_isCondition (E : zE0) (K : zKt) (a0 : Nat) (x1 : Int32) (x2 : Int32) (x3 : Int32) (M : zM) : zO :=
  zif ((zK M a0).1 = 10)
  (zbI (E n_PT_isPromise [.ref a0, .int x1] M) fun u1 M1 =>
  if u1 ≠ 0 then (if x2 ≠ (2 : Int32) then (zbI (E n_PT_isSide [.int x2] M1) fun u2 M2 =>
      if u2 = 0 then (zif ((0 : Int32) = 0 ∨ (0 : Int32) = 1) (some (some (.int (0 : Int32)), M2)))
      else if x3 < 0 then (zif ((0 : Int32) = 0 ∨ (0 : Int32) = 1) (some (some (.int (0 : Int32)), M2)))
      else zif ((zK M2 a0).1 = 10)
      (zoR (zR M2 a0 7) fun q1 =>
      zif (30 ≤ (zK M2 q1).1 ∧ zin x1 (zK M2 q1).2 = true)
      (zoR (zR M2 q1 (Int32.toNatClampNeg x1)) fun q2 =>
      zif ((zK M2 q2).1 = 2)
      (zbR (E n_Pl_sideOf [.ref q2, .int x2] M2) fun q3 M3 =>
      zif ((zK M3 q3).1 = 4)
      (if (zI M3 q3 6) ≤ x3 then (zif ((0 : Int32) = 0 ∨ (0 : Int32) = 1) (some (some (.int (0 : Int32)), M3)))
      else zif ((1 : Int32) = 0 ∨ (1 : Int32) = 1) (some (some (.int (1 : Int32)), M3)))))))
    else zif ((zK M1 a0).1 = 10)
    (zoR (zR M1 a0 7) fun q4 =>
    zif (30 ≤ (zK M1 q4).1 ∧ zin x1 (zK M1 q4).2 = true)
    (zoR (zR M1 q4 (Int32.toNatClampNeg x1)) fun q5 =>
    zif ((zK M1 q5).1 = 2)
    (zif ((zI M1 q5 3) = 0 ∨ (zI M1 q5 3) = 1) (some (some (.int (zI M1 q5 3)), M1))))))
  else zif ((0 : Int32) = 0 ∨ (0 : Int32) = 1) (some (some (.int (0 : Int32)), M1)))
set_option maxRecDepth 20000 in
theorem ze_PT_isCondition (d : Nat) (a0 : Nat) (x1 : Int32) (x2 : Int32) (x3 : Int32) (M : zM) : zV (d + 1) n_PT_isCondition [.ref a0, .int x1, .int x2, .int x3] M = zx_PT_isCondition (zV d) (zG d n_PT_isCondition) a0 x1 x2 x3 M := by
  refine (zE_sg (m := zm_PT_isCondition) rfl 400 _ rfl M).trans ?_
  show zw true zm_PT_isCondition (zV d) (zG d n_PT_isCondition) 400 0 [some (.ref a0), some (.int x1), some (.int x2), some (.int x3)] [] M = _
  unfold zx_PT_isCondition
  refine zw_aload_n (p := 1) (Or.inl rfl) rfl rfl rfl ?_
  refine zw_iload_n (p := 2) (Or.inr rfl) rfl rfl rfl ?_
  refine zw_virtualI (p := 5) (as := [.ref a0, .int x1]) (rest := []) (Or.inr rfl) rfl rfl rfl rfl rfl rfl rfl (fun u1 M1 => ?_)
  refine zw_if_ne (t := 10) (p := 8) (Or.inr rfl) rfl rfl rfl ?_ ?_
  · refine zw_iload_n (p := 11) (Or.inr rfl) rfl rfl rfl ?_
    refine zw_iconst (p := 12) (x := (2 : Int32)) (Or.inr rfl) rfl rfl rfl ?_
    refine zw_icmp_ne (t := 25) (p := 15) (Or.inr rfl) rfl rfl rfl ?_ ?_
    · refine zw_iload_n (p := 26) (Or.inr rfl) rfl rfl rfl ?_
      refine zw_staticI (p := 29) (as := [.int x2]) (rest := []) (Or.inr rfl) rfl rfl rfl rfl rfl rfl (fun u2 M2 => ?_)
      refine zw_if_eq (t := 57) (p := 32) (Or.inr rfl) rfl rfl rfl ?_ ?_
      · refine zw_iconst (p := 58) (x := (0 : Int32)) (Or.inr rfl) rfl rfl rfl ?_
        exact zw_ireturn2 (Or.inr rfl) rfl rfl
      refine zw_iload_n (p := 33) (Or.inr rfl) rfl rfl rfl ?_
      refine zw_if_lt (t := 57) (p := 36) (Or.inr rfl) rfl rfl rfl ?_ ?_
      · refine zw_iconst (p := 58) (x := (0 : Int32)) (Or.inr rfl) rfl rfl rfl ?_
        exact zw_ireturn2 (Or.inr rfl) rfl rfl
      refine zw_iload_n (p := 37) (Or.inr rfl) rfl rfl rfl ?_
      refine zw_aload_n (p := 38) (Or.inr rfl) rfl rfl rfl ?_
      refine zw_get_ref (p := 41) (Or.inr rfl) rfl rfl (fun q1 => ?_)
      refine zw_iload_n (p := 42) (Or.inr rfl) rfl rfl rfl ?_
      refine zw_aaload (p := 43) (Or.inr rfl) rfl rfl (fun q2 => ?_)
      refine zw_iload_n (p := 44) (Or.inr rfl) rfl rfl rfl ?_
      refine zw_virtualR (p := 47) (as := [.ref q2, .int x2]) (rest := [.int x3]) (Or.inr rfl) rfl rfl rfl rfl rfl rfl rfl (fun q3 M3 => ?_)
      refine zw_get_int (p := 50) (Or.inr rfl) rfl rfl ?_
      refine zw_icmp_ge (t := 57) (p := 53) (Or.inr rfl) rfl rfl rfl ?_ ?_
      · refine zw_iconst (p := 58) (x := (0 : Int32)) (Or.inr rfl) rfl rfl rfl ?_
        exact zw_ireturn2 (Or.inr rfl) rfl rfl
      refine zw_iconst (p := 54) (x := (1 : Int32)) (Or.inr rfl) rfl rfl rfl ?_
      refine zw_goto (t := 58) (Or.inr rfl) rfl rfl ?_
      exact zw_ireturn2 (Or.inr rfl) rfl rfl
    refine zw_aload_n (p := 16) (Or.inr rfl) rfl rfl rfl ?_
    refine zw_get_ref (p := 19) (Or.inr rfl) rfl rfl (fun q4 => ?_)
    refine zw_iload_n (p := 20) (Or.inr rfl) rfl rfl rfl ?_
    refine zw_aaload (p := 21) (Or.inr rfl) rfl rfl (fun q5 => ?_)
    refine zw_get_int (p := 24) (Or.inr rfl) rfl rfl ?_
    exact zw_ireturn2 (Or.inr rfl) rfl rfl
  refine zw_iconst (p := 9) (x := (0 : Int32)) (Or.inr rfl) rfl rfl rfl ?_
  exact zw_ireturn2 (Or.inr rfl) rfl rfl
def zx_PT_isBits (E : zE0) (K : zKt) (x0 : Int32) (M : zM) : zO :=
  if x0 < 0 then (zif ((0 : Int32) = 0 ∨ (0 : Int32) = 1) (some (some (.int (0 : Int32)), M)))
  else if (256 : Int32) ≤ x0 then (zif ((0 : Int32) = 0 ∨ (0 : Int32) = 1) (some (some (.int (0 : Int32)), M)))
  else zif ((1 : Int32) = 0 ∨ (1 : Int32) = 1) (some (some (.int (1 : Int32)), M))
set_option maxRecDepth 20000 in
theorem ze_PT_isBits (d : Nat) (x0 : Int32) (M : zM) : zV (d + 1) n_PT_isBits [.int x0] M = zx_PT_isBits (zV d) (zG d n_PT_isBits) x0 M := by
  refine (zE_sg (m := zm_PT_isBits) rfl 400 _ rfl M).trans ?_
  show zw true zm_PT_isBits (zV d) (zG d n_PT_isBits) 400 0 [some (.int x0)] [] M = _
  unfold zx_PT_isBits
  refine zw_iload_n (p := 1) (Or.inl rfl) rfl rfl rfl ?_
  refine zw_if_lt (t := 15) (p := 4) (Or.inr rfl) rfl rfl rfl ?_ ?_
  · refine zw_iconst (p := 16) (x := (0 : Int32)) (Or.inr rfl) rfl rfl rfl ?_
    exact zw_ireturn2 (Or.inr rfl) rfl rfl
  refine zw_iload_n (p := 5) (Or.inr rfl) rfl rfl rfl ?_
  refine zw_sipush (p := 8) (x := (256 : Int32)) (Or.inr rfl) rfl rfl rfl ?_
  refine zw_icmp_ge (t := 15) (p := 11) (Or.inr rfl) rfl rfl rfl ?_ ?_
  · refine zw_iconst (p := 16) (x := (0 : Int32)) (Or.inr rfl) rfl rfl rfl ?_
    exact zw_ireturn2 (Or.inr rfl) rfl rfl
  refine zw_iconst (p := 12) (x := (1 : Int32)) (Or.inr rfl) rfl rfl rfl ?_
  refine zw_goto (t := 16) (Or.inr rfl) rfl rfl ?_
  exact zw_ireturn2 (Or.inr rfl) rfl rfl
def zx_PT_isSide (E : zE0) (K : zKt) (x0 : Int32) (M : zM) : zO :=
  if x0 = 0 then (zif ((1 : Int32) = 0 ∨ (1 : Int32) = 1) (some (some (.int (1 : Int32)), M)))
  else if x0 ≠ (1 : Int32) then (zif ((0 : Int32) = 0 ∨ (0 : Int32) = 1) (some (some (.int (0 : Int32)), M)))
  else zif ((1 : Int32) = 0 ∨ (1 : Int32) = 1) (some (some (.int (1 : Int32)), M))
set_option maxRecDepth 20000 in
theorem ze_PT_isSide (d : Nat) (x0 : Int32) (M : zM) : zV (d + 1) n_PT_isSide [.int x0] M = zx_PT_isSide (zV d) (zG d n_PT_isSide) x0 M := by
  refine (zE_sg (m := zm_PT_isSide) rfl 400 _ rfl M).trans ?_
  show zw true zm_PT_isSide (zV d) (zG d n_PT_isSide) 400 0 [some (.int x0)] [] M = _
  unfold zx_PT_isSide
  refine zw_iload_n (p := 1) (Or.inl rfl) rfl rfl rfl ?_
  refine zw_if_eq (t := 9) (p := 4) (Or.inr rfl) rfl rfl rfl ?_ ?_
  · refine zw_iconst (p := 10) (x := (1 : Int32)) (Or.inr rfl) rfl rfl rfl ?_
    refine zw_goto (t := 14) (Or.inr rfl) rfl rfl ?_
    exact zw_ireturn2 (Or.inr rfl) rfl rfl
  refine zw_iload_n (p := 5) (Or.inr rfl) rfl rfl rfl ?_
  refine zw_iconst (p := 6) (x := (1 : Int32)) (Or.inr rfl) rfl rfl rfl ?_
  refine zw_icmp_ne (t := 13) (p := 9) (Or.inr rfl) rfl rfl rfl ?_ ?_
  · refine zw_iconst (p := 14) (x := (0 : Int32)) (Or.inr rfl) rfl rfl rfl ?_
    exact zw_ireturn2 (Or.inr rfl) rfl rfl
  refine zw_iconst (p := 10) (x := (1 : Int32)) (Or.inr rfl) rfl rfl rfl ?_
  refine zw_goto (t := 14) (Or.inr rfl) rfl rfl ?_
  exact zw_ireturn2 (Or.inr rfl) rfl rfl
def zx_PT_isVerdict (E : zE0) (K : zKt) (x0 : Int32) (M : zM) : zO :=
  if x0 < 0 then (zif ((0 : Int32) = 0 ∨ (0 : Int32) = 1) (some (some (.int (0 : Int32)), M)))
  else if (4 : Int32) < x0 then (zif ((0 : Int32) = 0 ∨ (0 : Int32) = 1) (some (some (.int (0 : Int32)), M)))
  else zif ((1 : Int32) = 0 ∨ (1 : Int32) = 1) (some (some (.int (1 : Int32)), M))
set_option maxRecDepth 20000 in
theorem ze_PT_isVerdict (d : Nat) (x0 : Int32) (M : zM) : zV (d + 1) n_PT_isVerdict [.int x0] M = zx_PT_isVerdict (zV d) (zG d n_PT_isVerdict) x0 M := by
  refine (zE_sg (m := zm_PT_isVerdict) rfl 400 _ rfl M).trans ?_
  show zw true zm_PT_isVerdict (zV d) (zG d n_PT_isVerdict) 400 0 [some (.int x0)] [] M = _
  unfold zx_PT_isVerdict
  refine zw_iload_n (p := 1) (Or.inl rfl) rfl rfl rfl ?_
  refine zw_if_lt (t := 13) (p := 4) (Or.inr rfl) rfl rfl rfl ?_ ?_
  · refine zw_iconst (p := 14) (x := (0 : Int32)) (Or.inr rfl) rfl rfl rfl ?_
    exact zw_ireturn2 (Or.inr rfl) rfl rfl
  refine zw_iload_n (p := 5) (Or.inr rfl) rfl rfl rfl ?_
  refine zw_iconst (p := 6) (x := (4 : Int32)) (Or.inr rfl) rfl rfl rfl ?_
  refine zw_icmp_gt (t := 13) (p := 9) (Or.inr rfl) rfl rfl rfl ?_ ?_
  · refine zw_iconst (p := 14) (x := (0 : Int32)) (Or.inr rfl) rfl rfl rfl ?_
    exact zw_ireturn2 (Or.inr rfl) rfl rfl
  refine zw_iconst (p := 10) (x := (1 : Int32)) (Or.inr rfl) rfl rfl rfl ?_
  refine zw_goto (t := 14) (Or.inr rfl) rfl rfl ?_
  exact zw_ireturn2 (Or.inr rfl) rfl rfl
def zx_PT_isImage (E : zE0) (K : zKt) (x0 : Int32) (M : zM) : zO :=
  if x0 < 0 then (zif ((0 : Int32) = 0 ∨ (0 : Int32) = 1) (some (some (.int (0 : Int32)), M)))
  else if (2 : Int32) ≤ x0 then (zif ((0 : Int32) = 0 ∨ (0 : Int32) = 1) (some (some (.int (0 : Int32)), M)))
  else zif ((1 : Int32) = 0 ∨ (1 : Int32) = 1) (some (some (.int (1 : Int32)), M))
set_option maxRecDepth 20000 in
theorem ze_PT_isImage (d : Nat) (x0 : Int32) (M : zM) : zV (d + 1) n_PT_isImage [.int x0] M = zx_PT_isImage (zV d) (zG d n_PT_isImage) x0 M := by
  refine (zE_sg (m := zm_PT_isImage) rfl 400 _ rfl M).trans ?_
  show zw true zm_PT_isImage (zV d) (zG d n_PT_isImage) 400 0 [some (.int x0)] [] M = _
  unfold zx_PT_isImage
  refine zw_iload_n (p := 1) (Or.inl rfl) rfl rfl rfl ?_
  refine zw_if_lt (t := 13) (p := 4) (Or.inr rfl) rfl rfl rfl ?_ ?_
  · refine zw_iconst (p := 14) (x := (0 : Int32)) (Or.inr rfl) rfl rfl rfl ?_
    exact zw_ireturn2 (Or.inr rfl) rfl rfl
  refine zw_iload_n (p := 5) (Or.inr rfl) rfl rfl rfl ?_
  refine zw_iconst (p := 6) (x := (2 : Int32)) (Or.inr rfl) rfl rfl rfl ?_
  refine zw_icmp_ge (t := 13) (p := 9) (Or.inr rfl) rfl rfl rfl ?_ ?_
  · refine zw_iconst (p := 14) (x := (0 : Int32)) (Or.inr rfl) rfl rfl rfl ?_
    exact zw_ireturn2 (Or.inr rfl) rfl rfl
  refine zw_iconst (p := 10) (x := (1 : Int32)) (Or.inr rfl) rfl rfl rfl ?_
  refine zw_goto (t := 14) (Or.inr rfl) rfl rfl ?_
  exact zw_ireturn2 (Or.inr rfl) rfl rfl
def zx_PT_isSheet (E : zE0) (K : zKt) (x0 : Int32) (M : zM) : zO :=
  if x0 < 0 then (zif ((0 : Int32) = 0 ∨ (0 : Int32) = 1) (some (some (.int (0 : Int32)), M)))
  else if (4 : Int32) ≤ x0 then (zif ((0 : Int32) = 0 ∨ (0 : Int32) = 1) (some (some (.int (0 : Int32)), M)))
  else zif ((1 : Int32) = 0 ∨ (1 : Int32) = 1) (some (some (.int (1 : Int32)), M))
set_option maxRecDepth 20000 in
theorem ze_PT_isSheet (d : Nat) (x0 : Int32) (M : zM) : zV (d + 1) n_PT_isSheet [.int x0] M = zx_PT_isSheet (zV d) (zG d n_PT_isSheet) x0 M := by
  refine (zE_sg (m := zm_PT_isSheet) rfl 400 _ rfl M).trans ?_
  show zw true zm_PT_isSheet (zV d) (zG d n_PT_isSheet) 400 0 [some (.int x0)] [] M = _
  unfold zx_PT_isSheet
  refine zw_iload_n (p := 1) (Or.inl rfl) rfl rfl rfl ?_
  refine zw_if_lt (t := 13) (p := 4) (Or.inr rfl) rfl rfl rfl ?_ ?_
  · refine zw_iconst (p := 14) (x := (0 : Int32)) (Or.inr rfl) rfl rfl rfl ?_
    exact zw_ireturn2 (Or.inr rfl) rfl rfl
  refine zw_iload_n (p := 5) (Or.inr rfl) rfl rfl rfl ?_
  refine zw_iconst (p := 6) (x := (4 : Int32)) (Or.inr rfl) rfl rfl rfl ?_
  refine zw_icmp_ge (t := 13) (p := 9) (Or.inr rfl) rfl rfl rfl ?_ ?_
  · refine zw_iconst (p := 14) (x := (0 : Int32)) (Or.inr rfl) rfl rfl rfl ?_
    exact zw_ireturn2 (Or.inr rfl) rfl rfl
  refine zw_iconst (p := 10) (x := (1 : Int32)) (Or.inr rfl) rfl rfl rfl ?_
  refine zw_goto (t := 14) (Or.inr rfl) rfl rfl ?_
  exact zw_ireturn2 (Or.inr rfl) rfl rfl
def zx_PT_isLane (E : zE0) (K : zKt) (x0 : Int32) (M : zM) : zO :=
  if x0 < 0 then (zif ((0 : Int32) = 0 ∨ (0 : Int32) = 1) (some (some (.int (0 : Int32)), M)))
  else if (3 : Int32) ≤ x0 then (zif ((0 : Int32) = 0 ∨ (0 : Int32) = 1) (some (some (.int (0 : Int32)), M)))
  else zif ((1 : Int32) = 0 ∨ (1 : Int32) = 1) (some (some (.int (1 : Int32)), M))
set_option maxRecDepth 20000 in
theorem ze_PT_isLane (d : Nat) (x0 : Int32) (M : zM) : zV (d + 1) n_PT_isLane [.int x0] M = zx_PT_isLane (zV d) (zG d n_PT_isLane) x0 M := by
  refine (zE_sg (m := zm_PT_isLane) rfl 400 _ rfl M).trans ?_
  show zw true zm_PT_isLane (zV d) (zG d n_PT_isLane) 400 0 [some (.int x0)] [] M = _
  unfold zx_PT_isLane
  refine zw_iload_n (p := 1) (Or.inl rfl) rfl rfl rfl ?_
  refine zw_if_lt (t := 13) (p := 4) (Or.inr rfl) rfl rfl rfl ?_ ?_
  · refine zw_iconst (p := 14) (x := (0 : Int32)) (Or.inr rfl) rfl rfl rfl ?_
    exact zw_ireturn2 (Or.inr rfl) rfl rfl
  refine zw_iload_n (p := 5) (Or.inr rfl) rfl rfl rfl ?_
  refine zw_iconst (p := 6) (x := (3 : Int32)) (Or.inr rfl) rfl rfl rfl ?_
  refine zw_icmp_ge (t := 13) (p := 9) (Or.inr rfl) rfl rfl rfl ?_ ?_
  · refine zw_iconst (p := 14) (x := (0 : Int32)) (Or.inr rfl) rfl rfl rfl ?_
    exact zw_ireturn2 (Or.inr rfl) rfl rfl
  refine zw_iconst (p := 10) (x := (1 : Int32)) (Or.inr rfl) rfl rfl rfl ?_
  refine zw_goto (t := 14) (Or.inr rfl) rfl rfl ?_
  exact zw_ireturn2 (Or.inr rfl) rfl rfl
def zx_PT_nextSeed (E : zE0) (K : zKt) (x0 : Int32) (M : zM) : zO :=
  some (some (.int ((x0 * (1103515245 : Int32)) + (12345 : Int32))), M)
set_option maxRecDepth 20000 in
theorem ze_PT_nextSeed (d : Nat) (x0 : Int32) (M : zM) : zV (d + 1) n_PT_nextSeed [.int x0] M = zx_PT_nextSeed (zV d) (zG d n_PT_nextSeed) x0 M := by
  refine (zE_sg (m := zm_PT_nextSeed) rfl 400 _ rfl M).trans ?_
  show zw true zm_PT_nextSeed (zV d) (zG d n_PT_nextSeed) 400 0 [some (.int x0)] [] M = _
  unfold zx_PT_nextSeed
  refine zw_iload_n (p := 1) (Or.inl rfl) rfl rfl rfl ?_
  refine zw_ldc_w (p := 4) (x := (1103515245 : Int32)) (Or.inr rfl) rfl rfl rfl ?_
  refine zw_imul (p := 5) (Or.inr rfl) rfl rfl ?_
  refine zw_sipush (p := 8) (x := (12345 : Int32)) (Or.inr rfl) rfl rfl rfl ?_
  refine zw_iadd (p := 9) (Or.inr rfl) rfl rfl ?_
  exact zw_ireturn1 (Or.inr rfl) rfl rfl
def zx_PT_got (E : zE0) (K : zKt) (x0 : Int32) (M : zM) : zO :=
  some (some (.int (((Int32.toUInt32 x0 >>> (Int32.toUInt32 (16 : Int32) &&& Int32.toUInt32 31)).toInt32) &&& (255 : Int32))), M)
set_option maxRecDepth 20000 in
theorem ze_PT_got (d : Nat) (x0 : Int32) (M : zM) : zV (d + 1) n_PT_got [.int x0] M = zx_PT_got (zV d) (zG d n_PT_got) x0 M := by
  refine (zE_sg (m := zm_PT_got) rfl 400 _ rfl M).trans ?_
  show zw true zm_PT_got (zV d) (zG d n_PT_got) 400 0 [some (.int x0)] [] M = _
  unfold zx_PT_got
  refine zw_iload_n (p := 1) (Or.inl rfl) rfl rfl rfl ?_
  refine zw_bipush (p := 3) (x := (16 : Int32)) (Or.inr rfl) rfl rfl rfl ?_
  refine zw_iushr (p := 4) (Or.inr rfl) rfl rfl ?_
  refine zw_sipush (p := 7) (x := (255 : Int32)) (Or.inr rfl) rfl rfl rfl ?_
  refine zw_iand (p := 8) (Or.inr rfl) rfl rfl ?_
  exact zw_ireturn1 (Or.inr rfl) rfl rfl
def zx_PT_howManyImages (E : zE0) (K : zKt) (a0 : Nat) (M : zM) : zO :=
  K 4 [some (.ref a0), some (.int (0 : Int32)), some (.int (0 : Int32))] [] M
set_option maxRecDepth 20000 in
theorem ze_PT_howManyImages (d : Nat) (a0 : Nat) (M : zM) : zV (d + 1) n_PT_howManyImages [.ref a0] M = zx_PT_howManyImages (zV d) (zG d n_PT_howManyImages) a0 M := by
  refine (zE_sg (m := zm_PT_howManyImages) rfl 400 _ rfl M).trans ?_
  show zw true zm_PT_howManyImages (zV d) (zG d n_PT_howManyImages) 400 0 [some (.ref a0), none, none] [] M = _
  unfold zx_PT_howManyImages
  refine zw_iconst (p := 1) (x := (0 : Int32)) (Or.inl rfl) rfl rfl rfl ?_
  refine zw_istore_n (p := 2) (l2 := [some (.ref a0), some (.int (0 : Int32)), none]) (Or.inr rfl) rfl rfl rfl rfl ?_
  refine zw_iconst (p := 3) (x := (0 : Int32)) (Or.inr rfl) rfl rfl rfl ?_
  refine zw_istore_n (p := 4) (l2 := [some (.ref a0), some (.int (0 : Int32)), some (.int (0 : Int32))]) (Or.inr rfl) rfl rfl rfl rfl ?_
  exact zw_end rfl rfl
def zx_PT_howManyImages_4 (E : zE0) (K : zKt) (a0 : Nat) (x1 : Int32) (x2 : Int32) (M : zM) : zO :=
  if (2 : Int32) ≤ x2 then (some (some (.int x1), M))
  else zif ((zK M a0).1 = 10)
  (zoR (zR M a0 5) fun q1 =>
  zif (((zK M q1).1 = 21 ∨ (zK M q1).1 = 22) ∧ zin x2 (zK M q1).2 = true)
  (if (zI M q1 (Int32.toNatClampNeg x2)) = 0 then (zbi (x2 + (1 : Int32)) fun u1 =>
    K 4 [some (.ref a0), some (.int x1), some (.int u1)] [] M)
  else zbi (x1 + (1 : Int32)) fun u2 =>
  zbi (x2 + (1 : Int32)) fun u3 =>
  K 4 [some (.ref a0), some (.int u2), some (.int u3)] [] M))
set_option maxRecDepth 20000 in
theorem zg_PT_howManyImages_4 (d : Nat) (a0 : Nat) (x1 : Int32) (x2 : Int32) (M : zM) : zG d n_PT_howManyImages 4 [some (.ref a0), some (.int x1), some (.int x2)] [] M = zx_PT_howManyImages_4 (zV d) (zG d n_PT_howManyImages) a0 x1 x2 M := by
  refine (zG_sg (m := zm_PT_howManyImages) rfl 400 _ _ _ M).trans ?_
  show zw true zm_PT_howManyImages (zV d) (zG d n_PT_howManyImages) 400 4 [some (.ref a0), some (.int x1), some (.int x2)] [] M = _
  unfold zx_PT_howManyImages_4
  refine zw_iload_n (p := 5) (Or.inl rfl) rfl rfl rfl ?_
  refine zw_iconst (p := 6) (x := (2 : Int32)) (Or.inr rfl) rfl rfl rfl ?_
  refine zw_icmp_ge (t := 27) (p := 9) (Or.inr rfl) rfl rfl rfl ?_ ?_
  · refine zw_iload_n (p := 28) (Or.inr rfl) rfl rfl rfl ?_
    exact zw_ireturn1 (Or.inr rfl) rfl rfl
  refine zw_aload_n (p := 10) (Or.inr rfl) rfl rfl rfl ?_
  refine zw_get_ref (p := 13) (Or.inr rfl) rfl rfl (fun q1 => ?_)
  refine zw_iload_n (p := 14) (Or.inr rfl) rfl rfl rfl ?_
  refine zw_baload (p := 15) (Or.inr rfl) rfl rfl ?_
  refine zw_if_eq (t := 21) (p := 18) (Or.inr rfl) rfl rfl rfl ?_ ?_
  · refine zw_iinc (p := 24) (c := (1 : Int32)) (L2 := fun u1 => [some (.ref a0), some (.int x1), some (.int u1)]) (Or.inr rfl) rfl rfl rfl rfl (fun _ => rfl) rfl (fun u1 => ?_)
    refine zw_goto (t := 4) (Or.inr rfl) rfl rfl ?_
    exact zw_end rfl rfl
  refine zw_iinc (p := 21) (c := (1 : Int32)) (L2 := fun u2 => [some (.ref a0), some (.int u2), some (.int x2)]) (Or.inr rfl) rfl rfl rfl rfl (fun _ => rfl) rfl (fun u2 => ?_)
  refine zw_iinc (p := 24) (c := (1 : Int32)) (L2 := fun u3 => [some (.ref a0), some (.int u2), some (.int u3)]) (Or.inr rfl) rfl rfl rfl rfl (fun _ => rfl) rfl (fun u3 => ?_)
  refine zw_goto (t := 4) (Or.inr rfl) rfl rfl ?_
  exact zw_end rfl rfl
def zx_PT_watchOf (E : zE0) (K : zKt) (a0 : Nat) (x1 : Int32) (M : zM) : zO :=
  zif ((zK M a0).1 = 10)
  (zoR (zR M a0 2) fun q1 =>
  zif (30 ≤ (zK M q1).1 ∧ zin x1 (zK M q1).2 = true)
  (zoR (zR M q1 (Int32.toNatClampNeg x1)) fun q2 =>
  zif ((zK M a0).1 = 10)
  (zoR (zR M a0 7) fun q3 =>
  zif (30 ≤ (zK M q3).1 ∧ zin x1 (zK M q3).2 = true)
  (zoR (zR M q3 (Int32.toNatClampNeg x1)) fun q4 =>
  zif ((zK M a0).1 = 10)
  (zoR (zR M a0 3) fun q5 =>
  zif ((zK M q2).1 = 9)
  (zbV (E n_Wa_catchUp [.ref q2, .ref q4, .ref q5] M) fun M1 =>
  some (some (.ref q2), M1)))))))
set_option maxRecDepth 20000 in
theorem ze_PT_watchOf (d : Nat) (a0 : Nat) (x1 : Int32) (M : zM) : zV (d + 1) n_PT_watchOf [.ref a0, .int x1] M = zx_PT_watchOf (zV d) (zG d n_PT_watchOf) a0 x1 M := by
  refine (zE_sg (m := zm_PT_watchOf) rfl 400 _ rfl M).trans ?_
  show zw true zm_PT_watchOf (zV d) (zG d n_PT_watchOf) 400 0 [some (.ref a0), some (.int x1), none] [] M = _
  unfold zx_PT_watchOf
  refine zw_aload_n (p := 1) (Or.inl rfl) rfl rfl rfl ?_
  refine zw_get_ref (p := 4) (Or.inr rfl) rfl rfl (fun q1 => ?_)
  refine zw_iload_n (p := 5) (Or.inr rfl) rfl rfl rfl ?_
  refine zw_aaload (p := 6) (Or.inr rfl) rfl rfl (fun q2 => ?_)
  refine zw_astore_n (p := 7) (l2 := [some (.ref a0), some (.int x1), some (.ref q2)]) (Or.inr rfl) rfl rfl rfl rfl ?_
  refine zw_aload_n (p := 8) (Or.inr rfl) rfl rfl rfl ?_
  refine zw_aload_n (p := 9) (Or.inr rfl) rfl rfl rfl ?_
  refine zw_get_ref (p := 12) (Or.inr rfl) rfl rfl (fun q3 => ?_)
  refine zw_iload_n (p := 13) (Or.inr rfl) rfl rfl rfl ?_
  refine zw_aaload (p := 14) (Or.inr rfl) rfl rfl (fun q4 => ?_)
  refine zw_aload_n (p := 15) (Or.inr rfl) rfl rfl rfl ?_
  refine zw_get_ref (p := 18) (Or.inr rfl) rfl rfl (fun q5 => ?_)
  refine zw_virtualV (p := 21) (as := [.ref q2, .ref q4, .ref q5]) (rest := []) (Or.inr rfl) rfl rfl rfl rfl rfl rfl rfl (fun M1 => ?_)
  refine zw_aload_n (p := 22) (Or.inr rfl) rfl rfl rfl ?_
  exact zw_areturn (Or.inr rfl) rfl rfl
def zx_PT_watchAnew (E : zE0) (K : zKt) (a0 : Nat) (M : zM) : zO :=
  K 2 [some (.ref a0), some (.int (0 : Int32))] [] M
set_option maxRecDepth 20000 in
theorem ze_PT_watchAnew (d : Nat) (a0 : Nat) (M : zM) : zV (d + 1) n_PT_watchAnew [.ref a0] M = zx_PT_watchAnew (zV d) (zG d n_PT_watchAnew) a0 M := by
  refine (zE_sg (m := zm_PT_watchAnew) rfl 400 _ rfl M).trans ?_
  show zw true zm_PT_watchAnew (zV d) (zG d n_PT_watchAnew) 400 0 [some (.ref a0), none] [] M = _
  unfold zx_PT_watchAnew
  refine zw_iconst (p := 1) (x := (0 : Int32)) (Or.inl rfl) rfl rfl rfl ?_
  refine zw_istore_n (p := 2) (l2 := [some (.ref a0), some (.int (0 : Int32))]) (Or.inr rfl) rfl rfl rfl rfl ?_
  exact zw_end rfl rfl
def zx_PT_watchAnew_2 (E : zE0) (K : zKt) (a0 : Nat) (x1 : Int32) (M : zM) : zO :=
  if (4 : Int32) ≤ x1 then (some (none, M))
  else zif ((zK M a0).1 = 10)
  (zoR (zR M a0 2) fun q1 =>
  zif (30 ≤ (zK M q1).1 ∧ zin x1 (zK M q1).2 = true)
  (zoR (zR M q1 (Int32.toNatClampNeg x1)) fun q2 =>
  zif ((zK M q2).1 = 9)
  (zbV (E n_Wa_restart [.ref q2] M) fun M1 =>
  zbi (x1 + (1 : Int32)) fun u1 =>
  K 2 [some (.ref a0), some (.int u1)] [] M1)))
set_option maxRecDepth 20000 in
theorem zg_PT_watchAnew_2 (d : Nat) (a0 : Nat) (x1 : Int32) (M : zM) : zG d n_PT_watchAnew 2 [some (.ref a0), some (.int x1)] [] M = zx_PT_watchAnew_2 (zV d) (zG d n_PT_watchAnew) a0 x1 M := by
  refine (zG_sg (m := zm_PT_watchAnew) rfl 400 _ _ _ M).trans ?_
  show zw true zm_PT_watchAnew (zV d) (zG d n_PT_watchAnew) 400 2 [some (.ref a0), some (.int x1)] [] M = _
  unfold zx_PT_watchAnew_2
  refine zw_iload_n (p := 3) (Or.inl rfl) rfl rfl rfl ?_
  refine zw_iconst (p := 4) (x := (4 : Int32)) (Or.inr rfl) rfl rfl rfl ?_
  refine zw_icmp_ge (t := 22) (p := 7) (Or.inr rfl) rfl rfl rfl ?_ ?_
  · exact zw_return (Or.inr rfl) rfl rfl
  refine zw_aload_n (p := 8) (Or.inr rfl) rfl rfl rfl ?_
  refine zw_get_ref (p := 11) (Or.inr rfl) rfl rfl (fun q1 => ?_)
  refine zw_iload_n (p := 12) (Or.inr rfl) rfl rfl rfl ?_
  refine zw_aaload (p := 13) (Or.inr rfl) rfl rfl (fun q2 => ?_)
  refine zw_virtualV (p := 16) (as := [.ref q2]) (rest := []) (Or.inr rfl) rfl rfl rfl rfl rfl rfl rfl (fun M1 => ?_)
  refine zw_iinc (p := 19) (c := (1 : Int32)) (L2 := fun u1 => [some (.ref a0), some (.int u1)]) (Or.inr rfl) rfl rfl rfl rfl (fun _ => rfl) rfl (fun u1 => ?_)
  refine zw_goto (t := 2) (Or.inr rfl) rfl rfl ?_
  exact zw_end rfl rfl
def zx_PT_isFulfilled (E : zE0) (K : zKt) (a0 : Nat) (x1 : Int32) (x2 : Int32) (M : zM) : zO :=
  zif (¬ (64 : Int32) = 0) (zif (((zK M a0).1 = 23 ∨ (zK M a0).1 = 25) ∧ zin ((x1 * (4 : Int32)) + (x2 / (64 : Int32))) (zK M a0).2 = true)
  (zif (¬ (64 : Int32) = 0) (if (lg_cmp (((Int64.toUInt64 (zL M a0 (Int32.toNatClampNeg ((x1 * (4 : Int32)) + (x2 / (64 : Int32))))) >>> (Int64.toUInt64 (Int32.toInt64 (x2 - x2 / (64 : Int32) * (64 : Int32))) &&& Int64.toUInt64 63)).toInt64) &&& (1 : Int64)) (0 : Int64)) = 0 then (zif ((0 : Int32) = 0 ∨ (0 : Int32) = 1) (some (some (.int (0 : Int32)), M)))
  else zif ((1 : Int32) = 0 ∨ (1 : Int32) = 1) (some (some (.int (1 : Int32)), M)))))
set_option maxRecDepth 20000 in
theorem ze_PT_isFulfilled (d : Nat) (a0 : Nat) (x1 : Int32) (x2 : Int32) (M : zM) : zV (d + 1) n_PT_isFulfilled [.ref a0, .int x1, .int x2] M = zx_PT_isFulfilled (zV d) (zG d n_PT_isFulfilled) a0 x1 x2 M := by
  refine (zE_sg (m := zm_PT_isFulfilled) rfl 400 _ rfl M).trans ?_
  show zw true zm_PT_isFulfilled (zV d) (zG d n_PT_isFulfilled) 400 0 [some (.ref a0), some (.int x1), some (.int x2)] [] M = _
  unfold zx_PT_isFulfilled
  refine zw_aload_n (p := 1) (Or.inl rfl) rfl rfl rfl ?_
  refine zw_iload_n (p := 2) (Or.inr rfl) rfl rfl rfl ?_
  refine zw_iconst (p := 3) (x := (4 : Int32)) (Or.inr rfl) rfl rfl rfl ?_
  refine zw_imul (p := 4) (Or.inr rfl) rfl rfl ?_
  refine zw_iload_n (p := 5) (Or.inr rfl) rfl rfl rfl ?_
  refine zw_bipush (p := 7) (x := (64 : Int32)) (Or.inr rfl) rfl rfl rfl ?_
  refine zw_idiv (p := 8) (Or.inr rfl) rfl rfl ?_
  refine zw_iadd (p := 9) (Or.inr rfl) rfl rfl ?_
  refine zw_laload (p := 10) (Or.inr rfl) rfl rfl ?_
  refine zw_iload_n (p := 11) (Or.inr rfl) rfl rfl rfl ?_
  refine zw_bipush (p := 13) (x := (64 : Int32)) (Or.inr rfl) rfl rfl rfl ?_
  refine zw_irem (p := 14) (Or.inr rfl) rfl rfl ?_
  refine zw_lushr (p := 15) (Or.inr rfl) rfl rfl ?_
  refine zw_lconst (p := 16) (x := (1 : Int64)) (Or.inr rfl) rfl rfl rfl ?_
  refine zw_land (p := 17) (Or.inr rfl) rfl rfl ?_
  refine zw_lconst (p := 18) (x := (0 : Int64)) (Or.inr rfl) rfl rfl rfl ?_
  refine zw_lcmp (p := 19) (Or.inr rfl) rfl rfl ?_
  refine zw_if_eq (t := 26) (p := 22) (Or.inr rfl) rfl rfl rfl ?_ ?_
  · refine zw_iconst (p := 27) (x := (0 : Int32)) (Or.inr rfl) rfl rfl rfl ?_
    exact zw_ireturn2 (Or.inr rfl) rfl rfl
  refine zw_iconst (p := 23) (x := (1 : Int32)) (Or.inr rfl) rfl rfl rfl ?_
  refine zw_goto (t := 27) (Or.inr rfl) rfl rfl ?_
  exact zw_ireturn2 (Or.inr rfl) rfl rfl
def zx_PT_howManyFulfil (E : zE0) (K : zKt) (a0 : Nat) (x1 : Int32) (M : zM) : zO :=
  K 4 [some (.ref a0), some (.int x1), some (.int (0 : Int32)), some (.int (0 : Int32))] [] M
set_option maxRecDepth 20000 in
theorem ze_PT_howManyFulfil (d : Nat) (a0 : Nat) (x1 : Int32) (M : zM) : zV (d + 1) n_PT_howManyFulfil [.ref a0, .int x1] M = zx_PT_howManyFulfil (zV d) (zG d n_PT_howManyFulfil) a0 x1 M := by
  refine (zE_sg (m := zm_PT_howManyFulfil) rfl 400 _ rfl M).trans ?_
  show zw true zm_PT_howManyFulfil (zV d) (zG d n_PT_howManyFulfil) 400 0 [some (.ref a0), some (.int x1), none, none] [] M = _
  unfold zx_PT_howManyFulfil
  refine zw_iconst (p := 1) (x := (0 : Int32)) (Or.inl rfl) rfl rfl rfl ?_
  refine zw_istore_n (p := 2) (l2 := [some (.ref a0), some (.int x1), some (.int (0 : Int32)), none]) (Or.inr rfl) rfl rfl rfl rfl ?_
  refine zw_iconst (p := 3) (x := (0 : Int32)) (Or.inr rfl) rfl rfl rfl ?_
  refine zw_istore_n (p := 4) (l2 := [some (.ref a0), some (.int x1), some (.int (0 : Int32)), some (.int (0 : Int32))]) (Or.inr rfl) rfl rfl rfl rfl ?_
  exact zw_end rfl rfl
def zx_PT_howManyFulfil_4 (E : zE0) (K : zKt) (a0 : Nat) (x1 : Int32) (x2 : Int32) (x3 : Int32) (M : zM) : zO :=
  if (4 : Int32) ≤ x3 then (some (some (.int x2), M))
  else zif (((zK M a0).1 = 23 ∨ (zK M a0).1 = 25) ∧ zin ((x1 * (4 : Int32)) + x3) (zK M a0).2 = true)
  (zbI (E n_JL_bitCount [.long (zL M a0 (Int32.toNatClampNeg ((x1 * (4 : Int32)) + x3)))] M) fun u1 M1 =>
  zbi (x2 + u1) fun u2 =>
  zbi (x3 + (1 : Int32)) fun u3 =>
  K 4 [some (.ref a0), some (.int x1), some (.int u2), some (.int u3)] [] M1)
set_option maxRecDepth 20000 in
theorem zg_PT_howManyFulfil_4 (d : Nat) (a0 : Nat) (x1 : Int32) (x2 : Int32) (x3 : Int32) (M : zM) : zG d n_PT_howManyFulfil 4 [some (.ref a0), some (.int x1), some (.int x2), some (.int x3)] [] M = zx_PT_howManyFulfil_4 (zV d) (zG d n_PT_howManyFulfil) a0 x1 x2 x3 M := by
  refine (zG_sg (m := zm_PT_howManyFulfil) rfl 400 _ _ _ M).trans ?_
  show zw true zm_PT_howManyFulfil (zV d) (zG d n_PT_howManyFulfil) 400 4 [some (.ref a0), some (.int x1), some (.int x2), some (.int x3)] [] M = _
  unfold zx_PT_howManyFulfil_4
  refine zw_iload_n (p := 5) (Or.inl rfl) rfl rfl rfl ?_
  refine zw_iconst (p := 6) (x := (4 : Int32)) (Or.inr rfl) rfl rfl rfl ?_
  refine zw_icmp_ge (t := 28) (p := 9) (Or.inr rfl) rfl rfl rfl ?_ ?_
  · refine zw_iload_n (p := 29) (Or.inr rfl) rfl rfl rfl ?_
    exact zw_ireturn1 (Or.inr rfl) rfl rfl
  refine zw_iload_n (p := 10) (Or.inr rfl) rfl rfl rfl ?_
  refine zw_aload_n (p := 11) (Or.inr rfl) rfl rfl rfl ?_
  refine zw_iload_n (p := 12) (Or.inr rfl) rfl rfl rfl ?_
  refine zw_iconst (p := 13) (x := (4 : Int32)) (Or.inr rfl) rfl rfl rfl ?_
  refine zw_imul (p := 14) (Or.inr rfl) rfl rfl ?_
  refine zw_iload_n (p := 15) (Or.inr rfl) rfl rfl rfl ?_
  refine zw_iadd (p := 16) (Or.inr rfl) rfl rfl ?_
  refine zw_laload (p := 17) (Or.inr rfl) rfl rfl ?_
  refine zw_staticI (p := 20) (as := [.long (zL M a0 (Int32.toNatClampNeg ((x1 * (4 : Int32)) + x3)))]) (rest := [.int x2]) (Or.inr rfl) rfl rfl rfl rfl rfl rfl (fun u1 M1 => ?_)
  refine zw_iadd (p := 21) (Or.inr rfl) rfl rfl ?_
  refine zw_istore_nN (p := 22) (L2 := fun u2 => [some (.ref a0), some (.int x1), some (.int u2), some (.int x3)]) (Or.inr rfl) rfl rfl (fun _ => rfl) rfl (fun u2 => ?_)
  refine zw_iinc (p := 25) (c := (1 : Int32)) (L2 := fun u3 => [some (.ref a0), some (.int x1), some (.int u2), some (.int u3)]) (Or.inr rfl) rfl rfl rfl rfl (fun _ => rfl) rfl (fun u3 => ?_)
  refine zw_goto (t := 4) (Or.inr rfl) rfl rfl ?_
  exact zw_end rfl rfl
