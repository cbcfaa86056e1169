/-! m_top: the methods as functions, and their walks (written by program) -/
def f_X11_feedNumber (a1 : Int) (S : Sst) : Option (Sst) :=
  Option.bind (lp (fun (s1 : Int × Sst) =>
    if s1.1 < 0 then
      (some (Sum.inr s1.2))
    else
      (jn (f_X6_add 1 (zand (zshr a1 s1.1) 255) s1.2) fun (q9 : Sst) =>
      some (Sum.inl (wr (s1.1 + (-8)), q9)))) FU (24, S)) fun (r11 : Sst) =>
  some r11
set_option maxRecDepth 100000 in
set_option maxHeartbeats 4000000 in
theorem m_X11_feedNumber {l : Launch} {E : EwT} {S : Sst} {O : Smo} {a1 : Int} (ha1 : IR a1) {q : Sst} (hq : f_X11_feedNumber a1 S = some q) : MetG l E yX11_feedNumber cX11_feedNumber 3 none 1 21 0 0 n0 R0 S O [.ref (zad E 0), .int (zi a1)] (True) none n0 R0 q O := by
  refine ofG (L0 := [(0, .ref (zad E 0)), (1, .int (zi a1))]) hq (by decide +kernel) (Nat.le_of_ble_eq_true rfl) rfl (fun K _ C hQ => ?_)
  unfold f_X11_feedNumber
  refine r_bipush (v := 24) C dX11_feedNumber_0 (by decide) ?_
  refine r_istore_n (L' := [(2, .int (zi 24)), (0, .ref (zad E 0)), (1, .int (zi a1))]) C dX11_feedNumber_2 rfl (by decide) rfl ?_
  refine r_L (L' := [(0, .ref (zad E 0)), (1, .int (zi a1)), (2, .int (zi 24))]) [1, 2, 0] rfl ?_
  refine r_loop1 (fun s1 : Int × Sst => IR s1.1) (fun s1 => s1.2) (fun s1 => O) (fun s1 => [(0, .ref (zad E 0)), (1, .int (zi a1)), (2, .int (zi s1.1))]) [] (fun r11 : Sst => True) (fun r11 => r11) (fun r11 => O) (fun r11 => []) 27 (fun r11 h12 => ?_) (fun k3 k5 k4 k6 s1 h2 => ?_) (IRd rfl)
  · exact r_return C hQ dX11_feedNumber_27 (fun e => by cases e; exact ⟨trivial, rfl, rfl, rfl, rfl, rfl⟩)
  · refine r_iload_n (pc := 3) (j := 2) C dX11_feedNumber_3 rfl rfl ?_
    refine r_if_lt (tgt := 27) C h2 dX11_feedNumber_4 (by decide) (fun c7 => ?_) (fun c7 => ?_)
    · refine r_bt c7 ?_
      refine r_L (L' := []) [] rfl ?_
      exact k6 s1.2 trivial
    · refine r_bf c7 ?_
      refine r_aload_n (pc := 7) (j := 0) C dX11_feedNumber_7 rfl rfl ?_
      refine r_getR (j := 0) (r := 1) C cl_X11 kd_0 ln_0 (by decide) rfl r0_0_0 (by decide) q_686 dX11_feedNumber_8 ?_
      refine r_iload_n (pc := 11) (j := 1) C dX11_feedNumber_11 rfl rfl ?_
      refine r_iload_n (pc := 12) (j := 2) C dX11_feedNumber_12 rfl rfl ?_
      refine r_ishr C dX11_feedNumber_13 ?_
      refine r_sipush (v := 255) C dX11_feedNumber_14 (by decide) ?_
      refine r_iand C dX11_feedNumber_17 ?_
      refine r_bj ?_
      refine r_jn (fun q9 e10 => ?_)
      refine r_cV0 (pc := 18) (k := 1) (As := [.int (zi (zand (zshr a1 s1.1) 255))]) (st := []) C (m_X6_add (p := 1) (a1 := zand (zshr a1 s1.1) 255) gw_1 (i32_IR _) e10) cal_X6_add cl_X6 kd_1 ln_1 q_744 dX11_feedNumber_18 rfl rfl (Nat.le_of_ble_eq_true rfl) (Nat.le_of_ble_eq_true rfl) (Nat.le_of_ble_eq_true rfl) (Nat.le_of_ble_eq_true rfl) (Nat.le_of_ble_eq_true rfl) (fun h8 => ?_)
      refine r_iinc (j := 2) (L' := [(2, .int (zi (wr (s1.1 + (-8))))), (0, .ref (zad E 0)), (1, .int (zi a1))]) C dX11_feedNumber_21 rfl (by decide) rfl ?_
      refine r_goto (tgt := 3) C dX11_feedNumber_24 (by decide) ?_
      refine r_L (L' := [(0, .ref (zad E 0)), (1, .int (zi a1)), (2, .int (zi (wr (s1.1 + (-8)))))]) [1, 2, 0] rfl ?_
      exact k4 (wr (s1.1 + (-8)), q9) (IR_wr _)

def f_X11_feed (a1 : Int) (a2 : Int) (a3 : Int) (a4 : Int) (a5 : Int) (S : Sst) : Option (Int × Sst) :=
  if 1600 < wr ((f_X6_size 1 S) + 20) then
    (some ((-1), S))
  else
    (Option.bind (f_X11_feedNumber a1 S) fun (q16 : Sst) =>
    Option.bind (f_X11_feedNumber a2 q16) fun (q19 : Sst) =>
    Option.bind (f_X11_feedNumber a3 q19) fun (q22 : Sst) =>
    Option.bind (f_X11_feedNumber a4 q22) fun (q25 : Sst) =>
    Option.bind (f_X11_feedNumber a5 q25) fun (q28 : Sst) =>
    some (f_X6_size 1 q28, q28))
set_option maxRecDepth 100000 in
set_option maxHeartbeats 4000000 in
theorem m_X11_feed {l : Launch} {E : EwT} {S : Sst} {O : Smo} {a1 : Int} (ha1 : IR a1) {a2 : Int} (ha2 : IR a2) {a3 : Int} (ha3 : IR a3) {a4 : Int} (ha4 : IR a4) {a5 : Int} (ha5 : IR a5) {q : Int × Sst} (hq : f_X11_feed a1 a2 a3 a4 a5 S = some q) : MetG l E yX11_feed cX11_feed 6 (some .int) 2 43 0 0 n0 R0 S O [.ref (zad E 0), .int (zi a1), .int (zi a2), .int (zi a3), .int (zi a4), .int (zi a5)] (IR q.1) (some (.int (zi q.1))) n0 R0 q.2 O := by
  refine ofG (L0 := [(0, .ref (zad E 0)), (1, .int (zi a1)), (2, .int (zi a2)), (3, .int (zi a3)), (4, .int (zi a4)), (5, .int (zi a5))]) hq (by decide +kernel) (Nat.le_of_ble_eq_true rfl) rfl (fun K _ C hQ => ?_)
  unfold f_X11_feed
  refine r_aload_n (pc := 0) (j := 0) C dX11_feed_0 rfl rfl ?_
  refine r_getR (j := 0) (r := 1) C cl_X11 kd_0 ln_0 (by decide) rfl r0_0_0 (by decide) q_686 dX11_feed_1 ?_
  refine r_cV1 (pc := 4) (k := 1) (As := []) (st := []) C (m_X6_size (p := 1) gw_1 rfl) cal_X6_size cl_X6 kd_1 ln_1 q_736 dX11_feed_4 rfl rfl (Nat.le_of_ble_eq_true rfl) (Nat.le_of_ble_eq_true rfl) (Nat.le_of_ble_eq_true rfl) (Nat.le_of_ble_eq_true rfl) (Nat.le_of_ble_eq_true rfl) (fun h13 => ?_)
  refine r_bipush (v := 20) C dX11_feed_7 (by decide) ?_
  refine r_iadd C dX11_feed_9 ?_
  refine r_sipush (v := 1600) C dX11_feed_10 (by decide) ?_
  refine r_icmp_le (tgt := 18) C (IR_wr _) (IRd rfl) dX11_feed_13 (by decide) (fun c14 => ?_) (fun c14 => ?_)
  · refine r_f c14 ?_
    refine r_aload_n (pc := 18) (j := 0) C dX11_feed_18 rfl rfl ?_
    refine r_iload_n (pc := 19) (j := 1) C dX11_feed_19 rfl rfl ?_
    refine r_bd (fun q16 e17 => ?_)
    refine r_cV0 (pc := 20) (k := 0) (As := [.int (zi a1)]) (st := []) C (m_X11_feedNumber (a1 := a1) ha1 e17) cal_X11_feedNumber cl_X11 kd_0 ln_0 q_740 dX11_feed_20 rfl rfl (Nat.le_of_ble_eq_true rfl) (Nat.le_of_ble_eq_true rfl) (Nat.le_of_ble_eq_true rfl) (Nat.le_of_ble_eq_true rfl) (Nat.le_of_ble_eq_true rfl) (fun h15 => ?_)
    refine r_aload_n (pc := 23) (j := 0) C dX11_feed_23 rfl rfl ?_
    refine r_iload_n (pc := 24) (j := 2) C dX11_feed_24 rfl rfl ?_
    refine r_bd (fun q19 e20 => ?_)
    refine r_cV0 (pc := 25) (k := 0) (As := [.int (zi a2)]) (st := []) C (m_X11_feedNumber (a1 := a2) ha2 e20) cal_X11_feedNumber cl_X11 kd_0 ln_0 q_740 dX11_feed_25 rfl rfl (Nat.le_of_ble_eq_true rfl) (Nat.le_of_ble_eq_true rfl) (Nat.le_of_ble_eq_true rfl) (Nat.le_of_ble_eq_true rfl) (Nat.le_of_ble_eq_true rfl) (fun h18 => ?_)
    refine r_aload_n (pc := 28) (j := 0) C dX11_feed_28 rfl rfl ?_
    refine r_iload_n (pc := 29) (j := 3) C dX11_feed_29 rfl rfl ?_
    refine r_bd (fun q22 e23 => ?_)
    refine r_cV0 (pc := 30) (k := 0) (As := [.int (zi a3)]) (st := []) C (m_X11_feedNumber (a1 := a3) ha3 e23) cal_X11_feedNumber cl_X11 kd_0 ln_0 q_740 dX11_feed_30 rfl rfl (Nat.le_of_ble_eq_true rfl) (Nat.le_of_ble_eq_true rfl) (Nat.le_of_ble_eq_true rfl) (Nat.le_of_ble_eq_true rfl) (Nat.le_of_ble_eq_true rfl) (fun h21 => ?_)
    refine r_aload_n (pc := 33) (j := 0) C dX11_feed_33 rfl rfl ?_
    refine r_iload (pc := 34) (j := 4) C dX11_feed_34 rfl ?_
    refine r_bd (fun q25 e26 => ?_)
    refine r_cV0 (pc := 36) (k := 0) (As := [.int (zi a4)]) (st := []) C (m_X11_feedNumber (a1 := a4) ha4 e26) cal_X11_feedNumber cl_X11 kd_0 ln_0 q_740 dX11_feed_36 rfl rfl (Nat.le_of_ble_eq_true rfl) (Nat.le_of_ble_eq_true rfl) (Nat.le_of_ble_eq_true rfl) (Nat.le_of_ble_eq_true rfl) (Nat.le_of_ble_eq_true rfl) (fun h24 => ?_)
    refine r_aload_n (pc := 39) (j := 0) C dX11_feed_39 rfl rfl ?_
    refine r_iload (pc := 40) (j := 5) C dX11_feed_40 rfl ?_
    refine r_bd (fun q28 e29 => ?_)
    refine r_cV0 (pc := 42) (k := 0) (As := [.int (zi a5)]) (st := []) C (m_X11_feedNumber (a1 := a5) ha5 e29) cal_X11_feedNumber cl_X11 kd_0 ln_0 q_740 dX11_feed_42 rfl rfl (Nat.le_of_ble_eq_true rfl) (Nat.le_of_ble_eq_true rfl) (Nat.le_of_ble_eq_true rfl) (Nat.le_of_ble_eq_true rfl) (Nat.le_of_ble_eq_true rfl) (fun h27 => ?_)
    refine r_aload_n (pc := 45) (j := 0) C dX11_feed_45 rfl rfl ?_
    refine r_getR (j := 0) (r := 1) C cl_X11 kd_0 ln_0 (by decide) rfl r0_0_0 (by decide) q_686 dX11_feed_46 ?_
    refine r_cV1 (pc := 49) (k := 1) (As := []) (st := []) C (m_X6_size (p := 1) gw_1 rfl) cal_X6_size cl_X6 kd_1 ln_1 q_736 dX11_feed_49 rfl rfl (Nat.le_of_ble_eq_true rfl) (Nat.le_of_ble_eq_true rfl) (Nat.le_of_ble_eq_true rfl) (Nat.le_of_ble_eq_true rfl) (Nat.le_of_ble_eq_true rfl) (fun h30 => ?_)
    exact r_ireturn C hQ rfl dX11_feed_52 (fun e => by cases e; exact ⟨h30, rfl, rfl, rfl, rfl, rfl⟩)
  · refine r_t c14 ?_
    refine r_iconst (v := (-1)) C dX11_feed_16 (by decide) ?_
    exact r_ireturn C hQ rfl dX11_feed_17 (fun e => by cases e; exact ⟨(IRd rfl), rfl, rfl, rfl, rfl, rfl⟩)

def f_X11_end (a1 : Int) (S : Sst) : Int × Sst :=
  if (a1 < 0 ∨ f_X6_size 1 S < a1) then
    (((-1), S))
  else
    (jn (f_X6_keep 1 a1 S) fun (q36 : Sst) =>
    (a1, q36))
set_option maxRecDepth 100000 in
set_option maxHeartbeats 4000000 in
theorem m_X11_end {l : Launch} {E : EwT} {S : Sst} {O : Smo} {a1 : Int} (ha1 : IR a1) {q : Int × Sst} (hq : f_X11_end a1 S = q) : MetG l E yX11_end cX11_end 2 (some .int) 1 21 0 0 n0 R0 S O [.ref (zad E 0), .int (zi a1)] (IR q.1) (some (.int (zi q.1))) n0 R0 q.2 O := by
  refine ofG (L0 := [(0, .ref (zad E 0)), (1, .int (zi a1))]) hq (by decide +kernel) (Nat.le_of_ble_eq_true rfl) rfl (fun K _ C hQ => ?_)
  unfold f_X11_end
  refine r_iload_n (pc := 0) (j := 1) C dX11_end_0 rfl rfl ?_
  refine r_cut (a1 < 0 ∨ f_X6_size 1 S < a1) 15 17 [] (fun c32 => ?_) (fun c32 => ?_) (fun k33 k34 => ?_)
  · refine r_t c32 ?_
    refine r_iconst (v := (-1)) C dX11_end_15 (by decide) ?_
    exact r_ireturn C hQ rfl dX11_end_16 (fun e => by subst e; exact ⟨(IRd rfl), rfl, rfl, rfl, rfl, rfl⟩)
  · refine r_f c32 ?_
    refine r_aload_n (pc := 17) (j := 0) C dX11_end_17 rfl rfl ?_
    refine r_getR (j := 0) (r := 1) C cl_X11 kd_0 ln_0 (by decide) rfl r0_0_0 (by decide) q_686 dX11_end_18 ?_
    refine r_iload_n (pc := 21) (j := 1) C dX11_end_21 rfl rfl ?_
    refine r_jn (fun q36 e37 => ?_)
    refine r_cV0 (pc := 22) (k := 1) (As := [.int (zi a1)]) (st := []) C (m_X6_keep (p := 1) (a1 := a1) gw_1 ha1 e37) cal_X6_keep cl_X6 kd_1 ln_1 q_749 dX11_end_22 rfl rfl (Nat.le_of_ble_eq_true rfl) (Nat.le_of_ble_eq_true rfl) (Nat.le_of_ble_eq_true rfl) (Nat.le_of_ble_eq_true rfl) (Nat.le_of_ble_eq_true rfl) (fun h35 => ?_)
    refine r_iload_n (pc := 25) (j := 1) C dX11_end_25 rfl rfl ?_
    exact r_ireturn C hQ rfl dX11_end_26 (fun e => by subst e; exact ⟨ha1, rfl, rfl, rfl, rfl, rfl⟩)
  · refine r_if_lt (tgt := 15) C ha1 dX11_end_1 (by decide) (fun c38 => ?_) (fun c38 => ?_)
    · exact k33 (Or.inl c38)
    · refine r_iload_n (pc := 4) (j := 1) C dX11_end_4 rfl rfl ?_
      refine r_aload_n (pc := 5) (j := 0) C dX11_end_5 rfl rfl ?_
      refine r_getR (j := 0) (r := 1) C cl_X11 kd_0 ln_0 (by decide) rfl r0_0_0 (by decide) q_686 dX11_end_6 ?_
      refine r_cV1 (pc := 9) (k := 1) (As := []) (st := [.int (zi a1)]) C (m_X6_size (p := 1) gw_1 rfl) cal_X6_size cl_X6 kd_1 ln_1 q_736 dX11_end_9 rfl rfl (Nat.le_of_ble_eq_true rfl) (Nat.le_of_ble_eq_true rfl) (Nat.le_of_ble_eq_true rfl) (Nat.le_of_ble_eq_true rfl) (Nat.le_of_ble_eq_true rfl) (fun h31 => ?_)
      refine r_icmp_le (tgt := 17) C ha1 h31 dX11_end_12 (by decide) (fun c39 => ?_) (fun c39 => ?_)
      · exact k34 (fun w => w.elim c38 c39)
      · exact k33 (Or.inr c39)

def f_X11_map (S : Sst) : Option (Int × Sst) :=
  Option.bind (f_X5_readMap S) fun (q1599 : Sst) =>
  jn (f_X6_clear 1 q1599) fun (q1602 : Sst) =>
  if f_X3_failed q1602 = 0 then
    (jn (f_X4_takeFrom 29 5 q1602) fun (q1607 : Sst) =>
    jn (f_X7_restart 74 q1607) fun (q1610 : Sst) =>
    jn (upS q1610 140 16 0) fun (S1612 : Sst) =>
    jn (upS S1612 173 16 0) fun (S1613 : Sst) =>
    jn (upS S1613 206 16 0) fun (S1614 : Sst) =>
    jn (f_X0_forget S1614) fun (q1616 : Sst) =>
    jn (f_X9_forget q1616) fun (q1619 : Sst) =>
    jn (f_X6_clear 3 q1619) fun (q1622 : Sst) =>
    some (f_X4_count 29 q1622, q1622))
  else
    (some ((-1), q1602))
set_option maxRecDepth 100000 in
set_option maxHeartbeats 4000000 in
theorem m_X11_map {l : Launch} {E : EwT} {S : Sst} {O : Smo}  {q : Int × Sst} (hq : f_X11_map S = some q) : MetG l E yX11_map cX11_map 1 (some .int) 11 284 0 0 n0 R0 S O [.ref (zad E 0)] (IR q.1) (some (.int (zi q.1))) n0 R0 q.2 O := by
  refine ofG (L0 := [(0, .ref (zad E 0))]) hq (by decide +kernel) (Nat.le_of_ble_eq_true rfl) rfl (fun K _ C hQ => ?_)
  unfold f_X11_map
  refine r_aload_n (pc := 0) (j := 0) C dX11_map_0 rfl rfl ?_
  refine r_getR (j := 5) (r := 55) C cl_X11 kd_0 ln_0 (by decide) rfl r0_0_5 (by decide) q_691 dX11_map_1 ?_
  refine r_bd (fun q1599 e1600 => ?_)
  refine r_cV0 (pc := 4) (k := 55) (As := []) (st := []) C (m_X5_readMap  e1600) cal_X5_readMap cl_X5 kd_55 ln_55 q_754 dX11_map_4 rfl rfl (Nat.le_of_ble_eq_true rfl) (Nat.le_of_ble_eq_true rfl) (Nat.le_of_ble_eq_true rfl) (Nat.le_of_ble_eq_true rfl) (Nat.le_of_ble_eq_true rfl) (fun h1598 => ?_)
  refine r_aload_n (pc := 7) (j := 0) C dX11_map_7 rfl rfl ?_
  refine r_getR (j := 0) (r := 1) C cl_X11 kd_0 ln_0 (by decide) rfl r0_0_0 (by decide) q_686 dX11_map_8 ?_
  refine r_jn (fun q1602 e1603 => ?_)
  refine r_cV0 (pc := 11) (k := 1) (As := []) (st := []) C (m_X6_clear (p := 1) gw_1 e1603) cal_X6_clear cl_X6 kd_1 ln_1 q_1005 dX11_map_11 rfl rfl (Nat.le_of_ble_eq_true rfl) (Nat.le_of_ble_eq_true rfl) (Nat.le_of_ble_eq_true rfl) (Nat.le_of_ble_eq_true rfl) (Nat.le_of_ble_eq_true rfl) (fun h1601 => ?_)
  refine r_aload_n (pc := 14) (j := 0) C dX11_map_14 rfl rfl ?_
  refine r_getR (j := 4) (r := 53) C cl_X11 kd_0 ln_0 (by decide) rfl r0_0_4 (by decide) q_690 dX11_map_15 ?_
  refine r_cV1 (pc := 18) (k := 53) (As := []) (st := []) C (m_X3_failed  rfl) cal_X3_failed cl_X3 kd_53 ln_53 q_1006 dX11_map_18 rfl rfl (Nat.le_of_ble_eq_true rfl) (Nat.le_of_ble_eq_true rfl) (Nat.le_of_ble_eq_true rfl) (Nat.le_of_ble_eq_true rfl) (Nat.le_of_ble_eq_true rfl) (fun h1604 => ?_)
  refine r_if_eq (tgt := 26) C h1604.ir dX11_map_21 (by decide) (fun c1605 => ?_) (fun c1605 => ?_)
  · refine r_t c1605 ?_
    refine r_aload_n (pc := 26) (j := 0) C dX11_map_26 rfl rfl ?_
    refine r_getR (j := 3) (r := 29) C cl_X11 kd_0 ln_0 (by decide) rfl r0_0_3 (by decide) q_689 dX11_map_27 ?_
    refine r_aload_n (pc := 30) (j := 0) C dX11_map_30 rfl rfl ?_
    refine r_getR (j := 2) (r := 5) C cl_X11 kd_0 ln_0 (by decide) rfl r0_0_2 (by decide) q_688 dX11_map_31 ?_
    refine r_jn (fun q1607 e1608 => ?_)
    refine r_cV0 (pc := 34) (k := 29) (As := [.ref (zad E 5)]) (st := []) C (m_X4_takeFrom (p := 29) (o1 := 5) gp_29 gp_5 e1608) cal_X4_takeFrom cl_X4 kd_29 ln_29 q_1007 dX11_map_34 rfl rfl (Nat.le_of_ble_eq_true rfl) (Nat.le_of_ble_eq_true rfl) (Nat.le_of_ble_eq_true rfl) (Nat.le_of_ble_eq_true rfl) (Nat.le_of_ble_eq_true rfl) (fun h1606 => ?_)
    refine r_aload_n (pc := 37) (j := 0) C dX11_map_37 rfl rfl ?_
    refine r_getR (j := 7) (r := 74) C cl_X11 kd_0 ln_0 (by decide) rfl r0_0_7 (by decide) q_693 dX11_map_38 ?_
    refine r_jn (fun q1610 e1611 => ?_)
    refine r_cV0 (pc := 41) (k := 74) (As := []) (st := []) C (m_X7_restart (p := 74) gs_74 e1611) cal_X7_restart cl_X7 kd_74 ln_74 q_1015 dX11_map_41 rfl rfl (Nat.le_of_ble_eq_true rfl) (Nat.le_of_ble_eq_true rfl) (Nat.le_of_ble_eq_true rfl) (Nat.le_of_ble_eq_true rfl) (Nat.le_of_ble_eq_true rfl) (fun h1609 => ?_)
    refine r_aload_n (pc := 44) (j := 0) C dX11_map_44 rfl rfl ?_
    refine r_getR (j := 9) (r := 140) C cl_X11 kd_0 ln_0 (by decide) rfl r0_0_9 (by decide) q_695 dX11_map_45 ?_
    refine r_iconst (v := 0) C dX11_map_48 (by decide) ?_
    refine r_putSz C cl_X7 kd_140 ln_140 lc_140 (by decide) (by decide) rfl rfl rfl (BRd rfl) q_544 dX11_map_49 (fun S1612 => ?_)
    refine r_aload_n (pc := 52) (j := 0) C dX11_map_52 rfl rfl ?_
    refine r_getR (j := 10) (r := 173) C cl_X11 kd_0 ln_0 (by decide) rfl r0_0_10 (by decide) q_696 dX11_map_53 ?_
    refine r_iconst (v := 0) C dX11_map_56 (by decide) ?_
    refine r_putSz C cl_X7 kd_173 ln_173 lc_173 (by decide) (by decide) rfl rfl rfl (BRd rfl) q_544 dX11_map_57 (fun S1613 => ?_)
    refine r_aload_n (pc := 60) (j := 0) C dX11_map_60 rfl rfl ?_
    refine r_getR (j := 11) (r := 206) C cl_X11 kd_0 ln_0 (by decide) rfl r0_0_11 (by decide) q_697 dX11_map_61 ?_
    refine r_iconst (v := 0) C dX11_map_64 (by decide) ?_
    refine r_putSz C cl_X7 kd_206 ln_206 lc_206 (by decide) (by decide) rfl rfl rfl (BRd rfl) q_544 dX11_map_65 (fun S1614 => ?_)
    refine r_aload_n (pc := 68) (j := 0) C dX11_map_68 rfl rfl ?_
    refine r_getR (j := 12) (r := 239) C cl_X11 kd_0 ln_0 (by decide) rfl r0_0_12 (by decide) q_698 dX11_map_69 ?_
    refine r_jn (fun q1616 e1617 => ?_)
    refine r_cV0 (pc := 72) (k := 239) (As := []) (st := []) C (m_X0_forget  e1617) cal_X0_forget cl_X0 kd_239 ln_239 q_1016 dX11_map_72 rfl rfl (Nat.le_of_ble_eq_true rfl) (Nat.le_of_ble_eq_true rfl) (Nat.le_of_ble_eq_true rfl) (Nat.le_of_ble_eq_true rfl) (Nat.le_of_ble_eq_true rfl) (fun h1615 => ?_)
    refine r_aload_n (pc := 75) (j := 0) C dX11_map_75 rfl rfl ?_
    refine r_getR (j := 14) (r := 249) C cl_X11 kd_0 ln_0 (by decide) rfl r0_0_14 (by decide) q_700 dX11_map_76 ?_
    refine r_jn (fun q1619 e1620 => ?_)
    refine r_cV0 (pc := 79) (k := 249) (As := []) (st := []) C (m_X9_forget  e1620) cal_X9_forget cl_X9 kd_249 ln_249 q_1021 dX11_map_79 rfl rfl (Nat.le_of_ble_eq_true rfl) (Nat.le_of_ble_eq_true rfl) (Nat.le_of_ble_eq_true rfl) (Nat.le_of_ble_eq_true rfl) (Nat.le_of_ble_eq_true rfl) (fun h1618 => ?_)
    refine r_aload_n (pc := 82) (j := 0) C dX11_map_82 rfl rfl ?_
    refine r_getR (j := 1) (r := 3) C cl_X11 kd_0 ln_0 (by decide) rfl r0_0_1 (by decide) q_687 dX11_map_83 ?_
    refine r_jn (fun q1622 e1623 => ?_)
    refine r_cV0 (pc := 86) (k := 3) (As := []) (st := []) C (m_X6_clear (p := 3) gw_3 e1623) cal_X6_clear cl_X6 kd_3 ln_3 q_1005 dX11_map_86 rfl rfl (Nat.le_of_ble_eq_true rfl) (Nat.le_of_ble_eq_true rfl) (Nat.le_of_ble_eq_true rfl) (Nat.le_of_ble_eq_true rfl) (Nat.le_of_ble_eq_true rfl) (fun h1621 => ?_)
    refine r_aload_n (pc := 89) (j := 0) C dX11_map_89 rfl rfl ?_
    refine r_getR (j := 3) (r := 29) C cl_X11 kd_0 ln_0 (by decide) rfl r0_0_3 (by decide) q_689 dX11_map_90 ?_
    refine r_cV1 (pc := 93) (k := 29) (As := []) (st := []) C (m_X4_count (p := 29) gp_29 rfl) cal_X4_count cl_X4 kd_29 ln_29 q_1026 dX11_map_93 rfl rfl (Nat.le_of_ble_eq_true rfl) (Nat.le_of_ble_eq_true rfl) (Nat.le_of_ble_eq_true rfl) (Nat.le_of_ble_eq_true rfl) (Nat.le_of_ble_eq_true rfl) (fun h1624 => ?_)
    exact r_ireturn C hQ rfl dX11_map_96 (fun e => by cases e; exact ⟨h1624, rfl, rfl, rfl, rfl, rfl⟩)
  · refine r_f c1605 ?_
    refine r_iconst (v := (-1)) C dX11_map_24 (by decide) ?_
    exact r_ireturn C hQ rfl dX11_map_25 (fun e => by cases e; exact ⟨(IRd rfl), rfl, rfl, rfl, rfl, rfl⟩)

def f_X11_fault (a1 : Int) (S : Sst) : Int :=
  if a1 = 0 then
    (S.2 53 2)
  else
    (if a1 = 1 then
      (S.2 53 3)
    else
      ((-1)))
set_option maxRecDepth 100000 in
set_option maxHeartbeats 4000000 in
theorem m_X11_fault {l : Launch} {E : EwT} {S : Sst} {O : Smo} {a1 : Int} (ha1 : IR a1) {q : Int} (hq : f_X11_fault a1 S = q) : MetG l E yX11_fault cX11_fault 2 (some .int) 0 0 0 0 n0 R0 S O [.ref (zad E 0), .int (zi a1)] (IR q) (some (.int (zi q))) n0 R0 S O := by
  refine ofG (L0 := [(0, .ref (zad E 0)), (1, .int (zi a1))]) hq (by decide +kernel) (Nat.le_of_ble_eq_true rfl) rfl (fun K _ C hQ => ?_)
  unfold f_X11_fault
  refine r_iload_n (pc := 0) (j := 1) C dX11_fault_0 rfl rfl ?_
  by_cases c1625 : (a1 = 0)
  · refine r_t c1625 ?_
    refine r_lswIn (kx := 0) (tgt := 28) C ha1 dX11_fault_1 rfl c1625 rfl (by decide) ?_
    refine r_aload_n (pc := 28) (j := 0) C dX11_fault_28 rfl rfl ?_
    refine r_getR (j := 4) (r := 53) C cl_X11 kd_0 ln_0 (by decide) rfl r0_0_4 (by decide) q_690 dX11_fault_29 ?_
    refine r_getS (j := 2) C cl_X3 kd_53 ln_53 lc_53 (by decide) (by decide) rfl q_348 dX11_fault_32 (fun h1626 => ?_)
    exact r_ireturn C hQ rfl dX11_fault_35 (fun e => by subst e; exact ⟨h1626, rfl, rfl, rfl, rfl, rfl⟩)
  · refine r_f c1625 ?_
    by_cases c1627 : (a1 = 1)
    · refine r_t c1627 ?_
      refine r_lswIn (kx := 1) (tgt := 36) C ha1 dX11_fault_1 rfl c1627 rfl (by decide) ?_
      refine r_aload_n (pc := 36) (j := 0) C dX11_fault_36 rfl rfl ?_
      refine r_getR (j := 4) (r := 53) C cl_X11 kd_0 ln_0 (by decide) rfl r0_0_4 (by decide) q_690 dX11_fault_37 ?_
      refine r_getS (j := 3) C cl_X3 kd_53 ln_53 lc_53 (by decide) (by decide) rfl q_350 dX11_fault_40 (fun h1628 => ?_)
      exact r_ireturn C hQ rfl dX11_fault_43 (fun e => by subst e; exact ⟨h1628, rfl, rfl, rfl, rfl, rfl⟩)
    · refine r_f c1627 ?_
      refine r_lswOut (tgt := 44) C ha1 dX11_fault_1 rfl (by intro q hq; simp at hq; rcases hq with rfl | rfl <;> omega) (by decide) ?_
      refine r_iconst (v := (-1)) C dX11_fault_44 (by decide) ?_
      exact r_ireturn C hQ rfl dX11_fault_45 (fun e => by subst e; exact ⟨(IRd rfl), rfl, rfl, rfl, rfl, rfl⟩)

def f_X11_segment (a1 : Int) (a2 : Int) (S : Sst) : Int :=
  if f_X4_has 29 a1 S = 0 then
    ((-2))
  else
    (jn (f_X7_newest 74 S) fun (v1640 : Int) =>
    if a2 = 0 then
      (f_X6_at 30 a1 S)
    else
      (if a2 = 1 then
        (f_X6_at 32 a1 S)
      else
        (if a2 = 2 then
          (f_X6_at 34 a1 S)
        else
          (if a2 = 3 then
            (f_X6_at 36 a1 S)
          else
            (if a2 = 4 then
              (if f_X7_isIn 74 v1640 a1 S = 0 then
                (0)
              else
                (1))
            else
              (if a2 = 5 then
                (zand (zshr (f_X6_at 79 v1640 S) a1) 1)
              else
                (if a2 = 6 then
                  (f_X6_at 105 a1 S)
                else
                  ((-2)))))))))
set_option maxRecDepth 100000 in
set_option maxHeartbeats 4000000 in
theorem m_X11_segment {l : Launch} {E : EwT} {S : Sst} {O : Smo} {a1 : Int} (ha1 : IR a1) {a2 : Int} (ha2 : IR a2) {q : Int} (hq : f_X11_segment a1 a2 S = q) : MetG l E yX11_segment cX11_segment 4 (some .int) 2 43 0 0 n0 R0 S O [.ref (zad E 0), .int (zi a1), .int (zi a2)] (IR q) (some (.int (zi q))) n0 R0 S O := by
  refine ofG (L0 := [(0, .ref (zad E 0)), (1, .int (zi a1)), (2, .int (zi a2))]) hq (by decide +kernel) (Nat.le_of_ble_eq_true rfl) rfl (fun K _ C hQ => ?_)
  unfold f_X11_segment
  refine r_aload_n (pc := 0) (j := 0) C dX11_segment_0 rfl rfl ?_
  refine r_getR (j := 3) (r := 29) C cl_X11 kd_0 ln_0 (by decide) rfl r0_0_3 (by decide) q_689 dX11_segment_1 ?_
  refine r_iload_n (pc := 4) (j := 1) C dX11_segment_4 rfl rfl ?_
  refine r_cV1 (pc := 5) (k := 29) (As := [.int (zi a1)]) (st := []) C (m_X4_has (p := 29) (a1 := a1) gp_29 ha1 rfl) cal_X4_has cl_X4 kd_29 ln_29 q_1035 dX11_segment_5 rfl rfl (Nat.le_of_ble_eq_true rfl) (Nat.le_of_ble_eq_true rfl) (Nat.le_of_ble_eq_true rfl) (Nat.le_of_ble_eq_true rfl) (Nat.le_of_ble_eq_true rfl) (fun h1637 => ?_)
  refine r_if_ne (tgt := 14) C h1637.ir dX11_segment_8 (by decide) (fun c1638 => ?_) (fun c1638 => ?_)
  · refine r_f c1638 ?_
    refine r_aload_n (pc := 14) (j := 0) C dX11_segment_14 rfl rfl ?_
    refine r_getR (j := 7) (r := 74) C cl_X11 kd_0 ln_0 (by decide) rfl r0_0_7 (by decide) q_693 dX11_segment_15 ?_
    refine r_cV1 (pc := 18) (k := 74) (As := []) (st := []) C (m_X7_newest (p := 74) gs_74 rfl) cal_X7_newest cl_X7 kd_74 ln_74 q_1036 dX11_segment_18 rfl rfl (Nat.le_of_ble_eq_true rfl) (Nat.le_of_ble_eq_true rfl) (Nat.le_of_ble_eq_true rfl) (Nat.le_of_ble_eq_true rfl) (Nat.le_of_ble_eq_true rfl) (fun h1639 => ?_)
    refine r_jv h1639 (fun v1640 h1641 => ?_)
    refine r_istore_n (L' := [(3, .int (zi v1640)), (0, .ref (zad E 0)), (1, .int (zi a1)), (2, .int (zi a2))]) C dX11_segment_21 rfl (by decide) rfl ?_
    refine r_iload_n (pc := 22) (j := 3) C dX11_segment_22 rfl rfl ?_
    by_cases c1642 : (a2 = 0)
    · refine r_t c1642 ?_
      refine r_tswIn (kx := 0) (tgt := 64) C ha2 dX11_segment_23 c1642 (by decide) (by decide) rfl (by decide) ?_
      refine r_aload_n (pc := 64) (j := 1) C dX11_segment_64 rfl rfl ?_
      refine r_getR (j := 3) (r := 29) C cl_X11 kd_0 ln_0 (by decide) rfl r0_0_3 (by decide) q_689 dX11_segment_65 ?_
      refine r_getR (j := 0) (r := 30) C cl_X4 kd_29 ln_29 (by decide) rfl r0_29_0 (by decide) q_222 dX11_segment_68 ?_
      refine r_iload_n (pc := 71) (j := 2) C dX11_segment_71 rfl rfl ?_
      refine r_cV1 (pc := 72) (k := 30) (As := [.int (zi a1)]) (st := []) C (m_X6_at (p := 30) (a1 := a1) gw_30 ha1 rfl) cal_X6_at cl_X6 kd_30 ln_30 q_1041 dX11_segment_72 rfl rfl (Nat.le_of_ble_eq_true rfl) (Nat.le_of_ble_eq_true rfl) (Nat.le_of_ble_eq_true rfl) (Nat.le_of_ble_eq_true rfl) (Nat.le_of_ble_eq_true rfl) (fun h1643 => ?_)
      exact r_ireturn C hQ rfl dX11_segment_75 (fun e => by subst e; exact ⟨h1643, rfl, rfl, rfl, rfl, rfl⟩)
    · refine r_f c1642 ?_
      by_cases c1644 : (a2 = 1)
      · refine r_t c1644 ?_
        refine r_tswIn (kx := 1) (tgt := 76) C ha2 dX11_segment_23 c1644 (by decide) (by decide) rfl (by decide) ?_
        refine r_aload_n (pc := 76) (j := 1) C dX11_segment_76 rfl rfl ?_
        refine r_getR (j := 3) (r := 29) C cl_X11 kd_0 ln_0 (by decide) rfl r0_0_3 (by decide) q_689 dX11_segment_77 ?_
        refine r_getR (j := 1) (r := 32) C cl_X4 kd_29 ln_29 (by decide) rfl r0_29_1 (by decide) q_224 dX11_segment_80 ?_
        refine r_iload_n (pc := 83) (j := 2) C dX11_segment_83 rfl rfl ?_
        refine r_cV1 (pc := 84) (k := 32) (As := [.int (zi a1)]) (st := []) C (m_X6_at (p := 32) (a1 := a1) gw_32 ha1 rfl) cal_X6_at cl_X6 kd_32 ln_32 q_1041 dX11_segment_84 rfl rfl (Nat.le_of_ble_eq_true rfl) (Nat.le_of_ble_eq_true rfl) (Nat.le_of_ble_eq_true rfl) (Nat.le_of_ble_eq_true rfl) (Nat.le_of_ble_eq_true rfl) (fun h1645 => ?_)
        exact r_ireturn C hQ rfl dX11_segment_87 (fun e => by subst e; exact ⟨h1645, rfl, rfl, rfl, rfl, rfl⟩)
      · refine r_f c1644 ?_
        by_cases c1646 : (a2 = 2)
        · refine r_t c1646 ?_
          refine r_tswIn (kx := 2) (tgt := 88) C ha2 dX11_segment_23 c1646 (by decide) (by decide) rfl (by decide) ?_
          refine r_aload_n (pc := 88) (j := 1) C dX11_segment_88 rfl rfl ?_
          refine r_getR (j := 3) (r := 29) C cl_X11 kd_0 ln_0 (by decide) rfl r0_0_3 (by decide) q_689 dX11_segment_89 ?_
          refine r_getR (j := 2) (r := 34) C cl_X4 kd_29 ln_29 (by decide) rfl r0_29_2 (by decide) q_226 dX11_segment_92 ?_
          refine r_iload_n (pc := 95) (j := 2) C dX11_segment_95 rfl rfl ?_
          refine r_cV1 (pc := 96) (k := 34) (As := [.int (zi a1)]) (st := []) C (m_X6_at (p := 34) (a1 := a1) gw_34 ha1 rfl) cal_X6_at cl_X6 kd_34 ln_34 q_1041 dX11_segment_96 rfl rfl (Nat.le_of_ble_eq_true rfl) (Nat.le_of_ble_eq_true rfl) (Nat.le_of_ble_eq_true rfl) (Nat.le_of_ble_eq_true rfl) (Nat.le_of_ble_eq_true rfl) (fun h1647 => ?_)
          exact r_ireturn C hQ rfl dX11_segment_99 (fun e => by subst e; exact ⟨h1647, rfl, rfl, rfl, rfl, rfl⟩)
        · refine r_f c1646 ?_
          by_cases c1648 : (a2 = 3)
          · refine r_t c1648 ?_
            refine r_tswIn (kx := 3) (tgt := 100) C ha2 dX11_segment_23 c1648 (by decide) (by decide) rfl (by decide) ?_
            refine r_aload_n (pc := 100) (j := 1) C dX11_segment_100 rfl rfl ?_
            refine r_getR (j := 3) (r := 29) C cl_X11 kd_0 ln_0 (by decide) rfl r0_0_3 (by decide) q_689 dX11_segment_101 ?_
            refine r_getR (j := 3) (r := 36) C cl_X4 kd_29 ln_29 (by decide) rfl r0_29_3 (by decide) q_228 dX11_segment_104 ?_
            refine r_iload_n (pc := 107) (j := 2) C dX11_segment_107 rfl rfl ?_
            refine r_cV1 (pc := 108) (k := 36) (As := [.int (zi a1)]) (st := []) C (m_X6_at (p := 36) (a1 := a1) gw_36 ha1 rfl) cal_X6_at cl_X6 kd_36 ln_36 q_1041 dX11_segment_108 rfl rfl (Nat.le_of_ble_eq_true rfl) (Nat.le_of_ble_eq_true rfl) (Nat.le_of_ble_eq_true rfl) (Nat.le_of_ble_eq_true rfl) (Nat.le_of_ble_eq_true rfl) (fun h1649 => ?_)
            exact r_ireturn C hQ rfl dX11_segment_111 (fun e => by subst e; exact ⟨h1649, rfl, rfl, rfl, rfl, rfl⟩)
          · refine r_f c1648 ?_
            by_cases c1650 : (a2 = 4)
            · refine r_t c1650 ?_
              refine r_tswIn (kx := 4) (tgt := 112) C ha2 dX11_segment_23 c1650 (by decide) (by decide) rfl (by decide) ?_
              refine r_aload_n (pc := 112) (j := 1) C dX11_segment_112 rfl rfl ?_
              refine r_getR (j := 7) (r := 74) C cl_X11 kd_0 ln_0 (by decide) rfl r0_0_7 (by decide) q_693 dX11_segment_113 ?_
              refine r_iload_n (pc := 116) (j := 0) C dX11_segment_116 rfl rfl ?_
              refine r_iload_n (pc := 117) (j := 2) C dX11_segment_117 rfl rfl ?_
              refine r_cV1 (pc := 118) (k := 74) (As := [.int (zi v1640), .int (zi a1)]) (st := []) C (m_X7_isIn (p := 74) (a1 := v1640) (a2 := a1) gs_74 h1641 ha1 rfl) cal_X7_isIn cl_X7 kd_74 ln_74 q_1042 dX11_segment_118 rfl rfl (Nat.le_of_ble_eq_true rfl) (Nat.le_of_ble_eq_true rfl) (Nat.le_of_ble_eq_true rfl) (Nat.le_of_ble_eq_true rfl) (Nat.le_of_ble_eq_true rfl) (fun h1651 => ?_)
              refine r_if_eq (tgt := 128) C h1651.ir dX11_segment_121 (by decide) (fun c1652 => ?_) (fun c1652 => ?_)
              · refine r_t c1652 ?_
                refine r_iconst (v := 0) C dX11_segment_128 (by decide) ?_
                exact r_ireturn C hQ rfl dX11_segment_129 (fun e => by subst e; exact ⟨(IRd rfl), rfl, rfl, rfl, rfl, rfl⟩)
              · refine r_f c1652 ?_
                refine r_iconst (v := 1) C dX11_segment_124 (by decide) ?_
                refine r_goto (tgt := 129) C dX11_segment_125 (by decide) ?_
                exact r_ireturn C hQ rfl dX11_segment_129 (fun e => by subst e; exact ⟨(IRd rfl), rfl, rfl, rfl, rfl, rfl⟩)
            · refine r_f c1650 ?_
              by_cases c1653 : (a2 = 5)
              · refine r_t c1653 ?_
                refine r_tswIn (kx := 5) (tgt := 130) C ha2 dX11_segment_23 c1653 (by decide) (by decide) rfl (by decide) ?_
                refine r_aload_n (pc := 130) (j := 1) C dX11_segment_130 rfl rfl ?_
                refine r_getR (j := 7) (r := 74) C cl_X11 kd_0 ln_0 (by decide) rfl r0_0_7 (by decide) q_693 dX11_segment_131 ?_
                refine r_getR (j := 2) (r := 79) C cl_X7 kd_74 ln_74 (by decide) rfl r0_74_2 (by decide) q_517 dX11_segment_134 ?_
                refine r_iload_n (pc := 137) (j := 0) C dX11_segment_137 rfl rfl ?_
                refine r_cV1 (pc := 138) (k := 79) (As := [.int (zi v1640)]) (st := []) C (m_X6_at (p := 79) (a1 := v1640) gw_79 h1641 rfl) cal_X6_at cl_X6 kd_79 ln_79 q_1041 dX11_segment_138 rfl rfl (Nat.le_of_ble_eq_true rfl) (Nat.le_of_ble_eq_true rfl) (Nat.le_of_ble_eq_true rfl) (Nat.le_of_ble_eq_true rfl) (Nat.le_of_ble_eq_true rfl) (fun h1654 => ?_)
                refine r_iload_n (pc := 141) (j := 2) C dX11_segment_141 rfl rfl ?_
                refine r_ishr C dX11_segment_142 ?_
                refine r_iconst (v := 1) C dX11_segment_143 (by decide) ?_
                refine r_iand C dX11_segment_144 ?_
                exact r_ireturn C hQ rfl dX11_segment_145 (fun e => by subst e; exact ⟨(i32_IR _), rfl, rfl, rfl, rfl, rfl⟩)
              · refine r_f c1653 ?_
                by_cases c1655 : (a2 = 6)
                · refine r_t c1655 ?_
                  refine r_tswIn (kx := 6) (tgt := 146) C ha2 dX11_segment_23 c1655 (by decide) (by decide) rfl (by decide) ?_
                  refine r_aload_n (pc := 146) (j := 1) C dX11_segment_146 rfl rfl ?_
                  refine r_getR (j := 7) (r := 74) C cl_X11 kd_0 ln_0 (by decide) rfl r0_0_7 (by decide) q_693 dX11_segment_147 ?_
                  refine r_getR (j := 15) (r := 105) C cl_X7 kd_74 ln_74 (by decide) rfl r0_74_15 (by decide) q_543 dX11_segment_150 ?_
                  refine r_iload_n (pc := 153) (j := 2) C dX11_segment_153 rfl rfl ?_
                  refine r_cV1 (pc := 154) (k := 105) (As := [.int (zi a1)]) (st := []) C (m_X6_at (p := 105) (a1 := a1) gw_105 ha1 rfl) cal_X6_at cl_X6 kd_105 ln_105 q_1041 dX11_segment_154 rfl rfl (Nat.le_of_ble_eq_true rfl) (Nat.le_of_ble_eq_true rfl) (Nat.le_of_ble_eq_true rfl) (Nat.le_of_ble_eq_true rfl) (Nat.le_of_ble_eq_true rfl) (fun h1656 => ?_)
                  exact r_ireturn C hQ rfl dX11_segment_157 (fun e => by subst e; exact ⟨h1656, rfl, rfl, rfl, rfl, rfl⟩)
                · refine r_f c1655 ?_
                  refine r_tswOut (tgt := 158) C ha2 dX11_segment_23 (by omega) (by decide) ?_
                  refine r_bipush (v := (-2)) C dX11_segment_158 (by decide) ?_
                  exact r_ireturn C hQ rfl dX11_segment_160 (fun e => by subst e; exact ⟨(IRd rfl), rfl, rfl, rfl, rfl, rfl⟩)
  · refine r_t c1638 ?_
    refine r_bipush (v := (-2)) C dX11_segment_11 (by decide) ?_
    exact r_ireturn C hQ rfl dX11_segment_13 (fun e => by subst e; exact ⟨(IRd rfl), rfl, rfl, rfl, rfl, rfl⟩)

def f_X11_weight (a1 : Int) (S : Sst) : Int :=
  if f_X4_has 29 a1 S = 0 then
    (0)
  else
    (f_X6_at 44 a1 S)
set_option maxRecDepth 100000 in
set_option maxHeartbeats 4000000 in
theorem m_X11_weight {l : Launch} {E : EwT} {S : Sst} {O : Smo} {a1 : Int} (ha1 : IR a1) {q : Int} (hq : f_X11_weight a1 S = q) : MetG l E yX11_weight cX11_weight 2 (some .int) 2 41 0 0 n0 R0 S O [.ref (zad E 0), .int (zi a1)] (IR q) (some (.int (zi q))) n0 R0 S O := by
  refine ofG (L0 := [(0, .ref (zad E 0)), (1, .int (zi a1))]) hq (by decide +kernel) (Nat.le_of_ble_eq_true rfl) rfl (fun K _ C hQ => ?_)
  unfold f_X11_weight
  refine r_aload_n (pc := 0) (j := 0) C dX11_weight_0 rfl rfl ?_
  refine r_getR (j := 3) (r := 29) C cl_X11 kd_0 ln_0 (by decide) rfl r0_0_3 (by decide) q_689 dX11_weight_1 ?_
  refine r_iload_n (pc := 4) (j := 1) C dX11_weight_4 rfl rfl ?_
  refine r_cV1 (pc := 5) (k := 29) (As := [.int (zi a1)]) (st := []) C (m_X4_has (p := 29) (a1 := a1) gp_29 ha1 rfl) cal_X4_has cl_X4 kd_29 ln_29 q_1035 dX11_weight_5 rfl rfl (Nat.le_of_ble_eq_true rfl) (Nat.le_of_ble_eq_true rfl) (Nat.le_of_ble_eq_true rfl) (Nat.le_of_ble_eq_true rfl) (Nat.le_of_ble_eq_true rfl) (fun h1657 => ?_)
  refine r_if_eq (tgt := 25) C h1657.ir dX11_weight_8 (by decide) (fun c1658 => ?_) (fun c1658 => ?_)
  · refine r_t c1658 ?_
    refine r_iconst (v := 0) C dX11_weight_25 (by decide) ?_
    exact r_ireturn C hQ rfl dX11_weight_26 (fun e => by subst e; exact ⟨(IRd rfl), rfl, rfl, rfl, rfl, rfl⟩)
  · refine r_f c1658 ?_
    refine r_aload_n (pc := 11) (j := 0) C dX11_weight_11 rfl rfl ?_
    refine r_getR (j := 3) (r := 29) C cl_X11 kd_0 ln_0 (by decide) rfl r0_0_3 (by decide) q_689 dX11_weight_12 ?_
    refine r_getR (j := 7) (r := 44) C cl_X4 kd_29 ln_29 (by decide) rfl r0_29_7 (by decide) q_236 dX11_weight_15 ?_
    refine r_iload_n (pc := 18) (j := 1) C dX11_weight_18 rfl rfl ?_
    refine r_cV1 (pc := 19) (k := 44) (As := [.int (zi a1)]) (st := []) C (m_X6_at (p := 44) (a1 := a1) gw_44 ha1 rfl) cal_X6_at cl_X6 kd_44 ln_44 q_1041 dX11_weight_19 rfl rfl (Nat.le_of_ble_eq_true rfl) (Nat.le_of_ble_eq_true rfl) (Nat.le_of_ble_eq_true rfl) (Nat.le_of_ble_eq_true rfl) (Nat.le_of_ble_eq_true rfl) (fun h1659 => ?_)
    refine r_goto (tgt := 26) C dX11_weight_22 (by decide) ?_
    exact r_ireturn C hQ rfl dX11_weight_26 (fun e => by subst e; exact ⟨h1659, rfl, rfl, rfl, rfl, rfl⟩)

def f_X11_higher (a1 : Int) (a2 : Int) (a3 : Int) (S : Sst) : Int :=
  if ((a1 = a2 ∨ f_X4_isOver 29 a1 a3 S = 0) ∨ f_X4_isOver 29 a2 a3 S = 0) then
    ((-1))
  else
    (if f_X4_isHigher 29 a1 a2 S = 0 then
      (0)
    else
      (1))
set_option maxRecDepth 100000 in
set_option maxHeartbeats 4000000 in
theorem m_X11_higher {l : Launch} {E : EwT} {S : Sst} {O : Smo} {a1 : Int} (ha1 : IR a1) {a2 : Int} (ha2 : IR a2) {a3 : Int} (ha3 : IR a3) {q : Int} (hq : f_X11_higher a1 a2 a3 S = q) : MetG l E yX11_higher cX11_higher 4 (some .int) 3 63 0 0 n0 R0 S O [.ref (zad E 0), .int (zi a1), .int (zi a2), .int (zi a3)] (IR q) (some (.int (zi q))) n0 R0 S O := by
  refine ofG (L0 := [(0, .ref (zad E 0)), (1, .int (zi a1)), (2, .int (zi a2)), (3, .int (zi a3))]) hq (by decide +kernel) (Nat.le_of_ble_eq_true rfl) rfl (fun K _ C hQ => ?_)
  unfold f_X11_higher
  refine r_iload_n (pc := 0) (j := 1) C dX11_higher_0 rfl rfl ?_
  refine r_iload_n (pc := 1) (j := 2) C dX11_higher_1 rfl rfl ?_
  refine r_cut ((a1 = a2 ∨ f_X4_isOver 29 a1 a3 S = 0) ∨ f_X4_isOver 29 a2 a3 S = 0) 29 31 [] (fun c1669 => ?_) (fun c1669 => ?_) (fun k1670 k1671 => ?_)
  · refine r_t c1669 ?_
    refine r_iconst (v := (-1)) C dX11_higher_29 (by decide) ?_
    exact r_ireturn C hQ rfl dX11_higher_30 (fun e => by subst e; exact ⟨(IRd rfl), rfl, rfl, rfl, rfl, rfl⟩)
  · refine r_f c1669 ?_
    refine r_aload_n (pc := 31) (j := 0) C dX11_higher_31 rfl rfl ?_
    refine r_getR (j := 3) (r := 29) C cl_X11 kd_0 ln_0 (by decide) rfl r0_0_3 (by decide) q_689 dX11_higher_32 ?_
    refine r_iload_n (pc := 35) (j := 1) C dX11_higher_35 rfl rfl ?_
    refine r_iload_n (pc := 36) (j := 2) C dX11_higher_36 rfl rfl ?_
    refine r_cV1 (pc := 37) (k := 29) (As := [.int (zi a1), .int (zi a2)]) (st := []) C (m_X4_isHigher (p := 29) (a1 := a1) (a2 := a2) gp_29 ha1 ha2 rfl) cal_X4_isHigher cl_X4 kd_29 ln_29 q_1056 dX11_higher_37 rfl rfl (Nat.le_of_ble_eq_true rfl) (Nat.le_of_ble_eq_true rfl) (Nat.le_of_ble_eq_true rfl) (Nat.le_of_ble_eq_true rfl) (Nat.le_of_ble_eq_true rfl) (fun h1672 => ?_)
    refine r_if_eq (tgt := 47) C h1672.ir dX11_higher_40 (by decide) (fun c1673 => ?_) (fun c1673 => ?_)
    · refine r_t c1673 ?_
      refine r_iconst (v := 0) C dX11_higher_47 (by decide) ?_
      exact r_ireturn C hQ rfl dX11_higher_48 (fun e => by subst e; exact ⟨(IRd rfl), rfl, rfl, rfl, rfl, rfl⟩)
    · refine r_f c1673 ?_
      refine r_iconst (v := 1) C dX11_higher_43 (by decide) ?_
      refine r_goto (tgt := 48) C dX11_higher_44 (by decide) ?_
      exact r_ireturn C hQ rfl dX11_higher_48 (fun e => by subst e; exact ⟨(IRd rfl), rfl, rfl, rfl, rfl, rfl⟩)
  · refine r_icmp_eq (tgt := 29) C ha1 ha2 dX11_higher_2 (by decide) (fun c1674 => ?_) (fun c1674 => ?_)
    · exact k1670 (Or.inl (Or.inl c1674))
    · refine r_aload_n (pc := 5) (j := 0) C dX11_higher_5 rfl rfl ?_
      refine r_getR (j := 3) (r := 29) C cl_X11 kd_0 ln_0 (by decide) rfl r0_0_3 (by decide) q_689 dX11_higher_6 ?_
      refine r_iload_n (pc := 9) (j := 1) C dX11_higher_9 rfl rfl ?_
      refine r_iload_n (pc := 10) (j := 3) C dX11_higher_10 rfl rfl ?_
      refine r_cV1 (pc := 11) (k := 29) (As := [.int (zi a1), .int (zi a3)]) (st := []) C (m_X4_isOver (p := 29) (a1 := a1) (a2 := a3) gp_29 ha1 ha3 rfl) cal_X4_isOver cl_X4 kd_29 ln_29 q_1055 dX11_higher_11 rfl rfl (Nat.le_of_ble_eq_true rfl) (Nat.le_of_ble_eq_true rfl) (Nat.le_of_ble_eq_true rfl) (Nat.le_of_ble_eq_true rfl) (Nat.le_of_ble_eq_true rfl) (fun h1667 => ?_)
      refine r_if_eq (tgt := 29) C h1667.ir dX11_higher_14 (by decide) (fun c1675 => ?_) (fun c1675 => ?_)
      · exact k1670 (Or.inl (Or.inr c1675))
      · refine r_aload_n (pc := 17) (j := 0) C dX11_higher_17 rfl rfl ?_
        refine r_getR (j := 3) (r := 29) C cl_X11 kd_0 ln_0 (by decide) rfl r0_0_3 (by decide) q_689 dX11_higher_18 ?_
        refine r_iload_n (pc := 21) (j := 2) C dX11_higher_21 rfl rfl ?_
        refine r_iload_n (pc := 22) (j := 3) C dX11_higher_22 rfl rfl ?_
        refine r_cV1 (pc := 23) (k := 29) (As := [.int (zi a2), .int (zi a3)]) (st := []) C (m_X4_isOver (p := 29) (a1 := a2) (a2 := a3) gp_29 ha2 ha3 rfl) cal_X4_isOver cl_X4 kd_29 ln_29 q_1055 dX11_higher_23 rfl rfl (Nat.le_of_ble_eq_true rfl) (Nat.le_of_ble_eq_true rfl) (Nat.le_of_ble_eq_true rfl) (Nat.le_of_ble_eq_true rfl) (Nat.le_of_ble_eq_true rfl) (fun h1668 => ?_)
        refine r_if_ne (tgt := 31) C h1668.ir dX11_higher_26 (by decide) (fun c1676 => ?_) (fun c1676 => ?_)
        · exact k1671 (fun w => w.elim (fun w => w.elim c1674 c1675) c1676)
        · exact k1670 (Or.inr c1676)

def f_X11_next (S : Sst) : Int :=
  f_X8_nextEvent S
set_option maxRecDepth 100000 in
set_option maxHeartbeats 4000000 in
theorem m_X11_next {l : Launch} {E : EwT} {S : Sst} {O : Smo}  {q : Int} (hq : f_X11_next S = q) : MetG l E yX11_next cX11_next 1 (some .int) 3 60 0 0 n0 R0 S O [.ref (zad E 0)] (IR q) (some (.int (zi q))) n0 R0 S O := by
  refine ofG (L0 := [(0, .ref (zad E 0))]) hq (by decide +kernel) (Nat.le_of_ble_eq_true rfl) rfl (fun K _ C hQ => ?_)
  unfold f_X11_next
  refine r_aload_n (pc := 0) (j := 0) C dX11_next_0 rfl rfl ?_
  refine r_getR (j := 13) (r := 242) C cl_X11 kd_0 ln_0 (by decide) rfl r0_0_13 (by decide) q_699 dX11_next_1 ?_
  refine r_cV1 (pc := 4) (k := 242) (As := []) (st := []) C (m_X8_nextEvent  rfl) cal_X8_nextEvent cl_X8 kd_242 ln_242 q_1064 dX11_next_4 rfl rfl (Nat.le_of_ble_eq_true rfl) (Nat.le_of_ble_eq_true rfl) (Nat.le_of_ble_eq_true rfl) (Nat.le_of_ble_eq_true rfl) (Nat.le_of_ble_eq_true rfl) (fun h1680 => ?_)
  exact r_ireturn C hQ rfl dX11_next_7 (fun e => by subst e; exact ⟨h1680, rfl, rfl, rfl, rfl, rfl⟩)

def f_X11_events (S : Sst) : Int :=
  f_X6_size 46 S
set_option maxRecDepth 100000 in
set_option maxHeartbeats 4000000 in
theorem m_X11_events {l : Launch} {E : EwT} {S : Sst} {O : Smo}  {q : Int} (hq : f_X11_events S = q) : MetG l E yX11_events cX11_events 1 (some .int) 1 20 0 0 n0 R0 S O [.ref (zad E 0)] (IR q) (some (.int (zi q))) n0 R0 S O := by
  refine ofG (L0 := [(0, .ref (zad E 0))]) hq (by decide +kernel) (Nat.le_of_ble_eq_true rfl) rfl (fun K _ C hQ => ?_)
  unfold f_X11_events
  refine r_aload_n (pc := 0) (j := 0) C dX11_events_0 rfl rfl ?_
  refine r_getR (j := 3) (r := 29) C cl_X11 kd_0 ln_0 (by decide) rfl r0_0_3 (by decide) q_689 dX11_events_1 ?_
  refine r_getR (j := 8) (r := 46) C cl_X4 kd_29 ln_29 (by decide) rfl r0_29_8 (by decide) q_240 dX11_events_4 ?_
  refine r_cV1 (pc := 7) (k := 46) (As := []) (st := []) C (m_X6_size (p := 46) gw_46 rfl) cal_X6_size cl_X6 kd_46 ln_46 q_736 dX11_events_7 rfl rfl (Nat.le_of_ble_eq_true rfl) (Nat.le_of_ble_eq_true rfl) (Nat.le_of_ble_eq_true rfl) (Nat.le_of_ble_eq_true rfl) (Nat.le_of_ble_eq_true rfl) (fun h1681 => ?_)
  exact r_ireturn C hQ rfl dX11_events_10 (fun e => by subst e; exact ⟨h1681, rfl, rfl, rfl, rfl, rfl⟩)

def f_X11_countIn (S : Sst) : Int :=
  f_J6_bitCount_0f7a4 (f_X6_at 77 (f_X7_newest 74 S) S)
set_option maxRecDepth 100000 in
set_option maxHeartbeats 4000000 in
theorem m_X11_countIn {l : Launch} {E : EwT} {S : Sst} {O : Smo}  {q : Int} (hq : f_X11_countIn S = q) : MetG l E yX11_countIn cX11_countIn 1 (some .int) 2 40 0 0 n0 R0 S O [.ref (zad E 0)] (IR q) (some (.int (zi q))) n0 R0 S O := by
  refine ofG (L0 := [(0, .ref (zad E 0))]) hq (by decide +kernel) (Nat.le_of_ble_eq_true rfl) rfl (fun K _ C hQ => ?_)
  unfold f_X11_countIn
  refine r_aload_n (pc := 0) (j := 0) C dX11_countIn_0 rfl rfl ?_
  refine r_getR (j := 7) (r := 74) C cl_X11 kd_0 ln_0 (by decide) rfl r0_0_7 (by decide) q_693 dX11_countIn_1 ?_
  refine r_getR (j := 1) (r := 77) C cl_X7 kd_74 ln_74 (by decide) rfl r0_74_1 (by decide) q_514 dX11_countIn_4 ?_
  refine r_aload_n (pc := 7) (j := 0) C dX11_countIn_7 rfl rfl ?_
  refine r_getR (j := 7) (r := 74) C cl_X11 kd_0 ln_0 (by decide) rfl r0_0_7 (by decide) q_693 dX11_countIn_8 ?_
  refine r_cV1 (pc := 11) (k := 74) (As := []) (st := [.ref (zad E 77)]) C (m_X7_newest (p := 74) gs_74 rfl) cal_X7_newest cl_X7 kd_74 ln_74 q_1036 dX11_countIn_11 rfl rfl (Nat.le_of_ble_eq_true rfl) (Nat.le_of_ble_eq_true rfl) (Nat.le_of_ble_eq_true rfl) (Nat.le_of_ble_eq_true rfl) (Nat.le_of_ble_eq_true rfl) (fun h2433 => ?_)
  refine r_cV1 (pc := 14) (k := 77) (As := [.int (zi (f_X7_newest 74 S))]) (st := []) C (m_X6_at (p := 77) (a1 := f_X7_newest 74 S) gw_77 h2433 rfl) cal_X6_at cl_X6 kd_77 ln_77 q_1041 dX11_countIn_14 rfl rfl (Nat.le_of_ble_eq_true rfl) (Nat.le_of_ble_eq_true rfl) (Nat.le_of_ble_eq_true rfl) (Nat.le_of_ble_eq_true rfl) (Nat.le_of_ble_eq_true rfl) (fun h2434 => ?_)
  refine r_cS1 (pc := 17) (As := [.int (zi (f_X6_at 77 (f_X7_newest 74 S) S))]) (st := []) C (m_J6_bitCount_0f7a4 (a0 := f_X6_at 77 (f_X7_newest 74 S) S) h2434 rfl) cal_J6_bitCount_0f7a4 q_1172 dX11_countIn_17 rfl rfl (Nat.le_of_ble_eq_true rfl) (Nat.le_of_ble_eq_true rfl) (Nat.le_of_ble_eq_true rfl) (Nat.le_of_ble_eq_true rfl) (Nat.le_of_ble_eq_true rfl) (fun h2435 => ?_)
  exact r_ireturn C hQ rfl dX11_countIn_20 (fun e => by subst e; exact ⟨h2435, rfl, rfl, rfl, rfl, rfl⟩)

def f_X11_sweep (S : Sst) : Option (Int × Sst) :=
  jk (fun (q2437 : Sst) =>
    some ((-1), q2437)) fun k2439 =>
  if f_X0_canSweep S = 0 then
    (k2439 S)
  else
    (Option.bind (f_X0_doNew 0 S) fun (q2443 : Int × Sst) =>
    if q2443.1 = 0 then
      (k2439 q2443.2)
    else
      (some (f_X11_countIn q2443.2, q2443.2)))
set_option maxRecDepth 100000 in
set_option maxHeartbeats 4000000 in
theorem m_X11_sweep {l : Launch} {E : EwT} {S : Sst} {O : Smo}  {q : Int × Sst} (hq : f_X11_sweep S = some q) : MetG l E yX11_sweep cX11_sweep 1 (some .int) 7 173 0 0 n0 R0 S O [.ref (zad E 0)] (IR q.1) (some (.int (zi q.1))) n0 R0 q.2 O := by
  refine ofG (L0 := [(0, .ref (zad E 0))]) hq (by decide +kernel) (Nat.le_of_ble_eq_true rfl) rfl (fun K _ C hQ => ?_)
  unfold f_X11_sweep
  refine r_aload_n (pc := 0) (j := 0) C dX11_sweep_0 rfl rfl ?_
  refine r_getR (j := 12) (r := 239) C cl_X11 kd_0 ln_0 (by decide) rfl r0_0_12 (by decide) q_698 dX11_sweep_1 ?_
  refine r_cV1 (pc := 4) (k := 239) (As := []) (st := []) C (m_X0_canSweep  rfl) cal_X0_canSweep cl_X0 kd_239 ln_239 q_1078 dX11_sweep_4 rfl rfl (Nat.le_of_ble_eq_true rfl) (Nat.le_of_ble_eq_true rfl) (Nat.le_of_ble_eq_true rfl) (Nat.le_of_ble_eq_true rfl) (Nat.le_of_ble_eq_true rfl) (fun h2436 => ?_)
  refine r_jk (fun q2437 : Sst => True) (fun q2437 => q2437) (fun q2437 => O) (fun q2437 => []) 28 (fun q2437 => []) (fun q2437 h2438 => ?_) (fun k2439 k2440 => ?_)
  · refine r_iconst (v := (-1)) C dX11_sweep_28 (by decide) ?_
    exact r_ireturn C hQ rfl dX11_sweep_29 (fun e => by cases e; exact ⟨(IRd rfl), rfl, rfl, rfl, rfl, rfl⟩)
  · refine r_if_eq (tgt := 28) C h2436.ir dX11_sweep_7 (by decide) (fun c2441 => ?_) (fun c2441 => ?_)
    · refine r_t c2441 ?_
      refine r_L (L' := []) [] rfl ?_
      exact k2440 S trivial
    · refine r_f c2441 ?_
      refine r_aload_n (pc := 10) (j := 0) C dX11_sweep_10 rfl rfl ?_
      refine r_getR (j := 12) (r := 239) C cl_X11 kd_0 ln_0 (by decide) rfl r0_0_12 (by decide) q_698 dX11_sweep_11 ?_
      refine r_iconst (v := 0) C dX11_sweep_14 (by decide) ?_
      refine r_bd (fun q2443 e2444 => ?_)
      refine r_cV1 (pc := 15) (k := 239) (As := [.int (zi 0)]) (st := []) C (m_X0_doNew (a1 := 0) (IRd rfl) e2444) cal_X0_doNew cl_X0 kd_239 ln_239 q_1085 dX11_sweep_15 rfl rfl (Nat.le_of_ble_eq_true rfl) (Nat.le_of_ble_eq_true rfl) (Nat.le_of_ble_eq_true rfl) (Nat.le_of_ble_eq_true rfl) (Nat.le_of_ble_eq_true rfl) (fun h2442 => ?_)
      refine r_if_eq (tgt := 28) C h2442.ir dX11_sweep_18 (by decide) (fun c2445 => ?_) (fun c2445 => ?_)
      · refine r_t c2445 ?_
        refine r_L (L' := []) [] rfl ?_
        exact k2440 q2443.2 trivial
      · refine r_f c2445 ?_
        refine r_aload_n (pc := 21) (j := 0) C dX11_sweep_21 rfl rfl ?_
        refine r_cV1 (pc := 22) (k := 0) (As := []) (st := []) C (m_X11_countIn  rfl) cal_X11_countIn cl_X11 kd_0 ln_0 q_1168 dX11_sweep_22 rfl rfl (Nat.le_of_ble_eq_true rfl) (Nat.le_of_ble_eq_true rfl) (Nat.le_of_ble_eq_true rfl) (Nat.le_of_ble_eq_true rfl) (Nat.le_of_ble_eq_true rfl) (fun h2446 => ?_)
        refine r_goto (tgt := 29) C dX11_sweep_25 (by decide) ?_
        exact r_ireturn C hQ rfl dX11_sweep_29 (fun e => by cases e; exact ⟨h2446, rfl, rfl, rfl, rfl, rfl⟩)

def f_X11_cut (a1 : Int) (S : Sst) : Option (Int × Sst) :=
  jk (fun (q2456 : Sst) =>
    some ((-1), q2456)) fun k2458 =>
  if f_X0_canCut a1 S = 0 then
    (k2458 S)
  else
    (Option.bind (f_X0_doNew (wr (16 + a1)) S) fun (q2462 : Int × Sst) =>
    if q2462.1 = 0 then
      (k2458 q2462.2)
    else
      (some (f_X11_countIn q2462.2, q2462.2)))
set_option maxRecDepth 100000 in
set_option maxHeartbeats 4000000 in
theorem m_X11_cut {l : Launch} {E : EwT} {S : Sst} {O : Smo} {a1 : Int} (ha1 : IR a1) {q : Int × Sst} (hq : f_X11_cut a1 S = some q) : MetG l E yX11_cut cX11_cut 2 (some .int) 7 173 0 0 n0 R0 S O [.ref (zad E 0), .int (zi a1)] (IR q.1) (some (.int (zi q.1))) n0 R0 q.2 O := by
  refine ofG (L0 := [(0, .ref (zad E 0)), (1, .int (zi a1))]) hq (by decide +kernel) (Nat.le_of_ble_eq_true rfl) rfl (fun K _ C hQ => ?_)
  unfold f_X11_cut
  refine r_aload_n (pc := 0) (j := 0) C dX11_cut_0 rfl rfl ?_
  refine r_getR (j := 12) (r := 239) C cl_X11 kd_0 ln_0 (by decide) rfl r0_0_12 (by decide) q_698 dX11_cut_1 ?_
  refine r_iload_n (pc := 4) (j := 1) C dX11_cut_4 rfl rfl ?_
  refine r_cV1 (pc := 5) (k := 239) (As := [.int (zi a1)]) (st := []) C (m_X0_canCut (a1 := a1) ha1 rfl) cal_X0_canCut cl_X0 kd_239 ln_239 q_1177 dX11_cut_5 rfl rfl (Nat.le_of_ble_eq_true rfl) (Nat.le_of_ble_eq_true rfl) (Nat.le_of_ble_eq_true rfl) (Nat.le_of_ble_eq_true rfl) (Nat.le_of_ble_eq_true rfl) (fun h2455 => ?_)
  refine r_jk (fun q2456 : Sst => True) (fun q2456 => q2456) (fun q2456 => O) (fun q2456 => []) 32 (fun q2456 => []) (fun q2456 h2457 => ?_) (fun k2458 k2459 => ?_)
  · refine r_iconst (v := (-1)) C dX11_cut_32 (by decide) ?_
    exact r_ireturn C hQ rfl dX11_cut_33 (fun e => by cases e; exact ⟨(IRd rfl), rfl, rfl, rfl, rfl, rfl⟩)
  · refine r_if_eq (tgt := 32) C h2455.ir dX11_cut_8 (by decide) (fun c2460 => ?_) (fun c2460 => ?_)
    · refine r_t c2460 ?_
      refine r_L (L' := []) [] rfl ?_
      exact k2459 S trivial
    · refine r_f c2460 ?_
      refine r_aload_n (pc := 11) (j := 0) C dX11_cut_11 rfl rfl ?_
      refine r_getR (j := 12) (r := 239) C cl_X11 kd_0 ln_0 (by decide) rfl r0_0_12 (by decide) q_698 dX11_cut_12 ?_
      refine r_bipush (v := 16) C dX11_cut_15 (by decide) ?_
      refine r_iload_n (pc := 17) (j := 1) C dX11_cut_17 rfl rfl ?_
      refine r_iadd C dX11_cut_18 ?_
      refine r_bd (fun q2462 e2463 => ?_)
      refine r_cV1 (pc := 19) (k := 239) (As := [.int (zi (wr (16 + a1)))]) (st := []) C (m_X0_doNew (a1 := wr (16 + a1)) (IR_wr _) e2463) cal_X0_doNew cl_X0 kd_239 ln_239 q_1085 dX11_cut_19 rfl rfl (Nat.le_of_ble_eq_true rfl) (Nat.le_of_ble_eq_true rfl) (Nat.le_of_ble_eq_true rfl) (Nat.le_of_ble_eq_true rfl) (Nat.le_of_ble_eq_true rfl) (fun h2461 => ?_)
      refine r_if_eq (tgt := 32) C h2461.ir dX11_cut_22 (by decide) (fun c2464 => ?_) (fun c2464 => ?_)
      · refine r_t c2464 ?_
        refine r_L (L' := []) [] rfl ?_
        exact k2459 q2462.2 trivial
      · refine r_f c2464 ?_
        refine r_aload_n (pc := 25) (j := 0) C dX11_cut_25 rfl rfl ?_
        refine r_cV1 (pc := 26) (k := 0) (As := []) (st := []) C (m_X11_countIn  rfl) cal_X11_countIn cl_X11 kd_0 ln_0 q_1168 dX11_cut_26 rfl rfl (Nat.le_of_ble_eq_true rfl) (Nat.le_of_ble_eq_true rfl) (Nat.le_of_ble_eq_true rfl) (Nat.le_of_ble_eq_true rfl) (Nat.le_of_ble_eq_true rfl) (fun h2465 => ?_)
        refine r_goto (tgt := 33) C dX11_cut_29 (by decide) ?_
        exact r_ireturn C hQ rfl dX11_cut_33 (fun e => by cases e; exact ⟨h2465, rfl, rfl, rfl, rfl, rfl⟩)

def f_X11_raise (a1 : Int) (S : Sst) : Option (Int × Sst) :=
  jk (fun (q2480 : Sst) =>
    some ((-1), q2480)) fun k2482 =>
  if f_X0_canRaise a1 S = 0 then
    (k2482 S)
  else
    (Option.bind (f_X0_doNew (wr (32 + a1)) S) fun (q2486 : Int × Sst) =>
    if q2486.1 = 0 then
      (k2482 q2486.2)
    else
      (some (f_X11_countIn q2486.2, q2486.2)))
set_option maxRecDepth 100000 in
set_option maxHeartbeats 4000000 in
theorem m_X11_raise {l : Launch} {E : EwT} {S : Sst} {O : Smo} {a1 : Int} (ha1 : IR a1) {q : Int × Sst} (hq : f_X11_raise a1 S = some q) : MetG l E yX11_raise cX11_raise 2 (some .int) 7 173 0 0 n0 R0 S O [.ref (zad E 0), .int (zi a1)] (IR q.1) (some (.int (zi q.1))) n0 R0 q.2 O := by
  refine ofG (L0 := [(0, .ref (zad E 0)), (1, .int (zi a1))]) hq (by decide +kernel) (Nat.le_of_ble_eq_true rfl) rfl (fun K _ C hQ => ?_)
  unfold f_X11_raise
  refine r_aload_n (pc := 0) (j := 0) C dX11_raise_0 rfl rfl ?_
  refine r_getR (j := 12) (r := 239) C cl_X11 kd_0 ln_0 (by decide) rfl r0_0_12 (by decide) q_698 dX11_raise_1 ?_
  refine r_iload_n (pc := 4) (j := 1) C dX11_raise_4 rfl rfl ?_
  refine r_cV1 (pc := 5) (k := 239) (As := [.int (zi a1)]) (st := []) C (m_X0_canRaise (a1 := a1) ha1 rfl) cal_X0_canRaise cl_X0 kd_239 ln_239 q_1187 dX11_raise_5 rfl rfl (Nat.le_of_ble_eq_true rfl) (Nat.le_of_ble_eq_true rfl) (Nat.le_of_ble_eq_true rfl) (Nat.le_of_ble_eq_true rfl) (Nat.le_of_ble_eq_true rfl) (fun h2479 => ?_)
  refine r_jk (fun q2480 : Sst => True) (fun q2480 => q2480) (fun q2480 => O) (fun q2480 => []) 32 (fun q2480 => []) (fun q2480 h2481 => ?_) (fun k2482 k2483 => ?_)
  · refine r_iconst (v := (-1)) C dX11_raise_32 (by decide) ?_
    exact r_ireturn C hQ rfl dX11_raise_33 (fun e => by cases e; exact ⟨(IRd rfl), rfl, rfl, rfl, rfl, rfl⟩)
  · refine r_if_eq (tgt := 32) C h2479.ir dX11_raise_8 (by decide) (fun c2484 => ?_) (fun c2484 => ?_)
    · refine r_t c2484 ?_
      refine r_L (L' := []) [] rfl ?_
      exact k2483 S trivial
    · refine r_f c2484 ?_
      refine r_aload_n (pc := 11) (j := 0) C dX11_raise_11 rfl rfl ?_
      refine r_getR (j := 12) (r := 239) C cl_X11 kd_0 ln_0 (by decide) rfl r0_0_12 (by decide) q_698 dX11_raise_12 ?_
      refine r_bipush (v := 32) C dX11_raise_15 (by decide) ?_
      refine r_iload_n (pc := 17) (j := 1) C dX11_raise_17 rfl rfl ?_
      refine r_iadd C dX11_raise_18 ?_
      refine r_bd (fun q2486 e2487 => ?_)
      refine r_cV1 (pc := 19) (k := 239) (As := [.int (zi (wr (32 + a1)))]) (st := []) C (m_X0_doNew (a1 := wr (32 + a1)) (IR_wr _) e2487) cal_X0_doNew cl_X0 kd_239 ln_239 q_1085 dX11_raise_19 rfl rfl (Nat.le_of_ble_eq_true rfl) (Nat.le_of_ble_eq_true rfl) (Nat.le_of_ble_eq_true rfl) (Nat.le_of_ble_eq_true rfl) (Nat.le_of_ble_eq_true rfl) (fun h2485 => ?_)
      refine r_if_eq (tgt := 32) C h2485.ir dX11_raise_22 (by decide) (fun c2488 => ?_) (fun c2488 => ?_)
      · refine r_t c2488 ?_
        refine r_L (L' := []) [] rfl ?_
        exact k2483 q2486.2 trivial
      · refine r_f c2488 ?_
        refine r_aload_n (pc := 25) (j := 0) C dX11_raise_25 rfl rfl ?_
        refine r_cV1 (pc := 26) (k := 0) (As := []) (st := []) C (m_X11_countIn  rfl) cal_X11_countIn cl_X11 kd_0 ln_0 q_1168 dX11_raise_26 rfl rfl (Nat.le_of_ble_eq_true rfl) (Nat.le_of_ble_eq_true rfl) (Nat.le_of_ble_eq_true rfl) (Nat.le_of_ble_eq_true rfl) (Nat.le_of_ble_eq_true rfl) (fun h2489 => ?_)
        refine r_goto (tgt := 33) C dX11_raise_29 (by decide) ?_
        exact r_ireturn C hQ rfl dX11_raise_33 (fun e => by cases e; exact ⟨h2489, rfl, rfl, rfl, rfl, rfl⟩)

def f_X11_undo (S : Sst) : Option (Int × Sst) :=
  Option.bind (f_X0_takeBack S) fun (q2712 : Int × Sst) =>
  some (q2712.1, q2712.2)
set_option maxRecDepth 100000 in
set_option maxHeartbeats 4000000 in
theorem m_X11_undo {l : Launch} {E : EwT} {S : Sst} {O : Smo}  {q : Int × Sst} (hq : f_X11_undo S = some q) : MetG l E yX11_undo cX11_undo 1 (some .boolean) 5 109 0 0 n0 R0 S O [.ref (zad E 0)] (BR q.1) (some (.int (zi q.1))) n0 R0 q.2 O := by
  refine ofG (L0 := [(0, .ref (zad E 0))]) hq (by decide +kernel) (Nat.le_of_ble_eq_true rfl) rfl (fun K _ C hQ => ?_)
  unfold f_X11_undo
  refine r_aload_n (pc := 0) (j := 0) C dX11_undo_0 rfl rfl ?_
  refine r_getR (j := 12) (r := 239) C cl_X11 kd_0 ln_0 (by decide) rfl r0_0_12 (by decide) q_698 dX11_undo_1 ?_
  refine r_bd (fun q2712 e2713 => ?_)
  refine r_cV1 (pc := 4) (k := 239) (As := []) (st := []) C (m_X0_takeBack  e2713) cal_X0_takeBack cl_X0 kd_239 ln_239 q_1196 dX11_undo_4 rfl rfl (Nat.le_of_ble_eq_true rfl) (Nat.le_of_ble_eq_true rfl) (Nat.le_of_ble_eq_true rfl) (Nat.le_of_ble_eq_true rfl) (Nat.le_of_ble_eq_true rfl) (fun h2711 => ?_)
  exact r_ireturn C hQ (nar_z h2711) dX11_undo_7 (fun e => by cases e; exact ⟨h2711, rfl, rfl, rfl, rfl, rfl⟩)

def f_X11_redo (S : Sst) : Option (Int × Sst) :=
  Option.bind (f_X0_doAgain S) fun (q2723 : Int × Sst) =>
  some (q2723.1, q2723.2)
set_option maxRecDepth 100000 in
set_option maxHeartbeats 4000000 in
theorem m_X11_redo {l : Launch} {E : EwT} {S : Sst} {O : Smo}  {q : Int × Sst} (hq : f_X11_redo S = some q) : MetG l E yX11_redo cX11_redo 1 (some .boolean) 7 172 0 0 n0 R0 S O [.ref (zad E 0)] (BR q.1) (some (.int (zi q.1))) n0 R0 q.2 O := by
  refine ofG (L0 := [(0, .ref (zad E 0))]) hq (by decide +kernel) (Nat.le_of_ble_eq_true rfl) rfl (fun K _ C hQ => ?_)
  unfold f_X11_redo
  refine r_aload_n (pc := 0) (j := 0) C dX11_redo_0 rfl rfl ?_
  refine r_getR (j := 12) (r := 239) C cl_X11 kd_0 ln_0 (by decide) rfl r0_0_12 (by decide) q_698 dX11_redo_1 ?_
  refine r_bd (fun q2723 e2724 => ?_)
  refine r_cV1 (pc := 4) (k := 239) (As := []) (st := []) C (m_X0_doAgain  e2724) cal_X0_doAgain cl_X0 kd_239 ln_239 q_1216 dX11_redo_4 rfl rfl (Nat.le_of_ble_eq_true rfl) (Nat.le_of_ble_eq_true rfl) (Nat.le_of_ble_eq_true rfl) (Nat.le_of_ble_eq_true rfl) (Nat.le_of_ble_eq_true rfl) (fun h2722 => ?_)
  exact r_ireturn C hQ (nar_z h2722) dX11_redo_7 (fun e => by cases e; exact ⟨h2722, rfl, rfl, rfl, rfl, rfl⟩)

def f_X11_boxOf (a1 : Int) : Nat :=
  if a1 = 0 then
    (140)
  else
    (if a1 = 1 then
      (173)
    else
      (206))
set_option maxRecDepth 100000 in
set_option maxHeartbeats 4000000 in
theorem m_X11_boxOf {l : Launch} {E : EwT} {S : Sst} {O : Smo} {a1 : Int} (ha1 : IR a1) {q : Nat} (hq : f_X11_boxOf a1 = q) : MetG l E yX11_boxOf cX11_boxOf 2 (some (.object "StampMap$Store")) 0 0 0 0 n0 R0 S O [.ref (zad E 0), .int (zi a1)] (gSt n0 R0 q) (some (.ref (zad E q))) n0 R0 S O := by
  refine ofG (L0 := [(0, .ref (zad E 0)), (1, .int (zi a1))]) hq (by decide +kernel) (Nat.le_of_ble_eq_true rfl) rfl (fun K _ C hQ => ?_)
  unfold f_X11_boxOf
  refine r_iload_n (pc := 0) (j := 1) C dX11_boxOf_0 rfl rfl ?_
  refine r_if_ne (tgt := 11) C ha1 dX11_boxOf_1 (by decide) (fun c2725 => ?_) (fun c2725 => ?_)
  · refine r_f c2725 ?_
    refine r_iload_n (pc := 11) (j := 1) C dX11_boxOf_11 rfl rfl ?_
    refine r_iconst (v := 1) C dX11_boxOf_12 (by decide) ?_
    refine r_icmp_ne (tgt := 23) C ha1 (IRd rfl) dX11_boxOf_13 (by decide) (fun c2726 => ?_) (fun c2726 => ?_)
    · refine r_f c2726 ?_
      refine r_aload_n (pc := 23) (j := 0) C dX11_boxOf_23 rfl rfl ?_
      refine r_getR (j := 11) (r := 206) C cl_X11 kd_0 ln_0 (by decide) rfl r0_0_11 (by decide) q_697 dX11_boxOf_24 ?_
      exact r_areturn C hQ dX11_boxOf_27 (fun e => by subst e; exact ⟨gs_206, rfl, rfl, rfl, rfl, rfl⟩)
    · refine r_t c2726 ?_
      refine r_aload_n (pc := 16) (j := 0) C dX11_boxOf_16 rfl rfl ?_
      refine r_getR (j := 10) (r := 173) C cl_X11 kd_0 ln_0 (by decide) rfl r0_0_10 (by decide) q_696 dX11_boxOf_17 ?_
      refine r_goto (tgt := 27) C dX11_boxOf_20 (by decide) ?_
      exact r_areturn C hQ dX11_boxOf_27 (fun e => by subst e; exact ⟨gs_173, rfl, rfl, rfl, rfl, rfl⟩)
  · refine r_t c2725 ?_
    refine r_aload_n (pc := 4) (j := 0) C dX11_boxOf_4 rfl rfl ?_
    refine r_getR (j := 9) (r := 140) C cl_X11 kd_0 ln_0 (by decide) rfl r0_0_9 (by decide) q_695 dX11_boxOf_5 ?_
    refine r_goto (tgt := 27) C dX11_boxOf_8 (by decide) ?_
    exact r_areturn C hQ dX11_boxOf_27 (fun e => by subst e; exact ⟨gs_140, rfl, rfl, rfl, rfl, rfl⟩)

def f_X11_image (a1 : Int) (S : Sst) : Int × Sst :=
  if (a1 < 0 ∨ 2 < a1) then
    (((-1), S))
  else
    (jn (f_X7_takeFrom (f_X11_boxOf a1) 74 S) fun (q2780 : Sst) =>
    jn (upS q2780 (f_X11_boxOf a1) 16 1) fun (S2782 : Sst) =>
    (f_X7_newest 74 S2782, S2782))
set_option maxRecDepth 100000 in
set_option maxHeartbeats 4000000 in
theorem m_X11_image {l : Launch} {E : EwT} {S : Sst} {O : Smo} {a1 : Int} (ha1 : IR a1) {q : Int × Sst} (hq : f_X11_image a1 S = q) : MetG l E yX11_image cX11_image 3 (some .int) 3 64 0 0 n0 R0 S O [.ref (zad E 0), .int (zi a1)] (IR q.1) (some (.int (zi q.1))) n0 R0 q.2 O := by
  refine ofG (L0 := [(0, .ref (zad E 0)), (1, .int (zi a1))]) hq (by decide +kernel) (Nat.le_of_ble_eq_true rfl) rfl (fun K _ C hQ => ?_)
  unfold f_X11_image
  refine r_iload_n (pc := 0) (j := 1) C dX11_image_0 rfl rfl ?_
  refine r_cut (a1 < 0 ∨ 2 < a1) 9 11 [] (fun c2775 => ?_) (fun c2775 => ?_) (fun k2776 k2777 => ?_)
  · refine r_t c2775 ?_
    refine r_iconst (v := (-1)) C dX11_image_9 (by decide) ?_
    exact r_ireturn C hQ rfl dX11_image_10 (fun e => by subst e; exact ⟨(IRd rfl), rfl, rfl, rfl, rfl, rfl⟩)
  · refine r_f c2775 ?_
    refine r_aload_n (pc := 11) (j := 0) C dX11_image_11 rfl rfl ?_
    refine r_iload_n (pc := 12) (j := 1) C dX11_image_12 rfl rfl ?_
    refine r_cV1 (pc := 13) (k := 0) (As := [.int (zi a1)]) (st := []) C (m_X11_boxOf (a1 := a1) ha1 rfl) cal_X11_boxOf cl_X11 kd_0 ln_0 q_1224 dX11_image_13 rfl rfl (Nat.le_of_ble_eq_true rfl) (Nat.le_of_ble_eq_true rfl) (Nat.le_of_ble_eq_true rfl) (Nat.le_of_ble_eq_true rfl) (Nat.le_of_ble_eq_true rfl) (fun h2778 => ?_)
    refine r_astore_n (L' := [(2, .ref (zad E (f_X11_boxOf a1))), (0, .ref (zad E 0)), (1, .int (zi a1))]) C dX11_image_16 rfl (by decide) rfl ?_
    refine r_aload_n (pc := 17) (j := 0) C dX11_image_17 rfl rfl ?_
    refine r_aload_n (pc := 18) (j := 1) C dX11_image_18 rfl rfl ?_
    refine r_getR (j := 7) (r := 74) C cl_X11 kd_0 ln_0 (by decide) rfl r0_0_7 (by decide) q_693 dX11_image_19 ?_
    refine r_jn (fun q2780 e2781 => ?_)
    refine r_cV0 (pc := 22) (k := f_X11_boxOf a1) (As := [.ref (zad E 74)]) (st := []) C (m_X7_takeFrom (p := f_X11_boxOf a1) (o1 := 74) h2778 gs_74 e2781) cal_X7_takeFrom cl_X7 (gSt_k h2778).1 (gSt_k h2778).2.1 q_1228 dX11_image_22 rfl rfl (Nat.le_of_ble_eq_true rfl) (Nat.le_of_ble_eq_true rfl) (Nat.le_of_ble_eq_true rfl) (Nat.le_of_ble_eq_true rfl) (Nat.le_of_ble_eq_true rfl) (fun h2779 => ?_)
    refine r_aload_n (pc := 25) (j := 0) C dX11_image_25 rfl rfl ?_
    refine r_iconst (v := 1) C dX11_image_26 (by decide) ?_
    refine r_putSz C cl_X7 (gSt_k h2778).1 (gSt_k h2778).2.1 (gSt_k h2778).2.2 (by decide) (by decide) rfl rfl rfl (BRd rfl) q_544 dX11_image_27 (fun S2782 => ?_)
    refine r_aload_n (pc := 30) (j := 1) C dX11_image_30 rfl rfl ?_
    refine r_getR (j := 7) (r := 74) C cl_X11 kd_0 ln_0 (by decide) rfl r0_0_7 (by decide) q_693 dX11_image_31 ?_
    refine r_cV1 (pc := 34) (k := 74) (As := []) (st := []) C (m_X7_newest (p := 74) gs_74 rfl) cal_X7_newest cl_X7 kd_74 ln_74 q_1036 dX11_image_34 rfl rfl (Nat.le_of_ble_eq_true rfl) (Nat.le_of_ble_eq_true rfl) (Nat.le_of_ble_eq_true rfl) (Nat.le_of_ble_eq_true rfl) (Nat.le_of_ble_eq_true rfl) (fun h2783 => ?_)
    exact r_ireturn C hQ rfl dX11_image_37 (fun e => by subst e; exact ⟨h2783, rfl, rfl, rfl, rfl, rfl⟩)
  · refine r_if_lt (tgt := 9) C ha1 dX11_image_1 (by decide) (fun c2784 => ?_) (fun c2784 => ?_)
    · exact k2776 (Or.inl c2784)
    · refine r_iload_n (pc := 4) (j := 1) C dX11_image_4 rfl rfl ?_
      refine r_iconst (v := 2) C dX11_image_5 (by decide) ?_
      refine r_icmp_le (tgt := 11) C ha1 (IRd rfl) dX11_image_6 (by decide) (fun c2785 => ?_) (fun c2785 => ?_)
      · exact k2777 (fun w => w.elim c2784 c2785)
      · exact k2776 (Or.inr c2785)

def f_X11_back (a1 : Int) (S : Sst) : Int × Sst :=
  if (a1 < 0 ∨ 2 < a1) then
    (((-1), S))
  else
    (if S.2 (f_X11_boxOf a1) 16 = 0 then
      (((-1), S))
    else
      (jn (f_X7_takeFrom 74 (f_X11_boxOf a1) S) fun (q2793 : Sst) =>
      jn (f_X0_forget q2793) fun (q2796 : Sst) =>
      (f_X7_newest 74 q2796, q2796)))
set_option maxRecDepth 100000 in
set_option maxHeartbeats 4000000 in
theorem m_X11_back {l : Launch} {E : EwT} {S : Sst} {O : Smo} {a1 : Int} (ha1 : IR a1) {q : Int × Sst} (hq : f_X11_back a1 S = q) : MetG l E yX11_back cX11_back 3 (some .int) 3 64 0 0 n0 R0 S O [.ref (zad E 0), .int (zi a1)] (IR q.1) (some (.int (zi q.1))) n0 R0 q.2 O := by
  refine ofG (L0 := [(0, .ref (zad E 0)), (1, .int (zi a1))]) hq (by decide +kernel) (Nat.le_of_ble_eq_true rfl) rfl (fun K _ C hQ => ?_)
  unfold f_X11_back
  refine r_iload_n (pc := 0) (j := 1) C dX11_back_0 rfl rfl ?_
  refine r_cut (a1 < 0 ∨ 2 < a1) 9 11 [] (fun c2786 => ?_) (fun c2786 => ?_) (fun k2787 k2788 => ?_)
  · refine r_t c2786 ?_
    refine r_iconst (v := (-1)) C dX11_back_9 (by decide) ?_
    exact r_ireturn C hQ rfl dX11_back_10 (fun e => by subst e; exact ⟨(IRd rfl), rfl, rfl, rfl, rfl, rfl⟩)
  · refine r_f c2786 ?_
    refine r_aload_n (pc := 11) (j := 0) C dX11_back_11 rfl rfl ?_
    refine r_iload_n (pc := 12) (j := 1) C dX11_back_12 rfl rfl ?_
    refine r_cV1 (pc := 13) (k := 0) (As := [.int (zi a1)]) (st := []) C (m_X11_boxOf (a1 := a1) ha1 rfl) cal_X11_boxOf cl_X11 kd_0 ln_0 q_1224 dX11_back_13 rfl rfl (Nat.le_of_ble_eq_true rfl) (Nat.le_of_ble_eq_true rfl) (Nat.le_of_ble_eq_true rfl) (Nat.le_of_ble_eq_true rfl) (Nat.le_of_ble_eq_true rfl) (fun h2789 => ?_)
    refine r_astore_n (L' := [(2, .ref (zad E (f_X11_boxOf a1))), (0, .ref (zad E 0)), (1, .int (zi a1))]) C dX11_back_16 rfl (by decide) rfl ?_
    refine r_aload_n (pc := 17) (j := 0) C dX11_back_17 rfl rfl ?_
    refine r_getSz (j := 16) C cl_X7 (gSt_k h2789).1 (gSt_k h2789).2.1 (gSt_k h2789).2.2 (by decide) (by decide) rfl q_544 dX11_back_18 (fun h2790 => ?_)
    refine r_if_ne (tgt := 26) C h2790.ir dX11_back_21 (by decide) (fun c2791 => ?_) (fun c2791 => ?_)
    · refine r_f c2791 ?_
      refine r_aload_n (pc := 26) (j := 1) C dX11_back_26 rfl rfl ?_
      refine r_getR (j := 7) (r := 74) C cl_X11 kd_0 ln_0 (by decide) rfl r0_0_7 (by decide) q_693 dX11_back_27 ?_
      refine r_aload_n (pc := 30) (j := 0) C dX11_back_30 rfl rfl ?_
      refine r_jn (fun q2793 e2794 => ?_)
      refine r_cV0 (pc := 31) (k := 74) (As := [.ref (zad E (f_X11_boxOf a1))]) (st := []) C (m_X7_takeFrom (p := 74) (o1 := f_X11_boxOf a1) gs_74 h2789 e2794) cal_X7_takeFrom cl_X7 kd_74 ln_74 q_1228 dX11_back_31 rfl rfl (Nat.le_of_ble_eq_true rfl) (Nat.le_of_ble_eq_true rfl) (Nat.le_of_ble_eq_true rfl) (Nat.le_of_ble_eq_true rfl) (Nat.le_of_ble_eq_true rfl) (fun h2792 => ?_)
      refine r_aload_n (pc := 34) (j := 1) C dX11_back_34 rfl rfl ?_
      refine r_getR (j := 12) (r := 239) C cl_X11 kd_0 ln_0 (by decide) rfl r0_0_12 (by decide) q_698 dX11_back_35 ?_
      refine r_jn (fun q2796 e2797 => ?_)
      refine r_cV0 (pc := 38) (k := 239) (As := []) (st := []) C (m_X0_forget  e2797) cal_X0_forget cl_X0 kd_239 ln_239 q_1016 dX11_back_38 rfl rfl (Nat.le_of_ble_eq_true rfl) (Nat.le_of_ble_eq_true rfl) (Nat.le_of_ble_eq_true rfl) (Nat.le_of_ble_eq_true rfl) (Nat.le_of_ble_eq_true rfl) (fun h2795 => ?_)
      refine r_aload_n (pc := 41) (j := 1) C dX11_back_41 rfl rfl ?_
      refine r_getR (j := 7) (r := 74) C cl_X11 kd_0 ln_0 (by decide) rfl r0_0_7 (by decide) q_693 dX11_back_42 ?_
      refine r_cV1 (pc := 45) (k := 74) (As := []) (st := []) C (m_X7_newest (p := 74) gs_74 rfl) cal_X7_newest cl_X7 kd_74 ln_74 q_1036 dX11_back_45 rfl rfl (Nat.le_of_ble_eq_true rfl) (Nat.le_of_ble_eq_true rfl) (Nat.le_of_ble_eq_true rfl) (Nat.le_of_ble_eq_true rfl) (Nat.le_of_ble_eq_true rfl) (fun h2798 => ?_)
      exact r_ireturn C hQ rfl dX11_back_48 (fun e => by subst e; exact ⟨h2798, rfl, rfl, rfl, rfl, rfl⟩)
    · refine r_t c2791 ?_
      refine r_iconst (v := (-1)) C dX11_back_24 (by decide) ?_
      exact r_ireturn C hQ rfl dX11_back_25 (fun e => by subst e; exact ⟨(IRd rfl), rfl, rfl, rfl, rfl, rfl⟩)
  · refine r_if_lt (tgt := 9) C ha1 dX11_back_1 (by decide) (fun c2799 => ?_) (fun c2799 => ?_)
    · exact k2787 (Or.inl c2799)
    · refine r_iload_n (pc := 4) (j := 1) C dX11_back_4 rfl rfl ?_
      refine r_iconst (v := 2) C dX11_back_5 (by decide) ?_
      refine r_icmp_le (tgt := 11) C ha1 (IRd rfl) dX11_back_6 (by decide) (fun c2800 => ?_) (fun c2800 => ?_)
      · exact k2788 (fun w => w.elim c2799 c2800)
      · exact k2787 (Or.inr c2800)

def f_X11_version (a1 : Int) (a2 : Int) (S : Sst) : Option (Int × Sst) :=
  if f_X7_hasStamp 74 a1 S = 0 then
    (some ((-2), S))
  else
    (if a2 = 0 then
      (some (f_X6_at 75 a1 S, S))
    else
      (if a2 = 1 then
        (some (f_X6_at 77 a1 S, S))
      else
        (if a2 = 2 then
          (some (f_X6_at 83 a1 S, S))
        else
          (if a2 = 3 then
            (Option.bind (f_X8_show a1 S) fun (q2821 : Sst) =>
            some (q2821.2 59 6, q2821))
          else
            (if a2 = 4 then
              (some (f_X6_at 85 a1 S, S))
            else
              (some ((-2), S)))))))
set_option maxRecDepth 100000 in
set_option maxHeartbeats 4000000 in
theorem m_X11_version {l : Launch} {E : EwT} {S : Sst} {O : Smo} {a1 : Int} (ha1 : IR a1) {a2 : Int} (ha2 : IR a2) {q : Int × Sst} (hq : f_X11_version a1 a2 S = some q) : MetG l E yX11_version cX11_version 3 (some .int) 5 111 0 0 n0 R0 S O [.ref (zad E 0), .int (zi a1), .int (zi a2)] (IR q.1) (some (.int (zi q.1))) n0 R0 q.2 O := by
  refine ofG (L0 := [(0, .ref (zad E 0)), (1, .int (zi a1)), (2, .int (zi a2))]) hq (by decide +kernel) (Nat.le_of_ble_eq_true rfl) rfl (fun K _ C hQ => ?_)
  unfold f_X11_version
  refine r_aload_n (pc := 0) (j := 0) C dX11_version_0 rfl rfl ?_
  refine r_getR (j := 7) (r := 74) C cl_X11 kd_0 ln_0 (by decide) rfl r0_0_7 (by decide) q_693 dX11_version_1 ?_
  refine r_iload_n (pc := 4) (j := 1) C dX11_version_4 rfl rfl ?_
  refine r_cV1 (pc := 5) (k := 74) (As := [.int (zi a1)]) (st := []) C (m_X7_hasStamp (p := 74) (a1 := a1) gs_74 ha1 rfl) cal_X7_hasStamp cl_X7 kd_74 ln_74 q_1241 dX11_version_5 rfl rfl (Nat.le_of_ble_eq_true rfl) (Nat.le_of_ble_eq_true rfl) (Nat.le_of_ble_eq_true rfl) (Nat.le_of_ble_eq_true rfl) (Nat.le_of_ble_eq_true rfl) (fun h2811 => ?_)
  refine r_if_ne (tgt := 14) C h2811.ir dX11_version_8 (by decide) (fun c2812 => ?_) (fun c2812 => ?_)
  · refine r_f c2812 ?_
    refine r_iload_n (pc := 14) (j := 2) C dX11_version_14 rfl rfl ?_
    by_cases c2813 : (a2 = 0)
    · refine r_t c2813 ?_
      refine r_tswIn (kx := 0) (tgt := 48) C ha2 dX11_version_15 c2813 (by decide) (by decide) rfl (by decide) ?_
      refine r_aload_n (pc := 48) (j := 0) C dX11_version_48 rfl rfl ?_
      refine r_getR (j := 7) (r := 74) C cl_X11 kd_0 ln_0 (by decide) rfl r0_0_7 (by decide) q_693 dX11_version_49 ?_
      refine r_getR (j := 0) (r := 75) C cl_X7 kd_74 ln_74 (by decide) rfl r0_74_0 (by decide) q_510 dX11_version_52 ?_
      refine r_iload_n (pc := 55) (j := 1) C dX11_version_55 rfl rfl ?_
      refine r_cV1 (pc := 56) (k := 75) (As := [.int (zi a1)]) (st := []) C (m_X6_at (p := 75) (a1 := a1) gw_75 ha1 rfl) cal_X6_at cl_X6 kd_75 ln_75 q_1041 dX11_version_56 rfl rfl (Nat.le_of_ble_eq_true rfl) (Nat.le_of_ble_eq_true rfl) (Nat.le_of_ble_eq_true rfl) (Nat.le_of_ble_eq_true rfl) (Nat.le_of_ble_eq_true rfl) (fun h2814 => ?_)
      exact r_ireturn C hQ rfl dX11_version_59 (fun e => by cases e; exact ⟨h2814, rfl, rfl, rfl, rfl, rfl⟩)
    · refine r_f c2813 ?_
      by_cases c2815 : (a2 = 1)
      · refine r_t c2815 ?_
        refine r_tswIn (kx := 1) (tgt := 60) C ha2 dX11_version_15 c2815 (by decide) (by decide) rfl (by decide) ?_
        refine r_aload_n (pc := 60) (j := 0) C dX11_version_60 rfl rfl ?_
        refine r_getR (j := 7) (r := 74) C cl_X11 kd_0 ln_0 (by decide) rfl r0_0_7 (by decide) q_693 dX11_version_61 ?_
        refine r_getR (j := 1) (r := 77) C cl_X7 kd_74 ln_74 (by decide) rfl r0_74_1 (by decide) q_514 dX11_version_64 ?_
        refine r_iload_n (pc := 67) (j := 1) C dX11_version_67 rfl rfl ?_
        refine r_cV1 (pc := 68) (k := 77) (As := [.int (zi a1)]) (st := []) C (m_X6_at (p := 77) (a1 := a1) gw_77 ha1 rfl) cal_X6_at cl_X6 kd_77 ln_77 q_1041 dX11_version_68 rfl rfl (Nat.le_of_ble_eq_true rfl) (Nat.le_of_ble_eq_true rfl) (Nat.le_of_ble_eq_true rfl) (Nat.le_of_ble_eq_true rfl) (Nat.le_of_ble_eq_true rfl) (fun h2816 => ?_)
        exact r_ireturn C hQ rfl dX11_version_71 (fun e => by cases e; exact ⟨h2816, rfl, rfl, rfl, rfl, rfl⟩)
      · refine r_f c2815 ?_
        by_cases c2817 : (a2 = 2)
        · refine r_t c2817 ?_
          refine r_tswIn (kx := 2) (tgt := 72) C ha2 dX11_version_15 c2817 (by decide) (by decide) rfl (by decide) ?_
          refine r_aload_n (pc := 72) (j := 0) C dX11_version_72 rfl rfl ?_
          refine r_getR (j := 7) (r := 74) C cl_X11 kd_0 ln_0 (by decide) rfl r0_0_7 (by decide) q_693 dX11_version_73 ?_
          refine r_getR (j := 4) (r := 83) C cl_X7 kd_74 ln_74 (by decide) rfl r0_74_4 (by decide) q_522 dX11_version_76 ?_
          refine r_iload_n (pc := 79) (j := 1) C dX11_version_79 rfl rfl ?_
          refine r_cV1 (pc := 80) (k := 83) (As := [.int (zi a1)]) (st := []) C (m_X6_at (p := 83) (a1 := a1) gw_83 ha1 rfl) cal_X6_at cl_X6 kd_83 ln_83 q_1041 dX11_version_80 rfl rfl (Nat.le_of_ble_eq_true rfl) (Nat.le_of_ble_eq_true rfl) (Nat.le_of_ble_eq_true rfl) (Nat.le_of_ble_eq_true rfl) (Nat.le_of_ble_eq_true rfl) (fun h2818 => ?_)
          exact r_ireturn C hQ rfl dX11_version_83 (fun e => by cases e; exact ⟨h2818, rfl, rfl, rfl, rfl, rfl⟩)
        · refine r_f c2817 ?_
          by_cases c2819 : (a2 = 3)
          · refine r_t c2819 ?_
            refine r_tswIn (kx := 3) (tgt := 84) C ha2 dX11_version_15 c2819 (by decide) (by decide) rfl (by decide) ?_
            refine r_aload_n (pc := 84) (j := 0) C dX11_version_84 rfl rfl ?_
            refine r_getR (j := 13) (r := 242) C cl_X11 kd_0 ln_0 (by decide) rfl r0_0_13 (by decide) q_699 dX11_version_85 ?_
            refine r_iload_n (pc := 88) (j := 1) C dX11_version_88 rfl rfl ?_
            refine r_bd (fun q2821 e2822 => ?_)
            refine r_cV0 (pc := 89) (k := 242) (As := [.int (zi a1)]) (st := []) C (m_X8_show (a1 := a1) ha1 e2822) cal_X8_show cl_X8 kd_242 ln_242 q_1245 dX11_version_89 rfl rfl (Nat.le_of_ble_eq_true rfl) (Nat.le_of_ble_eq_true rfl) (Nat.le_of_ble_eq_true rfl) (Nat.le_of_ble_eq_true rfl) (Nat.le_of_ble_eq_true rfl) (fun h2820 => ?_)
            refine r_aload_n (pc := 92) (j := 0) C dX11_version_92 rfl rfl ?_
            refine r_getR (j := 6) (r := 59) C cl_X11 kd_0 ln_0 (by decide) rfl r0_0_6 (by decide) q_692 dX11_version_93 ?_
            refine r_getS (j := 6) C cl_X10 kd_59 ln_59 lc_59 (by decide) (by decide) rfl q_448 dX11_version_96 (fun h2823 => ?_)
            exact r_ireturn C hQ rfl dX11_version_99 (fun e => by cases e; exact ⟨h2823, rfl, rfl, rfl, rfl, rfl⟩)
          · refine r_f c2819 ?_
            by_cases c2824 : (a2 = 4)
            · refine r_t c2824 ?_
              refine r_tswIn (kx := 4) (tgt := 100) C ha2 dX11_version_15 c2824 (by decide) (by decide) rfl (by decide) ?_
              refine r_aload_n (pc := 100) (j := 0) C dX11_version_100 rfl rfl ?_
              refine r_getR (j := 7) (r := 74) C cl_X11 kd_0 ln_0 (by decide) rfl r0_0_7 (by decide) q_693 dX11_version_101 ?_
              refine r_getR (j := 5) (r := 85) C cl_X7 kd_74 ln_74 (by decide) rfl r0_74_5 (by decide) q_524 dX11_version_104 ?_
              refine r_iload_n (pc := 107) (j := 1) C dX11_version_107 rfl rfl ?_
              refine r_cV1 (pc := 108) (k := 85) (As := [.int (zi a1)]) (st := []) C (m_X6_at (p := 85) (a1 := a1) gw_85 ha1 rfl) cal_X6_at cl_X6 kd_85 ln_85 q_1041 dX11_version_108 rfl rfl (Nat.le_of_ble_eq_true rfl) (Nat.le_of_ble_eq_true rfl) (Nat.le_of_ble_eq_true rfl) (Nat.le_of_ble_eq_true rfl) (Nat.le_of_ble_eq_true rfl) (fun h2825 => ?_)
              exact r_ireturn C hQ rfl dX11_version_111 (fun e => by cases e; exact ⟨h2825, rfl, rfl, rfl, rfl, rfl⟩)
            · refine r_f c2824 ?_
              refine r_tswOut (tgt := 112) C ha2 dX11_version_15 (by omega) (by decide) ?_
              refine r_bipush (v := (-2)) C dX11_version_112 (by decide) ?_
              exact r_ireturn C hQ rfl dX11_version_114 (fun e => by cases e; exact ⟨(IRd rfl), rfl, rfl, rfl, rfl, rfl⟩)
  · refine r_t c2812 ?_
    refine r_bipush (v := (-2)) C dX11_version_11 (by decide) ?_
    exact r_ireturn C hQ rfl dX11_version_13 (fun e => by cases e; exact ⟨(IRd rfl), rfl, rfl, rfl, rfl, rfl⟩)

def f_X11_node (a1 : Int) (a2 : Int) (S : Sst) : Option (Int) :=
  if f_X7_hasNode 74 a1 S = 0 then
    (some (-2))
  else
    (if a2 = 0 then
      (some (f_X6_at 87 a1 S))
    else
      (if a2 = 1 then
        (some (f_X6_at 89 a1 S))
      else
        (if a2 = 2 then
          (some (f_X6_at 91 a1 S))
        else
          (if a2 = 3 then
            (some (f_X6_at 93 a1 S))
          else
            (if a2 = 4 then
              (some (f_X6_at 95 a1 S))
            else
              (if a2 = 5 then
                (Option.bind (f_X7_parentOf 74 a1 S) fun (q2915 : Int) =>
                some q2915)
              else
                (if a2 = 6 then
                  (if f_X7_isThere 74 a1 S = 0 then
                    (some 0)
                  else
                    (some 1))
                else
                  (some (-2)))))))))
set_option maxRecDepth 100000 in
set_option maxHeartbeats 4000000 in
theorem m_X11_node {l : Launch} {E : EwT} {S : Sst} {O : Smo} {a1 : Int} (ha1 : IR a1) {a2 : Int} (ha2 : IR a2) {q : Int} (hq : f_X11_node a1 a2 S = some q) : MetG l E yX11_node cX11_node 3 (some .int) 3 70 0 0 n0 R0 S O [.ref (zad E 0), .int (zi a1), .int (zi a2)] (IR q) (some (.int (zi q))) n0 R0 S O := by
  refine ofG (L0 := [(0, .ref (zad E 0)), (1, .int (zi a1)), (2, .int (zi a2))]) hq (by decide +kernel) (Nat.le_of_ble_eq_true rfl) rfl (fun K _ C hQ => ?_)
  unfold f_X11_node
  refine r_aload_n (pc := 0) (j := 0) C dX11_node_0 rfl rfl ?_
  refine r_getR (j := 7) (r := 74) C cl_X11 kd_0 ln_0 (by decide) rfl r0_0_7 (by decide) q_693 dX11_node_1 ?_
  refine r_iload_n (pc := 4) (j := 1) C dX11_node_4 rfl rfl ?_
  refine r_cV1 (pc := 5) (k := 74) (As := [.int (zi a1)]) (st := []) C (m_X7_hasNode (p := 74) (a1 := a1) gs_74 ha1 rfl) cal_X7_hasNode cl_X7 kd_74 ln_74 q_1254 dX11_node_5 rfl rfl (Nat.le_of_ble_eq_true rfl) (Nat.le_of_ble_eq_true rfl) (Nat.le_of_ble_eq_true rfl) (Nat.le_of_ble_eq_true rfl) (Nat.le_of_ble_eq_true rfl) (fun h2901 => ?_)
  refine r_if_ne (tgt := 14) C h2901.ir dX11_node_8 (by decide) (fun c2902 => ?_) (fun c2902 => ?_)
  · refine r_f c2902 ?_
    refine r_iload_n (pc := 14) (j := 2) C dX11_node_14 rfl rfl ?_
    by_cases c2903 : (a2 = 0)
    · refine r_t c2903 ?_
      refine r_tswIn (kx := 0) (tgt := 56) C ha2 dX11_node_15 c2903 (by decide) (by decide) rfl (by decide) ?_
      refine r_aload_n (pc := 56) (j := 0) C dX11_node_56 rfl rfl ?_
      refine r_getR (j := 7) (r := 74) C cl_X11 kd_0 ln_0 (by decide) rfl r0_0_7 (by decide) q_693 dX11_node_57 ?_
      refine r_getR (j := 6) (r := 87) C cl_X7 kd_74 ln_74 (by decide) rfl r0_74_6 (by decide) q_526 dX11_node_60 ?_
      refine r_iload_n (pc := 63) (j := 1) C dX11_node_63 rfl rfl ?_
      refine r_cV1 (pc := 64) (k := 87) (As := [.int (zi a1)]) (st := []) C (m_X6_at (p := 87) (a1 := a1) gw_87 ha1 rfl) cal_X6_at cl_X6 kd_87 ln_87 q_1041 dX11_node_64 rfl rfl (Nat.le_of_ble_eq_true rfl) (Nat.le_of_ble_eq_true rfl) (Nat.le_of_ble_eq_true rfl) (Nat.le_of_ble_eq_true rfl) (Nat.le_of_ble_eq_true rfl) (fun h2904 => ?_)
      exact r_ireturn C hQ rfl dX11_node_67 (fun e => by cases e; exact ⟨h2904, rfl, rfl, rfl, rfl, rfl⟩)
    · refine r_f c2903 ?_
      by_cases c2905 : (a2 = 1)
      · refine r_t c2905 ?_
        refine r_tswIn (kx := 1) (tgt := 68) C ha2 dX11_node_15 c2905 (by decide) (by decide) rfl (by decide) ?_
        refine r_aload_n (pc := 68) (j := 0) C dX11_node_68 rfl rfl ?_
        refine r_getR (j := 7) (r := 74) C cl_X11 kd_0 ln_0 (by decide) rfl r0_0_7 (by decide) q_693 dX11_node_69 ?_
        refine r_getR (j := 7) (r := 89) C cl_X7 kd_74 ln_74 (by decide) rfl r0_74_7 (by decide) q_528 dX11_node_72 ?_
        refine r_iload_n (pc := 75) (j := 1) C dX11_node_75 rfl rfl ?_
        refine r_cV1 (pc := 76) (k := 89) (As := [.int (zi a1)]) (st := []) C (m_X6_at (p := 89) (a1 := a1) gw_89 ha1 rfl) cal_X6_at cl_X6 kd_89 ln_89 q_1041 dX11_node_76 rfl rfl (Nat.le_of_ble_eq_true rfl) (Nat.le_of_ble_eq_true rfl) (Nat.le_of_ble_eq_true rfl) (Nat.le_of_ble_eq_true rfl) (Nat.le_of_ble_eq_true rfl) (fun h2906 => ?_)
        exact r_ireturn C hQ rfl dX11_node_79 (fun e => by cases e; exact ⟨h2906, rfl, rfl, rfl, rfl, rfl⟩)
      · refine r_f c2905 ?_
        by_cases c2907 : (a2 = 2)
        · refine r_t c2907 ?_
          refine r_tswIn (kx := 2) (tgt := 80) C ha2 dX11_node_15 c2907 (by decide) (by decide) rfl (by decide) ?_
          refine r_aload_n (pc := 80) (j := 0) C dX11_node_80 rfl rfl ?_
          refine r_getR (j := 7) (r := 74) C cl_X11 kd_0 ln_0 (by decide) rfl r0_0_7 (by decide) q_693 dX11_node_81 ?_
          refine r_getR (j := 8) (r := 91) C cl_X7 kd_74 ln_74 (by decide) rfl r0_74_8 (by decide) q_530 dX11_node_84 ?_
          refine r_iload_n (pc := 87) (j := 1) C dX11_node_87 rfl rfl ?_
          refine r_cV1 (pc := 88) (k := 91) (As := [.int (zi a1)]) (st := []) C (m_X6_at (p := 91) (a1 := a1) gw_91 ha1 rfl) cal_X6_at cl_X6 kd_91 ln_91 q_1041 dX11_node_88 rfl rfl (Nat.le_of_ble_eq_true rfl) (Nat.le_of_ble_eq_true rfl) (Nat.le_of_ble_eq_true rfl) (Nat.le_of_ble_eq_true rfl) (Nat.le_of_ble_eq_true rfl) (fun h2908 => ?_)
          exact r_ireturn C hQ rfl dX11_node_91 (fun e => by cases e; exact ⟨h2908, rfl, rfl, rfl, rfl, rfl⟩)
        · refine r_f c2907 ?_
          by_cases c2909 : (a2 = 3)
          · refine r_t c2909 ?_
            refine r_tswIn (kx := 3) (tgt := 92) C ha2 dX11_node_15 c2909 (by decide) (by decide) rfl (by decide) ?_
            refine r_aload_n (pc := 92) (j := 0) C dX11_node_92 rfl rfl ?_
            refine r_getR (j := 7) (r := 74) C cl_X11 kd_0 ln_0 (by decide) rfl r0_0_7 (by decide) q_693 dX11_node_93 ?_
            refine r_getR (j := 9) (r := 93) C cl_X7 kd_74 ln_74 (by decide) rfl r0_74_9 (by decide) q_532 dX11_node_96 ?_
            refine r_iload_n (pc := 99) (j := 1) C dX11_node_99 rfl rfl ?_
            refine r_cV1 (pc := 100) (k := 93) (As := [.int (zi a1)]) (st := []) C (m_X6_at (p := 93) (a1 := a1) gw_93 ha1 rfl) cal_X6_at cl_X6 kd_93 ln_93 q_1041 dX11_node_100 rfl rfl (Nat.le_of_ble_eq_true rfl) (Nat.le_of_ble_eq_true rfl) (Nat.le_of_ble_eq_true rfl) (Nat.le_of_ble_eq_true rfl) (Nat.le_of_ble_eq_true rfl) (fun h2910 => ?_)
            exact r_ireturn C hQ rfl dX11_node_103 (fun e => by cases e; exact ⟨h2910, rfl, rfl, rfl, rfl, rfl⟩)
          · refine r_f c2909 ?_
            by_cases c2911 : (a2 = 4)
            · refine r_t c2911 ?_
              refine r_tswIn (kx := 4) (tgt := 104) C ha2 dX11_node_15 c2911 (by decide) (by decide) rfl (by decide) ?_
              refine r_aload_n (pc := 104) (j := 0) C dX11_node_104 rfl rfl ?_
              refine r_getR (j := 7) (r := 74) C cl_X11 kd_0 ln_0 (by decide) rfl r0_0_7 (by decide) q_693 dX11_node_105 ?_
              refine r_getR (j := 10) (r := 95) C cl_X7 kd_74 ln_74 (by decide) rfl r0_74_10 (by decide) q_534 dX11_node_108 ?_
              refine r_iload_n (pc := 111) (j := 1) C dX11_node_111 rfl rfl ?_
              refine r_cV1 (pc := 112) (k := 95) (As := [.int (zi a1)]) (st := []) C (m_X6_at (p := 95) (a1 := a1) gw_95 ha1 rfl) cal_X6_at cl_X6 kd_95 ln_95 q_1041 dX11_node_112 rfl rfl (Nat.le_of_ble_eq_true rfl) (Nat.le_of_ble_eq_true rfl) (Nat.le_of_ble_eq_true rfl) (Nat.le_of_ble_eq_true rfl) (Nat.le_of_ble_eq_true rfl) (fun h2912 => ?_)
              exact r_ireturn C hQ rfl dX11_node_115 (fun e => by cases e; exact ⟨h2912, rfl, rfl, rfl, rfl, rfl⟩)
            · refine r_f c2911 ?_
              by_cases c2913 : (a2 = 5)
              · refine r_t c2913 ?_
                refine r_tswIn (kx := 5) (tgt := 116) C ha2 dX11_node_15 c2913 (by decide) (by decide) rfl (by decide) ?_
                refine r_aload_n (pc := 116) (j := 0) C dX11_node_116 rfl rfl ?_
                refine r_getR (j := 7) (r := 74) C cl_X11 kd_0 ln_0 (by decide) rfl r0_0_7 (by decide) q_693 dX11_node_117 ?_
                refine r_iload_n (pc := 120) (j := 1) C dX11_node_120 rfl rfl ?_
                refine r_bd (fun q2915 e2916 => ?_)
                refine r_cV1 (pc := 121) (k := 74) (As := [.int (zi a1)]) (st := []) C (m_X7_parentOf (p := 74) (a1 := a1) gs_74 ha1 e2916) cal_X7_parentOf cl_X7 kd_74 ln_74 q_1258 dX11_node_121 rfl rfl (Nat.le_of_ble_eq_true rfl) (Nat.le_of_ble_eq_true rfl) (Nat.le_of_ble_eq_true rfl) (Nat.le_of_ble_eq_true rfl) (Nat.le_of_ble_eq_true rfl) (fun h2914 => ?_)
                exact r_ireturn C hQ rfl dX11_node_124 (fun e => by cases e; exact ⟨h2914, rfl, rfl, rfl, rfl, rfl⟩)
              · refine r_f c2913 ?_
                by_cases c2917 : (a2 = 6)
                · refine r_t c2917 ?_
                  refine r_tswIn (kx := 6) (tgt := 125) C ha2 dX11_node_15 c2917 (by decide) (by decide) rfl (by decide) ?_
                  refine r_aload_n (pc := 125) (j := 0) C dX11_node_125 rfl rfl ?_
                  refine r_getR (j := 7) (r := 74) C cl_X11 kd_0 ln_0 (by decide) rfl r0_0_7 (by decide) q_693 dX11_node_126 ?_
                  refine r_iload_n (pc := 129) (j := 1) C dX11_node_129 rfl rfl ?_
                  refine r_cV1 (pc := 130) (k := 74) (As := [.int (zi a1)]) (st := []) C (m_X7_isThere (p := 74) (a1 := a1) gs_74 ha1 rfl) cal_X7_isThere cl_X7 kd_74 ln_74 q_1262 dX11_node_130 rfl rfl (Nat.le_of_ble_eq_true rfl) (Nat.le_of_ble_eq_true rfl) (Nat.le_of_ble_eq_true rfl) (Nat.le_of_ble_eq_true rfl) (Nat.le_of_ble_eq_true rfl) (fun h2918 => ?_)
                  refine r_if_eq (tgt := 140) C h2918.ir dX11_node_133 (by decide) (fun c2919 => ?_) (fun c2919 => ?_)
                  · refine r_t c2919 ?_
                    refine r_iconst (v := 0) C dX11_node_140 (by decide) ?_
                    exact r_ireturn C hQ rfl dX11_node_141 (fun e => by cases e; exact ⟨(IRd rfl), rfl, rfl, rfl, rfl, rfl⟩)
                  · refine r_f c2919 ?_
                    refine r_iconst (v := 1) C dX11_node_136 (by decide) ?_
                    refine r_goto (tgt := 141) C dX11_node_137 (by decide) ?_
                    exact r_ireturn C hQ rfl dX11_node_141 (fun e => by cases e; exact ⟨(IRd rfl), rfl, rfl, rfl, rfl, rfl⟩)
                · refine r_f c2917 ?_
                  refine r_tswOut (tgt := 142) C ha2 dX11_node_15 (by omega) (by decide) ?_
                  refine r_bipush (v := (-2)) C dX11_node_142 (by decide) ?_
                  exact r_ireturn C hQ rfl dX11_node_144 (fun e => by cases e; exact ⟨(IRd rfl), rfl, rfl, rfl, rfl, rfl⟩)
  · refine r_t c2902 ?_
    refine r_bipush (v := (-2)) C dX11_node_11 (by decide) ?_
    exact r_ireturn C hQ rfl dX11_node_13 (fun e => by cases e; exact ⟨(IRd rfl), rfl, rfl, rfl, rfl, rfl⟩)

def f_X11_change (a1 : Int) (a2 : Int) (a3 : Int) (S : Sst) : Int :=
  if ((f_X7_hasNode 74 a1 S = 0 ∨ a2 < 0) ∨ ¬ a2 < f_X6_at 95 a1 S) then
    ((-2))
  else
    (jn (wr ((wr (a1 * 6)) + a2)) fun (v2925 : Int) =>
    if a3 = 0 then
      (f_X6_at 99 v2925 S)
    else
      (if a3 = 1 then
        (f_X6_at 101 v2925 S)
      else
        (if a3 = 2 then
          (f_X6_at 103 v2925 S)
        else
          ((-2)))))
set_option maxRecDepth 100000 in
set_option maxHeartbeats 4000000 in
theorem m_X11_change {l : Launch} {E : EwT} {S : Sst} {O : Smo} {a1 : Int} (ha1 : IR a1) {a2 : Int} (ha2 : IR a2) {a3 : Int} (ha3 : IR a3) {q : Int} (hq : f_X11_change a1 a2 a3 S = q) : MetG l E yX11_change cX11_change 5 (some .int) 2 41 0 0 n0 R0 S O [.ref (zad E 0), .int (zi a1), .int (zi a2), .int (zi a3)] (IR q) (some (.int (zi q))) n0 R0 S O := by
  refine ofG (L0 := [(0, .ref (zad E 0)), (1, .int (zi a1)), (2, .int (zi a2)), (3, .int (zi a3))]) hq (by decide +kernel) (Nat.le_of_ble_eq_true rfl) rfl (fun K _ C hQ => ?_)
  unfold f_X11_change
  refine r_aload_n (pc := 0) (j := 0) C dX11_change_0 rfl rfl ?_
  refine r_getR (j := 7) (r := 74) C cl_X11 kd_0 ln_0 (by decide) rfl r0_0_7 (by decide) q_693 dX11_change_1 ?_
  refine r_iload_n (pc := 4) (j := 1) C dX11_change_4 rfl rfl ?_
  refine r_cV1 (pc := 5) (k := 74) (As := [.int (zi a1)]) (st := []) C (m_X7_hasNode (p := 74) (a1 := a1) gs_74 ha1 rfl) cal_X7_hasNode cl_X7 kd_74 ln_74 q_1254 dX11_change_5 rfl rfl (Nat.le_of_ble_eq_true rfl) (Nat.le_of_ble_eq_true rfl) (Nat.le_of_ble_eq_true rfl) (Nat.le_of_ble_eq_true rfl) (Nat.le_of_ble_eq_true rfl) (fun h2920 => ?_)
  refine r_cut ((f_X7_hasNode 74 a1 S = 0 ∨ a2 < 0) ∨ ¬ a2 < f_X6_at 95 a1 S) 30 33 [] (fun c2922 => ?_) (fun c2922 => ?_) (fun k2923 k2924 => ?_)
  · refine r_t c2922 ?_
    refine r_bipush (v := (-2)) C dX11_change_30 (by decide) ?_
    exact r_ireturn C hQ rfl dX11_change_32 (fun e => by subst e; exact ⟨(IRd rfl), rfl, rfl, rfl, rfl, rfl⟩)
  · refine r_f c2922 ?_
    refine r_iload_n (pc := 33) (j := 1) C dX11_change_33 rfl rfl ?_
    refine r_bipush (v := 6) C dX11_change_34 (by decide) ?_
    refine r_imul C dX11_change_36 ?_
    refine r_iload_n (pc := 37) (j := 2) C dX11_change_37 rfl rfl ?_
    refine r_iadd C dX11_change_38 ?_
    refine r_jv (IR_wr _) (fun v2925 h2926 => ?_)
    refine r_istore (L' := [(4, .int (zi v2925)), (0, .ref (zad E 0)), (1, .int (zi a1)), (2, .int (zi a2)), (3, .int (zi a3))]) C dX11_change_39 (by decide) rfl ?_
    refine r_iload_n (pc := 41) (j := 4) C dX11_change_41 rfl rfl ?_
    by_cases c2927 : (a3 = 0)
    · refine r_t c2927 ?_
      refine r_tswIn (kx := 0) (tgt := 68) C ha3 dX11_change_42 c2927 (by decide) (by decide) rfl (by decide) ?_
      refine r_aload_n (pc := 68) (j := 1) C dX11_change_68 rfl rfl ?_
      refine r_getR (j := 7) (r := 74) C cl_X11 kd_0 ln_0 (by decide) rfl r0_0_7 (by decide) q_693 dX11_change_69 ?_
      refine r_getR (j := 12) (r := 99) C cl_X7 kd_74 ln_74 (by decide) rfl r0_74_12 (by decide) q_537 dX11_change_72 ?_
      refine r_iload (pc := 75) (j := 0) C dX11_change_75 rfl ?_
      refine r_cV1 (pc := 77) (k := 99) (As := [.int (zi v2925)]) (st := []) C (m_X6_at (p := 99) (a1 := v2925) gw_99 h2926 rfl) cal_X6_at cl_X6 kd_99 ln_99 q_1041 dX11_change_77 rfl rfl (Nat.le_of_ble_eq_true rfl) (Nat.le_of_ble_eq_true rfl) (Nat.le_of_ble_eq_true rfl) (Nat.le_of_ble_eq_true rfl) (Nat.le_of_ble_eq_true rfl) (fun h2928 => ?_)
      exact r_ireturn C hQ rfl dX11_change_80 (fun e => by subst e; exact ⟨h2928, rfl, rfl, rfl, rfl, rfl⟩)
    · refine r_f c2927 ?_
      by_cases c2929 : (a3 = 1)
      · refine r_t c2929 ?_
        refine r_tswIn (kx := 1) (tgt := 81) C ha3 dX11_change_42 c2929 (by decide) (by decide) rfl (by decide) ?_
        refine r_aload_n (pc := 81) (j := 1) C dX11_change_81 rfl rfl ?_
        refine r_getR (j := 7) (r := 74) C cl_X11 kd_0 ln_0 (by decide) rfl r0_0_7 (by decide) q_693 dX11_change_82 ?_
        refine r_getR (j := 13) (r := 101) C cl_X7 kd_74 ln_74 (by decide) rfl r0_74_13 (by decide) q_539 dX11_change_85 ?_
        refine r_iload (pc := 88) (j := 0) C dX11_change_88 rfl ?_
        refine r_cV1 (pc := 90) (k := 101) (As := [.int (zi v2925)]) (st := []) C (m_X6_at (p := 101) (a1 := v2925) gw_101 h2926 rfl) cal_X6_at cl_X6 kd_101 ln_101 q_1041 dX11_change_90 rfl rfl (Nat.le_of_ble_eq_true rfl) (Nat.le_of_ble_eq_true rfl) (Nat.le_of_ble_eq_true rfl) (Nat.le_of_ble_eq_true rfl) (Nat.le_of_ble_eq_true rfl) (fun h2930 => ?_)
        exact r_ireturn C hQ rfl dX11_change_93 (fun e => by subst e; exact ⟨h2930, rfl, rfl, rfl, rfl, rfl⟩)
      · refine r_f c2929 ?_
        by_cases c2931 : (a3 = 2)
        · refine r_t c2931 ?_
          refine r_tswIn (kx := 2) (tgt := 94) C ha3 dX11_change_42 c2931 (by decide) (by decide) rfl (by decide) ?_
          refine r_aload_n (pc := 94) (j := 1) C dX11_change_94 rfl rfl ?_
          refine r_getR (j := 7) (r := 74) C cl_X11 kd_0 ln_0 (by decide) rfl r0_0_7 (by decide) q_693 dX11_change_95 ?_
          refine r_getR (j := 14) (r := 103) C cl_X7 kd_74 ln_74 (by decide) rfl r0_74_14 (by decide) q_541 dX11_change_98 ?_
          refine r_iload (pc := 101) (j := 0) C dX11_change_101 rfl ?_
          refine r_cV1 (pc := 103) (k := 103) (As := [.int (zi v2925)]) (st := []) C (m_X6_at (p := 103) (a1 := v2925) gw_103 h2926 rfl) cal_X6_at cl_X6 kd_103 ln_103 q_1041 dX11_change_103 rfl rfl (Nat.le_of_ble_eq_true rfl) (Nat.le_of_ble_eq_true rfl) (Nat.le_of_ble_eq_true rfl) (Nat.le_of_ble_eq_true rfl) (Nat.le_of_ble_eq_true rfl) (fun h2932 => ?_)
          exact r_ireturn C hQ rfl dX11_change_106 (fun e => by subst e; exact ⟨h2932, rfl, rfl, rfl, rfl, rfl⟩)
        · refine r_f c2931 ?_
          refine r_tswOut (tgt := 107) C ha3 dX11_change_42 (by omega) (by decide) ?_
          refine r_bipush (v := (-2)) C dX11_change_107 (by decide) ?_
          exact r_ireturn C hQ rfl dX11_change_109 (fun e => by subst e; exact ⟨(IRd rfl), rfl, rfl, rfl, rfl, rfl⟩)
  · refine r_if_eq (tgt := 30) C h2920.ir dX11_change_8 (by decide) (fun c2933 => ?_) (fun c2933 => ?_)
    · exact k2923 (Or.inl (Or.inl c2933))
    · refine r_iload_n (pc := 11) (j := 2) C dX11_change_11 rfl rfl ?_
      refine r_if_lt (tgt := 30) C ha2 dX11_change_12 (by decide) (fun c2934 => ?_) (fun c2934 => ?_)
      · exact k2923 (Or.inl (Or.inr c2934))
      · refine r_iload_n (pc := 15) (j := 2) C dX11_change_15 rfl rfl ?_
        refine r_aload_n (pc := 16) (j := 0) C dX11_change_16 rfl rfl ?_
        refine r_getR (j := 7) (r := 74) C cl_X11 kd_0 ln_0 (by decide) rfl r0_0_7 (by decide) q_693 dX11_change_17 ?_
        refine r_getR (j := 10) (r := 95) C cl_X7 kd_74 ln_74 (by decide) rfl r0_74_10 (by decide) q_534 dX11_change_20 ?_
        refine r_iload_n (pc := 23) (j := 1) C dX11_change_23 rfl rfl ?_
        refine r_cV1 (pc := 24) (k := 95) (As := [.int (zi a1)]) (st := [.int (zi a2)]) C (m_X6_at (p := 95) (a1 := a1) gw_95 ha1 rfl) cal_X6_at cl_X6 kd_95 ln_95 q_1041 dX11_change_24 rfl rfl (Nat.le_of_ble_eq_true rfl) (Nat.le_of_ble_eq_true rfl) (Nat.le_of_ble_eq_true rfl) (Nat.le_of_ble_eq_true rfl) (Nat.le_of_ble_eq_true rfl) (fun h2921 => ?_)
        refine r_icmp_lt (tgt := 33) C ha2 h2921 dX11_change_27 (by decide) (fun c2935 => ?_) (fun c2935 => ?_)
        · exact k2924 (fun w => w.elim (fun w => w.elim c2933 c2934) (fun x => x c2935))
        · exact k2923 (Or.inr c2935)

def f_X11_read (a1 : Int) (a2 : Int) (a3 : Int) (S : Sst) : Option (Int) :=
  if ((f_X7_hasNode 74 a1 S = 0 ∨ f_X7_hasStamp 74 a3 S = 0) ∨ a3 < f_X6_at 89 a1 S) then
    (some (-2))
  else
    (if (a2 = 0 ∨ a2 = 1) then
      (Option.bind (f_X7_childOf 74 a1 a2 a3 S) fun (q2946 : Int) =>
      some q2946)
    else
      (some (-2)))
set_option maxRecDepth 100000 in
set_option maxHeartbeats 4000000 in
theorem m_X11_read {l : Launch} {E : EwT} {S : Sst} {O : Smo} {a1 : Int} (ha1 : IR a1) {a2 : Int} (ha2 : IR a2) {a3 : Int} (ha3 : IR a3) {q : Int} (hq : f_X11_read a1 a2 a3 S = some q) : MetG l E yX11_read cX11_read 4 (some .int) 2 46 0 0 n0 R0 S O [.ref (zad E 0), .int (zi a1), .int (zi a2), .int (zi a3)] (IR q) (some (.int (zi q))) n0 R0 S O := by
  refine ofG (L0 := [(0, .ref (zad E 0)), (1, .int (zi a1)), (2, .int (zi a2)), (3, .int (zi a3))]) hq (by decide +kernel) (Nat.le_of_ble_eq_true rfl) rfl (fun K _ C hQ => ?_)
  unfold f_X11_read
  refine r_aload_n (pc := 0) (j := 0) C dX11_read_0 rfl rfl ?_
  refine r_getR (j := 7) (r := 74) C cl_X11 kd_0 ln_0 (by decide) rfl r0_0_7 (by decide) q_693 dX11_read_1 ?_
  refine r_iload_n (pc := 4) (j := 1) C dX11_read_4 rfl rfl ?_
  refine r_cV1 (pc := 5) (k := 74) (As := [.int (zi a1)]) (st := []) C (m_X7_hasNode (p := 74) (a1 := a1) gs_74 ha1 rfl) cal_X7_hasNode cl_X7 kd_74 ln_74 q_1254 dX11_read_5 rfl rfl (Nat.le_of_ble_eq_true rfl) (Nat.le_of_ble_eq_true rfl) (Nat.le_of_ble_eq_true rfl) (Nat.le_of_ble_eq_true rfl) (Nat.le_of_ble_eq_true rfl) (fun h2936 => ?_)
  refine r_cut ((f_X7_hasNode 74 a1 S = 0 ∨ f_X7_hasStamp 74 a3 S = 0) ∨ a3 < f_X6_at 89 a1 S) 37 40 [] (fun c2939 => ?_) (fun c2939 => ?_) (fun k2940 k2941 => ?_)
  · refine r_t c2939 ?_
    refine r_bipush (v := (-2)) C dX11_read_37 (by decide) ?_
    exact r_ireturn C hQ rfl dX11_read_39 (fun e => by cases e; exact ⟨(IRd rfl), rfl, rfl, rfl, rfl, rfl⟩)
  · refine r_f c2939 ?_
    refine r_iload_n (pc := 40) (j := 2) C dX11_read_40 rfl rfl ?_
    refine r_cut (a2 = 0 ∨ a2 = 1) 52 49 [] (fun c2942 => ?_) (fun c2942 => ?_) (fun k2943 k2944 => ?_)
    · refine r_t c2942 ?_
      refine r_aload_n (pc := 52) (j := 0) C dX11_read_52 rfl rfl ?_
      refine r_getR (j := 7) (r := 74) C cl_X11 kd_0 ln_0 (by decide) rfl r0_0_7 (by decide) q_693 dX11_read_53 ?_
      refine r_iload_n (pc := 56) (j := 1) C dX11_read_56 rfl rfl ?_
      refine r_iload_n (pc := 57) (j := 2) C dX11_read_57 rfl rfl ?_
      refine r_iload_n (pc := 58) (j := 3) C dX11_read_58 rfl rfl ?_
      refine r_bd (fun q2946 e2947 => ?_)
      refine r_cV1 (pc := 59) (k := 74) (As := [.int (zi a1), .int (zi a2), .int (zi a3)]) (st := []) C (m_X7_childOf (p := 74) (a1 := a1) (a2 := a2) (a3 := a3) gs_74 ha1 ha2 ha3 e2947) cal_X7_childOf cl_X7 kd_74 ln_74 q_1275 dX11_read_59 rfl rfl (Nat.le_of_ble_eq_true rfl) (Nat.le_of_ble_eq_true rfl) (Nat.le_of_ble_eq_true rfl) (Nat.le_of_ble_eq_true rfl) (Nat.le_of_ble_eq_true rfl) (fun h2945 => ?_)
      exact r_ireturn C hQ rfl dX11_read_62 (fun e => by cases e; exact ⟨h2945, rfl, rfl, rfl, rfl, rfl⟩)
    · refine r_f c2942 ?_
      refine r_bipush (v := (-2)) C dX11_read_49 (by decide) ?_
      exact r_ireturn C hQ rfl dX11_read_51 (fun e => by cases e; exact ⟨(IRd rfl), rfl, rfl, rfl, rfl, rfl⟩)
    · refine r_if_eq (tgt := 52) C ha2 dX11_read_41 (by decide) (fun c2948 => ?_) (fun c2948 => ?_)
      · exact k2943 (Or.inl c2948)
      · refine r_iload_n (pc := 44) (j := 2) C dX11_read_44 rfl rfl ?_
        refine r_iconst (v := 1) C dX11_read_45 (by decide) ?_
        refine r_icmp_eq (tgt := 52) C ha2 (IRd rfl) dX11_read_46 (by decide) (fun c2949 => ?_) (fun c2949 => ?_)
        · exact k2943 (Or.inr c2949)
        · exact k2944 (fun w => w.elim c2948 c2949)
  · refine r_if_eq (tgt := 37) C h2936.ir dX11_read_8 (by decide) (fun c2950 => ?_) (fun c2950 => ?_)
    · exact k2940 (Or.inl (Or.inl c2950))
    · refine r_aload_n (pc := 11) (j := 0) C dX11_read_11 rfl rfl ?_
      refine r_getR (j := 7) (r := 74) C cl_X11 kd_0 ln_0 (by decide) rfl r0_0_7 (by decide) q_693 dX11_read_12 ?_
      refine r_iload_n (pc := 15) (j := 3) C dX11_read_15 rfl rfl ?_
      refine r_cV1 (pc := 16) (k := 74) (As := [.int (zi a3)]) (st := []) C (m_X7_hasStamp (p := 74) (a1 := a3) gs_74 ha3 rfl) cal_X7_hasStamp cl_X7 kd_74 ln_74 q_1241 dX11_read_16 rfl rfl (Nat.le_of_ble_eq_true rfl) (Nat.le_of_ble_eq_true rfl) (Nat.le_of_ble_eq_true rfl) (Nat.le_of_ble_eq_true rfl) (Nat.le_of_ble_eq_true rfl) (fun h2937 => ?_)
      refine r_if_eq (tgt := 37) C h2937.ir dX11_read_19 (by decide) (fun c2951 => ?_) (fun c2951 => ?_)
      · exact k2940 (Or.inl (Or.inr c2951))
      · refine r_iload_n (pc := 22) (j := 3) C dX11_read_22 rfl rfl ?_
        refine r_aload_n (pc := 23) (j := 0) C dX11_read_23 rfl rfl ?_
        refine r_getR (j := 7) (r := 74) C cl_X11 kd_0 ln_0 (by decide) rfl r0_0_7 (by decide) q_693 dX11_read_24 ?_
        refine r_getR (j := 7) (r := 89) C cl_X7 kd_74 ln_74 (by decide) rfl r0_74_7 (by decide) q_528 dX11_read_27 ?_
        refine r_iload_n (pc := 30) (j := 1) C dX11_read_30 rfl rfl ?_
        refine r_cV1 (pc := 31) (k := 89) (As := [.int (zi a1)]) (st := [.int (zi a3)]) C (m_X6_at (p := 89) (a1 := a1) gw_89 ha1 rfl) cal_X6_at cl_X6 kd_89 ln_89 q_1041 dX11_read_31 rfl rfl (Nat.le_of_ble_eq_true rfl) (Nat.le_of_ble_eq_true rfl) (Nat.le_of_ble_eq_true rfl) (Nat.le_of_ble_eq_true rfl) (Nat.le_of_ble_eq_true rfl) (fun h2938 => ?_)
        refine r_icmp_ge (tgt := 40) C ha3 h2938 dX11_read_34 (by decide) (fun c2952 => ?_) (fun c2952 => ?_)
        · exact k2941 (fun w => w.elim (fun w => w.elim c2950 c2951) c2952)
        · exact k2940 (Or.inr c2952)

def f_X11_row (a1 : Int) (S : Sst) : Option (Int × Sst) :=
  jn (f_X6_clear 3 S) fun (q2954 : Sst) =>
  if f_X7_hasStamp 74 a1 q2954 = 0 then
    (some ((-1), q2954))
  else
    (Option.bind (f_X8_show a1 q2954) fun (q2959 : Sst) =>
    jn (f_X6_takeFrom 3 60 q2959) fun (q2962 : Sst) =>
    some (f_X6_size 3 q2962, q2962))
set_option maxRecDepth 100000 in
set_option maxHeartbeats 4000000 in
theorem m_X11_row {l : Launch} {E : EwT} {S : Sst} {O : Smo} {a1 : Int} (ha1 : IR a1) {q : Int × Sst} (hq : f_X11_row a1 S = some q) : MetG l E yX11_row cX11_row 2 (some .int) 5 111 0 0 n0 R0 S O [.ref (zad E 0), .int (zi a1)] (IR q.1) (some (.int (zi q.1))) n0 R0 q.2 O := by
  refine ofG (L0 := [(0, .ref (zad E 0)), (1, .int (zi a1))]) hq (by decide +kernel) (Nat.le_of_ble_eq_true rfl) rfl (fun K _ C hQ => ?_)
  unfold f_X11_row
  refine r_aload_n (pc := 0) (j := 0) C dX11_row_0 rfl rfl ?_
  refine r_getR (j := 1) (r := 3) C cl_X11 kd_0 ln_0 (by decide) rfl r0_0_1 (by decide) q_687 dX11_row_1 ?_
  refine r_jn (fun q2954 e2955 => ?_)
  refine r_cV0 (pc := 4) (k := 3) (As := []) (st := []) C (m_X6_clear (p := 3) gw_3 e2955) cal_X6_clear cl_X6 kd_3 ln_3 q_1005 dX11_row_4 rfl rfl (Nat.le_of_ble_eq_true rfl) (Nat.le_of_ble_eq_true rfl) (Nat.le_of_ble_eq_true rfl) (Nat.le_of_ble_eq_true rfl) (Nat.le_of_ble_eq_true rfl) (fun h2953 => ?_)
  refine r_aload_n (pc := 7) (j := 0) C dX11_row_7 rfl rfl ?_
  refine r_getR (j := 7) (r := 74) C cl_X11 kd_0 ln_0 (by decide) rfl r0_0_7 (by decide) q_693 dX11_row_8 ?_
  refine r_iload_n (pc := 11) (j := 1) C dX11_row_11 rfl rfl ?_
  refine r_cV1 (pc := 12) (k := 74) (As := [.int (zi a1)]) (st := []) C (m_X7_hasStamp (p := 74) (a1 := a1) gs_74 ha1 rfl) cal_X7_hasStamp cl_X7 kd_74 ln_74 q_1241 dX11_row_12 rfl rfl (Nat.le_of_ble_eq_true rfl) (Nat.le_of_ble_eq_true rfl) (Nat.le_of_ble_eq_true rfl) (Nat.le_of_ble_eq_true rfl) (Nat.le_of_ble_eq_true rfl) (fun h2956 => ?_)
  refine r_if_ne (tgt := 20) C h2956.ir dX11_row_15 (by decide) (fun c2957 => ?_) (fun c2957 => ?_)
  · refine r_f c2957 ?_
    refine r_aload_n (pc := 20) (j := 0) C dX11_row_20 rfl rfl ?_
    refine r_getR (j := 13) (r := 242) C cl_X11 kd_0 ln_0 (by decide) rfl r0_0_13 (by decide) q_699 dX11_row_21 ?_
    refine r_iload_n (pc := 24) (j := 1) C dX11_row_24 rfl rfl ?_
    refine r_bd (fun q2959 e2960 => ?_)
    refine r_cV0 (pc := 25) (k := 242) (As := [.int (zi a1)]) (st := []) C (m_X8_show (a1 := a1) ha1 e2960) cal_X8_show cl_X8 kd_242 ln_242 q_1245 dX11_row_25 rfl rfl (Nat.le_of_ble_eq_true rfl) (Nat.le_of_ble_eq_true rfl) (Nat.le_of_ble_eq_true rfl) (Nat.le_of_ble_eq_true rfl) (Nat.le_of_ble_eq_true rfl) (fun h2958 => ?_)
    refine r_aload_n (pc := 28) (j := 0) C dX11_row_28 rfl rfl ?_
    refine r_getR (j := 1) (r := 3) C cl_X11 kd_0 ln_0 (by decide) rfl r0_0_1 (by decide) q_687 dX11_row_29 ?_
    refine r_aload_n (pc := 32) (j := 0) C dX11_row_32 rfl rfl ?_
    refine r_getR (j := 6) (r := 59) C cl_X11 kd_0 ln_0 (by decide) rfl r0_0_6 (by decide) q_692 dX11_row_33 ?_
    refine r_getR (j := 0) (r := 60) C cl_X10 kd_59 ln_59 (by decide) rfl r0_59_0 (by decide) q_433 dX11_row_36 ?_
    refine r_jn (fun q2962 e2963 => ?_)
    refine r_cV0 (pc := 39) (k := 3) (As := [.ref (zad E 60)]) (st := []) C (m_X6_takeFrom (p := 3) (o1 := 60) gw_3 gw_60 e2963) cal_X6_takeFrom cl_X6 kd_3 ln_3 q_1280 dX11_row_39 rfl rfl (Nat.le_of_ble_eq_true rfl) (Nat.le_of_ble_eq_true rfl) (Nat.le_of_ble_eq_true rfl) (Nat.le_of_ble_eq_true rfl) (Nat.le_of_ble_eq_true rfl) (fun h2961 => ?_)
    refine r_aload_n (pc := 42) (j := 0) C dX11_row_42 rfl rfl ?_
    refine r_getR (j := 1) (r := 3) C cl_X11 kd_0 ln_0 (by decide) rfl r0_0_1 (by decide) q_687 dX11_row_43 ?_
    refine r_cV1 (pc := 46) (k := 3) (As := []) (st := []) C (m_X6_size (p := 3) gw_3 rfl) cal_X6_size cl_X6 kd_3 ln_3 q_736 dX11_row_46 rfl rfl (Nat.le_of_ble_eq_true rfl) (Nat.le_of_ble_eq_true rfl) (Nat.le_of_ble_eq_true rfl) (Nat.le_of_ble_eq_true rfl) (Nat.le_of_ble_eq_true rfl) (fun h2964 => ?_)
    exact r_ireturn C hQ rfl dX11_row_49 (fun e => by cases e; exact ⟨h2964, rfl, rfl, rfl, rfl, rfl⟩)
  · refine r_t c2957 ?_
    refine r_iconst (v := (-1)) C dX11_row_18 (by decide) ?_
    exact r_ireturn C hQ rfl dX11_row_19 (fun e => by cases e; exact ⟨(IRd rfl), rfl, rfl, rfl, rfl, rfl⟩)

def f_X11_shape (a1 : Int) (S : Sst) : Option (Int × Sst) :=
  jn (f_X6_clear 3 S) fun (q2966 : Sst) =>
  if f_X7_hasStamp 74 a1 q2966 = 0 then
    (some ((-1), q2966))
  else
    (Option.bind (f_X8_show a1 q2966) fun (q2971 : Sst) =>
    jn (f_X6_takeFrom 3 66 q2971) fun (q2974 : Sst) =>
    some (q2974.2 59 6, q2974))
set_option maxRecDepth 100000 in
set_option maxHeartbeats 4000000 in
theorem m_X11_shape {l : Launch} {E : EwT} {S : Sst} {O : Smo} {a1 : Int} (ha1 : IR a1) {q : Int × Sst} (hq : f_X11_shape a1 S = some q) : MetG l E yX11_shape cX11_shape 2 (some .int) 5 111 0 0 n0 R0 S O [.ref (zad E 0), .int (zi a1)] (IR q.1) (some (.int (zi q.1))) n0 R0 q.2 O := by
  refine ofG (L0 := [(0, .ref (zad E 0)), (1, .int (zi a1))]) hq (by decide +kernel) (Nat.le_of_ble_eq_true rfl) rfl (fun K _ C hQ => ?_)
  unfold f_X11_shape
  refine r_aload_n (pc := 0) (j := 0) C dX11_shape_0 rfl rfl ?_
  refine r_getR (j := 1) (r := 3) C cl_X11 kd_0 ln_0 (by decide) rfl r0_0_1 (by decide) q_687 dX11_shape_1 ?_
  refine r_jn (fun q2966 e2967 => ?_)
  refine r_cV0 (pc := 4) (k := 3) (As := []) (st := []) C (m_X6_clear (p := 3) gw_3 e2967) cal_X6_clear cl_X6 kd_3 ln_3 q_1005 dX11_shape_4 rfl rfl (Nat.le_of_ble_eq_true rfl) (Nat.le_of_ble_eq_true rfl) (Nat.le_of_ble_eq_true rfl) (Nat.le_of_ble_eq_true rfl) (Nat.le_of_ble_eq_true rfl) (fun h2965 => ?_)
  refine r_aload_n (pc := 7) (j := 0) C dX11_shape_7 rfl rfl ?_
  refine r_getR (j := 7) (r := 74) C cl_X11 kd_0 ln_0 (by decide) rfl r0_0_7 (by decide) q_693 dX11_shape_8 ?_
  refine r_iload_n (pc := 11) (j := 1) C dX11_shape_11 rfl rfl ?_
  refine r_cV1 (pc := 12) (k := 74) (As := [.int (zi a1)]) (st := []) C (m_X7_hasStamp (p := 74) (a1 := a1) gs_74 ha1 rfl) cal_X7_hasStamp cl_X7 kd_74 ln_74 q_1241 dX11_shape_12 rfl rfl (Nat.le_of_ble_eq_true rfl) (Nat.le_of_ble_eq_true rfl) (Nat.le_of_ble_eq_true rfl) (Nat.le_of_ble_eq_true rfl) (Nat.le_of_ble_eq_true rfl) (fun h2968 => ?_)
  refine r_if_ne (tgt := 20) C h2968.ir dX11_shape_15 (by decide) (fun c2969 => ?_) (fun c2969 => ?_)
  · refine r_f c2969 ?_
    refine r_aload_n (pc := 20) (j := 0) C dX11_shape_20 rfl rfl ?_
    refine r_getR (j := 13) (r := 242) C cl_X11 kd_0 ln_0 (by decide) rfl r0_0_13 (by decide) q_699 dX11_shape_21 ?_
    refine r_iload_n (pc := 24) (j := 1) C dX11_shape_24 rfl rfl ?_
    refine r_bd (fun q2971 e2972 => ?_)
    refine r_cV0 (pc := 25) (k := 242) (As := [.int (zi a1)]) (st := []) C (m_X8_show (a1 := a1) ha1 e2972) cal_X8_show cl_X8 kd_242 ln_242 q_1245 dX11_shape_25 rfl rfl (Nat.le_of_ble_eq_true rfl) (Nat.le_of_ble_eq_true rfl) (Nat.le_of_ble_eq_true rfl) (Nat.le_of_ble_eq_true rfl) (Nat.le_of_ble_eq_true rfl) (fun h2970 => ?_)
    refine r_aload_n (pc := 28) (j := 0) C dX11_shape_28 rfl rfl ?_
    refine r_getR (j := 1) (r := 3) C cl_X11 kd_0 ln_0 (by decide) rfl r0_0_1 (by decide) q_687 dX11_shape_29 ?_
    refine r_aload_n (pc := 32) (j := 0) C dX11_shape_32 rfl rfl ?_
    refine r_getR (j := 6) (r := 59) C cl_X11 kd_0 ln_0 (by decide) rfl r0_0_6 (by decide) q_692 dX11_shape_33 ?_
    refine r_getR (j := 3) (r := 66) C cl_X10 kd_59 ln_59 (by decide) rfl r0_59_3 (by decide) q_441 dX11_shape_36 ?_
    refine r_jn (fun q2974 e2975 => ?_)
    refine r_cV0 (pc := 39) (k := 3) (As := [.ref (zad E 66)]) (st := []) C (m_X6_takeFrom (p := 3) (o1 := 66) gw_3 gw_66 e2975) cal_X6_takeFrom cl_X6 kd_3 ln_3 q_1280 dX11_shape_39 rfl rfl (Nat.le_of_ble_eq_true rfl) (Nat.le_of_ble_eq_true rfl) (Nat.le_of_ble_eq_true rfl) (Nat.le_of_ble_eq_true rfl) (Nat.le_of_ble_eq_true rfl) (fun h2973 => ?_)
    refine r_aload_n (pc := 42) (j := 0) C dX11_shape_42 rfl rfl ?_
    refine r_getR (j := 6) (r := 59) C cl_X11 kd_0 ln_0 (by decide) rfl r0_0_6 (by decide) q_692 dX11_shape_43 ?_
    refine r_getS (j := 6) C cl_X10 kd_59 ln_59 lc_59 (by decide) (by decide) rfl q_448 dX11_shape_46 (fun h2976 => ?_)
    exact r_ireturn C hQ rfl dX11_shape_49 (fun e => by cases e; exact ⟨h2976, rfl, rfl, rfl, rfl, rfl⟩)
  · refine r_t c2969 ?_
    refine r_iconst (v := (-1)) C dX11_shape_18 (by decide) ?_
    exact r_ireturn C hQ rfl dX11_shape_19 (fun e => by cases e; exact ⟨(IRd rfl), rfl, rfl, rfl, rfl, rfl⟩)

def f_X11_lies (a1 : Int) (S : Sst) : Int :=
  if (a1 < 0 ∨ ¬ a1 < f_X6_size 3 S) then
    ((-2))
  else
    (f_X6_at 3 a1 S)
set_option maxRecDepth 100000 in
set_option maxHeartbeats 4000000 in
theorem m_X11_lies {l : Launch} {E : EwT} {S : Sst} {O : Smo} {a1 : Int} (ha1 : IR a1) {q : Int} (hq : f_X11_lies a1 S = q) : MetG l E yX11_lies cX11_lies 2 (some .int) 1 21 0 0 n0 R0 S O [.ref (zad E 0), .int (zi a1)] (IR q) (some (.int (zi q))) n0 R0 S O := by
  refine ofG (L0 := [(0, .ref (zad E 0)), (1, .int (zi a1))]) hq (by decide +kernel) (Nat.le_of_ble_eq_true rfl) rfl (fun K _ C hQ => ?_)
  unfold f_X11_lies
  refine r_iload_n (pc := 0) (j := 1) C dX11_lies_0 rfl rfl ?_
  refine r_cut (a1 < 0 ∨ ¬ a1 < f_X6_size 3 S) 26 15 [] (fun c2978 => ?_) (fun c2978 => ?_) (fun k2979 k2980 => ?_)
  · refine r_t c2978 ?_
    refine r_bipush (v := (-2)) C dX11_lies_26 (by decide) ?_
    exact r_ireturn C hQ rfl dX11_lies_28 (fun e => by subst e; exact ⟨(IRd rfl), rfl, rfl, rfl, rfl, rfl⟩)
  · refine r_f c2978 ?_
    refine r_aload_n (pc := 15) (j := 0) C dX11_lies_15 rfl rfl ?_
    refine r_getR (j := 1) (r := 3) C cl_X11 kd_0 ln_0 (by decide) rfl r0_0_1 (by decide) q_687 dX11_lies_16 ?_
    refine r_iload_n (pc := 19) (j := 1) C dX11_lies_19 rfl rfl ?_
    refine r_cV1 (pc := 20) (k := 3) (As := [.int (zi a1)]) (st := []) C (m_X6_at (p := 3) (a1 := a1) gw_3 ha1 rfl) cal_X6_at cl_X6 kd_3 ln_3 q_1041 dX11_lies_20 rfl rfl (Nat.le_of_ble_eq_true rfl) (Nat.le_of_ble_eq_true rfl) (Nat.le_of_ble_eq_true rfl) (Nat.le_of_ble_eq_true rfl) (Nat.le_of_ble_eq_true rfl) (fun h2981 => ?_)
    refine r_goto (tgt := 28) C dX11_lies_23 (by decide) ?_
    exact r_ireturn C hQ rfl dX11_lies_28 (fun e => by subst e; exact ⟨h2981, rfl, rfl, rfl, rfl, rfl⟩)
  · refine r_if_lt (tgt := 26) C ha1 dX11_lies_1 (by decide) (fun c2982 => ?_) (fun c2982 => ?_)
    · exact k2979 (Or.inl c2982)
    · refine r_iload_n (pc := 4) (j := 1) C dX11_lies_4 rfl rfl ?_
      refine r_aload_n (pc := 5) (j := 0) C dX11_lies_5 rfl rfl ?_
      refine r_getR (j := 1) (r := 3) C cl_X11 kd_0 ln_0 (by decide) rfl r0_0_1 (by decide) q_687 dX11_lies_6 ?_
      refine r_cV1 (pc := 9) (k := 3) (As := []) (st := [.int (zi a1)]) C (m_X6_size (p := 3) gw_3 rfl) cal_X6_size cl_X6 kd_3 ln_3 q_736 dX11_lies_9 rfl rfl (Nat.le_of_ble_eq_true rfl) (Nat.le_of_ble_eq_true rfl) (Nat.le_of_ble_eq_true rfl) (Nat.le_of_ble_eq_true rfl) (Nat.le_of_ble_eq_true rfl) (fun h2977 => ?_)
      refine r_icmp_ge (tgt := 26) C ha1 h2977 dX11_lies_12 (by decide) (fun c2983 => ?_) (fun c2983 => ?_)
      · exact k2979 (Or.inr c2983)
      · exact k2980 (fun w => w.elim c2982 (fun x => x c2983))

def f_X11_below (a1 : Int) (a2 : Int) (S : Sst) : Option (Int × Sst) :=
  Option.bind (f_X8_find a1 a2 S) fun (q3077 : Int × Sst) =>
  if q3077.1 = 0 then
    (some ((-2), q3077.2))
  else
    (some (f_X8_foundBelow q3077.2, q3077.2))
set_option maxRecDepth 100000 in
set_option maxHeartbeats 4000000 in
theorem m_X11_below {l : Launch} {E : EwT} {S : Sst} {O : Smo} {a1 : Int} (ha1 : IR a1) {a2 : Int} (ha2 : IR a2) {q : Int × Sst} (hq : f_X11_below a1 a2 S = some q) : MetG l E yX11_below cX11_below 3 (some .int) 6 134 0 0 n0 R0 S O [.ref (zad E 0), .int (zi a1), .int (zi a2)] (IR q.1) (some (.int (zi q.1))) n0 R0 q.2 O := by
  refine ofG (L0 := [(0, .ref (zad E 0)), (1, .int (zi a1)), (2, .int (zi a2))]) hq (by decide +kernel) (Nat.le_of_ble_eq_true rfl) rfl (fun K _ C hQ => ?_)
  unfold f_X11_below
  refine r_aload_n (pc := 0) (j := 0) C dX11_below_0 rfl rfl ?_
  refine r_getR (j := 13) (r := 242) C cl_X11 kd_0 ln_0 (by decide) rfl r0_0_13 (by decide) q_699 dX11_below_1 ?_
  refine r_iload_n (pc := 4) (j := 1) C dX11_below_4 rfl rfl ?_
  refine r_iload_n (pc := 5) (j := 2) C dX11_below_5 rfl rfl ?_
  refine r_bd (fun q3077 e3078 => ?_)
  refine r_cV1 (pc := 6) (k := 242) (As := [.int (zi a1), .int (zi a2)]) (st := []) C (m_X8_find (a1 := a1) (a2 := a2) ha1 ha2 e3078) cal_X8_find cl_X8 kd_242 ln_242 q_1293 dX11_below_6 rfl rfl (Nat.le_of_ble_eq_true rfl) (Nat.le_of_ble_eq_true rfl) (Nat.le_of_ble_eq_true rfl) (Nat.le_of_ble_eq_true rfl) (Nat.le_of_ble_eq_true rfl) (fun h3076 => ?_)
  refine r_if_eq (tgt := 22) C h3076.ir dX11_below_9 (by decide) (fun c3079 => ?_) (fun c3079 => ?_)
  · refine r_t c3079 ?_
    refine r_bipush (v := (-2)) C dX11_below_22 (by decide) ?_
    exact r_ireturn C hQ rfl dX11_below_24 (fun e => by cases e; exact ⟨(IRd rfl), rfl, rfl, rfl, rfl, rfl⟩)
  · refine r_f c3079 ?_
    refine r_aload_n (pc := 12) (j := 0) C dX11_below_12 rfl rfl ?_
    refine r_getR (j := 13) (r := 242) C cl_X11 kd_0 ln_0 (by decide) rfl r0_0_13 (by decide) q_699 dX11_below_13 ?_
    refine r_cV1 (pc := 16) (k := 242) (As := []) (st := []) C (m_X8_foundBelow  rfl) cal_X8_foundBelow cl_X8 kd_242 ln_242 q_1313 dX11_below_16 rfl rfl (Nat.le_of_ble_eq_true rfl) (Nat.le_of_ble_eq_true rfl) (Nat.le_of_ble_eq_true rfl) (Nat.le_of_ble_eq_true rfl) (Nat.le_of_ble_eq_true rfl) (fun h3080 => ?_)
    refine r_goto (tgt := 24) C dX11_below_19 (by decide) ?_
    exact r_ireturn C hQ rfl dX11_below_24 (fun e => by cases e; exact ⟨h3080, rfl, rfl, rfl, rfl, rfl⟩)

def f_X11_above (a1 : Int) (a2 : Int) (S : Sst) : Option (Int × Sst) :=
  Option.bind (f_X8_find a1 a2 S) fun (q3085 : Int × Sst) =>
  if q3085.1 = 0 then
    (some ((-2), q3085.2))
  else
    (some (f_X8_foundAbove q3085.2, q3085.2))
set_option maxRecDepth 100000 in
set_option maxHeartbeats 4000000 in
theorem m_X11_above {l : Launch} {E : EwT} {S : Sst} {O : Smo} {a1 : Int} (ha1 : IR a1) {a2 : Int} (ha2 : IR a2) {q : Int × Sst} (hq : f_X11_above a1 a2 S = some q) : MetG l E yX11_above cX11_above 3 (some .int) 6 134 0 0 n0 R0 S O [.ref (zad E 0), .int (zi a1), .int (zi a2)] (IR q.1) (some (.int (zi q.1))) n0 R0 q.2 O := by
  refine ofG (L0 := [(0, .ref (zad E 0)), (1, .int (zi a1)), (2, .int (zi a2))]) hq (by decide +kernel) (Nat.le_of_ble_eq_true rfl) rfl (fun K _ C hQ => ?_)
  unfold f_X11_above
  refine r_aload_n (pc := 0) (j := 0) C dX11_above_0 rfl rfl ?_
  refine r_getR (j := 13) (r := 242) C cl_X11 kd_0 ln_0 (by decide) rfl r0_0_13 (by decide) q_699 dX11_above_1 ?_
  refine r_iload_n (pc := 4) (j := 1) C dX11_above_4 rfl rfl ?_
  refine r_iload_n (pc := 5) (j := 2) C dX11_above_5 rfl rfl ?_
  refine r_bd (fun q3085 e3086 => ?_)
  refine r_cV1 (pc := 6) (k := 242) (As := [.int (zi a1), .int (zi a2)]) (st := []) C (m_X8_find (a1 := a1) (a2 := a2) ha1 ha2 e3086) cal_X8_find cl_X8 kd_242 ln_242 q_1293 dX11_above_6 rfl rfl (Nat.le_of_ble_eq_true rfl) (Nat.le_of_ble_eq_true rfl) (Nat.le_of_ble_eq_true rfl) (Nat.le_of_ble_eq_true rfl) (Nat.le_of_ble_eq_true rfl) (fun h3084 => ?_)
  refine r_if_eq (tgt := 22) C h3084.ir dX11_above_9 (by decide) (fun c3087 => ?_) (fun c3087 => ?_)
  · refine r_t c3087 ?_
    refine r_bipush (v := (-2)) C dX11_above_22 (by decide) ?_
    exact r_ireturn C hQ rfl dX11_above_24 (fun e => by cases e; exact ⟨(IRd rfl), rfl, rfl, rfl, rfl, rfl⟩)
  · refine r_f c3087 ?_
    refine r_aload_n (pc := 12) (j := 0) C dX11_above_12 rfl rfl ?_
    refine r_getR (j := 13) (r := 242) C cl_X11 kd_0 ln_0 (by decide) rfl r0_0_13 (by decide) q_699 dX11_above_13 ?_
    refine r_cV1 (pc := 16) (k := 242) (As := []) (st := []) C (m_X8_foundAbove  rfl) cal_X8_foundAbove cl_X8 kd_242 ln_242 q_1321 dX11_above_16 rfl rfl (Nat.le_of_ble_eq_true rfl) (Nat.le_of_ble_eq_true rfl) (Nat.le_of_ble_eq_true rfl) (Nat.le_of_ble_eq_true rfl) (Nat.le_of_ble_eq_true rfl) (fun h3088 => ?_)
    refine r_goto (tgt := 24) C dX11_above_19 (by decide) ?_
    exact r_ireturn C hQ rfl dX11_above_24 (fun e => by cases e; exact ⟨h3088, rfl, rfl, rfl, rfl, rfl⟩)

def f_X11_on (a1 : Int) (a2 : Int) (S : Sst) : Option (Int × Sst) :=
  Option.bind (f_X8_find a1 a2 S) fun (q3090 : Int × Sst) =>
  if q3090.1 = 0 then
    (some ((-2), q3090.2))
  else
    (jn (f_X8_foundBelow q3090.2) fun (v3094 : Int) =>
    if (v3094 = (-1) ∨ ¬ f_X4_aheadOf 29 v3094 a1 a2 q3090.2 = 0) then
      (some (0, q3090.2))
    else
      (some (1, q3090.2)))
set_option maxRecDepth 100000 in
set_option maxHeartbeats 4000000 in
theorem m_X11_on {l : Launch} {E : EwT} {S : Sst} {O : Smo} {a1 : Int} (ha1 : IR a1) {a2 : Int} (ha2 : IR a2) {q : Int × Sst} (hq : f_X11_on a1 a2 S = some q) : MetG l E yX11_on cX11_on 4 (some .int) 6 134 0 0 n0 R0 S O [.ref (zad E 0), .int (zi a1), .int (zi a2)] (IR q.1) (some (.int (zi q.1))) n0 R0 q.2 O := by
  refine ofG (L0 := [(0, .ref (zad E 0)), (1, .int (zi a1)), (2, .int (zi a2))]) hq (by decide +kernel) (Nat.le_of_ble_eq_true rfl) rfl (fun K _ C hQ => ?_)
  unfold f_X11_on
  refine r_aload_n (pc := 0) (j := 0) C dX11_on_0 rfl rfl ?_
  refine r_getR (j := 13) (r := 242) C cl_X11 kd_0 ln_0 (by decide) rfl r0_0_13 (by decide) q_699 dX11_on_1 ?_
  refine r_iload_n (pc := 4) (j := 1) C dX11_on_4 rfl rfl ?_
  refine r_iload_n (pc := 5) (j := 2) C dX11_on_5 rfl rfl ?_
  refine r_bd (fun q3090 e3091 => ?_)
  refine r_cV1 (pc := 6) (k := 242) (As := [.int (zi a1), .int (zi a2)]) (st := []) C (m_X8_find (a1 := a1) (a2 := a2) ha1 ha2 e3091) cal_X8_find cl_X8 kd_242 ln_242 q_1293 dX11_on_6 rfl rfl (Nat.le_of_ble_eq_true rfl) (Nat.le_of_ble_eq_true rfl) (Nat.le_of_ble_eq_true rfl) (Nat.le_of_ble_eq_true rfl) (Nat.le_of_ble_eq_true rfl) (fun h3089 => ?_)
  refine r_if_ne (tgt := 15) C h3089.ir dX11_on_9 (by decide) (fun c3092 => ?_) (fun c3092 => ?_)
  · refine r_f c3092 ?_
    refine r_aload_n (pc := 15) (j := 0) C dX11_on_15 rfl rfl ?_
    refine r_getR (j := 13) (r := 242) C cl_X11 kd_0 ln_0 (by decide) rfl r0_0_13 (by decide) q_699 dX11_on_16 ?_
    refine r_cV1 (pc := 19) (k := 242) (As := []) (st := []) C (m_X8_foundBelow  rfl) cal_X8_foundBelow cl_X8 kd_242 ln_242 q_1313 dX11_on_19 rfl rfl (Nat.le_of_ble_eq_true rfl) (Nat.le_of_ble_eq_true rfl) (Nat.le_of_ble_eq_true rfl) (Nat.le_of_ble_eq_true rfl) (Nat.le_of_ble_eq_true rfl) (fun h3093 => ?_)
    refine r_jv h3093 (fun v3094 h3095 => ?_)
    refine r_istore_n (L' := [(3, .int (zi v3094)), (0, .ref (zad E 0)), (1, .int (zi a1)), (2, .int (zi a2))]) C dX11_on_22 rfl (by decide) rfl ?_
    refine r_iload_n (pc := 23) (j := 0) C dX11_on_23 rfl rfl ?_
    refine r_iconst (v := (-1)) C dX11_on_24 (by decide) ?_
    refine r_cut (v3094 = (-1) ∨ ¬ f_X4_aheadOf 29 v3094 a1 a2 q3090.2 = 0) 45 41 [] (fun c3097 => ?_) (fun c3097 => ?_) (fun k3098 k3099 => ?_)
    · refine r_t c3097 ?_
      refine r_iconst (v := 0) C dX11_on_45 (by decide) ?_
      exact r_ireturn C hQ rfl dX11_on_46 (fun e => by cases e; exact ⟨(IRd rfl), rfl, rfl, rfl, rfl, rfl⟩)
    · refine r_f c3097 ?_
      refine r_iconst (v := 1) C dX11_on_41 (by decide) ?_
      refine r_goto (tgt := 46) C dX11_on_42 (by decide) ?_
      exact r_ireturn C hQ rfl dX11_on_46 (fun e => by cases e; exact ⟨(IRd rfl), rfl, rfl, rfl, rfl, rfl⟩)
    · refine r_icmp_eq (tgt := 45) C h3095 (IRd rfl) dX11_on_25 (by decide) (fun c3100 => ?_) (fun c3100 => ?_)
      · exact k3098 (Or.inl c3100)
      · refine r_aload_n (pc := 28) (j := 1) C dX11_on_28 rfl rfl ?_
        refine r_getR (j := 3) (r := 29) C cl_X11 kd_0 ln_0 (by decide) rfl r0_0_3 (by decide) q_689 dX11_on_29 ?_
        refine r_iload_n (pc := 32) (j := 0) C dX11_on_32 rfl rfl ?_
        refine r_iload_n (pc := 33) (j := 2) C dX11_on_33 rfl rfl ?_
        refine r_iload_n (pc := 34) (j := 3) C dX11_on_34 rfl rfl ?_
        refine r_cV1 (pc := 35) (k := 29) (As := [.int (zi v3094), .int (zi a1), .int (zi a2)]) (st := []) C (m_X4_aheadOf (p := 29) (a1 := v3094) (a2 := a1) (a3 := a2) gp_29 h3095 ha1 ha2 rfl) cal_X4_aheadOf cl_X4 kd_29 ln_29 q_1329 dX11_on_35 rfl rfl (Nat.le_of_ble_eq_true rfl) (Nat.le_of_ble_eq_true rfl) (Nat.le_of_ble_eq_true rfl) (Nat.le_of_ble_eq_true rfl) (Nat.le_of_ble_eq_true rfl) (fun h3096 => ?_)
        refine r_if_ne (tgt := 45) C h3096 dX11_on_38 (by decide) (fun c3101 => ?_) (fun c3101 => ?_)
        · exact k3098 (Or.inr c3101)
        · exact k3099 (fun w => w.elim c3100 (fun x => x c3101))
  · refine r_t c3092 ?_
    refine r_bipush (v := (-2)) C dX11_on_12 (by decide) ?_
    exact r_ireturn C hQ rfl dX11_on_14 (fun e => by cases e; exact ⟨(IRd rfl), rfl, rfl, rfl, rfl, rfl⟩)

def f_X11_depth (a1 : Int) (a2 : Int) (S : Sst) : Option (Int × Sst) :=
  jn (f_X6_clear 3 S) fun (q3140 : Sst) =>
  Option.bind (f_X8_find a1 a2 q3140) fun (q3143 : Int × Sst) =>
  if q3143.1 = 0 then
    (some ((-2), q3143.2))
  else
    (jn (q3143.2.2 59 5) fun (v3147 : Int) =>
    Option.bind (lp (fun (s3149 : Int × Int × Sst) =>
      if (s3149.2.1 < 8 ∧ ¬ s3149.1 = (-1)) then
        (jn (f_X6_add 3 s3149.1 s3149.2.2) fun (q3159 : Sst) =>
        jn (
          if 0 < f_X4_aheadOf 29 s3149.1 a1 a2 q3159 then
            (1)
          else
            (0)) fun (q3162 : Int) =>
        jn (
          if q3162 = 0 then
            (f_X6_at 64 s3149.1 q3159)
          else
            (f_X6_at 62 s3149.1 q3159)) fun (q3167 : Int) =>
        some (Sum.inl (q3167, wr (s3149.2.1 + 1), q3159)))
      else
        (some (Sum.inr s3149.2.2))) FU (v3147, 0, q3143.2)) fun (r3176 : Sst) =>
    some (f_X6_size 3 r3176, r3176))
set_option maxRecDepth 100000 in
set_option maxHeartbeats 4000000 in
theorem m_X11_depth {l : Launch} {E : EwT} {S : Sst} {O : Smo} {a1 : Int} (ha1 : IR a1) {a2 : Int} (ha2 : IR a2) {q : Int × Sst} (hq : f_X11_depth a1 a2 S = some q) : MetG l E yX11_depth cX11_depth 6 (some .int) 6 134 0 0 n0 R0 S O [.ref (zad E 0), .int (zi a1), .int (zi a2)] (IR q.1) (some (.int (zi q.1))) n0 R0 q.2 O := by
  refine ofG (L0 := [(0, .ref (zad E 0)), (1, .int (zi a1)), (2, .int (zi a2))]) hq (by decide +kernel) (Nat.le_of_ble_eq_true rfl) rfl (fun K _ C hQ => ?_)
  unfold f_X11_depth
  refine r_aload_n (pc := 0) (j := 0) C dX11_depth_0 rfl rfl ?_
  refine r_getR (j := 1) (r := 3) C cl_X11 kd_0 ln_0 (by decide) rfl r0_0_1 (by decide) q_687 dX11_depth_1 ?_
  refine r_jn (fun q3140 e3141 => ?_)
  refine r_cV0 (pc := 4) (k := 3) (As := []) (st := []) C (m_X6_clear (p := 3) gw_3 e3141) cal_X6_clear cl_X6 kd_3 ln_3 q_1005 dX11_depth_4 rfl rfl (Nat.le_of_ble_eq_true rfl) (Nat.le_of_ble_eq_true rfl) (Nat.le_of_ble_eq_true rfl) (Nat.le_of_ble_eq_true rfl) (Nat.le_of_ble_eq_true rfl) (fun h3139 => ?_)
  refine r_aload_n (pc := 7) (j := 0) C dX11_depth_7 rfl rfl ?_
  refine r_getR (j := 13) (r := 242) C cl_X11 kd_0 ln_0 (by decide) rfl r0_0_13 (by decide) q_699 dX11_depth_8 ?_
  refine r_iload_n (pc := 11) (j := 1) C dX11_depth_11 rfl rfl ?_
  refine r_iload_n (pc := 12) (j := 2) C dX11_depth_12 rfl rfl ?_
  refine r_bd (fun q3143 e3144 => ?_)
  refine r_cV1 (pc := 13) (k := 242) (As := [.int (zi a1), .int (zi a2)]) (st := []) C (m_X8_find (a1 := a1) (a2 := a2) ha1 ha2 e3144) cal_X8_find cl_X8 kd_242 ln_242 q_1293 dX11_depth_13 rfl rfl (Nat.le_of_ble_eq_true rfl) (Nat.le_of_ble_eq_true rfl) (Nat.le_of_ble_eq_true rfl) (Nat.le_of_ble_eq_true rfl) (Nat.le_of_ble_eq_true rfl) (fun h3142 => ?_)
  refine r_if_ne (tgt := 22) C h3142.ir dX11_depth_16 (by decide) (fun c3145 => ?_) (fun c3145 => ?_)
  · refine r_f c3145 ?_
    refine r_aload_n (pc := 22) (j := 0) C dX11_depth_22 rfl rfl ?_
    refine r_getR (j := 6) (r := 59) C cl_X11 kd_0 ln_0 (by decide) rfl r0_0_6 (by decide) q_692 dX11_depth_23 ?_
    refine r_getS (j := 5) C cl_X10 kd_59 ln_59 lc_59 (by decide) (by decide) rfl q_446 dX11_depth_26 (fun h3146 => ?_)
    refine r_jv h3146 (fun v3147 h3148 => ?_)
    refine r_istore_n (L' := [(3, .int (zi v3147)), (0, .ref (zad E 0)), (1, .int (zi a1)), (2, .int (zi a2))]) C dX11_depth_29 rfl (by decide) rfl ?_
    refine r_iconst (v := 0) C dX11_depth_30 (by decide) ?_
    refine r_istore (L' := [(4, .int (zi 0)), (3, .int (zi v3147)), (0, .ref (zad E 0)), (1, .int (zi a1)), (2, .int (zi a2))]) C dX11_depth_31 (by decide) rfl ?_
    refine r_L (L' := [(0, .ref (zad E 0)), (1, .int (zi a1)), (2, .int (zi a2)), (3, .int (zi v3147)), (4, .int (zi 0))]) [2, 3, 4, 1, 0] rfl ?_
    refine r_loop1 (fun s3149 : Int × Int × Sst => IR s3149.1 ∧ IR s3149.2.1) (fun s3149 => s3149.2.2) (fun s3149 => O) (fun s3149 => [(0, .ref (zad E 0)), (1, .int (zi a1)), (2, .int (zi a2)), (3, .int (zi s3149.1)), (4, .int (zi s3149.2.1))]) [] (fun r3176 : Sst => True) (fun r3176 => r3176) (fun r3176 => O) (fun r3176 => [(0, .ref (zad E 0))]) 110 (fun r3176 h3177 => ?_) (fun k3151 k3153 k3152 k3154 s3149 h3150 => ?_) ⟨h3148, (IRd rfl)⟩
    · refine r_aload_n (pc := 110) (j := 0) C dX11_depth_110 rfl rfl ?_
      refine r_getR (j := 1) (r := 3) C cl_X11 kd_0 ln_0 (by decide) rfl r0_0_1 (by decide) q_687 dX11_depth_111 ?_
      refine r_cV1 (pc := 114) (k := 3) (As := []) (st := []) C (m_X6_size (p := 3) gw_3 rfl) cal_X6_size cl_X6 kd_3 ln_3 q_736 dX11_depth_114 rfl rfl (Nat.le_of_ble_eq_true rfl) (Nat.le_of_ble_eq_true rfl) (Nat.le_of_ble_eq_true rfl) (Nat.le_of_ble_eq_true rfl) (Nat.le_of_ble_eq_true rfl) (fun h3178 => ?_)
      exact r_ireturn C hQ rfl dX11_depth_117 (fun e => by cases e; exact ⟨h3178, rfl, rfl, rfl, rfl, rfl⟩)
    · refine r_iload (pc := 33) (j := 4) C dX11_depth_33 rfl ?_
      refine r_bipush (v := 8) C dX11_depth_35 (by decide) ?_
      refine r_cut (s3149.2.1 < 8 ∧ ¬ s3149.1 = (-1)) 45 110 [] (fun c3155 => ?_) (fun c3155 => ?_) (fun k3156 k3157 => ?_)
      · refine r_bt c3155 ?_
        refine r_aload_n (pc := 45) (j := 0) C dX11_depth_45 rfl rfl ?_
        refine r_getR (j := 1) (r := 3) C cl_X11 kd_0 ln_0 (by decide) rfl r0_0_1 (by decide) q_687 dX11_depth_46 ?_
        refine r_iload_n (pc := 49) (j := 3) C dX11_depth_49 rfl rfl ?_
        refine r_bj ?_
        refine r_jn (fun q3159 e3160 => ?_)
        refine r_cV0 (pc := 50) (k := 3) (As := [.int (zi s3149.1)]) (st := []) C (m_X6_add (p := 3) (a1 := s3149.1) gw_3 h3150.1 e3160) cal_X6_add cl_X6 kd_3 ln_3 q_744 dX11_depth_50 rfl rfl (Nat.le_of_ble_eq_true rfl) (Nat.le_of_ble_eq_true rfl) (Nat.le_of_ble_eq_true rfl) (Nat.le_of_ble_eq_true rfl) (Nat.le_of_ble_eq_true rfl) (fun h3158 => ?_)
        refine r_aload_n (pc := 53) (j := 0) C dX11_depth_53 rfl rfl ?_
        refine r_getR (j := 3) (r := 29) C cl_X11 kd_0 ln_0 (by decide) rfl r0_0_3 (by decide) q_689 dX11_depth_54 ?_
        refine r_iload_n (pc := 57) (j := 3) C dX11_depth_57 rfl rfl ?_
        refine r_iload_n (pc := 58) (j := 1) C dX11_depth_58 rfl rfl ?_
        refine r_iload_n (pc := 59) (j := 2) C dX11_depth_59 rfl rfl ?_
        refine r_cV1 (pc := 60) (k := 29) (As := [.int (zi s3149.1), .int (zi a1), .int (zi a2)]) (st := []) C (m_X4_aheadOf (p := 29) (a1 := s3149.1) (a2 := a1) (a3 := a2) gp_29 h3150.1 ha1 ha2 rfl) cal_X4_aheadOf cl_X4 kd_29 ln_29 q_1329 dX11_depth_60 rfl rfl (Nat.le_of_ble_eq_true rfl) (Nat.le_of_ble_eq_true rfl) (Nat.le_of_ble_eq_true rfl) (Nat.le_of_ble_eq_true rfl) (Nat.le_of_ble_eq_true rfl) (fun h3161 => ?_)
        refine r_bj ?_
        refine r_join (fun q3162 : Int => BR q3162) (fun q3162 => q3159) (fun q3162 => O) (fun q3162 => [(0, .ref (zad E 0)), (1, .int (zi a1)), (2, .int (zi a2)), (3, .int (zi s3149.1)), (4, .int (zi s3149.2.1))]) 71 (fun q3162 => [.int (zi q3162)]) (fun q3162 h3163 => ?_) (fun k3164 k3165 => ?_)
        · refine r_istore (L' := [(5, .int (zi q3162)), (0, .ref (zad E 0)), (1, .int (zi a1)), (2, .int (zi a2)), (3, .int (zi s3149.1)), (4, .int (zi s3149.2.1))]) C dX11_depth_71 (by decide) rfl ?_
          refine r_iload (pc := 73) (j := 0) C dX11_depth_73 rfl ?_
          refine r_bj ?_
          refine r_join (fun q3167 : Int => IR q3167) (fun q3167 => q3159) (fun q3167 => O) (fun q3167 => [(0, .ref (zad E 0)), (1, .int (zi a1)), (2, .int (zi a2)), (4, .int (zi s3149.2.1))]) 103 (fun q3167 => [.int (zi q3167)]) (fun q3167 h3168 => ?_) (fun k3169 k3170 => ?_)
          · refine r_istore_n (L' := [(3, .int (zi q3167)), (0, .ref (zad E 0)), (1, .int (zi a1)), (2, .int (zi a2)), (4, .int (zi s3149.2.1))]) C dX11_depth_103 rfl (by decide) rfl ?_
            refine r_iinc (j := 4) (L' := [(4, .int (zi (wr (s3149.2.1 + 1)))), (3, .int (zi q3167)), (0, .ref (zad E 0)), (1, .int (zi a1)), (2, .int (zi a2))]) C dX11_depth_104 rfl (by decide) rfl ?_
            refine r_goto (tgt := 33) C dX11_depth_107 (by decide) ?_
            refine r_L (L' := [(0, .ref (zad E 0)), (1, .int (zi a1)), (2, .int (zi a2)), (3, .int (zi q3167)), (4, .int (zi (wr (s3149.2.1 + 1))))]) [2, 3, 4, 1, 0] rfl ?_
            exact k3152 (q3167, wr (s3149.2.1 + 1), q3159) ⟨h3168, (IR_wr _)⟩
          · refine r_if_eq (tgt := 92) C h3163.ir dX11_depth_75 (by decide) (fun c3171 => ?_) (fun c3171 => ?_)
            · refine r_jt c3171 ?_
              refine r_aload_n (pc := 92) (j := 1) C dX11_depth_92 rfl rfl ?_
              refine r_getR (j := 6) (r := 59) C cl_X11 kd_0 ln_0 (by decide) rfl r0_0_6 (by decide) q_692 dX11_depth_93 ?_
              refine r_getR (j := 2) (r := 64) C cl_X10 kd_59 ln_59 (by decide) rfl r0_59_2 (by decide) q_439 dX11_depth_96 ?_
              refine r_iload_n (pc := 99) (j := 4) C dX11_depth_99 rfl rfl ?_
              refine r_cV1 (pc := 100) (k := 64) (As := [.int (zi s3149.1)]) (st := []) C (m_X6_at (p := 64) (a1 := s3149.1) gw_64 h3150.1 rfl) cal_X6_at cl_X6 kd_64 ln_64 q_1041 dX11_depth_100 rfl rfl (Nat.le_of_ble_eq_true rfl) (Nat.le_of_ble_eq_true rfl) (Nat.le_of_ble_eq_true rfl) (Nat.le_of_ble_eq_true rfl) (Nat.le_of_ble_eq_true rfl) (fun h3172 => ?_)
              refine r_L (L' := [(0, .ref (zad E 0)), (1, .int (zi a1)), (2, .int (zi a2)), (4, .int (zi s3149.2.1))]) [1, 2, 3, 5] rfl ?_
              exact k3170 (f_X6_at 64 s3149.1 q3159) h3172
            · refine r_jf c3171 ?_
              refine r_aload_n (pc := 78) (j := 1) C dX11_depth_78 rfl rfl ?_
              refine r_getR (j := 6) (r := 59) C cl_X11 kd_0 ln_0 (by decide) rfl r0_0_6 (by decide) q_692 dX11_depth_79 ?_
              refine r_getR (j := 1) (r := 62) C cl_X10 kd_59 ln_59 (by decide) rfl r0_59_1 (by decide) q_436 dX11_depth_82 ?_
              refine r_iload_n (pc := 85) (j := 4) C dX11_depth_85 rfl rfl ?_
              refine r_cV1 (pc := 86) (k := 62) (As := [.int (zi s3149.1)]) (st := []) C (m_X6_at (p := 62) (a1 := s3149.1) gw_62 h3150.1 rfl) cal_X6_at cl_X6 kd_62 ln_62 q_1041 dX11_depth_86 rfl rfl (Nat.le_of_ble_eq_true rfl) (Nat.le_of_ble_eq_true rfl) (Nat.le_of_ble_eq_true rfl) (Nat.le_of_ble_eq_true rfl) (Nat.le_of_ble_eq_true rfl) (fun h3173 => ?_)
              refine r_goto (tgt := 103) C dX11_depth_89 (by decide) ?_
              refine r_L (L' := [(0, .ref (zad E 0)), (1, .int (zi a1)), (2, .int (zi a2)), (4, .int (zi s3149.2.1))]) [1, 2, 3, 5] rfl ?_
              exact k3170 (f_X6_at 62 s3149.1 q3159) h3173
        · refine r_if_le (tgt := 70) C h3161 dX11_depth_63 (by decide) (fun c3166 => ?_) (fun c3166 => ?_)
          · refine r_jf c3166 ?_
            refine r_iconst (v := 0) C dX11_depth_70 (by decide) ?_
            exact k3165 0 (BRd rfl)
          · refine r_jt c3166 ?_
            refine r_iconst (v := 1) C dX11_depth_66 (by decide) ?_
            refine r_goto (tgt := 71) C dX11_depth_67 (by decide) ?_
            exact k3165 1 (BRd rfl)
      · refine r_bf c3155 ?_
        refine r_L (L' := [(0, .ref (zad E 0))]) [0] rfl ?_
        exact k3154 s3149.2.2 trivial
      · refine r_icmp_ge (tgt := 110) C h3150.2 (IRd rfl) dX11_depth_37 (by decide) (fun c3174 => ?_) (fun c3174 => ?_)
        · exact k3157 (fun w => c3174 w.1)
        · refine r_iload_n (pc := 40) (j := 3) C dX11_depth_40 rfl rfl ?_
          refine r_iconst (v := (-1)) C dX11_depth_41 (by decide) ?_
          refine r_icmp_eq (tgt := 110) C h3150.1 (IRd rfl) dX11_depth_42 (by decide) (fun c3175 => ?_) (fun c3175 => ?_)
          · exact k3157 (fun w => w.2 c3175)
          · exact k3156 ⟨c3174, c3175⟩
  · refine r_t c3145 ?_
    refine r_bipush (v := (-2)) C dX11_depth_19 (by decide) ?_
    exact r_ireturn C hQ rfl dX11_depth_21 (fun e => by cases e; exact ⟨(IRd rfl), rfl, rfl, rfl, rfl, rfl⟩)

def f_X11_commonPart (a0 : Int) (a1 : Int) : Option (Int) :=
  Option.bind (lp (fun (s3193 : Int × Int × Int) =>
    if (s3193.2.2 < 100 ∧ ¬ s3193.2.1 = 0) then
      (Option.bind ((if s3193.2.1 = 0 then none else some (zrem s3193.1 s3193.2.1))) fun (v3202 : Int) =>
      some (Sum.inl (s3193.2.1, v3202, wr (s3193.2.2 + 1))))
    else
      (some (Sum.inr s3193.1))) FU (a0, a1, 0)) fun (r3206 : Int) =>
  some r3206
set_option maxRecDepth 100000 in
set_option maxHeartbeats 4000000 in
theorem m_X11_commonPart {l : Launch} {E : EwT} {n : Nat} {R : Srf} {S : Sst} {O : Smo} {a0 : Int} (ha0 : IR a0) {a1 : Int} (ha1 : IR a1) {q : Int} (hq : f_X11_commonPart a0 a1 = some q) : MetG l E yX11_commonPart cX11_commonPart 6 (some .int) 0 0 0 0 n R S O [.int (zi a0), .int (zi a1)] (IR q) (some (.int (zi q))) n R S O := by
  refine ofG (L0 := [(0, .int (zi a0)), (1, .int (zi a1))]) hq (by decide +kernel) (Nat.le_of_ble_eq_true rfl) rfl (fun K _ C hQ => ?_)
  unfold f_X11_commonPart
  refine r_iload_n (pc := 0) (j := 0) C dX11_commonPart_0 rfl rfl ?_
  refine r_istore_n (L' := [(2, .int (zi a0)), (0, .int (zi a0)), (1, .int (zi a1))]) C dX11_commonPart_1 rfl (by decide) rfl ?_
  refine r_iload_n (pc := 2) (j := 2) C dX11_commonPart_2 rfl rfl ?_
  refine r_istore_n (L' := [(3, .int (zi a1)), (2, .int (zi a0)), (0, .int (zi a0)), (1, .int (zi a1))]) C dX11_commonPart_3 rfl (by decide) rfl ?_
  refine r_iconst (v := 0) C dX11_commonPart_4 (by decide) ?_
  refine r_istore (L' := [(4, .int (zi 0)), (3, .int (zi a1)), (2, .int (zi a0)), (0, .int (zi a0)), (1, .int (zi a1))]) C dX11_commonPart_5 (by decide) rfl ?_
  refine r_L (L' := [(2, .int (zi a0)), (3, .int (zi a1)), (4, .int (zi 0))]) [2, 1, 0] rfl ?_
  refine r_loop1 (fun s3193 : Int × Int × Int => IR s3193.1 ∧ IR s3193.2.1 ∧ IR s3193.2.2) (fun s3193 => S) (fun s3193 => O) (fun s3193 => [(2, .int (zi s3193.1)), (3, .int (zi s3193.2.1)), (4, .int (zi s3193.2.2))]) [] (fun r3206 : Int => IR r3206) (fun r3206 => S) (fun r3206 => O) (fun r3206 => [(2, .int (zi r3206))]) 34 (fun r3206 h3207 => ?_) (fun k3195 k3197 k3196 k3198 s3193 h3194 => ?_) ⟨ha0, ha1, (IRd rfl)⟩
  · refine r_iload_n (pc := 34) (j := 0) C dX11_commonPart_34 rfl rfl ?_
    exact r_ireturn C hQ rfl dX11_commonPart_35 (fun e => by cases e; exact ⟨h3207, rfl, rfl, rfl, rfl, rfl⟩)
  · refine r_iload (pc := 7) (j := 2) C dX11_commonPart_7 rfl ?_
    refine r_bipush (v := 100) C dX11_commonPart_9 (by decide) ?_
    refine r_cut (s3193.2.2 < 100 ∧ ¬ s3193.2.1 = 0) 18 34 [] (fun c3199 => ?_) (fun c3199 => ?_) (fun k3200 k3201 => ?_)
    · refine r_bt c3199 ?_
      refine r_iload_n (pc := 18) (j := 0) C dX11_commonPart_18 rfl rfl ?_
      refine r_iload_n (pc := 19) (j := 1) C dX11_commonPart_19 rfl rfl ?_
      refine r_bb ?_
      refine r_irem C h3194.2.1 dX11_commonPart_20 (fun v3202 h3203 => ?_)
      refine r_istore (L' := [(5, .int (zi v3202)), (2, .int (zi s3193.1)), (3, .int (zi s3193.2.1)), (4, .int (zi s3193.2.2))]) C dX11_commonPart_21 (by decide) rfl ?_
      refine r_iload_n (pc := 23) (j := 2) C dX11_commonPart_23 rfl rfl ?_
      refine r_istore_n (L' := [(2, .int (zi s3193.2.1)), (5, .int (zi v3202)), (3, .int (zi s3193.2.1)), (4, .int (zi s3193.2.2))]) C dX11_commonPart_24 rfl (by decide) rfl ?_
      refine r_iload (pc := 25) (j := 1) C dX11_commonPart_25 rfl ?_
      refine r_istore_n (L' := [(3, .int (zi v3202)), (2, .int (zi s3193.2.1)), (5, .int (zi v3202)), (4, .int (zi s3193.2.2))]) C dX11_commonPart_27 rfl (by decide) rfl ?_
      refine r_iinc (j := 3) (L' := [(4, .int (zi (wr (s3193.2.2 + 1)))), (3, .int (zi v3202)), (2, .int (zi s3193.2.1)), (5, .int (zi v3202))]) C dX11_commonPart_28 rfl (by decide) rfl ?_
      refine r_goto (tgt := 7) C dX11_commonPart_31 (by decide) ?_
      refine r_L (L' := [(2, .int (zi s3193.2.1)), (3, .int (zi v3202)), (4, .int (zi (wr (s3193.2.2 + 1))))]) [2, 1, 0] rfl ?_
      exact k3196 (s3193.2.1, v3202, wr (s3193.2.2 + 1)) ⟨h3194.2.1, h3203, (IR_wr _)⟩
    · refine r_bf c3199 ?_
      refine r_L (L' := [(2, .int (zi s3193.1))]) [0] rfl ?_
      exact k3198 s3193.1 h3194.1
    · refine r_icmp_ge (tgt := 34) C h3194.2.2 (IRd rfl) dX11_commonPart_11 (by decide) (fun c3204 => ?_) (fun c3204 => ?_)
      · exact k3201 (fun w => c3204 w.1)
      · refine r_iload_n (pc := 14) (j := 1) C dX11_commonPart_14 rfl rfl ?_
        refine r_if_eq (tgt := 34) C h3194.2.1 dX11_commonPart_15 (by decide) (fun c3205 => ?_) (fun c3205 => ?_)
        · exact k3201 (fun w => w.2 c3205)
        · exact k3200 ⟨c3204, c3205⟩

def f_X11_gap (a1 : Int) (a2 : Int) (a3 : Int) (S : Sst) : Option (Int × Sst) :=
  jk (fun (q3208 : Sst) =>
    some ((-1), q3208)) fun k3210 =>
  if (a3 < 0 ∨ 3 < a3) then
    (k3210 S)
  else
    (Option.bind (f_X8_find a1 a2 S) fun (q3216 : Int × Sst) =>
    if q3216.1 = 0 then
      (k3210 q3216.2)
    else
      (jn (
        if a3 < 2 then
          (f_X8_foundBelow q3216.2)
        else
          (f_X8_foundAbove q3216.2)) fun (q3219 : Int) =>
      if q3219 = (-1) then
        (some ((-1), q3216.2))
      else
        (jn (f_J9_abs_0f7a4 (f_X4_aheadOf 29 q3219 a1 a2 q3216.2)) fun (v3229 : Int) =>
        jn (f_X6_at 38 q3219 q3216.2) fun (v3232 : Int) =>
        jn (
          if (a3 = 0 ∨ a3 = 2) then
            (v3229)
          else
            (v3232)) fun (q3234 : Int) =>
        Option.bind (f_X11_commonPart v3229 v3232) fun (q3244 : Int) =>
        if q3244 = 0 then
          (some ((-1), q3216.2))
        else
          (Option.bind ((if q3244 = 0 then none else some (zdiv q3234 q3244))) fun (v3247 : Int) =>
          some (v3247, q3216.2)))))
set_option maxRecDepth 100000 in
set_option maxHeartbeats 4000000 in
theorem m_X11_gap {l : Launch} {E : EwT} {S : Sst} {O : Smo} {a1 : Int} (ha1 : IR a1) {a2 : Int} (ha2 : IR a2) {a3 : Int} (ha3 : IR a3) {q : Int × Sst} (hq : f_X11_gap a1 a2 a3 S = some q) : MetG l E yX11_gap cX11_gap 9 (some .int) 6 134 0 0 n0 R0 S O [.ref (zad E 0), .int (zi a1), .int (zi a2), .int (zi a3)] (IR q.1) (some (.int (zi q.1))) n0 R0 q.2 O := by
  refine ofG (L0 := [(0, .ref (zad E 0)), (1, .int (zi a1)), (2, .int (zi a2)), (3, .int (zi a3))]) hq (by decide +kernel) (Nat.le_of_ble_eq_true rfl) rfl (fun K _ C hQ => ?_)
  unfold f_X11_gap
  refine r_iload_n (pc := 0) (j := 3) C dX11_gap_0 rfl rfl ?_
  refine r_jk (fun q3208 : Sst => True) (fun q3208 => q3208) (fun q3208 => O) (fun q3208 => []) 21 (fun q3208 => []) (fun q3208 h3209 => ?_) (fun k3210 k3211 => ?_)
  · refine r_iconst (v := (-1)) C dX11_gap_21 (by decide) ?_
    exact r_ireturn C hQ rfl dX11_gap_22 (fun e => by cases e; exact ⟨(IRd rfl), rfl, rfl, rfl, rfl, rfl⟩)
  · refine r_cut (a3 < 0 ∨ 3 < a3) 21 9 [] (fun c3212 => ?_) (fun c3212 => ?_) (fun k3213 k3214 => ?_)
    · refine r_t c3212 ?_
      refine r_L (L' := []) [] rfl ?_
      exact k3211 S trivial
    · refine r_f c3212 ?_
      refine r_aload_n (pc := 9) (j := 0) C dX11_gap_9 rfl rfl ?_
      refine r_getR (j := 13) (r := 242) C cl_X11 kd_0 ln_0 (by decide) rfl r0_0_13 (by decide) q_699 dX11_gap_10 ?_
      refine r_iload_n (pc := 13) (j := 1) C dX11_gap_13 rfl rfl ?_
      refine r_iload_n (pc := 14) (j := 2) C dX11_gap_14 rfl rfl ?_
      refine r_bd (fun q3216 e3217 => ?_)
      refine r_cV1 (pc := 15) (k := 242) (As := [.int (zi a1), .int (zi a2)]) (st := []) C (m_X8_find (a1 := a1) (a2 := a2) ha1 ha2 e3217) cal_X8_find cl_X8 kd_242 ln_242 q_1293 dX11_gap_15 rfl rfl (Nat.le_of_ble_eq_true rfl) (Nat.le_of_ble_eq_true rfl) (Nat.le_of_ble_eq_true rfl) (Nat.le_of_ble_eq_true rfl) (Nat.le_of_ble_eq_true rfl) (fun h3215 => ?_)
      refine r_if_ne (tgt := 23) C h3215.ir dX11_gap_18 (by decide) (fun c3218 => ?_) (fun c3218 => ?_)
      · refine r_f c3218 ?_
        refine r_iload_n (pc := 23) (j := 3) C dX11_gap_23 rfl rfl ?_
        refine r_iconst (v := 2) C dX11_gap_24 (by decide) ?_
        refine r_join (fun q3219 : Int => IR q3219) (fun q3219 => q3216.2) (fun q3219 => O) (fun q3219 => [(0, .ref (zad E 0)), (1, .int (zi a1)), (2, .int (zi a2)), (3, .int (zi a3))]) 45 (fun q3219 => [.int (zi q3219)]) (fun q3219 h3220 => ?_) (fun k3221 k3222 => ?_)
        · refine r_istore (L' := [(4, .int (zi q3219)), (0, .ref (zad E 0)), (1, .int (zi a1)), (2, .int (zi a2)), (3, .int (zi a3))]) C dX11_gap_45 (by decide) rfl ?_
          refine r_iload (pc := 47) (j := 0) C dX11_gap_47 rfl ?_
          refine r_iconst (v := (-1)) C dX11_gap_49 (by decide) ?_
          refine r_icmp_ne (tgt := 55) C h3220 (IRd rfl) dX11_gap_50 (by decide) (fun c3226 => ?_) (fun c3226 => ?_)
          · refine r_f c3226 ?_
            refine r_aload_n (pc := 55) (j := 1) C dX11_gap_55 rfl rfl ?_
            refine r_getR (j := 3) (r := 29) C cl_X11 kd_0 ln_0 (by decide) rfl r0_0_3 (by decide) q_689 dX11_gap_56 ?_
            refine r_iload (pc := 59) (j := 0) C dX11_gap_59 rfl ?_
            refine r_iload_n (pc := 61) (j := 2) C dX11_gap_61 rfl rfl ?_
            refine r_iload_n (pc := 62) (j := 3) C dX11_gap_62 rfl rfl ?_
            refine r_cV1 (pc := 63) (k := 29) (As := [.int (zi q3219), .int (zi a1), .int (zi a2)]) (st := []) C (m_X4_aheadOf (p := 29) (a1 := q3219) (a2 := a1) (a3 := a2) gp_29 h3220 ha1 ha2 rfl) cal_X4_aheadOf cl_X4 kd_29 ln_29 q_1329 dX11_gap_63 rfl rfl (Nat.le_of_ble_eq_true rfl) (Nat.le_of_ble_eq_true rfl) (Nat.le_of_ble_eq_true rfl) (Nat.le_of_ble_eq_true rfl) (Nat.le_of_ble_eq_true rfl) (fun h3227 => ?_)
            refine r_cS1 (pc := 66) (As := [.int (zi (f_X4_aheadOf 29 q3219 a1 a2 q3216.2))]) (st := []) C (m_J9_abs_0f7a4 (a0 := f_X4_aheadOf 29 q3219 a1 a2 q3216.2) h3227 rfl) cal_J9_abs_0f7a4 q_1338 dX11_gap_66 rfl rfl (Nat.le_of_ble_eq_true rfl) (Nat.le_of_ble_eq_true rfl) (Nat.le_of_ble_eq_true rfl) (Nat.le_of_ble_eq_true rfl) (Nat.le_of_ble_eq_true rfl) (fun h3228 => ?_)
            refine r_jv h3228 (fun v3229 h3230 => ?_)
            refine r_istore (L' := [(5, .int (zi v3229)), (4, .int (zi q3219)), (0, .ref (zad E 0)), (1, .int (zi a1)), (2, .int (zi a2)), (3, .int (zi a3))]) C dX11_gap_69 (by decide) rfl ?_
            refine r_aload_n (pc := 71) (j := 2) C dX11_gap_71 rfl rfl ?_
            refine r_getR (j := 3) (r := 29) C cl_X11 kd_0 ln_0 (by decide) rfl r0_0_3 (by decide) q_689 dX11_gap_72 ?_
            refine r_getR (j := 4) (r := 38) C cl_X4 kd_29 ln_29 (by decide) rfl r0_29_4 (by decide) q_230 dX11_gap_75 ?_
            refine r_iload (pc := 78) (j := 1) C dX11_gap_78 rfl ?_
            refine r_cV1 (pc := 80) (k := 38) (As := [.int (zi q3219)]) (st := []) C (m_X6_at (p := 38) (a1 := q3219) gw_38 h3220 rfl) cal_X6_at cl_X6 kd_38 ln_38 q_1041 dX11_gap_80 rfl rfl (Nat.le_of_ble_eq_true rfl) (Nat.le_of_ble_eq_true rfl) (Nat.le_of_ble_eq_true rfl) (Nat.le_of_ble_eq_true rfl) (Nat.le_of_ble_eq_true rfl) (fun h3231 => ?_)
            refine r_jv h3231 (fun v3232 h3233 => ?_)
            refine r_istore (L' := [(6, .int (zi v3232)), (5, .int (zi v3229)), (4, .int (zi q3219)), (0, .ref (zad E 0)), (1, .int (zi a1)), (2, .int (zi a2)), (3, .int (zi a3))]) C dX11_gap_83 (by decide) rfl ?_
            refine r_iload_n (pc := 85) (j := 6) C dX11_gap_85 rfl rfl ?_
            refine r_join (fun q3234 : Int => IR q3234) (fun q3234 => q3216.2) (fun q3234 => O) (fun q3234 => [(5, .int (zi v3229)), (6, .int (zi v3232))]) 101 (fun q3234 => [.int (zi q3234)]) (fun q3234 h3235 => ?_) (fun k3236 k3237 => ?_)
            · refine r_istore (L' := [(7, .int (zi q3234)), (5, .int (zi v3229)), (6, .int (zi v3232))]) C dX11_gap_101 (by decide) rfl ?_
              refine r_iload (pc := 103) (j := 1) C dX11_gap_103 rfl ?_
              refine r_iload (pc := 105) (j := 2) C dX11_gap_105 rfl ?_
              refine r_bd (fun q3244 e3245 => ?_)
              refine r_cS1 (pc := 107) (As := [.int (zi v3229), .int (zi v3232)]) (st := []) C (m_X11_commonPart (a0 := v3229) (a1 := v3232) h3230 h3233 e3245) cal_X11_commonPart q_1341 dX11_gap_107 rfl rfl (Nat.le_of_ble_eq_true rfl) (Nat.le_of_ble_eq_true rfl) (Nat.le_of_ble_eq_true rfl) (Nat.le_of_ble_eq_true rfl) (Nat.le_of_ble_eq_true rfl) (fun h3243 => ?_)
              refine r_istore (L' := [(8, .int (zi q3244)), (7, .int (zi q3234)), (5, .int (zi v3229)), (6, .int (zi v3232))]) C dX11_gap_110 (by decide) rfl ?_
              refine r_iload (pc := 112) (j := 0) C dX11_gap_112 rfl ?_
              refine r_if_ne (tgt := 121) C h3243 dX11_gap_114 (by decide) (fun c3246 => ?_) (fun c3246 => ?_)
              · refine r_f c3246 ?_
                refine r_iload (pc := 121) (j := 1) C dX11_gap_121 rfl ?_
                refine r_iload (pc := 123) (j := 0) C dX11_gap_123 rfl ?_
                refine r_idiv C h3243 dX11_gap_125 (fun v3247 h3248 => ?_)
                exact r_ireturn C hQ rfl dX11_gap_126 (fun e => by cases e; exact ⟨h3248, rfl, rfl, rfl, rfl, rfl⟩)
              · refine r_t c3246 ?_
                refine r_iconst (v := (-1)) C dX11_gap_117 (by decide) ?_
                refine r_goto (tgt := 126) C dX11_gap_118 (by decide) ?_
                exact r_ireturn C hQ rfl dX11_gap_126 (fun e => by cases e; exact ⟨(IRd rfl), rfl, rfl, rfl, rfl, rfl⟩)
            · refine r_cut (a3 = 0 ∨ a3 = 2) 94 99 [] (fun c3238 => ?_) (fun c3238 => ?_) (fun k3239 k3240 => ?_)
              · refine r_jt c3238 ?_
                refine r_iload (pc := 94) (j := 1) C dX11_gap_94 rfl ?_
                refine r_goto (tgt := 101) C dX11_gap_96 (by decide) ?_
                refine r_L (L' := [(5, .int (zi v3229)), (6, .int (zi v3232))]) [1, 0] rfl ?_
                exact k3237 v3229 h3230
              · refine r_jf c3238 ?_
                refine r_iload (pc := 99) (j := 0) C dX11_gap_99 rfl ?_
                refine r_L (L' := [(5, .int (zi v3229)), (6, .int (zi v3232))]) [1, 0] rfl ?_
                exact k3237 v3232 h3233
              · refine r_if_eq (tgt := 94) C ha3 dX11_gap_86 (by decide) (fun c3241 => ?_) (fun c3241 => ?_)
                · exact k3239 (Or.inl c3241)
                · refine r_iload_n (pc := 89) (j := 6) C dX11_gap_89 rfl rfl ?_
                  refine r_iconst (v := 2) C dX11_gap_90 (by decide) ?_
                  refine r_icmp_ne (tgt := 99) C ha3 (IRd rfl) dX11_gap_91 (by decide) (fun c3242 => ?_) (fun c3242 => ?_)
                  · exact k3240 (fun w => w.elim c3241 c3242)
                  · exact k3239 (Or.inr c3242)
          · refine r_t c3226 ?_
            refine r_iconst (v := (-1)) C dX11_gap_53 (by decide) ?_
            exact r_ireturn C hQ rfl dX11_gap_54 (fun e => by cases e; exact ⟨(IRd rfl), rfl, rfl, rfl, rfl, rfl⟩)
        · refine r_icmp_ge (tgt := 38) C ha3 (IRd rfl) dX11_gap_25 (by decide) (fun c3223 => ?_) (fun c3223 => ?_)
          · refine r_jf c3223 ?_
            refine r_aload_n (pc := 38) (j := 0) C dX11_gap_38 rfl rfl ?_
            refine r_getR (j := 13) (r := 242) C cl_X11 kd_0 ln_0 (by decide) rfl r0_0_13 (by decide) q_699 dX11_gap_39 ?_
            refine r_cV1 (pc := 42) (k := 242) (As := []) (st := []) C (m_X8_foundAbove  rfl) cal_X8_foundAbove cl_X8 kd_242 ln_242 q_1321 dX11_gap_42 rfl rfl (Nat.le_of_ble_eq_true rfl) (Nat.le_of_ble_eq_true rfl) (Nat.le_of_ble_eq_true rfl) (Nat.le_of_ble_eq_true rfl) (Nat.le_of_ble_eq_true rfl) (fun h3225 => ?_)
            exact k3222 (f_X8_foundAbove q3216.2) h3225
          · refine r_jt c3223 ?_
            refine r_aload_n (pc := 28) (j := 0) C dX11_gap_28 rfl rfl ?_
            refine r_getR (j := 13) (r := 242) C cl_X11 kd_0 ln_0 (by decide) rfl r0_0_13 (by decide) q_699 dX11_gap_29 ?_
            refine r_cV1 (pc := 32) (k := 242) (As := []) (st := []) C (m_X8_foundBelow  rfl) cal_X8_foundBelow cl_X8 kd_242 ln_242 q_1313 dX11_gap_32 rfl rfl (Nat.le_of_ble_eq_true rfl) (Nat.le_of_ble_eq_true rfl) (Nat.le_of_ble_eq_true rfl) (Nat.le_of_ble_eq_true rfl) (Nat.le_of_ble_eq_true rfl) (fun h3224 => ?_)
            refine r_goto (tgt := 45) C dX11_gap_35 (by decide) ?_
            exact k3222 (f_X8_foundBelow q3216.2) h3224
      · refine r_t c3218 ?_
        refine r_L (L' := []) [] rfl ?_
        exact k3211 q3216.2 trivial
    · refine r_if_lt (tgt := 21) C ha3 dX11_gap_1 (by decide) (fun c3249 => ?_) (fun c3249 => ?_)
      · exact k3213 (Or.inl c3249)
      · refine r_iload_n (pc := 4) (j := 3) C dX11_gap_4 rfl rfl ?_
        refine r_iconst (v := 3) C dX11_gap_5 (by decide) ?_
        refine r_icmp_gt (tgt := 21) C ha3 (IRd rfl) dX11_gap_6 (by decide) (fun c3250 => ?_) (fun c3250 => ?_)
        · exact k3213 (Or.inr c3250)
        · exact k3214 (fun w => w.elim c3249 c3250)

def f_X11_crossed (a1 : Int) (a2 : Int) (S : Sst) : Option (Int × Sst) :=
  Option.bind (f_X8_find a1 a2 S) fun (q3252 : Int × Sst) =>
  if q3252.1 = 0 then
    (some ((-2), q3252.2))
  else
    (some (q3252.2.2 242 1, q3252.2))
set_option maxRecDepth 100000 in
set_option maxHeartbeats 4000000 in
theorem m_X11_crossed {l : Launch} {E : EwT} {S : Sst} {O : Smo} {a1 : Int} (ha1 : IR a1) {a2 : Int} (ha2 : IR a2) {q : Int × Sst} (hq : f_X11_crossed a1 a2 S = some q) : MetG l E yX11_crossed cX11_crossed 3 (some .int) 6 134 0 0 n0 R0 S O [.ref (zad E 0), .int (zi a1), .int (zi a2)] (IR q.1) (some (.int (zi q.1))) n0 R0 q.2 O := by
  refine ofG (L0 := [(0, .ref (zad E 0)), (1, .int (zi a1)), (2, .int (zi a2))]) hq (by decide +kernel) (Nat.le_of_ble_eq_true rfl) rfl (fun K _ C hQ => ?_)
  unfold f_X11_crossed
  refine r_aload_n (pc := 0) (j := 0) C dX11_crossed_0 rfl rfl ?_
  refine r_getR (j := 13) (r := 242) C cl_X11 kd_0 ln_0 (by decide) rfl r0_0_13 (by decide) q_699 dX11_crossed_1 ?_
  refine r_iload_n (pc := 4) (j := 1) C dX11_crossed_4 rfl rfl ?_
  refine r_iload_n (pc := 5) (j := 2) C dX11_crossed_5 rfl rfl ?_
  refine r_bd (fun q3252 e3253 => ?_)
  refine r_cV1 (pc := 6) (k := 242) (As := [.int (zi a1), .int (zi a2)]) (st := []) C (m_X8_find (a1 := a1) (a2 := a2) ha1 ha2 e3253) cal_X8_find cl_X8 kd_242 ln_242 q_1293 dX11_crossed_6 rfl rfl (Nat.le_of_ble_eq_true rfl) (Nat.le_of_ble_eq_true rfl) (Nat.le_of_ble_eq_true rfl) (Nat.le_of_ble_eq_true rfl) (Nat.le_of_ble_eq_true rfl) (fun h3251 => ?_)
  refine r_if_eq (tgt := 22) C h3251.ir dX11_crossed_9 (by decide) (fun c3254 => ?_) (fun c3254 => ?_)
  · refine r_t c3254 ?_
    refine r_bipush (v := (-2)) C dX11_crossed_22 (by decide) ?_
    exact r_ireturn C hQ rfl dX11_crossed_24 (fun e => by cases e; exact ⟨(IRd rfl), rfl, rfl, rfl, rfl, rfl⟩)
  · refine r_f c3254 ?_
    refine r_aload_n (pc := 12) (j := 0) C dX11_crossed_12 rfl rfl ?_
    refine r_getR (j := 13) (r := 242) C cl_X11 kd_0 ln_0 (by decide) rfl r0_0_13 (by decide) q_699 dX11_crossed_13 ?_
    refine r_getS (j := 1) C cl_X8 kd_242 ln_242 lc_242 (by decide) (by decide) rfl q_617 dX11_crossed_16 (fun h3255 => ?_)
    refine r_goto (tgt := 24) C dX11_crossed_19 (by decide) ?_
    exact r_ireturn C hQ rfl dX11_crossed_24 (fun e => by cases e; exact ⟨h3255, rfl, rfl, rfl, rfl, rfl⟩)

def f_X11_same (a1 : Int) (a2 : Int) (a3 : Int) (a4 : Int) (S : Sst) : Option (Int × Sst) :=
  Option.bind (f_X8_find a1 a2 S) fun (q3257 : Int × Sst) =>
  if q3257.1 = 0 then
    (some ((-2), q3257.2))
  else
    (jn (f_X8_foundBelow q3257.2) fun (v3261 : Int) =>
    Option.bind (f_X8_find a3 a4 q3257.2) fun (q3264 : Int × Sst) =>
    if q3264.1 = 0 then
      (some ((-2), q3264.2))
    else
      (if v3261 = f_X8_foundBelow q3264.2 then
        (some (1, q3264.2))
      else
        (some (0, q3264.2))))
set_option maxRecDepth 100000 in
set_option maxHeartbeats 4000000 in
theorem m_X11_same {l : Launch} {E : EwT} {S : Sst} {O : Smo} {a1 : Int} (ha1 : IR a1) {a2 : Int} (ha2 : IR a2) {a3 : Int} (ha3 : IR a3) {a4 : Int} (ha4 : IR a4) {q : Int × Sst} (hq : f_X11_same a1 a2 a3 a4 S = some q) : MetG l E yX11_same cX11_same 6 (some .int) 6 134 0 0 n0 R0 S O [.ref (zad E 0), .int (zi a1), .int (zi a2), .int (zi a3), .int (zi a4)] (IR q.1) (some (.int (zi q.1))) n0 R0 q.2 O := by
  refine ofG (L0 := [(0, .ref (zad E 0)), (1, .int (zi a1)), (2, .int (zi a2)), (3, .int (zi a3)), (4, .int (zi a4))]) hq (by decide +kernel) (Nat.le_of_ble_eq_true rfl) rfl (fun K _ C hQ => ?_)
  unfold f_X11_same
  refine r_aload_n (pc := 0) (j := 0) C dX11_same_0 rfl rfl ?_
  refine r_getR (j := 13) (r := 242) C cl_X11 kd_0 ln_0 (by decide) rfl r0_0_13 (by decide) q_699 dX11_same_1 ?_
  refine r_iload_n (pc := 4) (j := 1) C dX11_same_4 rfl rfl ?_
  refine r_iload_n (pc := 5) (j := 2) C dX11_same_5 rfl rfl ?_
  refine r_bd (fun q3257 e3258 => ?_)
  refine r_cV1 (pc := 6) (k := 242) (As := [.int (zi a1), .int (zi a2)]) (st := []) C (m_X8_find (a1 := a1) (a2 := a2) ha1 ha2 e3258) cal_X8_find cl_X8 kd_242 ln_242 q_1293 dX11_same_6 rfl rfl (Nat.le_of_ble_eq_true rfl) (Nat.le_of_ble_eq_true rfl) (Nat.le_of_ble_eq_true rfl) (Nat.le_of_ble_eq_true rfl) (Nat.le_of_ble_eq_true rfl) (fun h3256 => ?_)
  refine r_if_ne (tgt := 15) C h3256.ir dX11_same_9 (by decide) (fun c3259 => ?_) (fun c3259 => ?_)
  · refine r_f c3259 ?_
    refine r_aload_n (pc := 15) (j := 0) C dX11_same_15 rfl rfl ?_
    refine r_getR (j := 13) (r := 242) C cl_X11 kd_0 ln_0 (by decide) rfl r0_0_13 (by decide) q_699 dX11_same_16 ?_
    refine r_cV1 (pc := 19) (k := 242) (As := []) (st := []) C (m_X8_foundBelow  rfl) cal_X8_foundBelow cl_X8 kd_242 ln_242 q_1313 dX11_same_19 rfl rfl (Nat.le_of_ble_eq_true rfl) (Nat.le_of_ble_eq_true rfl) (Nat.le_of_ble_eq_true rfl) (Nat.le_of_ble_eq_true rfl) (Nat.le_of_ble_eq_true rfl) (fun h3260 => ?_)
    refine r_jv h3260 (fun v3261 h3262 => ?_)
    refine r_istore (L' := [(5, .int (zi v3261)), (0, .ref (zad E 0)), (1, .int (zi a1)), (2, .int (zi a2)), (3, .int (zi a3)), (4, .int (zi a4))]) C dX11_same_22 (by decide) rfl ?_
    refine r_aload_n (pc := 24) (j := 1) C dX11_same_24 rfl rfl ?_
    refine r_getR (j := 13) (r := 242) C cl_X11 kd_0 ln_0 (by decide) rfl r0_0_13 (by decide) q_699 dX11_same_25 ?_
    refine r_iload_n (pc := 28) (j := 4) C dX11_same_28 rfl rfl ?_
    refine r_iload (pc := 29) (j := 5) C dX11_same_29 rfl ?_
    refine r_bd (fun q3264 e3265 => ?_)
    refine r_cV1 (pc := 31) (k := 242) (As := [.int (zi a3), .int (zi a4)]) (st := []) C (m_X8_find (a1 := a3) (a2 := a4) ha3 ha4 e3265) cal_X8_find cl_X8 kd_242 ln_242 q_1293 dX11_same_31 rfl rfl (Nat.le_of_ble_eq_true rfl) (Nat.le_of_ble_eq_true rfl) (Nat.le_of_ble_eq_true rfl) (Nat.le_of_ble_eq_true rfl) (Nat.le_of_ble_eq_true rfl) (fun h3263 => ?_)
    refine r_if_ne (tgt := 40) C h3263.ir dX11_same_34 (by decide) (fun c3266 => ?_) (fun c3266 => ?_)
    · refine r_f c3266 ?_
      refine r_iload (pc := 40) (j := 0) C dX11_same_40 rfl ?_
      refine r_aload_n (pc := 42) (j := 1) C dX11_same_42 rfl rfl ?_
      refine r_getR (j := 13) (r := 242) C cl_X11 kd_0 ln_0 (by decide) rfl r0_0_13 (by decide) q_699 dX11_same_43 ?_
      refine r_cV1 (pc := 46) (k := 242) (As := []) (st := [.int (zi v3261)]) C (m_X8_foundBelow  rfl) cal_X8_foundBelow cl_X8 kd_242 ln_242 q_1313 dX11_same_46 rfl rfl (Nat.le_of_ble_eq_true rfl) (Nat.le_of_ble_eq_true rfl) (Nat.le_of_ble_eq_true rfl) (Nat.le_of_ble_eq_true rfl) (Nat.le_of_ble_eq_true rfl) (fun h3267 => ?_)
      refine r_icmp_ne (tgt := 56) C h3262 h3267 dX11_same_49 (by decide) (fun c3268 => ?_) (fun c3268 => ?_)
      · refine r_f c3268 ?_
        refine r_iconst (v := 0) C dX11_same_56 (by decide) ?_
        exact r_ireturn C hQ rfl dX11_same_57 (fun e => by cases e; exact ⟨(IRd rfl), rfl, rfl, rfl, rfl, rfl⟩)
      · refine r_t c3268 ?_
        refine r_iconst (v := 1) C dX11_same_52 (by decide) ?_
        refine r_goto (tgt := 57) C dX11_same_53 (by decide) ?_
        exact r_ireturn C hQ rfl dX11_same_57 (fun e => by cases e; exact ⟨(IRd rfl), rfl, rfl, rfl, rfl, rfl⟩)
    · refine r_t c3266 ?_
      refine r_bipush (v := (-2)) C dX11_same_37 (by decide) ?_
      exact r_ireturn C hQ rfl dX11_same_39 (fun e => by cases e; exact ⟨(IRd rfl), rfl, rfl, rfl, rfl, rfl⟩)
  · refine r_t c3259 ?_
    refine r_bipush (v := (-2)) C dX11_same_12 (by decide) ?_
    exact r_ireturn C hQ rfl dX11_same_14 (fun e => by cases e; exact ⟨(IRd rfl), rfl, rfl, rfl, rfl, rfl⟩)

def f_X11_unlike (a1 : Int) (a2 : Int) (S : Sst) : Int :=
  if (f_X7_hasStamp 74 a1 S = 0 ∨ f_X7_hasStamp 74 a2 S = 0) then
    ((-1))
  else
    (f_J6_bitCount_0f7a4 (zxor (f_X6_at 77 a1 S) (f_X6_at 77 a2 S)))
set_option maxRecDepth 100000 in
set_option maxHeartbeats 4000000 in
theorem m_X11_unlike {l : Launch} {E : EwT} {S : Sst} {O : Smo} {a1 : Int} (ha1 : IR a1) {a2 : Int} (ha2 : IR a2) {q : Int} (hq : f_X11_unlike a1 a2 S = q) : MetG l E yX11_unlike cX11_unlike 3 (some .int) 2 41 0 0 n0 R0 S O [.ref (zad E 0), .int (zi a1), .int (zi a2)] (IR q) (some (.int (zi q))) n0 R0 S O := by
  refine ofG (L0 := [(0, .ref (zad E 0)), (1, .int (zi a1)), (2, .int (zi a2))]) hq (by decide +kernel) (Nat.le_of_ble_eq_true rfl) rfl (fun K _ C hQ => ?_)
  unfold f_X11_unlike
  refine r_aload_n (pc := 0) (j := 0) C dX11_unlike_0 rfl rfl ?_
  refine r_getR (j := 7) (r := 74) C cl_X11 kd_0 ln_0 (by decide) rfl r0_0_7 (by decide) q_693 dX11_unlike_1 ?_
  refine r_iload_n (pc := 4) (j := 1) C dX11_unlike_4 rfl rfl ?_
  refine r_cV1 (pc := 5) (k := 74) (As := [.int (zi a1)]) (st := []) C (m_X7_hasStamp (p := 74) (a1 := a1) gs_74 ha1 rfl) cal_X7_hasStamp cl_X7 kd_74 ln_74 q_1241 dX11_unlike_5 rfl rfl (Nat.le_of_ble_eq_true rfl) (Nat.le_of_ble_eq_true rfl) (Nat.le_of_ble_eq_true rfl) (Nat.le_of_ble_eq_true rfl) (Nat.le_of_ble_eq_true rfl) (fun h3269 => ?_)
  refine r_cut (f_X7_hasStamp 74 a1 S = 0 ∨ f_X7_hasStamp 74 a2 S = 0) 22 24 [] (fun c3271 => ?_) (fun c3271 => ?_) (fun k3272 k3273 => ?_)
  · refine r_t c3271 ?_
    refine r_iconst (v := (-1)) C dX11_unlike_22 (by decide) ?_
    exact r_ireturn C hQ rfl dX11_unlike_23 (fun e => by subst e; exact ⟨(IRd rfl), rfl, rfl, rfl, rfl, rfl⟩)
  · refine r_f c3271 ?_
    refine r_aload_n (pc := 24) (j := 0) C dX11_unlike_24 rfl rfl ?_
    refine r_getR (j := 7) (r := 74) C cl_X11 kd_0 ln_0 (by decide) rfl r0_0_7 (by decide) q_693 dX11_unlike_25 ?_
    refine r_getR (j := 1) (r := 77) C cl_X7 kd_74 ln_74 (by decide) rfl r0_74_1 (by decide) q_514 dX11_unlike_28 ?_
    refine r_iload_n (pc := 31) (j := 1) C dX11_unlike_31 rfl rfl ?_
    refine r_cV1 (pc := 32) (k := 77) (As := [.int (zi a1)]) (st := []) C (m_X6_at (p := 77) (a1 := a1) gw_77 ha1 rfl) cal_X6_at cl_X6 kd_77 ln_77 q_1041 dX11_unlike_32 rfl rfl (Nat.le_of_ble_eq_true rfl) (Nat.le_of_ble_eq_true rfl) (Nat.le_of_ble_eq_true rfl) (Nat.le_of_ble_eq_true rfl) (Nat.le_of_ble_eq_true rfl) (fun h3274 => ?_)
    refine r_aload_n (pc := 35) (j := 0) C dX11_unlike_35 rfl rfl ?_
    refine r_getR (j := 7) (r := 74) C cl_X11 kd_0 ln_0 (by decide) rfl r0_0_7 (by decide) q_693 dX11_unlike_36 ?_
    refine r_getR (j := 1) (r := 77) C cl_X7 kd_74 ln_74 (by decide) rfl r0_74_1 (by decide) q_514 dX11_unlike_39 ?_
    refine r_iload_n (pc := 42) (j := 2) C dX11_unlike_42 rfl rfl ?_
    refine r_cV1 (pc := 43) (k := 77) (As := [.int (zi a2)]) (st := [.int (zi (f_X6_at 77 a1 S))]) C (m_X6_at (p := 77) (a1 := a2) gw_77 ha2 rfl) cal_X6_at cl_X6 kd_77 ln_77 q_1041 dX11_unlike_43 rfl rfl (Nat.le_of_ble_eq_true rfl) (Nat.le_of_ble_eq_true rfl) (Nat.le_of_ble_eq_true rfl) (Nat.le_of_ble_eq_true rfl) (Nat.le_of_ble_eq_true rfl) (fun h3275 => ?_)
    refine r_ixor C dX11_unlike_46 ?_
    refine r_cS1 (pc := 47) (As := [.int (zi (zxor (f_X6_at 77 a1 S) (f_X6_at 77 a2 S)))]) (st := []) C (m_J6_bitCount_0f7a4 (a0 := zxor (f_X6_at 77 a1 S) (f_X6_at 77 a2 S)) (i32_IR _) rfl) cal_J6_bitCount_0f7a4 q_1172 dX11_unlike_47 rfl rfl (Nat.le_of_ble_eq_true rfl) (Nat.le_of_ble_eq_true rfl) (Nat.le_of_ble_eq_true rfl) (Nat.le_of_ble_eq_true rfl) (Nat.le_of_ble_eq_true rfl) (fun h3276 => ?_)
    exact r_ireturn C hQ rfl dX11_unlike_50 (fun e => by subst e; exact ⟨h3276, rfl, rfl, rfl, rfl, rfl⟩)
  · refine r_if_eq (tgt := 22) C h3269.ir dX11_unlike_8 (by decide) (fun c3277 => ?_) (fun c3277 => ?_)
    · exact k3272 (Or.inl c3277)
    · refine r_aload_n (pc := 11) (j := 0) C dX11_unlike_11 rfl rfl ?_
      refine r_getR (j := 7) (r := 74) C cl_X11 kd_0 ln_0 (by decide) rfl r0_0_7 (by decide) q_693 dX11_unlike_12 ?_
      refine r_iload_n (pc := 15) (j := 2) C dX11_unlike_15 rfl rfl ?_
      refine r_cV1 (pc := 16) (k := 74) (As := [.int (zi a2)]) (st := []) C (m_X7_hasStamp (p := 74) (a1 := a2) gs_74 ha2 rfl) cal_X7_hasStamp cl_X7 kd_74 ln_74 q_1241 dX11_unlike_16 rfl rfl (Nat.le_of_ble_eq_true rfl) (Nat.le_of_ble_eq_true rfl) (Nat.le_of_ble_eq_true rfl) (Nat.le_of_ble_eq_true rfl) (Nat.le_of_ble_eq_true rfl) (fun h3270 => ?_)
      refine r_if_ne (tgt := 24) C h3270.ir dX11_unlike_19 (by decide) (fun c3278 => ?_) (fun c3278 => ?_)
      · exact k3273 (fun w => w.elim c3277 c3278)
      · exact k3272 (Or.inr c3278)

def f_X11_shared (a1 : Int) (a2 : Int) (S : Sst) : Option (Int) :=
  if (f_X7_hasStamp 74 a1 S = 0 ∨ f_X7_hasStamp 74 a2 S = 0) then
    (some (-1))
  else
    (Option.bind (lp (fun (s3309 : Int × Int) =>
      if s3309.2 < f_X4_count 29 S then
        (Option.bind (f_X7_holderOf 74 s3309.2 a1 S) fun (q3318 : Int) =>
        Option.bind (
          if q3318 = (-1) then
            (some s3309.1)
          else
            (Option.bind (f_X7_holderOf 74 s3309.2 a2 S) fun (q3326 : Int) =>
            if q3318 = q3326 then
              (some (wr (s3309.1 + 1)))
            else
              (some s3309.1))) fun (q3320 : Int) =>
        some (Sum.inl (q3320, wr (s3309.2 + 1))))
      else
        (some (Sum.inr s3309.1))) FU (0, 0)) fun (r3329 : Int) =>
    some r3329)
set_option maxRecDepth 100000 in
set_option maxHeartbeats 4000000 in
theorem m_X11_shared {l : Launch} {E : EwT} {S : Sst} {O : Smo} {a1 : Int} (ha1 : IR a1) {a2 : Int} (ha2 : IR a2) {q : Int} (hq : f_X11_shared a1 a2 S = some q) : MetG l E yX11_shared cX11_shared 6 (some .int) 3 66 0 0 n0 R0 S O [.ref (zad E 0), .int (zi a1), .int (zi a2)] (IR q) (some (.int (zi q))) n0 R0 S O := by
  refine ofG (L0 := [(0, .ref (zad E 0)), (1, .int (zi a1)), (2, .int (zi a2))]) hq (by decide +kernel) (Nat.le_of_ble_eq_true rfl) rfl (fun K _ C hQ => ?_)
  unfold f_X11_shared
  refine r_aload_n (pc := 0) (j := 0) C dX11_shared_0 rfl rfl ?_
  refine r_getR (j := 7) (r := 74) C cl_X11 kd_0 ln_0 (by decide) rfl r0_0_7 (by decide) q_693 dX11_shared_1 ?_
  refine r_iload_n (pc := 4) (j := 1) C dX11_shared_4 rfl rfl ?_
  refine r_cV1 (pc := 5) (k := 74) (As := [.int (zi a1)]) (st := []) C (m_X7_hasStamp (p := 74) (a1 := a1) gs_74 ha1 rfl) cal_X7_hasStamp cl_X7 kd_74 ln_74 q_1241 dX11_shared_5 rfl rfl (Nat.le_of_ble_eq_true rfl) (Nat.le_of_ble_eq_true rfl) (Nat.le_of_ble_eq_true rfl) (Nat.le_of_ble_eq_true rfl) (Nat.le_of_ble_eq_true rfl) (fun h3304 => ?_)
  refine r_cut (f_X7_hasStamp 74 a1 S = 0 ∨ f_X7_hasStamp 74 a2 S = 0) 22 24 [] (fun c3306 => ?_) (fun c3306 => ?_) (fun k3307 k3308 => ?_)
  · refine r_t c3306 ?_
    refine r_iconst (v := (-1)) C dX11_shared_22 (by decide) ?_
    exact r_ireturn C hQ rfl dX11_shared_23 (fun e => by cases e; exact ⟨(IRd rfl), rfl, rfl, rfl, rfl, rfl⟩)
  · refine r_f c3306 ?_
    refine r_iconst (v := 0) C dX11_shared_24 (by decide) ?_
    refine r_istore_n (L' := [(3, .int (zi 0)), (0, .ref (zad E 0)), (1, .int (zi a1)), (2, .int (zi a2))]) C dX11_shared_25 rfl (by decide) rfl ?_
    refine r_iconst (v := 0) C dX11_shared_26 (by decide) ?_
    refine r_istore (L' := [(4, .int (zi 0)), (3, .int (zi 0)), (0, .ref (zad E 0)), (1, .int (zi a1)), (2, .int (zi a2))]) C dX11_shared_27 (by decide) rfl ?_
    refine r_L (L' := [(0, .ref (zad E 0)), (1, .int (zi a1)), (2, .int (zi a2)), (3, .int (zi 0)), (4, .int (zi 0))]) [2, 3, 4, 1, 0] rfl ?_
    refine r_loop1 (fun s3309 : Int × Int => IR s3309.1 ∧ IR s3309.2) (fun s3309 => S) (fun s3309 => O) (fun s3309 => [(0, .ref (zad E 0)), (1, .int (zi a1)), (2, .int (zi a2)), (3, .int (zi s3309.1)), (4, .int (zi s3309.2))]) [] (fun r3329 : Int => IR r3329) (fun r3329 => S) (fun r3329 => O) (fun r3329 => [(3, .int (zi r3329))]) 83 (fun r3329 h3330 => ?_) (fun k3311 k3313 k3312 k3314 s3309 h3310 => ?_) ⟨(IRd rfl), (IRd rfl)⟩
    · refine r_iload_n (pc := 83) (j := 0) C dX11_shared_83 rfl rfl ?_
      exact r_ireturn C hQ rfl dX11_shared_84 (fun e => by cases e; exact ⟨h3330, rfl, rfl, rfl, rfl, rfl⟩)
    · refine r_iload (pc := 29) (j := 4) C dX11_shared_29 rfl ?_
      refine r_aload_n (pc := 31) (j := 0) C dX11_shared_31 rfl rfl ?_
      refine r_getR (j := 3) (r := 29) C cl_X11 kd_0 ln_0 (by decide) rfl r0_0_3 (by decide) q_689 dX11_shared_32 ?_
      refine r_cV1 (pc := 35) (k := 29) (As := []) (st := [.int (zi s3309.2)]) C (m_X4_count (p := 29) gp_29 rfl) cal_X4_count cl_X4 kd_29 ln_29 q_1026 dX11_shared_35 rfl rfl (Nat.le_of_ble_eq_true rfl) (Nat.le_of_ble_eq_true rfl) (Nat.le_of_ble_eq_true rfl) (Nat.le_of_ble_eq_true rfl) (Nat.le_of_ble_eq_true rfl) (fun h3315 => ?_)
      refine r_icmp_ge (tgt := 83) C h3310.2 h3315 dX11_shared_38 (by decide) (fun c3316 => ?_) (fun c3316 => ?_)
      · refine r_bf c3316 ?_
        refine r_L (L' := [(3, .int (zi s3309.1))]) [3] rfl ?_
        exact k3314 s3309.1 h3310.1
      · refine r_bt c3316 ?_
        refine r_aload_n (pc := 41) (j := 0) C dX11_shared_41 rfl rfl ?_
        refine r_getR (j := 7) (r := 74) C cl_X11 kd_0 ln_0 (by decide) rfl r0_0_7 (by decide) q_693 dX11_shared_42 ?_
        refine r_iload (pc := 45) (j := 4) C dX11_shared_45 rfl ?_
        refine r_iload_n (pc := 47) (j := 1) C dX11_shared_47 rfl rfl ?_
        refine r_bb ?_
        refine r_bd (fun q3318 e3319 => ?_)
        refine r_cV1 (pc := 48) (k := 74) (As := [.int (zi s3309.2), .int (zi a1)]) (st := []) C (m_X7_holderOf (p := 74) (a1 := s3309.2) (a2 := a1) gs_74 h3310.2 ha1 e3319) cal_X7_holderOf cl_X7 kd_74 ln_74 q_1360 dX11_shared_48 rfl rfl (Nat.le_of_ble_eq_true rfl) (Nat.le_of_ble_eq_true rfl) (Nat.le_of_ble_eq_true rfl) (Nat.le_of_ble_eq_true rfl) (Nat.le_of_ble_eq_true rfl) (fun h3317 => ?_)
        refine r_istore (L' := [(5, .int (zi q3318)), (0, .ref (zad E 0)), (1, .int (zi a1)), (2, .int (zi a2)), (3, .int (zi s3309.1)), (4, .int (zi s3309.2))]) C dX11_shared_51 (by decide) rfl ?_
        refine r_iload (pc := 53) (j := 0) C dX11_shared_53 rfl ?_
        refine r_iconst (v := (-1)) C dX11_shared_55 (by decide) ?_
        refine r_bb ?_
        refine r_joinb (fun q3320 : Int => IR q3320) (fun q3320 => S) (fun q3320 => O) (fun q3320 => [(0, .ref (zad E 0)), (1, .int (zi a1)), (2, .int (zi a2)), (3, .int (zi q3320)), (4, .int (zi s3309.2))]) 77 (fun q3320 => []) (fun q3320 h3321 => ?_) (fun k3322 k3323 => ?_)
        · refine r_iinc (j := 4) (L' := [(4, .int (zi (wr (s3309.2 + 1)))), (0, .ref (zad E 0)), (1, .int (zi a1)), (2, .int (zi a2)), (3, .int (zi q3320))]) C dX11_shared_77 rfl (by decide) rfl ?_
          refine r_goto (tgt := 29) C dX11_shared_80 (by decide) ?_
          refine r_L (L' := [(0, .ref (zad E 0)), (1, .int (zi a1)), (2, .int (zi a2)), (3, .int (zi q3320)), (4, .int (zi (wr (s3309.2 + 1))))]) [1, 2, 3, 4, 0] rfl ?_
          exact k3312 (q3320, wr (s3309.2 + 1)) ⟨h3321, (IR_wr _)⟩
        · refine r_icmp_eq (tgt := 77) C h3317 (IRd rfl) dX11_shared_56 (by decide) (fun c3324 => ?_) (fun c3324 => ?_)
          · refine r_bt c3324 ?_
            refine r_L (L' := [(0, .ref (zad E 0)), (1, .int (zi a1)), (2, .int (zi a2)), (3, .int (zi s3309.1)), (4, .int (zi s3309.2))]) [1, 2, 3, 4, 5] rfl ?_
            exact k3323 s3309.1 h3310.1
          · refine r_bf c3324 ?_
            refine r_iload (pc := 59) (j := 0) C dX11_shared_59 rfl ?_
            refine r_aload_n (pc := 61) (j := 1) C dX11_shared_61 rfl rfl ?_
            refine r_getR (j := 7) (r := 74) C cl_X11 kd_0 ln_0 (by decide) rfl r0_0_7 (by decide) q_693 dX11_shared_62 ?_
            refine r_iload (pc := 65) (j := 5) C dX11_shared_65 rfl ?_
            refine r_iload_n (pc := 67) (j := 3) C dX11_shared_67 rfl rfl ?_
            refine r_bb ?_
            refine r_bd (fun q3326 e3327 => ?_)
            refine r_cV1 (pc := 68) (k := 74) (As := [.int (zi s3309.2), .int (zi a2)]) (st := [.int (zi q3318)]) C (m_X7_holderOf (p := 74) (a1 := s3309.2) (a2 := a2) gs_74 h3310.2 ha2 e3327) cal_X7_holderOf cl_X7 kd_74 ln_74 q_1360 dX11_shared_68 rfl rfl (Nat.le_of_ble_eq_true rfl) (Nat.le_of_ble_eq_true rfl) (Nat.le_of_ble_eq_true rfl) (Nat.le_of_ble_eq_true rfl) (Nat.le_of_ble_eq_true rfl) (fun h3325 => ?_)
            refine r_icmp_ne (tgt := 77) C h3317 h3325 dX11_shared_71 (by decide) (fun c3328 => ?_) (fun c3328 => ?_)
            · refine r_bf c3328 ?_
              refine r_L (L' := [(0, .ref (zad E 0)), (1, .int (zi a1)), (2, .int (zi a2)), (3, .int (zi s3309.1)), (4, .int (zi s3309.2))]) [1, 2, 3, 4, 5] rfl ?_
              exact k3323 s3309.1 h3310.1
            · refine r_bt c3328 ?_
              refine r_iinc (j := 4) (L' := [(3, .int (zi (wr (s3309.1 + 1)))), (5, .int (zi q3318)), (0, .ref (zad E 0)), (1, .int (zi a1)), (2, .int (zi a2)), (4, .int (zi s3309.2))]) C dX11_shared_74 rfl (by decide) rfl ?_
              refine r_L (L' := [(0, .ref (zad E 0)), (1, .int (zi a1)), (2, .int (zi a2)), (3, .int (zi (wr (s3309.1 + 1)))), (4, .int (zi s3309.2))]) [2, 3, 4, 0, 5] rfl ?_
              exact k3323 (wr (s3309.1 + 1)) (IR_wr _)
  · refine r_if_eq (tgt := 22) C h3304.ir dX11_shared_8 (by decide) (fun c3331 => ?_) (fun c3331 => ?_)
    · exact k3307 (Or.inl c3331)
    · refine r_aload_n (pc := 11) (j := 0) C dX11_shared_11 rfl rfl ?_
      refine r_getR (j := 7) (r := 74) C cl_X11 kd_0 ln_0 (by decide) rfl r0_0_7 (by decide) q_693 dX11_shared_12 ?_
      refine r_iload_n (pc := 15) (j := 2) C dX11_shared_15 rfl rfl ?_
      refine r_cV1 (pc := 16) (k := 74) (As := [.int (zi a2)]) (st := []) C (m_X7_hasStamp (p := 74) (a1 := a2) gs_74 ha2 rfl) cal_X7_hasStamp cl_X7 kd_74 ln_74 q_1241 dX11_shared_16 rfl rfl (Nat.le_of_ble_eq_true rfl) (Nat.le_of_ble_eq_true rfl) (Nat.le_of_ble_eq_true rfl) (Nat.le_of_ble_eq_true rfl) (Nat.le_of_ble_eq_true rfl) (fun h3305 => ?_)
      refine r_if_ne (tgt := 24) C h3305.ir dX11_shared_19 (by decide) (fun c3332 => ?_) (fun c3332 => ?_)
      · exact k3308 (fun w => w.elim c3331 c3332)
      · exact k3307 (Or.inr c3332)

def f_X11_written (S : Sst) : Option (Int) :=
  Option.bind (f_X7_slotsWritten 74 S) fun (q3358 : Int) =>
  some q3358
set_option maxRecDepth 100000 in
set_option maxHeartbeats 4000000 in
theorem m_X11_written {l : Launch} {E : EwT} {S : Sst} {O : Smo}  {q : Int} (hq : f_X11_written S = some q) : MetG l E yX11_written cX11_written 1 (some .int) 2 43 0 0 n0 R0 S O [.ref (zad E 0)] (IR q) (some (.int (zi q))) n0 R0 S O := by
  refine ofG (L0 := [(0, .ref (zad E 0))]) hq (by decide +kernel) (Nat.le_of_ble_eq_true rfl) rfl (fun K _ C hQ => ?_)
  unfold f_X11_written
  refine r_aload_n (pc := 0) (j := 0) C dX11_written_0 rfl rfl ?_
  refine r_getR (j := 7) (r := 74) C cl_X11 kd_0 ln_0 (by decide) rfl r0_0_7 (by decide) q_693 dX11_written_1 ?_
  refine r_bd (fun q3358 e3359 => ?_)
  refine r_cV1 (pc := 4) (k := 74) (As := []) (st := []) C (m_X7_slotsWritten (p := 74) gs_74 e3359) cal_X7_slotsWritten cl_X7 kd_74 ln_74 q_1365 dX11_written_4 rfl rfl (Nat.le_of_ble_eq_true rfl) (Nat.le_of_ble_eq_true rfl) (Nat.le_of_ble_eq_true rfl) (Nat.le_of_ble_eq_true rfl) (Nat.le_of_ble_eq_true rfl) (fun h3357 => ?_)
  exact r_ireturn C hQ rfl dX11_written_7 (fun e => by cases e; exact ⟨h3357, rfl, rfl, rfl, rfl, rfl⟩)

def f_X11_copies (a1 : Int) (S : Sst) : Option (Int) :=
  if (a1 = (-1) ∨ ¬ f_X4_has 29 a1 S = 0) then
    (Option.bind (f_X7_copiesOf 74 a1 S) fun (q3409 : Int) =>
    some q3409)
  else
    (some (-2))
set_option maxRecDepth 100000 in
set_option maxHeartbeats 4000000 in
theorem m_X11_copies {l : Launch} {E : EwT} {S : Sst} {O : Smo} {a1 : Int} (ha1 : IR a1) {q : Int} (hq : f_X11_copies a1 S = some q) : MetG l E yX11_copies cX11_copies 2 (some .int) 2 44 0 0 n0 R0 S O [.ref (zad E 0), .int (zi a1)] (IR q) (some (.int (zi q))) n0 R0 S O := by
  refine ofG (L0 := [(0, .ref (zad E 0)), (1, .int (zi a1))]) hq (by decide +kernel) (Nat.le_of_ble_eq_true rfl) rfl (fun K _ C hQ => ?_)
  unfold f_X11_copies
  refine r_iload_n (pc := 0) (j := 1) C dX11_copies_0 rfl rfl ?_
  refine r_iconst (v := (-1)) C dX11_copies_1 (by decide) ?_
  refine r_cut (a1 = (-1) ∨ ¬ f_X4_has 29 a1 S = 0) 16 27 [] (fun c3405 => ?_) (fun c3405 => ?_) (fun k3406 k3407 => ?_)
  · refine r_t c3405 ?_
    refine r_aload_n (pc := 16) (j := 0) C dX11_copies_16 rfl rfl ?_
    refine r_getR (j := 7) (r := 74) C cl_X11 kd_0 ln_0 (by decide) rfl r0_0_7 (by decide) q_693 dX11_copies_17 ?_
    refine r_iload_n (pc := 20) (j := 1) C dX11_copies_20 rfl rfl ?_
    refine r_bd (fun q3409 e3410 => ?_)
    refine r_cV1 (pc := 21) (k := 74) (As := [.int (zi a1)]) (st := []) C (m_X7_copiesOf (p := 74) (a1 := a1) gs_74 ha1 e3410) cal_X7_copiesOf cl_X7 kd_74 ln_74 q_1373 dX11_copies_21 rfl rfl (Nat.le_of_ble_eq_true rfl) (Nat.le_of_ble_eq_true rfl) (Nat.le_of_ble_eq_true rfl) (Nat.le_of_ble_eq_true rfl) (Nat.le_of_ble_eq_true rfl) (fun h3408 => ?_)
    refine r_goto (tgt := 29) C dX11_copies_24 (by decide) ?_
    exact r_ireturn C hQ rfl dX11_copies_29 (fun e => by cases e; exact ⟨h3408, rfl, rfl, rfl, rfl, rfl⟩)
  · refine r_f c3405 ?_
    refine r_bipush (v := (-2)) C dX11_copies_27 (by decide) ?_
    exact r_ireturn C hQ rfl dX11_copies_29 (fun e => by cases e; exact ⟨(IRd rfl), rfl, rfl, rfl, rfl, rfl⟩)
  · refine r_icmp_eq (tgt := 16) C ha1 (IRd rfl) dX11_copies_2 (by decide) (fun c3411 => ?_) (fun c3411 => ?_)
    · exact k3406 (Or.inl c3411)
    · refine r_aload_n (pc := 5) (j := 0) C dX11_copies_5 rfl rfl ?_
      refine r_getR (j := 3) (r := 29) C cl_X11 kd_0 ln_0 (by decide) rfl r0_0_3 (by decide) q_689 dX11_copies_6 ?_
      refine r_iload_n (pc := 9) (j := 1) C dX11_copies_9 rfl rfl ?_
      refine r_cV1 (pc := 10) (k := 29) (As := [.int (zi a1)]) (st := []) C (m_X4_has (p := 29) (a1 := a1) gp_29 ha1 rfl) cal_X4_has cl_X4 kd_29 ln_29 q_1035 dX11_copies_10 rfl rfl (Nat.le_of_ble_eq_true rfl) (Nat.le_of_ble_eq_true rfl) (Nat.le_of_ble_eq_true rfl) (Nat.le_of_ble_eq_true rfl) (Nat.le_of_ble_eq_true rfl) (fun h3404 => ?_)
      refine r_if_eq (tgt := 27) C h3404.ir dX11_copies_13 (by decide) (fun c3412 => ?_) (fun c3412 => ?_)
      · exact k3407 (fun w => w.elim c3411 (fun x => x c3412))
      · exact k3406 (Or.inr c3412)

def f_X11_dearest (S : Sst) : Option (Int) :=
  Option.bind (lp (fun (s3432 : Int × Int) =>
    if f_X7_newest 74 S < s3432.2 then
      (some (Sum.inr s3432.1))
    else
      (jn (
        if (s3432.1 = (-1) ∨ f_X6_at 85 s3432.1 S < f_X6_at 85 s3432.2 S) then
          (s3432.2)
        else
          (s3432.1)) fun (q3442 : Int) =>
      some (Sum.inl (q3442, wr (s3432.2 + 1))))) FU ((-1), 1)) fun (r3451 : Int) =>
  some r3451
set_option maxRecDepth 100000 in
set_option maxHeartbeats 4000000 in
theorem m_X11_dearest {l : Launch} {E : EwT} {S : Sst} {O : Smo}  {q : Int} (hq : f_X11_dearest S = some q) : MetG l E yX11_dearest cX11_dearest 3 (some .int) 2 40 0 0 n0 R0 S O [.ref (zad E 0)] (IR q) (some (.int (zi q))) n0 R0 S O := by
  refine ofG (L0 := [(0, .ref (zad E 0))]) hq (by decide +kernel) (Nat.le_of_ble_eq_true rfl) rfl (fun K _ C hQ => ?_)
  unfold f_X11_dearest
  refine r_iconst (v := (-1)) C dX11_dearest_0 (by decide) ?_
  refine r_istore_n (L' := [(1, .int (zi (-1))), (0, .ref (zad E 0))]) C dX11_dearest_1 rfl (by decide) rfl ?_
  refine r_iconst (v := 1) C dX11_dearest_2 (by decide) ?_
  refine r_istore_n (L' := [(2, .int (zi 1)), (1, .int (zi (-1))), (0, .ref (zad E 0))]) C dX11_dearest_3 rfl (by decide) rfl ?_
  refine r_L (L' := [(0, .ref (zad E 0)), (1, .int (zi (-1))), (2, .int (zi 1))]) [2, 1, 0] rfl ?_
  refine r_loop1 (fun s3432 : Int × Int => IR s3432.1 ∧ IR s3432.2) (fun s3432 => S) (fun s3432 => O) (fun s3432 => [(0, .ref (zad E 0)), (1, .int (zi s3432.1)), (2, .int (zi s3432.2))]) [] (fun r3451 : Int => IR r3451) (fun r3451 => S) (fun r3451 => O) (fun r3451 => [(1, .int (zi r3451))]) 53 (fun r3451 h3452 => ?_) (fun k3434 k3436 k3435 k3437 s3432 h3433 => ?_) ⟨(IRd rfl), (IRd rfl)⟩
  · refine r_iload_n (pc := 53) (j := 0) C dX11_dearest_53 rfl rfl ?_
    exact r_ireturn C hQ rfl dX11_dearest_54 (fun e => by cases e; exact ⟨h3452, rfl, rfl, rfl, rfl, rfl⟩)
  · refine r_iload_n (pc := 4) (j := 2) C dX11_dearest_4 rfl rfl ?_
    refine r_aload_n (pc := 5) (j := 0) C dX11_dearest_5 rfl rfl ?_
    refine r_getR (j := 7) (r := 74) C cl_X11 kd_0 ln_0 (by decide) rfl r0_0_7 (by decide) q_693 dX11_dearest_6 ?_
    refine r_cV1 (pc := 9) (k := 74) (As := []) (st := [.int (zi s3432.2)]) C (m_X7_newest (p := 74) gs_74 rfl) cal_X7_newest cl_X7 kd_74 ln_74 q_1036 dX11_dearest_9 rfl rfl (Nat.le_of_ble_eq_true rfl) (Nat.le_of_ble_eq_true rfl) (Nat.le_of_ble_eq_true rfl) (Nat.le_of_ble_eq_true rfl) (Nat.le_of_ble_eq_true rfl) (fun h3438 => ?_)
    refine r_icmp_gt (tgt := 53) C h3433.2 h3438 dX11_dearest_12 (by decide) (fun c3439 => ?_) (fun c3439 => ?_)
    · refine r_bt c3439 ?_
      refine r_L (L' := [(1, .int (zi s3432.1))]) [1] rfl ?_
      exact k3437 s3432.1 h3433.1
    · refine r_bf c3439 ?_
      refine r_iload_n (pc := 15) (j := 1) C dX11_dearest_15 rfl rfl ?_
      refine r_iconst (v := (-1)) C dX11_dearest_16 (by decide) ?_
      refine r_bj ?_
      refine r_join (fun q3442 : Int => IR q3442) (fun q3442 => S) (fun q3442 => O) (fun q3442 => [(0, .ref (zad E 0)), (1, .int (zi q3442)), (2, .int (zi s3432.2))]) 47 (fun q3442 => []) (fun q3442 h3443 => ?_) (fun k3444 k3445 => ?_)
      · refine r_iinc (j := 2) (L' := [(2, .int (zi (wr (s3432.2 + 1)))), (0, .ref (zad E 0)), (1, .int (zi q3442))]) C dX11_dearest_47 rfl (by decide) rfl ?_
        refine r_goto (tgt := 4) C dX11_dearest_50 (by decide) ?_
        refine r_L (L' := [(0, .ref (zad E 0)), (1, .int (zi q3442)), (2, .int (zi (wr (s3432.2 + 1))))]) [1, 2, 0] rfl ?_
        exact k3435 (q3442, wr (s3432.2 + 1)) ⟨h3443, (IR_wr _)⟩
      · refine r_cut (s3432.1 = (-1) ∨ f_X6_at 85 s3432.1 S < f_X6_at 85 s3432.2 S) 45 47 [] (fun c3446 => ?_) (fun c3446 => ?_) (fun k3447 k3448 => ?_)
        · refine r_jt c3446 ?_
          refine r_iload_n (pc := 45) (j := 2) C dX11_dearest_45 rfl rfl ?_
          refine r_istore_n (L' := [(1, .int (zi s3432.2)), (0, .ref (zad E 0)), (2, .int (zi s3432.2))]) C dX11_dearest_46 rfl (by decide) rfl ?_
          refine r_L (L' := [(0, .ref (zad E 0)), (1, .int (zi s3432.2)), (2, .int (zi s3432.2))]) [1, 0, 2] rfl ?_
          exact k3445 s3432.2 h3433.2
        · refine r_jf c3446 ?_
          exact k3445 s3432.1 h3433.1
        · refine r_icmp_eq (tgt := 45) C h3433.1 (IRd rfl) dX11_dearest_17 (by decide) (fun c3449 => ?_) (fun c3449 => ?_)
          · exact k3447 (Or.inl c3449)
          · refine r_aload_n (pc := 20) (j := 0) C dX11_dearest_20 rfl rfl ?_
            refine r_getR (j := 7) (r := 74) C cl_X11 kd_0 ln_0 (by decide) rfl r0_0_7 (by decide) q_693 dX11_dearest_21 ?_
            refine r_getR (j := 5) (r := 85) C cl_X7 kd_74 ln_74 (by decide) rfl r0_74_5 (by decide) q_524 dX11_dearest_24 ?_
            refine r_iload_n (pc := 27) (j := 2) C dX11_dearest_27 rfl rfl ?_
            refine r_cV1 (pc := 28) (k := 85) (As := [.int (zi s3432.2)]) (st := []) C (m_X6_at (p := 85) (a1 := s3432.2) gw_85 h3433.2 rfl) cal_X6_at cl_X6 kd_85 ln_85 q_1041 dX11_dearest_28 rfl rfl (Nat.le_of_ble_eq_true rfl) (Nat.le_of_ble_eq_true rfl) (Nat.le_of_ble_eq_true rfl) (Nat.le_of_ble_eq_true rfl) (Nat.le_of_ble_eq_true rfl) (fun h3440 => ?_)
            refine r_aload_n (pc := 31) (j := 0) C dX11_dearest_31 rfl rfl ?_
            refine r_getR (j := 7) (r := 74) C cl_X11 kd_0 ln_0 (by decide) rfl r0_0_7 (by decide) q_693 dX11_dearest_32 ?_
            refine r_getR (j := 5) (r := 85) C cl_X7 kd_74 ln_74 (by decide) rfl r0_74_5 (by decide) q_524 dX11_dearest_35 ?_
            refine r_iload_n (pc := 38) (j := 1) C dX11_dearest_38 rfl rfl ?_
            refine r_cV1 (pc := 39) (k := 85) (As := [.int (zi s3432.1)]) (st := [.int (zi (f_X6_at 85 s3432.2 S))]) C (m_X6_at (p := 85) (a1 := s3432.1) gw_85 h3433.1 rfl) cal_X6_at cl_X6 kd_85 ln_85 q_1041 dX11_dearest_39 rfl rfl (Nat.le_of_ble_eq_true rfl) (Nat.le_of_ble_eq_true rfl) (Nat.le_of_ble_eq_true rfl) (Nat.le_of_ble_eq_true rfl) (Nat.le_of_ble_eq_true rfl) (fun h3441 => ?_)
            refine r_icmp_le (tgt := 47) C h3440 h3441 dX11_dearest_42 (by decide) (fun c3450 => ?_) (fun c3450 => ?_)
            · exact k3448 (fun w => w.elim c3449 c3450)
            · exact k3447 (Or.inr c3450)

def f_X11_paid (S : Sst) : Option (Int) :=
  Option.bind (f_X7_copiesOf 74 (-1) S) fun (q3454 : Int) =>
  jn (wr (q3454 * (wr ((S.2 29 11) - 1)))) fun (v3457 : Int) =>
  Option.bind (f_X7_slotsWritten 74 S) fun (q3460 : Int) =>
  some (f_J9_max_7cf53 (wr (q3460 - v3457)) 0)
set_option maxRecDepth 100000 in
set_option maxHeartbeats 4000000 in
theorem m_X11_paid {l : Launch} {E : EwT} {S : Sst} {O : Smo}  {q : Int} (hq : f_X11_paid S = some q) : MetG l E yX11_paid cX11_paid 2 (some .int) 2 44 0 0 n0 R0 S O [.ref (zad E 0)] (IR q) (some (.int (zi q))) n0 R0 S O := by
  refine ofG (L0 := [(0, .ref (zad E 0))]) hq (by decide +kernel) (Nat.le_of_ble_eq_true rfl) rfl (fun K _ C hQ => ?_)
  unfold f_X11_paid
  refine r_aload_n (pc := 0) (j := 0) C dX11_paid_0 rfl rfl ?_
  refine r_getR (j := 7) (r := 74) C cl_X11 kd_0 ln_0 (by decide) rfl r0_0_7 (by decide) q_693 dX11_paid_1 ?_
  refine r_iconst (v := (-1)) C dX11_paid_4 (by decide) ?_
  refine r_bd (fun q3454 e3455 => ?_)
  refine r_cV1 (pc := 5) (k := 74) (As := [.int (zi (-1))]) (st := []) C (m_X7_copiesOf (p := 74) (a1 := (-1)) gs_74 (IRd rfl) e3455) cal_X7_copiesOf cl_X7 kd_74 ln_74 q_1373 dX11_paid_5 rfl rfl (Nat.le_of_ble_eq_true rfl) (Nat.le_of_ble_eq_true rfl) (Nat.le_of_ble_eq_true rfl) (Nat.le_of_ble_eq_true rfl) (Nat.le_of_ble_eq_true rfl) (fun h3453 => ?_)
  refine r_aload_n (pc := 8) (j := 0) C dX11_paid_8 rfl rfl ?_
  refine r_getR (j := 3) (r := 29) C cl_X11 kd_0 ln_0 (by decide) rfl r0_0_3 (by decide) q_689 dX11_paid_9 ?_
  refine r_getS (j := 11) C cl_X4 kd_29 ln_29 lc_29 (by decide) (by decide) rfl q_248 dX11_paid_12 (fun h3456 => ?_)
  refine r_iconst (v := 1) C dX11_paid_15 (by decide) ?_
  refine r_isub C dX11_paid_16 ?_
  refine r_imul C dX11_paid_17 ?_
  refine r_jv (IR_wr _) (fun v3457 h3458 => ?_)
  refine r_istore_n (L' := [(1, .int (zi v3457)), (0, .ref (zad E 0))]) C dX11_paid_18 rfl (by decide) rfl ?_
  refine r_aload_n (pc := 19) (j := 1) C dX11_paid_19 rfl rfl ?_
  refine r_getR (j := 7) (r := 74) C cl_X11 kd_0 ln_0 (by decide) rfl r0_0_7 (by decide) q_693 dX11_paid_20 ?_
  refine r_bd (fun q3460 e3461 => ?_)
  refine r_cV1 (pc := 23) (k := 74) (As := []) (st := []) C (m_X7_slotsWritten (p := 74) gs_74 e3461) cal_X7_slotsWritten cl_X7 kd_74 ln_74 q_1365 dX11_paid_23 rfl rfl (Nat.le_of_ble_eq_true rfl) (Nat.le_of_ble_eq_true rfl) (Nat.le_of_ble_eq_true rfl) (Nat.le_of_ble_eq_true rfl) (Nat.le_of_ble_eq_true rfl) (fun h3459 => ?_)
  refine r_iload_n (pc := 26) (j := 0) C dX11_paid_26 rfl rfl ?_
  refine r_isub C dX11_paid_27 ?_
  refine r_iconst (v := 0) C dX11_paid_28 (by decide) ?_
  refine r_cS1 (pc := 29) (As := [.int (zi (wr (q3460 - v3457))), .int (zi 0)]) (st := []) C (m_J9_max_7cf53 (a0 := wr (q3460 - v3457)) (a1 := 0) (IR_wr _) (IRd rfl) rfl) cal_J9_max_7cf53 q_1385 dX11_paid_29 rfl rfl (Nat.le_of_ble_eq_true rfl) (Nat.le_of_ble_eq_true rfl) (Nat.le_of_ble_eq_true rfl) (Nat.le_of_ble_eq_true rfl) (Nat.le_of_ble_eq_true rfl) (fun h3462 => ?_)
  exact r_ireturn C hQ rfl dX11_paid_32 (fun e => by cases e; exact ⟨h3462, rfl, rfl, rfl, rfl, rfl⟩)

def f_X11_credit (S : Sst) : Option (Int) :=
  Option.bind (lp (fun (s3482 : Int × Int) =>
    if s3482.2 < f_X4_count 29 S then
      (jn (f_X6_at 105 s3482.2 S) fun (v3491 : Int) =>
      jn (
        if v3491 = (-1) then
          (0)
        else
          (f_X6_at 95 v3491 S)) fun (q3493 : Int) =>
      jn (wr (s3482.1 + q3493)) fun (v3499 : Int) =>
      some (Sum.inl (v3499, wr (s3482.2 + 1))))
    else
      (some (Sum.inr s3482.1))) FU (0, 0)) fun (r3501 : Int) =>
  some r3501
set_option maxRecDepth 100000 in
set_option maxHeartbeats 4000000 in
theorem m_X11_credit {l : Launch} {E : EwT} {S : Sst} {O : Smo}  {q : Int} (hq : f_X11_credit S = some q) : MetG l E yX11_credit cX11_credit 4 (some .int) 2 40 0 0 n0 R0 S O [.ref (zad E 0)] (IR q) (some (.int (zi q))) n0 R0 S O := by
  refine ofG (L0 := [(0, .ref (zad E 0))]) hq (by decide +kernel) (Nat.le_of_ble_eq_true rfl) rfl (fun K _ C hQ => ?_)
  unfold f_X11_credit
  refine r_iconst (v := 0) C dX11_credit_0 (by decide) ?_
  refine r_istore_n (L' := [(1, .int (zi 0)), (0, .ref (zad E 0))]) C dX11_credit_1 rfl (by decide) rfl ?_
  refine r_iconst (v := 0) C dX11_credit_2 (by decide) ?_
  refine r_istore_n (L' := [(2, .int (zi 0)), (1, .int (zi 0)), (0, .ref (zad E 0))]) C dX11_credit_3 rfl (by decide) rfl ?_
  refine r_L (L' := [(0, .ref (zad E 0)), (1, .int (zi 0)), (2, .int (zi 0))]) [2, 1, 0] rfl ?_
  refine r_loop1 (fun s3482 : Int × Int => IR s3482.1 ∧ IR s3482.2) (fun s3482 => S) (fun s3482 => O) (fun s3482 => [(0, .ref (zad E 0)), (1, .int (zi s3482.1)), (2, .int (zi s3482.2))]) [] (fun r3501 : Int => IR r3501) (fun r3501 => S) (fun r3501 => O) (fun r3501 => [(1, .int (zi r3501))]) 56 (fun r3501 h3502 => ?_) (fun k3484 k3486 k3485 k3487 s3482 h3483 => ?_) ⟨(IRd rfl), (IRd rfl)⟩
  · refine r_iload_n (pc := 56) (j := 0) C dX11_credit_56 rfl rfl ?_
    exact r_ireturn C hQ rfl dX11_credit_57 (fun e => by cases e; exact ⟨h3502, rfl, rfl, rfl, rfl, rfl⟩)
  · refine r_iload_n (pc := 4) (j := 2) C dX11_credit_4 rfl rfl ?_
    refine r_aload_n (pc := 5) (j := 0) C dX11_credit_5 rfl rfl ?_
    refine r_getR (j := 3) (r := 29) C cl_X11 kd_0 ln_0 (by decide) rfl r0_0_3 (by decide) q_689 dX11_credit_6 ?_
    refine r_cV1 (pc := 9) (k := 29) (As := []) (st := [.int (zi s3482.2)]) C (m_X4_count (p := 29) gp_29 rfl) cal_X4_count cl_X4 kd_29 ln_29 q_1026 dX11_credit_9 rfl rfl (Nat.le_of_ble_eq_true rfl) (Nat.le_of_ble_eq_true rfl) (Nat.le_of_ble_eq_true rfl) (Nat.le_of_ble_eq_true rfl) (Nat.le_of_ble_eq_true rfl) (fun h3488 => ?_)
    refine r_icmp_ge (tgt := 56) C h3483.2 h3488 dX11_credit_12 (by decide) (fun c3489 => ?_) (fun c3489 => ?_)
    · refine r_bf c3489 ?_
      refine r_L (L' := [(1, .int (zi s3482.1))]) [1] rfl ?_
      exact k3487 s3482.1 h3483.1
    · refine r_bt c3489 ?_
      refine r_aload_n (pc := 15) (j := 0) C dX11_credit_15 rfl rfl ?_
      refine r_getR (j := 7) (r := 74) C cl_X11 kd_0 ln_0 (by decide) rfl r0_0_7 (by decide) q_693 dX11_credit_16 ?_
      refine r_getR (j := 15) (r := 105) C cl_X7 kd_74 ln_74 (by decide) rfl r0_74_15 (by decide) q_543 dX11_credit_19 ?_
      refine r_iload_n (pc := 22) (j := 2) C dX11_credit_22 rfl rfl ?_
      refine r_cV1 (pc := 23) (k := 105) (As := [.int (zi s3482.2)]) (st := []) C (m_X6_at (p := 105) (a1 := s3482.2) gw_105 h3483.2 rfl) cal_X6_at cl_X6 kd_105 ln_105 q_1041 dX11_credit_23 rfl rfl (Nat.le_of_ble_eq_true rfl) (Nat.le_of_ble_eq_true rfl) (Nat.le_of_ble_eq_true rfl) (Nat.le_of_ble_eq_true rfl) (Nat.le_of_ble_eq_true rfl) (fun h3490 => ?_)
      refine r_bj ?_
      refine r_jv h3490 (fun v3491 h3492 => ?_)
      refine r_istore_n (L' := [(3, .int (zi v3491)), (0, .ref (zad E 0)), (1, .int (zi s3482.1)), (2, .int (zi s3482.2))]) C dX11_credit_26 rfl (by decide) rfl ?_
      refine r_iload_n (pc := 27) (j := 2) C dX11_credit_27 rfl rfl ?_
      refine r_iload_n (pc := 28) (j := 0) C dX11_credit_28 rfl rfl ?_
      refine r_iconst (v := (-1)) C dX11_credit_29 (by decide) ?_
      refine r_bj ?_
      refine r_join (fun q3493 : Int => IR q3493) (fun q3493 => S) (fun q3493 => O) (fun q3493 => [(0, .ref (zad E 0)), (2, .int (zi s3482.2))]) 48 (fun q3493 => [.int (zi q3493), .int (zi s3482.1)]) (fun q3493 h3494 => ?_) (fun k3495 k3496 => ?_)
      · refine r_iadd C dX11_credit_48 ?_
        refine r_bj ?_
        refine r_jv (IR_wr _) (fun v3499 h3500 => ?_)
        refine r_istore_n (L' := [(1, .int (zi v3499)), (0, .ref (zad E 0)), (2, .int (zi s3482.2))]) C dX11_credit_49 rfl (by decide) rfl ?_
        refine r_iinc (j := 2) (L' := [(2, .int (zi (wr (s3482.2 + 1)))), (1, .int (zi v3499)), (0, .ref (zad E 0))]) C dX11_credit_50 rfl (by decide) rfl ?_
        refine r_goto (tgt := 4) C dX11_credit_53 (by decide) ?_
        refine r_L (L' := [(0, .ref (zad E 0)), (1, .int (zi v3499)), (2, .int (zi (wr (s3482.2 + 1))))]) [2, 1, 0] rfl ?_
        exact k3485 (v3499, wr (s3482.2 + 1)) ⟨h3500, (IR_wr _)⟩
      · refine r_icmp_ne (tgt := 37) C h3492 (IRd rfl) dX11_credit_30 (by decide) (fun c3497 => ?_) (fun c3497 => ?_)
        · refine r_jf c3497 ?_
          refine r_aload_n (pc := 37) (j := 1) C dX11_credit_37 rfl rfl ?_
          refine r_getR (j := 7) (r := 74) C cl_X11 kd_0 ln_0 (by decide) rfl r0_0_7 (by decide) q_693 dX11_credit_38 ?_
          refine r_getR (j := 10) (r := 95) C cl_X7 kd_74 ln_74 (by decide) rfl r0_74_10 (by decide) q_534 dX11_credit_41 ?_
          refine r_iload_n (pc := 44) (j := 0) C dX11_credit_44 rfl rfl ?_
          refine r_cV1 (pc := 45) (k := 95) (As := [.int (zi v3491)]) (st := [.int (zi s3482.1)]) C (m_X6_at (p := 95) (a1 := v3491) gw_95 h3492 rfl) cal_X6_at cl_X6 kd_95 ln_95 q_1041 dX11_credit_45 rfl rfl (Nat.le_of_ble_eq_true rfl) (Nat.le_of_ble_eq_true rfl) (Nat.le_of_ble_eq_true rfl) (Nat.le_of_ble_eq_true rfl) (Nat.le_of_ble_eq_true rfl) (fun h3498 => ?_)
          refine r_L (L' := [(0, .ref (zad E 0)), (2, .int (zi s3482.2))]) [1, 3] rfl ?_
          exact k3496 (f_X6_at 95 v3491 S) h3498
        · refine r_jt c3497 ?_
          refine r_iconst (v := 0) C dX11_credit_33 (by decide) ?_
          refine r_goto (tgt := 48) C dX11_credit_34 (by decide) ?_
          refine r_L (L' := [(0, .ref (zad E 0)), (2, .int (zi s3482.2))]) [1, 3] rfl ?_
          exact k3496 0 (IRd rfl)

def f_X11_law (a1 : Int) (S : Sst) : Option (Int × Sst) :=
  if (a1 < 1 ∨ 6 < a1) then
    (some ((-1), S))
  else
    (jn (f_X7_restart 107 S) fun (q3529 : Sst) =>
    Option.bind (lp (fun (s3531 : Int × Sst) =>
      if f_X7_newest 74 s3531.2 < s3531.1 then
        (some (Sum.inr s3531.2))
      else
        (Option.bind (f_X8_show s3531.1 s3531.2) fun (q3540 : Sst) =>
        Option.bind (f_X7_grow 107 (f_X6_at 75 s3531.1 q3540) (f_X6_at 77 s3531.1 q3540) 0 0 a1 q3540) fun (q3545 : Sst) =>
        some (Sum.inl (wr (s3531.1 + 1), q3545)))) FU (1, q3529)) fun (r3547 : Sst) =>
    Option.bind (f_X7_copiesOf 107 (-1) r3547) fun (q3550 : Int) =>
    some (q3550, r3547))
set_option maxRecDepth 100000 in
set_option maxHeartbeats 4000000 in
theorem m_X11_law {l : Launch} {E : EwT} {S : Sst} {O : Smo} {a1 : Int} (ha1 : IR a1) {q : Int × Sst} (hq : f_X11_law a1 S = some q) : MetG l E yX11_law cX11_law 3 (some .int) 5 125 0 0 n0 R0 S O [.ref (zad E 0), .int (zi a1)] (IR q.1) (some (.int (zi q.1))) n0 R0 q.2 O := by
  refine ofG (L0 := [(0, .ref (zad E 0)), (1, .int (zi a1))]) hq (by decide +kernel) (Nat.le_of_ble_eq_true rfl) rfl (fun K _ C hQ => ?_)
  unfold f_X11_law
  refine r_iload_n (pc := 0) (j := 1) C dX11_law_0 rfl rfl ?_
  refine r_iconst (v := 1) C dX11_law_1 (by decide) ?_
  refine r_cut (a1 < 1 ∨ 6 < a1) 11 13 [] (fun c3525 => ?_) (fun c3525 => ?_) (fun k3526 k3527 => ?_)
  · refine r_t c3525 ?_
    refine r_iconst (v := (-1)) C dX11_law_11 (by decide) ?_
    exact r_ireturn C hQ rfl dX11_law_12 (fun e => by cases e; exact ⟨(IRd rfl), rfl, rfl, rfl, rfl, rfl⟩)
  · refine r_f c3525 ?_
    refine r_aload_n (pc := 13) (j := 0) C dX11_law_13 rfl rfl ?_
    refine r_getR (j := 8) (r := 107) C cl_X11 kd_0 ln_0 (by decide) rfl r0_0_8 (by decide) q_694 dX11_law_14 ?_
    refine r_jn (fun q3529 e3530 => ?_)
    refine r_cV0 (pc := 17) (k := 107) (As := []) (st := []) C (m_X7_restart (p := 107) gs_107 e3530) cal_X7_restart cl_X7 kd_107 ln_107 q_1015 dX11_law_17 rfl rfl (Nat.le_of_ble_eq_true rfl) (Nat.le_of_ble_eq_true rfl) (Nat.le_of_ble_eq_true rfl) (Nat.le_of_ble_eq_true rfl) (Nat.le_of_ble_eq_true rfl) (fun h3528 => ?_)
    refine r_iconst (v := 1) C dX11_law_20 (by decide) ?_
    refine r_istore_n (L' := [(2, .int (zi 1)), (0, .ref (zad E 0)), (1, .int (zi a1))]) C dX11_law_21 rfl (by decide) rfl ?_
    refine r_L (L' := [(0, .ref (zad E 0)), (1, .int (zi a1)), (2, .int (zi 1))]) [1, 2, 0] rfl ?_
    refine r_loop1 (fun s3531 : Int × Sst => IR s3531.1) (fun s3531 => s3531.2) (fun s3531 => O) (fun s3531 => [(0, .ref (zad E 0)), (1, .int (zi a1)), (2, .int (zi s3531.1))]) [] (fun r3547 : Sst => True) (fun r3547 => r3547) (fun r3547 => O) (fun r3547 => [(0, .ref (zad E 0))]) 83 (fun r3547 h3548 => ?_) (fun k3533 k3535 k3534 k3536 s3531 h3532 => ?_) (IRd rfl)
    · refine r_aload_n (pc := 83) (j := 0) C dX11_law_83 rfl rfl ?_
      refine r_getR (j := 8) (r := 107) C cl_X11 kd_0 ln_0 (by decide) rfl r0_0_8 (by decide) q_694 dX11_law_84 ?_
      refine r_iconst (v := (-1)) C dX11_law_87 (by decide) ?_
      refine r_bd (fun q3550 e3551 => ?_)
      refine r_cV1 (pc := 88) (k := 107) (As := [.int (zi (-1))]) (st := []) C (m_X7_copiesOf (p := 107) (a1 := (-1)) gs_107 (IRd rfl) e3551) cal_X7_copiesOf cl_X7 kd_107 ln_107 q_1373 dX11_law_88 rfl rfl (Nat.le_of_ble_eq_true rfl) (Nat.le_of_ble_eq_true rfl) (Nat.le_of_ble_eq_true rfl) (Nat.le_of_ble_eq_true rfl) (Nat.le_of_ble_eq_true rfl) (fun h3549 => ?_)
      exact r_ireturn C hQ rfl dX11_law_91 (fun e => by cases e; exact ⟨h3549, rfl, rfl, rfl, rfl, rfl⟩)
    · refine r_iload_n (pc := 22) (j := 2) C dX11_law_22 rfl rfl ?_
      refine r_aload_n (pc := 23) (j := 0) C dX11_law_23 rfl rfl ?_
      refine r_getR (j := 7) (r := 74) C cl_X11 kd_0 ln_0 (by decide) rfl r0_0_7 (by decide) q_693 dX11_law_24 ?_
      refine r_cV1 (pc := 27) (k := 74) (As := []) (st := [.int (zi s3531.1)]) C (m_X7_newest (p := 74) gs_74 rfl) cal_X7_newest cl_X7 kd_74 ln_74 q_1036 dX11_law_27 rfl rfl (Nat.le_of_ble_eq_true rfl) (Nat.le_of_ble_eq_true rfl) (Nat.le_of_ble_eq_true rfl) (Nat.le_of_ble_eq_true rfl) (Nat.le_of_ble_eq_true rfl) (fun h3537 => ?_)
      refine r_icmp_gt (tgt := 83) C h3532 h3537 dX11_law_30 (by decide) (fun c3538 => ?_) (fun c3538 => ?_)
      · refine r_bt c3538 ?_
        refine r_L (L' := [(0, .ref (zad E 0))]) [0] rfl ?_
        exact k3536 s3531.2 trivial
      · refine r_bf c3538 ?_
        refine r_aload_n (pc := 33) (j := 0) C dX11_law_33 rfl rfl ?_
        refine r_getR (j := 13) (r := 242) C cl_X11 kd_0 ln_0 (by decide) rfl r0_0_13 (by decide) q_699 dX11_law_34 ?_
        refine r_iload_n (pc := 37) (j := 2) C dX11_law_37 rfl rfl ?_
        refine r_bb ?_
        refine r_bd (fun q3540 e3541 => ?_)
        refine r_cV0 (pc := 38) (k := 242) (As := [.int (zi s3531.1)]) (st := []) C (m_X8_show (a1 := s3531.1) h3532 e3541) cal_X8_show cl_X8 kd_242 ln_242 q_1245 dX11_law_38 rfl rfl (Nat.le_of_ble_eq_true rfl) (Nat.le_of_ble_eq_true rfl) (Nat.le_of_ble_eq_true rfl) (Nat.le_of_ble_eq_true rfl) (Nat.le_of_ble_eq_true rfl) (fun h3539 => ?_)
        refine r_aload_n (pc := 41) (j := 0) C dX11_law_41 rfl rfl ?_
        refine r_getR (j := 8) (r := 107) C cl_X11 kd_0 ln_0 (by decide) rfl r0_0_8 (by decide) q_694 dX11_law_42 ?_
        refine r_aload_n (pc := 45) (j := 0) C dX11_law_45 rfl rfl ?_
        refine r_getR (j := 6) (r := 59) C cl_X11 kd_0 ln_0 (by decide) rfl r0_0_6 (by decide) q_692 dX11_law_46 ?_
        refine r_aload_n (pc := 49) (j := 0) C dX11_law_49 rfl rfl ?_
        refine r_getR (j := 7) (r := 74) C cl_X11 kd_0 ln_0 (by decide) rfl r0_0_7 (by decide) q_693 dX11_law_50 ?_
        refine r_getR (j := 0) (r := 75) C cl_X7 kd_74 ln_74 (by decide) rfl r0_74_0 (by decide) q_510 dX11_law_53 ?_
        refine r_iload_n (pc := 56) (j := 2) C dX11_law_56 rfl rfl ?_
        refine r_cV1 (pc := 57) (k := 75) (As := [.int (zi s3531.1)]) (st := [.ref (zad E 59), .ref (zad E 107)]) C (m_X6_at (p := 75) (a1 := s3531.1) gw_75 h3532 rfl) cal_X6_at cl_X6 kd_75 ln_75 q_1041 dX11_law_57 rfl rfl (Nat.le_of_ble_eq_true rfl) (Nat.le_of_ble_eq_true rfl) (Nat.le_of_ble_eq_true rfl) (Nat.le_of_ble_eq_true rfl) (Nat.le_of_ble_eq_true rfl) (fun h3542 => ?_)
        refine r_aload_n (pc := 60) (j := 0) C dX11_law_60 rfl rfl ?_
        refine r_getR (j := 7) (r := 74) C cl_X11 kd_0 ln_0 (by decide) rfl r0_0_7 (by decide) q_693 dX11_law_61 ?_
        refine r_getR (j := 1) (r := 77) C cl_X7 kd_74 ln_74 (by decide) rfl r0_74_1 (by decide) q_514 dX11_law_64 ?_
        refine r_iload_n (pc := 67) (j := 2) C dX11_law_67 rfl rfl ?_
        refine r_cV1 (pc := 68) (k := 77) (As := [.int (zi s3531.1)]) (st := [.int (zi (f_X6_at 75 s3531.1 q3540)), .ref (zad E 59), .ref (zad E 107)]) C (m_X6_at (p := 77) (a1 := s3531.1) gw_77 h3532 rfl) cal_X6_at cl_X6 kd_77 ln_77 q_1041 dX11_law_68 rfl rfl (Nat.le_of_ble_eq_true rfl) (Nat.le_of_ble_eq_true rfl) (Nat.le_of_ble_eq_true rfl) (Nat.le_of_ble_eq_true rfl) (Nat.le_of_ble_eq_true rfl) (fun h3543 => ?_)
        refine r_iconst (v := 0) C dX11_law_71 (by decide) ?_
        refine r_iconst (v := 0) C dX11_law_72 (by decide) ?_
        refine r_iload_n (pc := 73) (j := 1) C dX11_law_73 rfl rfl ?_
        refine r_bb ?_
        refine r_bd (fun q3545 e3546 => ?_)
        refine r_cV0 (pc := 74) (k := 107) (As := [.ref (zad E 59), .int (zi (f_X6_at 75 s3531.1 q3540)), .int (zi (f_X6_at 77 s3531.1 q3540)), .int (zi 0), .int (zi 0), .int (zi a1)]) (st := []) C (m_X7_grow (p := 107) (a2 := f_X6_at 75 s3531.1 q3540) (a3 := f_X6_at 77 s3531.1 q3540) (a4 := 0) (a5 := 0) (a6 := a1) gs_107 h3542 h3543 (IRd rfl) (IRd rfl) ha1 e3546) cal_X7_grow cl_X7 kd_107 ln_107 q_1394 dX11_law_74 rfl rfl (Nat.le_of_ble_eq_true rfl) (Nat.le_of_ble_eq_true rfl) (Nat.le_of_ble_eq_true rfl) (Nat.le_of_ble_eq_true rfl) (Nat.le_of_ble_eq_true rfl) (fun h3544 => ?_)
        refine r_iinc (j := 2) (L' := [(2, .int (zi (wr (s3531.1 + 1)))), (0, .ref (zad E 0)), (1, .int (zi a1))]) C dX11_law_77 rfl (by decide) rfl ?_
        refine r_goto (tgt := 22) C dX11_law_80 (by decide) ?_
        refine r_L (L' := [(0, .ref (zad E 0)), (1, .int (zi a1)), (2, .int (zi (wr (s3531.1 + 1))))]) [1, 2, 0] rfl ?_
        exact k3534 (wr (s3531.1 + 1), q3545) (IR_wr _)
  · refine r_icmp_lt (tgt := 11) C ha1 (IRd rfl) dX11_law_2 (by decide) (fun c3552 => ?_) (fun c3552 => ?_)
    · exact k3526 (Or.inl c3552)
    · refine r_iload_n (pc := 5) (j := 1) C dX11_law_5 rfl rfl ?_
      refine r_bipush (v := 6) C dX11_law_6 (by decide) ?_
      refine r_icmp_le (tgt := 13) C ha1 (IRd rfl) dX11_law_8 (by decide) (fun c3553 => ?_) (fun c3553 => ?_)
      · exact k3527 (fun w => w.elim c3552 c3553)
      · exact k3526 (Or.inr c3553)

def f_X11_busiest (S : Sst) : Option (Int) :=
  Option.bind (lp (fun (s3574 : Int × Int) =>
    if s3574.2 < f_X4_count 29 S then
      (Option.bind (
        if s3574.1 = (-1) then
          (some s3574.2)
        else
          (Option.bind (f_X7_copiesOf 74 s3574.2 S) fun (q3588 : Int) =>
          Option.bind (f_X7_copiesOf 74 s3574.1 S) fun (q3591 : Int) =>
          if q3591 < q3588 then
            (some s3574.2)
          else
            (some s3574.1))) fun (q3582 : Int) =>
      some (Sum.inl (q3582, wr (s3574.2 + 1))))
    else
      (some (Sum.inr s3574.1))) FU ((-1), 0)) fun (r3594 : Int) =>
  some r3594
set_option maxRecDepth 100000 in
set_option maxHeartbeats 4000000 in
theorem m_X11_busiest {l : Launch} {E : EwT} {S : Sst} {O : Smo}  {q : Int} (hq : f_X11_busiest S = some q) : MetG l E yX11_busiest cX11_busiest 3 (some .int) 2 44 0 0 n0 R0 S O [.ref (zad E 0)] (IR q) (some (.int (zi q))) n0 R0 S O := by
  refine ofG (L0 := [(0, .ref (zad E 0))]) hq (by decide +kernel) (Nat.le_of_ble_eq_true rfl) rfl (fun K _ C hQ => ?_)
  unfold f_X11_busiest
  refine r_iconst (v := (-1)) C dX11_busiest_0 (by decide) ?_
  refine r_istore_n (L' := [(1, .int (zi (-1))), (0, .ref (zad E 0))]) C dX11_busiest_1 rfl (by decide) rfl ?_
  refine r_iconst (v := 0) C dX11_busiest_2 (by decide) ?_
  refine r_istore_n (L' := [(2, .int (zi 0)), (1, .int (zi (-1))), (0, .ref (zad E 0))]) C dX11_busiest_3 rfl (by decide) rfl ?_
  refine r_L (L' := [(0, .ref (zad E 0)), (1, .int (zi (-1))), (2, .int (zi 0))]) [2, 1, 0] rfl ?_
  refine r_loop1 (fun s3574 : Int × Int => IR s3574.1 ∧ IR s3574.2) (fun s3574 => S) (fun s3574 => O) (fun s3574 => [(0, .ref (zad E 0)), (1, .int (zi s3574.1)), (2, .int (zi s3574.2))]) [] (fun r3594 : Int => IR r3594) (fun r3594 => S) (fun r3594 => O) (fun r3594 => [(1, .int (zi r3594))]) 47 (fun r3594 h3595 => ?_) (fun k3576 k3578 k3577 k3579 s3574 h3575 => ?_) ⟨(IRd rfl), (IRd rfl)⟩
  · refine r_iload_n (pc := 47) (j := 0) C dX11_busiest_47 rfl rfl ?_
    exact r_ireturn C hQ rfl dX11_busiest_48 (fun e => by cases e; exact ⟨h3595, rfl, rfl, rfl, rfl, rfl⟩)
  · refine r_iload_n (pc := 4) (j := 2) C dX11_busiest_4 rfl rfl ?_
    refine r_aload_n (pc := 5) (j := 0) C dX11_busiest_5 rfl rfl ?_
    refine r_getR (j := 3) (r := 29) C cl_X11 kd_0 ln_0 (by decide) rfl r0_0_3 (by decide) q_689 dX11_busiest_6 ?_
    refine r_cV1 (pc := 9) (k := 29) (As := []) (st := [.int (zi s3574.2)]) C (m_X4_count (p := 29) gp_29 rfl) cal_X4_count cl_X4 kd_29 ln_29 q_1026 dX11_busiest_9 rfl rfl (Nat.le_of_ble_eq_true rfl) (Nat.le_of_ble_eq_true rfl) (Nat.le_of_ble_eq_true rfl) (Nat.le_of_ble_eq_true rfl) (Nat.le_of_ble_eq_true rfl) (fun h3580 => ?_)
    refine r_icmp_ge (tgt := 47) C h3575.2 h3580 dX11_busiest_12 (by decide) (fun c3581 => ?_) (fun c3581 => ?_)
    · refine r_bf c3581 ?_
      refine r_L (L' := [(1, .int (zi s3574.1))]) [1] rfl ?_
      exact k3579 s3574.1 h3575.1
    · refine r_bt c3581 ?_
      refine r_iload_n (pc := 15) (j := 1) C dX11_busiest_15 rfl rfl ?_
      refine r_iconst (v := (-1)) C dX11_busiest_16 (by decide) ?_
      refine r_bb ?_
      refine r_joinb (fun q3582 : Int => IR q3582) (fun q3582 => S) (fun q3582 => O) (fun q3582 => [(0, .ref (zad E 0)), (1, .int (zi q3582)), (2, .int (zi s3574.2))]) 41 (fun q3582 => []) (fun q3582 h3583 => ?_) (fun k3584 k3585 => ?_)
      · refine r_iinc (j := 2) (L' := [(2, .int (zi (wr (s3574.2 + 1)))), (0, .ref (zad E 0)), (1, .int (zi q3582))]) C dX11_busiest_41 rfl (by decide) rfl ?_
        refine r_goto (tgt := 4) C dX11_busiest_44 (by decide) ?_
        refine r_L (L' := [(0, .ref (zad E 0)), (1, .int (zi q3582)), (2, .int (zi (wr (s3574.2 + 1))))]) [1, 2, 0] rfl ?_
        exact k3577 (q3582, wr (s3574.2 + 1)) ⟨h3583, (IR_wr _)⟩
      · refine r_icmp_eq (tgt := 39) C h3575.1 (IRd rfl) dX11_busiest_17 (by decide) (fun c3586 => ?_) (fun c3586 => ?_)
        · refine r_bt c3586 ?_
          refine r_iload_n (pc := 39) (j := 2) C dX11_busiest_39 rfl rfl ?_
          refine r_istore_n (L' := [(1, .int (zi s3574.2)), (0, .ref (zad E 0)), (2, .int (zi s3574.2))]) C dX11_busiest_40 rfl (by decide) rfl ?_
          refine r_L (L' := [(0, .ref (zad E 0)), (1, .int (zi s3574.2)), (2, .int (zi s3574.2))]) [1, 0, 2] rfl ?_
          exact k3585 s3574.2 h3575.2
        · refine r_bf c3586 ?_
          refine r_aload_n (pc := 20) (j := 0) C dX11_busiest_20 rfl rfl ?_
          refine r_getR (j := 7) (r := 74) C cl_X11 kd_0 ln_0 (by decide) rfl r0_0_7 (by decide) q_693 dX11_busiest_21 ?_
          refine r_iload_n (pc := 24) (j := 2) C dX11_busiest_24 rfl rfl ?_
          refine r_bb ?_
          refine r_bd (fun q3588 e3589 => ?_)
          refine r_cV1 (pc := 25) (k := 74) (As := [.int (zi s3574.2)]) (st := []) C (m_X7_copiesOf (p := 74) (a1 := s3574.2) gs_74 h3575.2 e3589) cal_X7_copiesOf cl_X7 kd_74 ln_74 q_1373 dX11_busiest_25 rfl rfl (Nat.le_of_ble_eq_true rfl) (Nat.le_of_ble_eq_true rfl) (Nat.le_of_ble_eq_true rfl) (Nat.le_of_ble_eq_true rfl) (Nat.le_of_ble_eq_true rfl) (fun h3587 => ?_)
          refine r_aload_n (pc := 28) (j := 0) C dX11_busiest_28 rfl rfl ?_
          refine r_getR (j := 7) (r := 74) C cl_X11 kd_0 ln_0 (by decide) rfl r0_0_7 (by decide) q_693 dX11_busiest_29 ?_
          refine r_iload_n (pc := 32) (j := 1) C dX11_busiest_32 rfl rfl ?_
          refine r_bb ?_
          refine r_bd (fun q3591 e3592 => ?_)
          refine r_cV1 (pc := 33) (k := 74) (As := [.int (zi s3574.1)]) (st := [.int (zi q3588)]) C (m_X7_copiesOf (p := 74) (a1 := s3574.1) gs_74 h3575.1 e3592) cal_X7_copiesOf cl_X7 kd_74 ln_74 q_1373 dX11_busiest_33 rfl rfl (Nat.le_of_ble_eq_true rfl) (Nat.le_of_ble_eq_true rfl) (Nat.le_of_ble_eq_true rfl) (Nat.le_of_ble_eq_true rfl) (Nat.le_of_ble_eq_true rfl) (fun h3590 => ?_)
          refine r_icmp_le (tgt := 41) C h3587 h3590 dX11_busiest_36 (by decide) (fun c3593 => ?_) (fun c3593 => ?_)
          · refine r_bf c3593 ?_
            exact k3585 s3574.1 h3575.1
          · refine r_bt c3593 ?_
            refine r_iload_n (pc := 39) (j := 2) C dX11_busiest_39 rfl rfl ?_
            refine r_istore_n (L' := [(1, .int (zi s3574.2)), (0, .ref (zad E 0)), (2, .int (zi s3574.2))]) C dX11_busiest_40 rfl (by decide) rfl ?_
            refine r_L (L' := [(0, .ref (zad E 0)), (1, .int (zi s3574.2)), (2, .int (zi s3574.2))]) [1, 0, 2] rfl ?_
            exact k3585 s3574.2 h3575.2

def f_X11_widest (S : Sst) : Option (Int) :=
  Option.bind (lp (fun (s3630 : Int × Int) =>
    if f_X7_newest 74 S < s3630.2 then
      (some (Sum.inr s3630.1))
    else
      (jn (
        if f_J6_bitCount_0f7a4 (f_X6_at 77 s3630.1 S) < f_J6_bitCount_0f7a4 (f_X6_at 77 s3630.2 S) then
          (s3630.2)
        else
          (s3630.1)) fun (q3642 : Int) =>
      some (Sum.inl (q3642, wr (s3630.2 + 1))))) FU (0, 1)) fun (r3647 : Int) =>
  some r3647
set_option maxRecDepth 100000 in
set_option maxHeartbeats 4000000 in
theorem m_X11_widest {l : Launch} {E : EwT} {S : Sst} {O : Smo}  {q : Int} (hq : f_X11_widest S = some q) : MetG l E yX11_widest cX11_widest 3 (some .int) 2 40 0 0 n0 R0 S O [.ref (zad E 0)] (IR q) (some (.int (zi q))) n0 R0 S O := by
  refine ofG (L0 := [(0, .ref (zad E 0))]) hq (by decide +kernel) (Nat.le_of_ble_eq_true rfl) rfl (fun K _ C hQ => ?_)
  unfold f_X11_widest
  refine r_iconst (v := 0) C dX11_widest_0 (by decide) ?_
  refine r_istore_n (L' := [(1, .int (zi 0)), (0, .ref (zad E 0))]) C dX11_widest_1 rfl (by decide) rfl ?_
  refine r_iconst (v := 1) C dX11_widest_2 (by decide) ?_
  refine r_istore_n (L' := [(2, .int (zi 1)), (1, .int (zi 0)), (0, .ref (zad E 0))]) C dX11_widest_3 rfl (by decide) rfl ?_
  refine r_L (L' := [(0, .ref (zad E 0)), (1, .int (zi 0)), (2, .int (zi 1))]) [2, 1, 0] rfl ?_
  refine r_loop1 (fun s3630 : Int × Int => IR s3630.1 ∧ IR s3630.2) (fun s3630 => S) (fun s3630 => O) (fun s3630 => [(0, .ref (zad E 0)), (1, .int (zi s3630.1)), (2, .int (zi s3630.2))]) [] (fun r3647 : Int => IR r3647) (fun r3647 => S) (fun r3647 => O) (fun r3647 => [(1, .int (zi r3647))]) 54 (fun r3647 h3648 => ?_) (fun k3632 k3634 k3633 k3635 s3630 h3631 => ?_) ⟨(IRd rfl), (IRd rfl)⟩
  · refine r_iload_n (pc := 54) (j := 0) C dX11_widest_54 rfl rfl ?_
    exact r_ireturn C hQ rfl dX11_widest_55 (fun e => by cases e; exact ⟨h3648, rfl, rfl, rfl, rfl, rfl⟩)
  · refine r_iload_n (pc := 4) (j := 2) C dX11_widest_4 rfl rfl ?_
    refine r_aload_n (pc := 5) (j := 0) C dX11_widest_5 rfl rfl ?_
    refine r_getR (j := 7) (r := 74) C cl_X11 kd_0 ln_0 (by decide) rfl r0_0_7 (by decide) q_693 dX11_widest_6 ?_
    refine r_cV1 (pc := 9) (k := 74) (As := []) (st := [.int (zi s3630.2)]) C (m_X7_newest (p := 74) gs_74 rfl) cal_X7_newest cl_X7 kd_74 ln_74 q_1036 dX11_widest_9 rfl rfl (Nat.le_of_ble_eq_true rfl) (Nat.le_of_ble_eq_true rfl) (Nat.le_of_ble_eq_true rfl) (Nat.le_of_ble_eq_true rfl) (Nat.le_of_ble_eq_true rfl) (fun h3636 => ?_)
    refine r_icmp_gt (tgt := 54) C h3631.2 h3636 dX11_widest_12 (by decide) (fun c3637 => ?_) (fun c3637 => ?_)
    · refine r_bt c3637 ?_
      refine r_L (L' := [(1, .int (zi s3630.1))]) [1] rfl ?_
      exact k3635 s3630.1 h3631.1
    · refine r_bf c3637 ?_
      refine r_aload_n (pc := 15) (j := 0) C dX11_widest_15 rfl rfl ?_
      refine r_getR (j := 7) (r := 74) C cl_X11 kd_0 ln_0 (by decide) rfl r0_0_7 (by decide) q_693 dX11_widest_16 ?_
      refine r_getR (j := 1) (r := 77) C cl_X7 kd_74 ln_74 (by decide) rfl r0_74_1 (by decide) q_514 dX11_widest_19 ?_
      refine r_iload_n (pc := 22) (j := 2) C dX11_widest_22 rfl rfl ?_
      refine r_cV1 (pc := 23) (k := 77) (As := [.int (zi s3630.2)]) (st := []) C (m_X6_at (p := 77) (a1 := s3630.2) gw_77 h3631.2 rfl) cal_X6_at cl_X6 kd_77 ln_77 q_1041 dX11_widest_23 rfl rfl (Nat.le_of_ble_eq_true rfl) (Nat.le_of_ble_eq_true rfl) (Nat.le_of_ble_eq_true rfl) (Nat.le_of_ble_eq_true rfl) (Nat.le_of_ble_eq_true rfl) (fun h3638 => ?_)
      refine r_cS1 (pc := 26) (As := [.int (zi (f_X6_at 77 s3630.2 S))]) (st := []) C (m_J6_bitCount_0f7a4 (a0 := f_X6_at 77 s3630.2 S) h3638 rfl) cal_J6_bitCount_0f7a4 q_1172 dX11_widest_26 rfl rfl (Nat.le_of_ble_eq_true rfl) (Nat.le_of_ble_eq_true rfl) (Nat.le_of_ble_eq_true rfl) (Nat.le_of_ble_eq_true rfl) (Nat.le_of_ble_eq_true rfl) (fun h3639 => ?_)
      refine r_aload_n (pc := 29) (j := 0) C dX11_widest_29 rfl rfl ?_
      refine r_getR (j := 7) (r := 74) C cl_X11 kd_0 ln_0 (by decide) rfl r0_0_7 (by decide) q_693 dX11_widest_30 ?_
      refine r_getR (j := 1) (r := 77) C cl_X7 kd_74 ln_74 (by decide) rfl r0_74_1 (by decide) q_514 dX11_widest_33 ?_
      refine r_iload_n (pc := 36) (j := 1) C dX11_widest_36 rfl rfl ?_
      refine r_cV1 (pc := 37) (k := 77) (As := [.int (zi s3630.1)]) (st := [.int (zi (f_J6_bitCount_0f7a4 (f_X6_at 77 s3630.2 S)))]) C (m_X6_at (p := 77) (a1 := s3630.1) gw_77 h3631.1 rfl) cal_X6_at cl_X6 kd_77 ln_77 q_1041 dX11_widest_37 rfl rfl (Nat.le_of_ble_eq_true rfl) (Nat.le_of_ble_eq_true rfl) (Nat.le_of_ble_eq_true rfl) (Nat.le_of_ble_eq_true rfl) (Nat.le_of_ble_eq_true rfl) (fun h3640 => ?_)
      refine r_cS1 (pc := 40) (As := [.int (zi (f_X6_at 77 s3630.1 S))]) (st := [.int (zi (f_J6_bitCount_0f7a4 (f_X6_at 77 s3630.2 S)))]) C (m_J6_bitCount_0f7a4 (a0 := f_X6_at 77 s3630.1 S) h3640 rfl) cal_J6_bitCount_0f7a4 q_1172 dX11_widest_40 rfl rfl (Nat.le_of_ble_eq_true rfl) (Nat.le_of_ble_eq_true rfl) (Nat.le_of_ble_eq_true rfl) (Nat.le_of_ble_eq_true rfl) (Nat.le_of_ble_eq_true rfl) (fun h3641 => ?_)
      refine r_bj ?_
      refine r_join (fun q3642 : Int => IR q3642) (fun q3642 => S) (fun q3642 => O) (fun q3642 => [(0, .ref (zad E 0)), (1, .int (zi q3642)), (2, .int (zi s3630.2))]) 48 (fun q3642 => []) (fun q3642 h3643 => ?_) (fun k3644 k3645 => ?_)
      · refine r_iinc (j := 2) (L' := [(2, .int (zi (wr (s3630.2 + 1)))), (0, .ref (zad E 0)), (1, .int (zi q3642))]) C dX11_widest_48 rfl (by decide) rfl ?_
        refine r_goto (tgt := 4) C dX11_widest_51 (by decide) ?_
        refine r_L (L' := [(0, .ref (zad E 0)), (1, .int (zi q3642)), (2, .int (zi (wr (s3630.2 + 1))))]) [1, 2, 0] rfl ?_
        exact k3633 (q3642, wr (s3630.2 + 1)) ⟨h3643, (IR_wr _)⟩
      · refine r_icmp_le (tgt := 48) C h3639 h3641 dX11_widest_43 (by decide) (fun c3646 => ?_) (fun c3646 => ?_)
        · refine r_jf c3646 ?_
          exact k3645 s3630.1 h3631.1
        · refine r_jt c3646 ?_
          refine r_iload_n (pc := 46) (j := 2) C dX11_widest_46 rfl rfl ?_
          refine r_istore_n (L' := [(1, .int (zi s3630.2)), (0, .ref (zad E 0)), (2, .int (zi s3630.2))]) C dX11_widest_47 rfl (by decide) rfl ?_
          refine r_L (L' := [(0, .ref (zad E 0)), (1, .int (zi s3630.2)), (2, .int (zi s3630.2))]) [1, 0, 2] rfl ?_
          exact k3645 s3630.2 h3631.2

def f_X11_highest (S : Sst) : Option (Int × Sst) :=
  Option.bind (lp (fun (s3689 : Int × Int × Int × Sst) =>
    if f_X7_newest 74 s3689.2.2.2 < s3689.2.2.1 then
      (some (Sum.inr (s3689.1, s3689.2.2.2)))
    else
      (Option.bind (f_X8_show s3689.2.2.1 s3689.2.2.2) fun (q3698 : Sst) =>
      jn (
        if s3689.2.1 < q3698.2 59 6 then
          (jn (q3698.2 59 6) fun (v3707 : Int) =>
          (s3689.2.2.1, v3707))
        else
          ((s3689.1, s3689.2.1))) fun (q3701 : Int × Int) =>
      some (Sum.inl (q3701.1, q3701.2, wr (s3689.2.2.1 + 1), q3698)))) FU (0, 0, 1, S)) fun (r3709 : Int × Sst) =>
  some (r3709.1, r3709.2)
set_option maxRecDepth 100000 in
set_option maxHeartbeats 4000000 in
theorem m_X11_highest {l : Launch} {E : EwT} {S : Sst} {O : Smo}  {q : Int × Sst} (hq : f_X11_highest S = some q) : MetG l E yX11_highest cX11_highest 4 (some .int) 5 111 0 0 n0 R0 S O [.ref (zad E 0)] (IR q.1) (some (.int (zi q.1))) n0 R0 q.2 O := by
  refine ofG (L0 := [(0, .ref (zad E 0))]) hq (by decide +kernel) (Nat.le_of_ble_eq_true rfl) rfl (fun K _ C hQ => ?_)
  unfold f_X11_highest
  refine r_iconst (v := 0) C dX11_highest_0 (by decide) ?_
  refine r_istore_n (L' := [(1, .int (zi 0)), (0, .ref (zad E 0))]) C dX11_highest_1 rfl (by decide) rfl ?_
  refine r_iconst (v := 0) C dX11_highest_2 (by decide) ?_
  refine r_istore_n (L' := [(2, .int (zi 0)), (1, .int (zi 0)), (0, .ref (zad E 0))]) C dX11_highest_3 rfl (by decide) rfl ?_
  refine r_iconst (v := 1) C dX11_highest_4 (by decide) ?_
  refine r_istore_n (L' := [(3, .int (zi 1)), (2, .int (zi 0)), (1, .int (zi 0)), (0, .ref (zad E 0))]) C dX11_highest_5 rfl (by decide) rfl ?_
  refine r_L (L' := [(0, .ref (zad E 0)), (1, .int (zi 0)), (2, .int (zi 0)), (3, .int (zi 1))]) [3, 2, 1, 0] rfl ?_
  refine r_loop1 (fun s3689 : Int × Int × Int × Sst => IR s3689.1 ∧ IR s3689.2.1 ∧ IR s3689.2.2.1) (fun s3689 => s3689.2.2.2) (fun s3689 => O) (fun s3689 => [(0, .ref (zad E 0)), (1, .int (zi s3689.1)), (2, .int (zi s3689.2.1)), (3, .int (zi s3689.2.2.1))]) [] (fun r3709 : Int × Sst => IR r3709.1) (fun r3709 => r3709.2) (fun r3709 => O) (fun r3709 => [(1, .int (zi r3709.1))]) 52 (fun r3709 h3710 => ?_) (fun k3691 k3693 k3692 k3694 s3689 h3690 => ?_) ⟨(IRd rfl), (IRd rfl), (IRd rfl)⟩
  · refine r_iload_n (pc := 52) (j := 0) C dX11_highest_52 rfl rfl ?_
    exact r_ireturn C hQ rfl dX11_highest_53 (fun e => by cases e; exact ⟨h3710, rfl, rfl, rfl, rfl, rfl⟩)
  · refine r_iload_n (pc := 6) (j := 3) C dX11_highest_6 rfl rfl ?_
    refine r_aload_n (pc := 7) (j := 0) C dX11_highest_7 rfl rfl ?_
    refine r_getR (j := 7) (r := 74) C cl_X11 kd_0 ln_0 (by decide) rfl r0_0_7 (by decide) q_693 dX11_highest_8 ?_
    refine r_cV1 (pc := 11) (k := 74) (As := []) (st := [.int (zi s3689.2.2.1)]) C (m_X7_newest (p := 74) gs_74 rfl) cal_X7_newest cl_X7 kd_74 ln_74 q_1036 dX11_highest_11 rfl rfl (Nat.le_of_ble_eq_true rfl) (Nat.le_of_ble_eq_true rfl) (Nat.le_of_ble_eq_true rfl) (Nat.le_of_ble_eq_true rfl) (Nat.le_of_ble_eq_true rfl) (fun h3695 => ?_)
    refine r_icmp_gt (tgt := 52) C h3690.2.2 h3695 dX11_highest_14 (by decide) (fun c3696 => ?_) (fun c3696 => ?_)
    · refine r_bt c3696 ?_
      refine r_L (L' := [(1, .int (zi s3689.1))]) [1] rfl ?_
      exact k3694 (s3689.1, s3689.2.2.2) h3690.1
    · refine r_bf c3696 ?_
      refine r_aload_n (pc := 17) (j := 0) C dX11_highest_17 rfl rfl ?_
      refine r_getR (j := 13) (r := 242) C cl_X11 kd_0 ln_0 (by decide) rfl r0_0_13 (by decide) q_699 dX11_highest_18 ?_
      refine r_iload_n (pc := 21) (j := 3) C dX11_highest_21 rfl rfl ?_
      refine r_bb ?_
      refine r_bd (fun q3698 e3699 => ?_)
      refine r_cV0 (pc := 22) (k := 242) (As := [.int (zi s3689.2.2.1)]) (st := []) C (m_X8_show (a1 := s3689.2.2.1) h3690.2.2 e3699) cal_X8_show cl_X8 kd_242 ln_242 q_1245 dX11_highest_22 rfl rfl (Nat.le_of_ble_eq_true rfl) (Nat.le_of_ble_eq_true rfl) (Nat.le_of_ble_eq_true rfl) (Nat.le_of_ble_eq_true rfl) (Nat.le_of_ble_eq_true rfl) (fun h3697 => ?_)
      refine r_aload_n (pc := 25) (j := 0) C dX11_highest_25 rfl rfl ?_
      refine r_getR (j := 6) (r := 59) C cl_X11 kd_0 ln_0 (by decide) rfl r0_0_6 (by decide) q_692 dX11_highest_26 ?_
      refine r_getS (j := 6) C cl_X10 kd_59 ln_59 lc_59 (by decide) (by decide) rfl q_448 dX11_highest_29 (fun h3700 => ?_)
      refine r_iload_n (pc := 32) (j := 2) C dX11_highest_32 rfl rfl ?_
      refine r_bj ?_
      refine r_join (fun q3701 : Int × Int => IR q3701.1 ∧ IR q3701.2) (fun q3701 => q3698) (fun q3701 => O) (fun q3701 => [(0, .ref (zad E 0)), (1, .int (zi q3701.1)), (2, .int (zi q3701.2)), (3, .int (zi s3689.2.2.1))]) 46 (fun q3701 => []) (fun q3701 h3702 => ?_) (fun k3703 k3704 => ?_)
      · refine r_iinc (j := 3) (L' := [(3, .int (zi (wr (s3689.2.2.1 + 1)))), (0, .ref (zad E 0)), (1, .int (zi q3701.1)), (2, .int (zi q3701.2))]) C dX11_highest_46 rfl (by decide) rfl ?_
        refine r_goto (tgt := 6) C dX11_highest_49 (by decide) ?_
        refine r_L (L' := [(0, .ref (zad E 0)), (1, .int (zi q3701.1)), (2, .int (zi q3701.2)), (3, .int (zi (wr (s3689.2.2.1 + 1))))]) [1, 2, 3, 0] rfl ?_
        exact k3692 (q3701.1, q3701.2, wr (s3689.2.2.1 + 1), q3698) ⟨h3702.1, h3702.2, (IR_wr _)⟩
      · refine r_icmp_le (tgt := 46) C h3700 h3690.2.1 dX11_highest_33 (by decide) (fun c3705 => ?_) (fun c3705 => ?_)
        · refine r_jf c3705 ?_
          exact k3704 (s3689.1, s3689.2.1) ⟨h3690.1, h3690.2.1⟩
        · refine r_jt c3705 ?_
          refine r_aload_n (pc := 36) (j := 0) C dX11_highest_36 rfl rfl ?_
          refine r_getR (j := 6) (r := 59) C cl_X11 kd_0 ln_0 (by decide) rfl r0_0_6 (by decide) q_692 dX11_highest_37 ?_
          refine r_getS (j := 6) C cl_X10 kd_59 ln_59 lc_59 (by decide) (by decide) rfl q_448 dX11_highest_40 (fun h3706 => ?_)
          refine r_jj ?_
          refine r_jv h3706 (fun v3707 h3708 => ?_)
          refine r_istore_n (L' := [(2, .int (zi v3707)), (0, .ref (zad E 0)), (1, .int (zi s3689.1)), (3, .int (zi s3689.2.2.1))]) C dX11_highest_43 rfl (by decide) rfl ?_
          refine r_iload_n (pc := 44) (j := 3) C dX11_highest_44 rfl rfl ?_
          refine r_istore_n (L' := [(1, .int (zi s3689.2.2.1)), (2, .int (zi v3707)), (0, .ref (zad E 0)), (3, .int (zi s3689.2.2.1))]) C dX11_highest_45 rfl (by decide) rfl ?_
          refine r_L (L' := [(0, .ref (zad E 0)), (1, .int (zi s3689.2.2.1)), (2, .int (zi v3707)), (3, .int (zi s3689.2.2.1))]) [2, 0, 1, 3] rfl ?_
          exact k3704 (s3689.2.2.1, v3707) ⟨h3690.2.2, h3708⟩

def f_X11_stays (a1 : Int) (S : Sst) : Option (Int) :=
  if f_X4_has 29 a1 S = 0 then
    (some (-1))
  else
    (Option.bind (lp (fun (s3731 : Int × Int) =>
      if f_X7_newest 74 S < s3731.2 then
        (some (Sum.inr s3731.1))
      else
        (jn (
          if f_X7_isIn 74 s3731.2 a1 S = 0 then
            (0)
          else
            (1)) fun (q3740 : Int) =>
        jn (wr (s3731.1 + q3740)) fun (v3745 : Int) =>
        some (Sum.inl (v3745, wr (s3731.2 + 1))))) FU (0, 0)) fun (r3747 : Int) =>
    some r3747)
set_option maxRecDepth 100000 in
set_option maxHeartbeats 4000000 in
theorem m_X11_stays {l : Launch} {E : EwT} {S : Sst} {O : Smo} {a1 : Int} (ha1 : IR a1) {q : Int} (hq : f_X11_stays a1 S = some q) : MetG l E yX11_stays cX11_stays 4 (some .int) 2 43 0 0 n0 R0 S O [.ref (zad E 0), .int (zi a1)] (IR q) (some (.int (zi q))) n0 R0 S O := by
  refine ofG (L0 := [(0, .ref (zad E 0)), (1, .int (zi a1))]) hq (by decide +kernel) (Nat.le_of_ble_eq_true rfl) rfl (fun K _ C hQ => ?_)
  unfold f_X11_stays
  refine r_aload_n (pc := 0) (j := 0) C dX11_stays_0 rfl rfl ?_
  refine r_getR (j := 3) (r := 29) C cl_X11 kd_0 ln_0 (by decide) rfl r0_0_3 (by decide) q_689 dX11_stays_1 ?_
  refine r_iload_n (pc := 4) (j := 1) C dX11_stays_4 rfl rfl ?_
  refine r_cV1 (pc := 5) (k := 29) (As := [.int (zi a1)]) (st := []) C (m_X4_has (p := 29) (a1 := a1) gp_29 ha1 rfl) cal_X4_has cl_X4 kd_29 ln_29 q_1035 dX11_stays_5 rfl rfl (Nat.le_of_ble_eq_true rfl) (Nat.le_of_ble_eq_true rfl) (Nat.le_of_ble_eq_true rfl) (Nat.le_of_ble_eq_true rfl) (Nat.le_of_ble_eq_true rfl) (fun h3729 => ?_)
  refine r_if_ne (tgt := 13) C h3729.ir dX11_stays_8 (by decide) (fun c3730 => ?_) (fun c3730 => ?_)
  · refine r_f c3730 ?_
    refine r_iconst (v := 0) C dX11_stays_13 (by decide) ?_
    refine r_istore_n (L' := [(2, .int (zi 0)), (0, .ref (zad E 0)), (1, .int (zi a1))]) C dX11_stays_14 rfl (by decide) rfl ?_
    refine r_iconst (v := 0) C dX11_stays_15 (by decide) ?_
    refine r_istore_n (L' := [(3, .int (zi 0)), (2, .int (zi 0)), (0, .ref (zad E 0)), (1, .int (zi a1))]) C dX11_stays_16 rfl (by decide) rfl ?_
    refine r_L (L' := [(0, .ref (zad E 0)), (1, .int (zi a1)), (2, .int (zi 0)), (3, .int (zi 0))]) [2, 3, 1, 0] rfl ?_
    refine r_loop1 (fun s3731 : Int × Int => IR s3731.1 ∧ IR s3731.2) (fun s3731 => S) (fun s3731 => O) (fun s3731 => [(0, .ref (zad E 0)), (1, .int (zi a1)), (2, .int (zi s3731.1)), (3, .int (zi s3731.2))]) [] (fun r3747 : Int => IR r3747) (fun r3747 => S) (fun r3747 => O) (fun r3747 => [(2, .int (zi r3747))]) 54 (fun r3747 h3748 => ?_) (fun k3733 k3735 k3734 k3736 s3731 h3732 => ?_) ⟨(IRd rfl), (IRd rfl)⟩
    · refine r_iload_n (pc := 54) (j := 0) C dX11_stays_54 rfl rfl ?_
      exact r_ireturn C hQ rfl dX11_stays_55 (fun e => by cases e; exact ⟨h3748, rfl, rfl, rfl, rfl, rfl⟩)
    · refine r_iload_n (pc := 17) (j := 3) C dX11_stays_17 rfl rfl ?_
      refine r_aload_n (pc := 18) (j := 0) C dX11_stays_18 rfl rfl ?_
      refine r_getR (j := 7) (r := 74) C cl_X11 kd_0 ln_0 (by decide) rfl r0_0_7 (by decide) q_693 dX11_stays_19 ?_
      refine r_cV1 (pc := 22) (k := 74) (As := []) (st := [.int (zi s3731.2)]) C (m_X7_newest (p := 74) gs_74 rfl) cal_X7_newest cl_X7 kd_74 ln_74 q_1036 dX11_stays_22 rfl rfl (Nat.le_of_ble_eq_true rfl) (Nat.le_of_ble_eq_true rfl) (Nat.le_of_ble_eq_true rfl) (Nat.le_of_ble_eq_true rfl) (Nat.le_of_ble_eq_true rfl) (fun h3737 => ?_)
      refine r_icmp_gt (tgt := 54) C h3732.2 h3737 dX11_stays_25 (by decide) (fun c3738 => ?_) (fun c3738 => ?_)
      · refine r_bt c3738 ?_
        refine r_L (L' := [(2, .int (zi s3731.1))]) [2] rfl ?_
        exact k3736 s3731.1 h3732.1
      · refine r_bf c3738 ?_
        refine r_iload_n (pc := 28) (j := 2) C dX11_stays_28 rfl rfl ?_
        refine r_aload_n (pc := 29) (j := 0) C dX11_stays_29 rfl rfl ?_
        refine r_getR (j := 7) (r := 74) C cl_X11 kd_0 ln_0 (by decide) rfl r0_0_7 (by decide) q_693 dX11_stays_30 ?_
        refine r_iload_n (pc := 33) (j := 3) C dX11_stays_33 rfl rfl ?_
        refine r_iload_n (pc := 34) (j := 1) C dX11_stays_34 rfl rfl ?_
        refine r_cV1 (pc := 35) (k := 74) (As := [.int (zi s3731.2), .int (zi a1)]) (st := [.int (zi s3731.1)]) C (m_X7_isIn (p := 74) (a1 := s3731.2) (a2 := a1) gs_74 h3732.2 ha1 rfl) cal_X7_isIn cl_X7 kd_74 ln_74 q_1042 dX11_stays_35 rfl rfl (Nat.le_of_ble_eq_true rfl) (Nat.le_of_ble_eq_true rfl) (Nat.le_of_ble_eq_true rfl) (Nat.le_of_ble_eq_true rfl) (Nat.le_of_ble_eq_true rfl) (fun h3739 => ?_)
        refine r_bj ?_
        refine r_join (fun q3740 : Int => BR q3740) (fun q3740 => S) (fun q3740 => O) (fun q3740 => [(0, .ref (zad E 0)), (1, .int (zi a1)), (3, .int (zi s3731.2))]) 46 (fun q3740 => [.int (zi q3740), .int (zi s3731.1)]) (fun q3740 h3741 => ?_) (fun k3742 k3743 => ?_)
        · refine r_iadd C dX11_stays_46 ?_
          refine r_bj ?_
          refine r_jv (IR_wr _) (fun v3745 h3746 => ?_)
          refine r_istore_n (L' := [(2, .int (zi v3745)), (0, .ref (zad E 0)), (1, .int (zi a1)), (3, .int (zi s3731.2))]) C dX11_stays_47 rfl (by decide) rfl ?_
          refine r_iinc (j := 3) (L' := [(3, .int (zi (wr (s3731.2 + 1)))), (2, .int (zi v3745)), (0, .ref (zad E 0)), (1, .int (zi a1))]) C dX11_stays_48 rfl (by decide) rfl ?_
          refine r_goto (tgt := 17) C dX11_stays_51 (by decide) ?_
          refine r_L (L' := [(0, .ref (zad E 0)), (1, .int (zi a1)), (2, .int (zi v3745)), (3, .int (zi (wr (s3731.2 + 1))))]) [2, 3, 1, 0] rfl ?_
          exact k3734 (v3745, wr (s3731.2 + 1)) ⟨h3746, (IR_wr _)⟩
        · refine r_if_eq (tgt := 45) C h3739.ir dX11_stays_38 (by decide) (fun c3744 => ?_) (fun c3744 => ?_)
          · refine r_jt c3744 ?_
            refine r_iconst (v := 0) C dX11_stays_45 (by decide) ?_
            refine r_L (L' := [(0, .ref (zad E 0)), (1, .int (zi a1)), (3, .int (zi s3731.2))]) [0, 1, 3] rfl ?_
            exact k3743 0 (BRd rfl)
          · refine r_jf c3744 ?_
            refine r_iconst (v := 1) C dX11_stays_41 (by decide) ?_
            refine r_goto (tgt := 46) C dX11_stays_42 (by decide) ?_
            refine r_L (L' := [(0, .ref (zad E 0)), (1, .int (zi a1)), (3, .int (zi s3731.2))]) [0, 1, 3] rfl ?_
            exact k3743 1 (BRd rfl)
  · refine r_t c3730 ?_
    refine r_iconst (v := (-1)) C dX11_stays_11 (by decide) ?_
    exact r_ireturn C hQ rfl dX11_stays_12 (fun e => by cases e; exact ⟨(IRd rfl), rfl, rfl, rfl, rfl, rfl⟩)

def f_X11_sight (a1 : Int) (a2 : Int) (S : Sst) : Option (Int × Sst) :=
  if ((f_X4_has 29 a1 S = 0 ∨ a2 < 0) ∨ 1 < a2) then
    (some ((-1), S))
  else
    (jn (
      if a2 = 0 then
        (1)
      else
        ((-1))) fun (q3861 : Int) =>
    Option.bind (f_X8_neighbours a1 q3861 S) fun (q3867 : Int × Sst) =>
    some (q3867.1, q3867.2))
set_option maxRecDepth 100000 in
set_option maxHeartbeats 4000000 in
theorem m_X11_sight {l : Launch} {E : EwT} {S : Sst} {O : Smo} {a1 : Int} (ha1 : IR a1) {a2 : Int} (ha2 : IR a2) {q : Int × Sst} (hq : f_X11_sight a1 a2 S = some q) : MetG l E yX11_sight cX11_sight 3 (some .int) 6 137 0 0 n0 R0 S O [.ref (zad E 0), .int (zi a1), .int (zi a2)] (IR q.1) (some (.int (zi q.1))) n0 R0 q.2 O := by
  refine ofG (L0 := [(0, .ref (zad E 0)), (1, .int (zi a1)), (2, .int (zi a2))]) hq (by decide +kernel) (Nat.le_of_ble_eq_true rfl) rfl (fun K _ C hQ => ?_)
  unfold f_X11_sight
  refine r_aload_n (pc := 0) (j := 0) C dX11_sight_0 rfl rfl ?_
  refine r_getR (j := 3) (r := 29) C cl_X11 kd_0 ln_0 (by decide) rfl r0_0_3 (by decide) q_689 dX11_sight_1 ?_
  refine r_iload_n (pc := 4) (j := 1) C dX11_sight_4 rfl rfl ?_
  refine r_cV1 (pc := 5) (k := 29) (As := [.int (zi a1)]) (st := []) C (m_X4_has (p := 29) (a1 := a1) gp_29 ha1 rfl) cal_X4_has cl_X4 kd_29 ln_29 q_1035 dX11_sight_5 rfl rfl (Nat.le_of_ble_eq_true rfl) (Nat.le_of_ble_eq_true rfl) (Nat.le_of_ble_eq_true rfl) (Nat.le_of_ble_eq_true rfl) (Nat.le_of_ble_eq_true rfl) (fun h3857 => ?_)
  refine r_cut ((f_X4_has 29 a1 S = 0 ∨ a2 < 0) ∨ 1 < a2) 20 22 [] (fun c3858 => ?_) (fun c3858 => ?_) (fun k3859 k3860 => ?_)
  · refine r_t c3858 ?_
    refine r_iconst (v := (-1)) C dX11_sight_20 (by decide) ?_
    exact r_ireturn C hQ rfl dX11_sight_21 (fun e => by cases e; exact ⟨(IRd rfl), rfl, rfl, rfl, rfl, rfl⟩)
  · refine r_f c3858 ?_
    refine r_aload_n (pc := 22) (j := 0) C dX11_sight_22 rfl rfl ?_
    refine r_getR (j := 13) (r := 242) C cl_X11 kd_0 ln_0 (by decide) rfl r0_0_13 (by decide) q_699 dX11_sight_23 ?_
    refine r_iload_n (pc := 26) (j := 1) C dX11_sight_26 rfl rfl ?_
    refine r_iload_n (pc := 27) (j := 2) C dX11_sight_27 rfl rfl ?_
    refine r_join (fun q3861 : Int => IR q3861) (fun q3861 => S) (fun q3861 => O) (fun q3861 => []) 36 (fun q3861 => [.int (zi q3861), .int (zi a1), .ref (zad E 242)]) (fun q3861 h3862 => ?_) (fun k3863 k3864 => ?_)
    · refine r_bd (fun q3867 e3868 => ?_)
      refine r_cV1 (pc := 36) (k := 242) (As := [.int (zi a1), .int (zi q3861)]) (st := []) C (m_X8_neighbours (a1 := a1) (a2 := q3861) ha1 h3862 e3868) cal_X8_neighbours cl_X8 kd_242 ln_242 q_1415 dX11_sight_36 rfl rfl (Nat.le_of_ble_eq_true rfl) (Nat.le_of_ble_eq_true rfl) (Nat.le_of_ble_eq_true rfl) (Nat.le_of_ble_eq_true rfl) (Nat.le_of_ble_eq_true rfl) (fun h3866 => ?_)
      exact r_ireturn C hQ rfl dX11_sight_39 (fun e => by cases e; exact ⟨h3866, rfl, rfl, rfl, rfl, rfl⟩)
    · refine r_if_ne (tgt := 35) C ha2 dX11_sight_28 (by decide) (fun c3865 => ?_) (fun c3865 => ?_)
      · refine r_jf c3865 ?_
        refine r_iconst (v := (-1)) C dX11_sight_35 (by decide) ?_
        refine r_L (L' := []) [] rfl ?_
        exact k3864 (-1) (IRd rfl)
      · refine r_jt c3865 ?_
        refine r_iconst (v := 1) C dX11_sight_31 (by decide) ?_
        refine r_goto (tgt := 36) C dX11_sight_32 (by decide) ?_
        refine r_L (L' := []) [] rfl ?_
        exact k3864 1 (IRd rfl)
  · refine r_if_eq (tgt := 20) C h3857.ir dX11_sight_8 (by decide) (fun c3869 => ?_) (fun c3869 => ?_)
    · exact k3859 (Or.inl (Or.inl c3869))
    · refine r_iload_n (pc := 11) (j := 2) C dX11_sight_11 rfl rfl ?_
      refine r_if_lt (tgt := 20) C ha2 dX11_sight_12 (by decide) (fun c3870 => ?_) (fun c3870 => ?_)
      · exact k3859 (Or.inl (Or.inr c3870))
      · refine r_iload_n (pc := 15) (j := 2) C dX11_sight_15 rfl rfl ?_
        refine r_iconst (v := 1) C dX11_sight_16 (by decide) ?_
        refine r_icmp_le (tgt := 22) C ha2 (IRd rfl) dX11_sight_17 (by decide) (fun c3871 => ?_) (fun c3871 => ?_)
        · exact k3860 (fun w => w.elim (fun w => w.elim c3869 c3870) c3871)
        · exact k3859 (Or.inr c3871)

def f_X11_trapezes (S : Sst) : Option (Int × Sst) :=
  Option.bind (f_X8_countTrapezes S) fun (q4112 : Int × Sst) =>
  some (q4112.1, q4112.2)
set_option maxRecDepth 100000 in
set_option maxHeartbeats 4000000 in
theorem m_X11_trapezes {l : Launch} {E : EwT} {S : Sst} {O : Smo}  {q : Int × Sst} (hq : f_X11_trapezes S = some q) : MetG l E yX11_trapezes cX11_trapezes 1 (some .int) 6 134 0 0 n0 R0 S O [.ref (zad E 0)] (IR q.1) (some (.int (zi q.1))) n0 R0 q.2 O := by
  refine ofG (L0 := [(0, .ref (zad E 0))]) hq (by decide +kernel) (Nat.le_of_ble_eq_true rfl) rfl (fun K _ C hQ => ?_)
  unfold f_X11_trapezes
  refine r_aload_n (pc := 0) (j := 0) C dX11_trapezes_0 rfl rfl ?_
  refine r_getR (j := 13) (r := 242) C cl_X11 kd_0 ln_0 (by decide) rfl r0_0_13 (by decide) q_699 dX11_trapezes_1 ?_
  refine r_bd (fun q4112 e4113 => ?_)
  refine r_cV1 (pc := 4) (k := 242) (As := []) (st := []) C (m_X8_countTrapezes  e4113) cal_X8_countTrapezes cl_X8 kd_242 ln_242 q_1423 dX11_trapezes_4 rfl rfl (Nat.le_of_ble_eq_true rfl) (Nat.le_of_ble_eq_true rfl) (Nat.le_of_ble_eq_true rfl) (Nat.le_of_ble_eq_true rfl) (Nat.le_of_ble_eq_true rfl) (fun h4111 => ?_)
  exact r_ireturn C hQ rfl dX11_trapezes_7 (fun e => by cases e; exact ⟨h4111, rfl, rfl, rfl, rfl, rfl⟩)

def f_X11_area (a1 : Int) (S : Sst) : Option (Int × Sst) :=
  if (a1 = (-1) ∨ ¬ f_X4_has 29 a1 S = 0) then
    (Option.bind (f_X8_measure S) fun (q4238 : Sst) =>
    some (f_X6_at 243 (wr (a1 + 1)) q4238, q4238))
  else
    (some ((-2), S))
set_option maxRecDepth 100000 in
set_option maxHeartbeats 4000000 in
theorem m_X11_area {l : Launch} {E : EwT} {S : Sst} {O : Smo} {a1 : Int} (ha1 : IR a1) {q : Int × Sst} (hq : f_X11_area a1 S = some q) : MetG l E yX11_area cX11_area 2 (some .int) 7 155 0 0 n0 R0 S O [.ref (zad E 0), .int (zi a1)] (IR q.1) (some (.int (zi q.1))) n0 R0 q.2 O := by
  refine ofG (L0 := [(0, .ref (zad E 0)), (1, .int (zi a1))]) hq (by decide +kernel) (Nat.le_of_ble_eq_true rfl) rfl (fun K _ C hQ => ?_)
  unfold f_X11_area
  refine r_iload_n (pc := 0) (j := 1) C dX11_area_0 rfl rfl ?_
  refine r_iconst (v := (-1)) C dX11_area_1 (by decide) ?_
  refine r_cut (a1 = (-1) ∨ ¬ f_X4_has 29 a1 S = 0) 19 16 [] (fun c4234 => ?_) (fun c4234 => ?_) (fun k4235 k4236 => ?_)
  · refine r_t c4234 ?_
    refine r_aload_n (pc := 19) (j := 0) C dX11_area_19 rfl rfl ?_
    refine r_getR (j := 13) (r := 242) C cl_X11 kd_0 ln_0 (by decide) rfl r0_0_13 (by decide) q_699 dX11_area_20 ?_
    refine r_bd (fun q4238 e4239 => ?_)
    refine r_cV0 (pc := 23) (k := 242) (As := []) (st := []) C (m_X8_measure  e4239) cal_X8_measure cl_X8 kd_242 ln_242 q_1442 dX11_area_23 rfl rfl (Nat.le_of_ble_eq_true rfl) (Nat.le_of_ble_eq_true rfl) (Nat.le_of_ble_eq_true rfl) (Nat.le_of_ble_eq_true rfl) (Nat.le_of_ble_eq_true rfl) (fun h4237 => ?_)
    refine r_aload_n (pc := 26) (j := 0) C dX11_area_26 rfl rfl ?_
    refine r_getR (j := 13) (r := 242) C cl_X11 kd_0 ln_0 (by decide) rfl r0_0_13 (by decide) q_699 dX11_area_27 ?_
    refine r_getR (j := 0) (r := 243) C cl_X8 kd_242 ln_242 (by decide) rfl r0_242_0 (by decide) q_615 dX11_area_30 ?_
    refine r_iload_n (pc := 33) (j := 1) C dX11_area_33 rfl rfl ?_
    refine r_iconst (v := 1) C dX11_area_34 (by decide) ?_
    refine r_iadd C dX11_area_35 ?_
    refine r_cV1 (pc := 36) (k := 243) (As := [.int (zi (wr (a1 + 1)))]) (st := []) C (m_X6_at (p := 243) (a1 := wr (a1 + 1)) gw_243 (IR_wr _) rfl) cal_X6_at cl_X6 kd_243 ln_243 q_1041 dX11_area_36 rfl rfl (Nat.le_of_ble_eq_true rfl) (Nat.le_of_ble_eq_true rfl) (Nat.le_of_ble_eq_true rfl) (Nat.le_of_ble_eq_true rfl) (Nat.le_of_ble_eq_true rfl) (fun h4240 => ?_)
    exact r_ireturn C hQ rfl dX11_area_39 (fun e => by cases e; exact ⟨h4240, rfl, rfl, rfl, rfl, rfl⟩)
  · refine r_f c4234 ?_
    refine r_bipush (v := (-2)) C dX11_area_16 (by decide) ?_
    exact r_ireturn C hQ rfl dX11_area_18 (fun e => by cases e; exact ⟨(IRd rfl), rfl, rfl, rfl, rfl, rfl⟩)
  · refine r_icmp_eq (tgt := 19) C ha1 (IRd rfl) dX11_area_2 (by decide) (fun c4241 => ?_) (fun c4241 => ?_)
    · exact k4235 (Or.inl c4241)
    · refine r_aload_n (pc := 5) (j := 0) C dX11_area_5 rfl rfl ?_
      refine r_getR (j := 3) (r := 29) C cl_X11 kd_0 ln_0 (by decide) rfl r0_0_3 (by decide) q_689 dX11_area_6 ?_
      refine r_iload_n (pc := 9) (j := 1) C dX11_area_9 rfl rfl ?_
      refine r_cV1 (pc := 10) (k := 29) (As := [.int (zi a1)]) (st := []) C (m_X4_has (p := 29) (a1 := a1) gp_29 ha1 rfl) cal_X4_has cl_X4 kd_29 ln_29 q_1035 dX11_area_10 rfl rfl (Nat.le_of_ble_eq_true rfl) (Nat.le_of_ble_eq_true rfl) (Nat.le_of_ble_eq_true rfl) (Nat.le_of_ble_eq_true rfl) (Nat.le_of_ble_eq_true rfl) (fun h4233 => ?_)
      refine r_if_ne (tgt := 19) C h4233.ir dX11_area_13 (by decide) (fun c4242 => ?_) (fun c4242 => ?_)
      · exact k4235 (Or.inr c4242)
      · exact k4236 (fun w => w.elim c4241 (fun x => x c4242))

def f_X11_largest (S : Sst) : Option (Int × Sst) :=
  Option.bind (f_X8_measure S) fun (q4266 : Sst) =>
  Option.bind (lp (fun (s4268 : Int × Int) =>
    if s4268.2 < f_X4_count 29 q4266 then
      (jn (
        if (s4268.1 = (-1) ∨ f_X6_at 243 (wr (s4268.1 + 1)) q4266 < f_X6_at 243 (wr (s4268.2 + 1)) q4266) then
          (s4268.2)
        else
          (s4268.1)) fun (q4278 : Int) =>
      some (Sum.inl (q4278, wr (s4268.2 + 1))))
    else
      (some (Sum.inr s4268.1))) FU ((-1), 0)) fun (r4287 : Int) =>
  some (r4287, q4266)
set_option maxRecDepth 100000 in
set_option maxHeartbeats 4000000 in
theorem m_X11_largest {l : Launch} {E : EwT} {S : Sst} {O : Smo}  {q : Int × Sst} (hq : f_X11_largest S = some q) : MetG l E yX11_largest cX11_largest 3 (some .int) 7 155 0 0 n0 R0 S O [.ref (zad E 0)] (IR q.1) (some (.int (zi q.1))) n0 R0 q.2 O := by
  refine ofG (L0 := [(0, .ref (zad E 0))]) hq (by decide +kernel) (Nat.le_of_ble_eq_true rfl) rfl (fun K _ C hQ => ?_)
  unfold f_X11_largest
  refine r_aload_n (pc := 0) (j := 0) C dX11_largest_0 rfl rfl ?_
  refine r_getR (j := 13) (r := 242) C cl_X11 kd_0 ln_0 (by decide) rfl r0_0_13 (by decide) q_699 dX11_largest_1 ?_
  refine r_bd (fun q4266 e4267 => ?_)
  refine r_cV0 (pc := 4) (k := 242) (As := []) (st := []) C (m_X8_measure  e4267) cal_X8_measure cl_X8 kd_242 ln_242 q_1442 dX11_largest_4 rfl rfl (Nat.le_of_ble_eq_true rfl) (Nat.le_of_ble_eq_true rfl) (Nat.le_of_ble_eq_true rfl) (Nat.le_of_ble_eq_true rfl) (Nat.le_of_ble_eq_true rfl) (fun h4265 => ?_)
  refine r_iconst (v := (-1)) C dX11_largest_7 (by decide) ?_
  refine r_istore_n (L' := [(1, .int (zi (-1))), (0, .ref (zad E 0))]) C dX11_largest_8 rfl (by decide) rfl ?_
  refine r_iconst (v := 0) C dX11_largest_9 (by decide) ?_
  refine r_istore_n (L' := [(2, .int (zi 0)), (1, .int (zi (-1))), (0, .ref (zad E 0))]) C dX11_largest_10 rfl (by decide) rfl ?_
  refine r_L (L' := [(0, .ref (zad E 0)), (1, .int (zi (-1))), (2, .int (zi 0))]) [2, 1, 0] rfl ?_
  refine r_loop1 (fun s4268 : Int × Int => IR s4268.1 ∧ IR s4268.2) (fun s4268 => q4266) (fun s4268 => O) (fun s4268 => [(0, .ref (zad E 0)), (1, .int (zi s4268.1)), (2, .int (zi s4268.2))]) [] (fun r4287 : Int => IR r4287) (fun r4287 => q4266) (fun r4287 => O) (fun r4287 => [(1, .int (zi r4287))]) 64 (fun r4287 h4288 => ?_) (fun k4270 k4272 k4271 k4273 s4268 h4269 => ?_) ⟨(IRd rfl), (IRd rfl)⟩
  · refine r_iload_n (pc := 64) (j := 0) C dX11_largest_64 rfl rfl ?_
    exact r_ireturn C hQ rfl dX11_largest_65 (fun e => by cases e; exact ⟨h4288, rfl, rfl, rfl, rfl, rfl⟩)
  · refine r_iload_n (pc := 11) (j := 2) C dX11_largest_11 rfl rfl ?_
    refine r_aload_n (pc := 12) (j := 0) C dX11_largest_12 rfl rfl ?_
    refine r_getR (j := 3) (r := 29) C cl_X11 kd_0 ln_0 (by decide) rfl r0_0_3 (by decide) q_689 dX11_largest_13 ?_
    refine r_cV1 (pc := 16) (k := 29) (As := []) (st := [.int (zi s4268.2)]) C (m_X4_count (p := 29) gp_29 rfl) cal_X4_count cl_X4 kd_29 ln_29 q_1026 dX11_largest_16 rfl rfl (Nat.le_of_ble_eq_true rfl) (Nat.le_of_ble_eq_true rfl) (Nat.le_of_ble_eq_true rfl) (Nat.le_of_ble_eq_true rfl) (Nat.le_of_ble_eq_true rfl) (fun h4274 => ?_)
    refine r_icmp_ge (tgt := 64) C h4269.2 h4274 dX11_largest_19 (by decide) (fun c4275 => ?_) (fun c4275 => ?_)
    · refine r_bf c4275 ?_
      refine r_L (L' := [(1, .int (zi s4268.1))]) [1] rfl ?_
      exact k4273 s4268.1 h4269.1
    · refine r_bt c4275 ?_
      refine r_iload_n (pc := 22) (j := 1) C dX11_largest_22 rfl rfl ?_
      refine r_iconst (v := (-1)) C dX11_largest_23 (by decide) ?_
      refine r_bj ?_
      refine r_join (fun q4278 : Int => IR q4278) (fun q4278 => q4266) (fun q4278 => O) (fun q4278 => [(0, .ref (zad E 0)), (1, .int (zi q4278)), (2, .int (zi s4268.2))]) 58 (fun q4278 => []) (fun q4278 h4279 => ?_) (fun k4280 k4281 => ?_)
      · refine r_iinc (j := 2) (L' := [(2, .int (zi (wr (s4268.2 + 1)))), (0, .ref (zad E 0)), (1, .int (zi q4278))]) C dX11_largest_58 rfl (by decide) rfl ?_
        refine r_goto (tgt := 11) C dX11_largest_61 (by decide) ?_
        refine r_L (L' := [(0, .ref (zad E 0)), (1, .int (zi q4278)), (2, .int (zi (wr (s4268.2 + 1))))]) [1, 2, 0] rfl ?_
        exact k4271 (q4278, wr (s4268.2 + 1)) ⟨h4279, (IR_wr _)⟩
      · refine r_cut (s4268.1 = (-1) ∨ f_X6_at 243 (wr (s4268.1 + 1)) q4266 < f_X6_at 243 (wr (s4268.2 + 1)) q4266) 56 58 [] (fun c4282 => ?_) (fun c4282 => ?_) (fun k4283 k4284 => ?_)
        · refine r_jt c4282 ?_
          refine r_iload_n (pc := 56) (j := 2) C dX11_largest_56 rfl rfl ?_
          refine r_istore_n (L' := [(1, .int (zi s4268.2)), (0, .ref (zad E 0)), (2, .int (zi s4268.2))]) C dX11_largest_57 rfl (by decide) rfl ?_
          refine r_L (L' := [(0, .ref (zad E 0)), (1, .int (zi s4268.2)), (2, .int (zi s4268.2))]) [1, 0, 2] rfl ?_
          exact k4281 s4268.2 h4269.2
        · refine r_jf c4282 ?_
          exact k4281 s4268.1 h4269.1
        · refine r_icmp_eq (tgt := 56) C h4269.1 (IRd rfl) dX11_largest_24 (by decide) (fun c4285 => ?_) (fun c4285 => ?_)
          · exact k4283 (Or.inl c4285)
          · refine r_aload_n (pc := 27) (j := 0) C dX11_largest_27 rfl rfl ?_
            refine r_getR (j := 13) (r := 242) C cl_X11 kd_0 ln_0 (by decide) rfl r0_0_13 (by decide) q_699 dX11_largest_28 ?_
            refine r_getR (j := 0) (r := 243) C cl_X8 kd_242 ln_242 (by decide) rfl r0_242_0 (by decide) q_615 dX11_largest_31 ?_
            refine r_iload_n (pc := 34) (j := 2) C dX11_largest_34 rfl rfl ?_
            refine r_iconst (v := 1) C dX11_largest_35 (by decide) ?_
            refine r_iadd C dX11_largest_36 ?_
            refine r_cV1 (pc := 37) (k := 243) (As := [.int (zi (wr (s4268.2 + 1)))]) (st := []) C (m_X6_at (p := 243) (a1 := wr (s4268.2 + 1)) gw_243 (IR_wr _) rfl) cal_X6_at cl_X6 kd_243 ln_243 q_1041 dX11_largest_37 rfl rfl (Nat.le_of_ble_eq_true rfl) (Nat.le_of_ble_eq_true rfl) (Nat.le_of_ble_eq_true rfl) (Nat.le_of_ble_eq_true rfl) (Nat.le_of_ble_eq_true rfl) (fun h4276 => ?_)
            refine r_aload_n (pc := 40) (j := 0) C dX11_largest_40 rfl rfl ?_
            refine r_getR (j := 13) (r := 242) C cl_X11 kd_0 ln_0 (by decide) rfl r0_0_13 (by decide) q_699 dX11_largest_41 ?_
            refine r_getR (j := 0) (r := 243) C cl_X8 kd_242 ln_242 (by decide) rfl r0_242_0 (by decide) q_615 dX11_largest_44 ?_
            refine r_iload_n (pc := 47) (j := 1) C dX11_largest_47 rfl rfl ?_
            refine r_iconst (v := 1) C dX11_largest_48 (by decide) ?_
            refine r_iadd C dX11_largest_49 ?_
            refine r_cV1 (pc := 50) (k := 243) (As := [.int (zi (wr (s4268.1 + 1)))]) (st := [.int (zi (f_X6_at 243 (wr (s4268.2 + 1)) q4266))]) C (m_X6_at (p := 243) (a1 := wr (s4268.1 + 1)) gw_243 (IR_wr _) rfl) cal_X6_at cl_X6 kd_243 ln_243 q_1041 dX11_largest_50 rfl rfl (Nat.le_of_ble_eq_true rfl) (Nat.le_of_ble_eq_true rfl) (Nat.le_of_ble_eq_true rfl) (Nat.le_of_ble_eq_true rfl) (Nat.le_of_ble_eq_true rfl) (fun h4277 => ?_)
            refine r_icmp_le (tgt := 58) C h4276 h4277 dX11_largest_53 (by decide) (fun c4286 => ?_) (fun c4286 => ?_)
            · exact k4284 (fun w => w.elim c4285 c4286)
            · exact k4283 (Or.inr c4286)

def f_X11_hidden (a1 : Int) (S : Sst) : Option (Int × Sst) :=
  if f_X8_isSwept 0 S = 0 then
    (some ((-1), S))
  else
    (if a1 = 0 then
      (Option.bind (f_X8_hide S) fun (q4363 : Sst) =>
      some (q4363.2 242 2, q4363))
    else
      (if a1 = 1 then
        (Option.bind (f_X8_hide S) fun (q4368 : Sst) =>
        some (q4368.2 242 3, q4368))
      else
        (if a1 = 2 then
          (Option.bind (f_X8_hide S) fun (q4373 : Sst) =>
          some (q4373.2 242 4, q4373))
        else
          (some ((-1), S)))))
set_option maxRecDepth 100000 in
set_option maxHeartbeats 4000000 in
theorem m_X11_hidden {l : Launch} {E : EwT} {S : Sst} {O : Smo} {a1 : Int} (ha1 : IR a1) {q : Int × Sst} (hq : f_X11_hidden a1 S = some q) : MetG l E yX11_hidden cX11_hidden 2 (some .int) 7 155 0 0 n0 R0 S O [.ref (zad E 0), .int (zi a1)] (IR q.1) (some (.int (zi q.1))) n0 R0 q.2 O := by
  refine ofG (L0 := [(0, .ref (zad E 0)), (1, .int (zi a1))]) hq (by decide +kernel) (Nat.le_of_ble_eq_true rfl) rfl (fun K _ C hQ => ?_)
  unfold f_X11_hidden
  refine r_aload_n (pc := 0) (j := 0) C dX11_hidden_0 rfl rfl ?_
  refine r_getR (j := 13) (r := 242) C cl_X11 kd_0 ln_0 (by decide) rfl r0_0_13 (by decide) q_699 dX11_hidden_1 ?_
  refine r_iconst (v := 0) C dX11_hidden_4 (by decide) ?_
  refine r_cV1 (pc := 5) (k := 242) (As := [.int (zi 0)]) (st := []) C (m_X8_isSwept (a1 := 0) (IRd rfl) rfl) cal_X8_isSwept cl_X8 kd_242 ln_242 q_1469 dX11_hidden_5 rfl rfl (Nat.le_of_ble_eq_true rfl) (Nat.le_of_ble_eq_true rfl) (Nat.le_of_ble_eq_true rfl) (Nat.le_of_ble_eq_true rfl) (Nat.le_of_ble_eq_true rfl) (fun h4359 => ?_)
  refine r_if_ne (tgt := 13) C h4359.ir dX11_hidden_8 (by decide) (fun c4360 => ?_) (fun c4360 => ?_)
  · refine r_f c4360 ?_
    refine r_iload_n (pc := 13) (j := 1) C dX11_hidden_13 rfl rfl ?_
    by_cases c4361 : (a1 = 0)
    · refine r_t c4361 ?_
      refine r_tswIn (kx := 0) (tgt := 40) C ha1 dX11_hidden_14 c4361 (by decide) (by decide) rfl (by decide) ?_
      refine r_aload_n (pc := 40) (j := 0) C dX11_hidden_40 rfl rfl ?_
      refine r_getR (j := 13) (r := 242) C cl_X11 kd_0 ln_0 (by decide) rfl r0_0_13 (by decide) q_699 dX11_hidden_41 ?_
      refine r_bd (fun q4363 e4364 => ?_)
      refine r_cV0 (pc := 44) (k := 242) (As := []) (st := []) C (m_X8_hide  e4364) cal_X8_hide cl_X8 kd_242 ln_242 q_1470 dX11_hidden_44 rfl rfl (Nat.le_of_ble_eq_true rfl) (Nat.le_of_ble_eq_true rfl) (Nat.le_of_ble_eq_true rfl) (Nat.le_of_ble_eq_true rfl) (Nat.le_of_ble_eq_true rfl) (fun h4362 => ?_)
      refine r_aload_n (pc := 47) (j := 0) C dX11_hidden_47 rfl rfl ?_
      refine r_getR (j := 13) (r := 242) C cl_X11 kd_0 ln_0 (by decide) rfl r0_0_13 (by decide) q_699 dX11_hidden_48 ?_
      refine r_getS (j := 2) C cl_X8 kd_242 ln_242 lc_242 (by decide) (by decide) rfl q_619 dX11_hidden_51 (fun h4365 => ?_)
      exact r_ireturn C hQ rfl dX11_hidden_54 (fun e => by cases e; exact ⟨h4365, rfl, rfl, rfl, rfl, rfl⟩)
    · refine r_f c4361 ?_
      by_cases c4366 : (a1 = 1)
      · refine r_t c4366 ?_
        refine r_tswIn (kx := 1) (tgt := 55) C ha1 dX11_hidden_14 c4366 (by decide) (by decide) rfl (by decide) ?_
        refine r_aload_n (pc := 55) (j := 0) C dX11_hidden_55 rfl rfl ?_
        refine r_getR (j := 13) (r := 242) C cl_X11 kd_0 ln_0 (by decide) rfl r0_0_13 (by decide) q_699 dX11_hidden_56 ?_
        refine r_bd (fun q4368 e4369 => ?_)
        refine r_cV0 (pc := 59) (k := 242) (As := []) (st := []) C (m_X8_hide  e4369) cal_X8_hide cl_X8 kd_242 ln_242 q_1470 dX11_hidden_59 rfl rfl (Nat.le_of_ble_eq_true rfl) (Nat.le_of_ble_eq_true rfl) (Nat.le_of_ble_eq_true rfl) (Nat.le_of_ble_eq_true rfl) (Nat.le_of_ble_eq_true rfl) (fun h4367 => ?_)
        refine r_aload_n (pc := 62) (j := 0) C dX11_hidden_62 rfl rfl ?_
        refine r_getR (j := 13) (r := 242) C cl_X11 kd_0 ln_0 (by decide) rfl r0_0_13 (by decide) q_699 dX11_hidden_63 ?_
        refine r_getS (j := 3) C cl_X8 kd_242 ln_242 lc_242 (by decide) (by decide) rfl q_621 dX11_hidden_66 (fun h4370 => ?_)
        exact r_ireturn C hQ rfl dX11_hidden_69 (fun e => by cases e; exact ⟨h4370, rfl, rfl, rfl, rfl, rfl⟩)
      · refine r_f c4366 ?_
        by_cases c4371 : (a1 = 2)
        · refine r_t c4371 ?_
          refine r_tswIn (kx := 2) (tgt := 70) C ha1 dX11_hidden_14 c4371 (by decide) (by decide) rfl (by decide) ?_
          refine r_aload_n (pc := 70) (j := 0) C dX11_hidden_70 rfl rfl ?_
          refine r_getR (j := 13) (r := 242) C cl_X11 kd_0 ln_0 (by decide) rfl r0_0_13 (by decide) q_699 dX11_hidden_71 ?_
          refine r_bd (fun q4373 e4374 => ?_)
          refine r_cV0 (pc := 74) (k := 242) (As := []) (st := []) C (m_X8_hide  e4374) cal_X8_hide cl_X8 kd_242 ln_242 q_1470 dX11_hidden_74 rfl rfl (Nat.le_of_ble_eq_true rfl) (Nat.le_of_ble_eq_true rfl) (Nat.le_of_ble_eq_true rfl) (Nat.le_of_ble_eq_true rfl) (Nat.le_of_ble_eq_true rfl) (fun h4372 => ?_)
          refine r_aload_n (pc := 77) (j := 0) C dX11_hidden_77 rfl rfl ?_
          refine r_getR (j := 13) (r := 242) C cl_X11 kd_0 ln_0 (by decide) rfl r0_0_13 (by decide) q_699 dX11_hidden_78 ?_
          refine r_getS (j := 4) C cl_X8 kd_242 ln_242 lc_242 (by decide) (by decide) rfl q_623 dX11_hidden_81 (fun h4375 => ?_)
          exact r_ireturn C hQ rfl dX11_hidden_84 (fun e => by cases e; exact ⟨h4375, rfl, rfl, rfl, rfl, rfl⟩)
        · refine r_f c4371 ?_
          refine r_tswOut (tgt := 85) C ha1 dX11_hidden_14 (by omega) (by decide) ?_
          refine r_iconst (v := (-1)) C dX11_hidden_85 (by decide) ?_
          exact r_ireturn C hQ rfl dX11_hidden_86 (fun e => by cases e; exact ⟨(IRd rfl), rfl, rfl, rfl, rfl, rfl⟩)
  · refine r_t c4360 ?_
    refine r_iconst (v := (-1)) C dX11_hidden_11 (by decide) ?_
    exact r_ireturn C hQ rfl dX11_hidden_12 (fun e => by cases e; exact ⟨(IRd rfl), rfl, rfl, rfl, rfl, rfl⟩)

def f_X11_seen (a1 : Int) (a2 : Int) (S : Sst) : Int × Sst :=
  if (a1 = (-1) ∨ ¬ f_X4_has 29 a1 S = 0) then
    (jn (f_X9_tell a1 a2 S) fun (q4402 : Int × Sst) =>
    (q4402.1, q4402.2))
  else
    (((-1), S))
set_option maxRecDepth 100000 in
set_option maxHeartbeats 4000000 in
theorem m_X11_seen {l : Launch} {E : EwT} {S : Sst} {O : Smo} {a1 : Int} (ha1 : IR a1) {a2 : Int} (ha2 : BR a2) {q : Int × Sst} (hq : f_X11_seen a1 a2 S = q) : MetG l E yX11_seen cX11_seen 3 (some .int) 2 43 0 0 n0 R0 S O [.ref (zad E 0), .int (zi a1), .int (zi a2)] (IR q.1) (some (.int (zi q.1))) n0 R0 q.2 O := by
  refine ofG (L0 := [(0, .ref (zad E 0)), (1, .int (zi a1)), (2, .int (zi a2))]) hq (by decide +kernel) (Nat.le_of_ble_eq_true rfl) rfl (fun K _ C hQ => ?_)
  unfold f_X11_seen
  refine r_iload_n (pc := 0) (j := 1) C dX11_seen_0 rfl rfl ?_
  refine r_iconst (v := (-1)) C dX11_seen_1 (by decide) ?_
  refine r_cut (a1 = (-1) ∨ ¬ f_X4_has 29 a1 S = 0) 18 16 [] (fun c4398 => ?_) (fun c4398 => ?_) (fun k4399 k4400 => ?_)
  · refine r_t c4398 ?_
    refine r_aload_n (pc := 18) (j := 0) C dX11_seen_18 rfl rfl ?_
    refine r_getR (j := 14) (r := 249) C cl_X11 kd_0 ln_0 (by decide) rfl r0_0_14 (by decide) q_700 dX11_seen_19 ?_
    refine r_iload_n (pc := 22) (j := 1) C dX11_seen_22 rfl rfl ?_
    refine r_iload_n (pc := 23) (j := 2) C dX11_seen_23 rfl rfl ?_
    refine r_jn (fun q4402 e4403 => ?_)
    refine r_cV1 (pc := 24) (k := 249) (As := [.int (zi a1), .int (zi a2)]) (st := []) C (m_X9_tell (a1 := a1) (a2 := a2) ha1 ha2 e4403) cal_X9_tell cl_X9 kd_249 ln_249 q_1478 dX11_seen_24 rfl rfl (Nat.le_of_ble_eq_true rfl) (Nat.le_of_ble_eq_true rfl) (Nat.le_of_ble_eq_true rfl) (Nat.le_of_ble_eq_true rfl) (Nat.le_of_ble_eq_true rfl) (fun h4401 => ?_)
    exact r_ireturn C hQ rfl dX11_seen_27 (fun e => by subst e; exact ⟨h4401, rfl, rfl, rfl, rfl, rfl⟩)
  · refine r_f c4398 ?_
    refine r_iconst (v := (-1)) C dX11_seen_16 (by decide) ?_
    exact r_ireturn C hQ rfl dX11_seen_17 (fun e => by subst e; exact ⟨(IRd rfl), rfl, rfl, rfl, rfl, rfl⟩)
  · refine r_icmp_eq (tgt := 18) C ha1 (IRd rfl) dX11_seen_2 (by decide) (fun c4404 => ?_) (fun c4404 => ?_)
    · exact k4399 (Or.inl c4404)
    · refine r_aload_n (pc := 5) (j := 0) C dX11_seen_5 rfl rfl ?_
      refine r_getR (j := 3) (r := 29) C cl_X11 kd_0 ln_0 (by decide) rfl r0_0_3 (by decide) q_689 dX11_seen_6 ?_
      refine r_iload_n (pc := 9) (j := 1) C dX11_seen_9 rfl rfl ?_
      refine r_cV1 (pc := 10) (k := 29) (As := [.int (zi a1)]) (st := []) C (m_X4_has (p := 29) (a1 := a1) gp_29 ha1 rfl) cal_X4_has cl_X4 kd_29 ln_29 q_1035 dX11_seen_10 rfl rfl (Nat.le_of_ble_eq_true rfl) (Nat.le_of_ble_eq_true rfl) (Nat.le_of_ble_eq_true rfl) (Nat.le_of_ble_eq_true rfl) (Nat.le_of_ble_eq_true rfl) (fun h4397 => ?_)
      refine r_if_ne (tgt := 18) C h4397.ir dX11_seen_13 (by decide) (fun c4405 => ?_) (fun c4405 => ?_)
      · exact k4399 (Or.inr c4405)
      · exact k4400 (fun w => w.elim c4404 (fun x => x c4405))

def f_X11_untell (a1 : Int) (S : Sst) : Int × Sst :=
  jn (f_X9_takeBack a1 S) fun (q4419 : Int × Sst) =>
  (q4419.1, q4419.2)
set_option maxRecDepth 100000 in
set_option maxHeartbeats 4000000 in
theorem m_X11_untell {l : Launch} {E : EwT} {S : Sst} {O : Smo} {a1 : Int} (ha1 : IR a1) {q : Int × Sst} (hq : f_X11_untell a1 S = q) : MetG l E yX11_untell cX11_untell 2 (some .boolean) 2 43 0 0 n0 R0 S O [.ref (zad E 0), .int (zi a1)] (BR q.1) (some (.int (zi q.1))) n0 R0 q.2 O := by
  refine ofG (L0 := [(0, .ref (zad E 0)), (1, .int (zi a1))]) hq (by decide +kernel) (Nat.le_of_ble_eq_true rfl) rfl (fun K _ C hQ => ?_)
  unfold f_X11_untell
  refine r_aload_n (pc := 0) (j := 0) C dX11_untell_0 rfl rfl ?_
  refine r_getR (j := 14) (r := 249) C cl_X11 kd_0 ln_0 (by decide) rfl r0_0_14 (by decide) q_700 dX11_untell_1 ?_
  refine r_iload_n (pc := 4) (j := 1) C dX11_untell_4 rfl rfl ?_
  refine r_jn (fun q4419 e4420 => ?_)
  refine r_cV1 (pc := 5) (k := 249) (As := [.int (zi a1)]) (st := []) C (m_X9_takeBack (a1 := a1) ha1 e4420) cal_X9_takeBack cl_X9 kd_249 ln_249 q_1488 dX11_untell_5 rfl rfl (Nat.le_of_ble_eq_true rfl) (Nat.le_of_ble_eq_true rfl) (Nat.le_of_ble_eq_true rfl) (Nat.le_of_ble_eq_true rfl) (Nat.le_of_ble_eq_true rfl) (fun h4418 => ?_)
  exact r_ireturn C hQ (nar_z h4418) dX11_untell_8 (fun e => by subst e; exact ⟨h4418, rfl, rfl, rfl, rfl, rfl⟩)

def f_X11_later (a1 : Int) (S : Sst) : Int × Sst :=
  jn (f_X9_goOn a1 S) fun (q4432 : Int × Sst) =>
  (q4432.1, q4432.2)
set_option maxRecDepth 100000 in
set_option maxHeartbeats 4000000 in
theorem m_X11_later {l : Launch} {E : EwT} {S : Sst} {O : Smo} {a1 : Int} (ha1 : IR a1) {q : Int × Sst} (hq : f_X11_later a1 S = q) : MetG l E yX11_later cX11_later 2 (some .int) 1 21 0 0 n0 R0 S O [.ref (zad E 0), .int (zi a1)] (IR q.1) (some (.int (zi q.1))) n0 R0 q.2 O := by
  refine ofG (L0 := [(0, .ref (zad E 0)), (1, .int (zi a1))]) hq (by decide +kernel) (Nat.le_of_ble_eq_true rfl) rfl (fun K _ C hQ => ?_)
  unfold f_X11_later
  refine r_aload_n (pc := 0) (j := 0) C dX11_later_0 rfl rfl ?_
  refine r_getR (j := 14) (r := 249) C cl_X11 kd_0 ln_0 (by decide) rfl r0_0_14 (by decide) q_700 dX11_later_1 ?_
  refine r_iload_n (pc := 4) (j := 1) C dX11_later_4 rfl rfl ?_
  refine r_jn (fun q4432 e4433 => ?_)
  refine r_cV1 (pc := 5) (k := 249) (As := [.int (zi a1)]) (st := []) C (m_X9_goOn (a1 := a1) ha1 e4433) cal_X9_goOn cl_X9 kd_249 ln_249 q_1498 dX11_later_5 rfl rfl (Nat.le_of_ble_eq_true rfl) (Nat.le_of_ble_eq_true rfl) (Nat.le_of_ble_eq_true rfl) (Nat.le_of_ble_eq_true rfl) (Nat.le_of_ble_eq_true rfl) (fun h4431 => ?_)
  exact r_ireturn C hQ rfl dX11_later_8 (fun e => by subst e; exact ⟨h4431, rfl, rfl, rfl, rfl, rfl⟩)

def f_X11_fits (a1 : Int) (a2 : Int) (S : Sst) : Option (Int × Sst) :=
  Option.bind (f_X9_gather a1 a2 S) fun (q4642 : Int × Sst) =>
  if q4642.1 = 0 then
    (some ((-1), q4642.2))
  else
    (some (f_X6_size 250 q4642.2, q4642.2))
set_option maxRecDepth 100000 in
set_option maxHeartbeats 4000000 in
theorem m_X11_fits {l : Launch} {E : EwT} {S : Sst} {O : Smo} {a1 : Int} (ha1 : IR a1) {a2 : Int} (ha2 : IR a2) {q : Int × Sst} (hq : f_X11_fits a1 a2 S = some q) : MetG l E yX11_fits cX11_fits 3 (some .int) 5 111 0 0 n0 R0 S O [.ref (zad E 0), .int (zi a1), .int (zi a2)] (IR q.1) (some (.int (zi q.1))) n0 R0 q.2 O := by
  refine ofG (L0 := [(0, .ref (zad E 0)), (1, .int (zi a1)), (2, .int (zi a2))]) hq (by decide +kernel) (Nat.le_of_ble_eq_true rfl) rfl (fun K _ C hQ => ?_)
  unfold f_X11_fits
  refine r_aload_n (pc := 0) (j := 0) C dX11_fits_0 rfl rfl ?_
  refine r_getR (j := 14) (r := 249) C cl_X11 kd_0 ln_0 (by decide) rfl r0_0_14 (by decide) q_700 dX11_fits_1 ?_
  refine r_iload_n (pc := 4) (j := 1) C dX11_fits_4 rfl rfl ?_
  refine r_iload_n (pc := 5) (j := 2) C dX11_fits_5 rfl rfl ?_
  refine r_bd (fun q4642 e4643 => ?_)
  refine r_cV1 (pc := 6) (k := 249) (As := [.int (zi a1), .int (zi a2)]) (st := []) C (m_X9_gather (a1 := a1) (a2 := a2) ha1 ha2 e4643) cal_X9_gather cl_X9 kd_249 ln_249 q_1507 dX11_fits_6 rfl rfl (Nat.le_of_ble_eq_true rfl) (Nat.le_of_ble_eq_true rfl) (Nat.le_of_ble_eq_true rfl) (Nat.le_of_ble_eq_true rfl) (Nat.le_of_ble_eq_true rfl) (fun h4641 => ?_)
  refine r_if_eq (tgt := 25) C h4641.ir dX11_fits_9 (by decide) (fun c4644 => ?_) (fun c4644 => ?_)
  · refine r_t c4644 ?_
    refine r_iconst (v := (-1)) C dX11_fits_25 (by decide) ?_
    exact r_ireturn C hQ rfl dX11_fits_26 (fun e => by cases e; exact ⟨(IRd rfl), rfl, rfl, rfl, rfl, rfl⟩)
  · refine r_f c4644 ?_
    refine r_aload_n (pc := 12) (j := 0) C dX11_fits_12 rfl rfl ?_
    refine r_getR (j := 14) (r := 249) C cl_X11 kd_0 ln_0 (by decide) rfl r0_0_14 (by decide) q_700 dX11_fits_13 ?_
    refine r_getR (j := 0) (r := 250) C cl_X9 kd_249 ln_249 (by decide) rfl r0_249_0 (by decide) q_659 dX11_fits_16 ?_
    refine r_cV1 (pc := 19) (k := 250) (As := []) (st := []) C (m_X6_size (p := 250) gw_250 rfl) cal_X6_size cl_X6 kd_250 ln_250 q_736 dX11_fits_19 rfl rfl (Nat.le_of_ble_eq_true rfl) (Nat.le_of_ble_eq_true rfl) (Nat.le_of_ble_eq_true rfl) (Nat.le_of_ble_eq_true rfl) (Nat.le_of_ble_eq_true rfl) (fun h4645 => ?_)
    refine r_goto (tgt := 26) C dX11_fits_22 (by decide) ?_
    exact r_ireturn C hQ rfl dX11_fits_26 (fun e => by cases e; exact ⟨h4645, rfl, rfl, rfl, rfl, rfl⟩)

def f_X11_sure (a1 : Int) (a2 : Int) (a3 : Int) (S : Sst) : Option (Int × Sst) :=
  jk (fun (q4646 : Sst) =>
    some ((-1), q4646)) fun k4648 =>
  if (a2 < 0 ∨ 1 < a2) then
    (k4648 S)
  else
    (Option.bind (f_X9_gather a1 a3 S) fun (q4654 : Int × Sst) =>
    if q4654.1 = 0 then
      (k4648 q4654.2)
    else
      (jn (
        if a2 = 0 then
          (0)
        else
          (wr ((f_X6_size 250 q4654.2) - 1))) fun (q4657 : Int) =>
      some (f_X6_at 250 q4657 q4654.2, q4654.2)))
set_option maxRecDepth 100000 in
set_option maxHeartbeats 4000000 in
theorem m_X11_sure {l : Launch} {E : EwT} {S : Sst} {O : Smo} {a1 : Int} (ha1 : IR a1) {a2 : Int} (ha2 : IR a2) {a3 : Int} (ha3 : IR a3) {q : Int × Sst} (hq : f_X11_sure a1 a2 a3 S = some q) : MetG l E yX11_sure cX11_sure 4 (some .int) 5 111 0 0 n0 R0 S O [.ref (zad E 0), .int (zi a1), .int (zi a2), .int (zi a3)] (IR q.1) (some (.int (zi q.1))) n0 R0 q.2 O := by
  refine ofG (L0 := [(0, .ref (zad E 0)), (1, .int (zi a1)), (2, .int (zi a2)), (3, .int (zi a3))]) hq (by decide +kernel) (Nat.le_of_ble_eq_true rfl) rfl (fun K _ C hQ => ?_)
  unfold f_X11_sure
  refine r_iload_n (pc := 0) (j := 2) C dX11_sure_0 rfl rfl ?_
  refine r_jk (fun q4646 : Sst => True) (fun q4646 => q4646) (fun q4646 => O) (fun q4646 => []) 21 (fun q4646 => []) (fun q4646 h4647 => ?_) (fun k4648 k4649 => ?_)
  · refine r_iconst (v := (-1)) C dX11_sure_21 (by decide) ?_
    exact r_ireturn C hQ rfl dX11_sure_22 (fun e => by cases e; exact ⟨(IRd rfl), rfl, rfl, rfl, rfl, rfl⟩)
  · refine r_cut (a2 < 0 ∨ 1 < a2) 21 9 [] (fun c4650 => ?_) (fun c4650 => ?_) (fun k4651 k4652 => ?_)
    · refine r_t c4650 ?_
      refine r_L (L' := []) [] rfl ?_
      exact k4649 S trivial
    · refine r_f c4650 ?_
      refine r_aload_n (pc := 9) (j := 0) C dX11_sure_9 rfl rfl ?_
      refine r_getR (j := 14) (r := 249) C cl_X11 kd_0 ln_0 (by decide) rfl r0_0_14 (by decide) q_700 dX11_sure_10 ?_
      refine r_iload_n (pc := 13) (j := 1) C dX11_sure_13 rfl rfl ?_
      refine r_iload_n (pc := 14) (j := 3) C dX11_sure_14 rfl rfl ?_
      refine r_bd (fun q4654 e4655 => ?_)
      refine r_cV1 (pc := 15) (k := 249) (As := [.int (zi a1), .int (zi a3)]) (st := []) C (m_X9_gather (a1 := a1) (a2 := a3) ha1 ha3 e4655) cal_X9_gather cl_X9 kd_249 ln_249 q_1507 dX11_sure_15 rfl rfl (Nat.le_of_ble_eq_true rfl) (Nat.le_of_ble_eq_true rfl) (Nat.le_of_ble_eq_true rfl) (Nat.le_of_ble_eq_true rfl) (Nat.le_of_ble_eq_true rfl) (fun h4653 => ?_)
      refine r_if_ne (tgt := 23) C h4653.ir dX11_sure_18 (by decide) (fun c4656 => ?_) (fun c4656 => ?_)
      · refine r_f c4656 ?_
        refine r_aload_n (pc := 23) (j := 0) C dX11_sure_23 rfl rfl ?_
        refine r_getR (j := 14) (r := 249) C cl_X11 kd_0 ln_0 (by decide) rfl r0_0_14 (by decide) q_700 dX11_sure_24 ?_
        refine r_getR (j := 0) (r := 250) C cl_X9 kd_249 ln_249 (by decide) rfl r0_249_0 (by decide) q_659 dX11_sure_27 ?_
        refine r_iload_n (pc := 30) (j := 2) C dX11_sure_30 rfl rfl ?_
        refine r_join (fun q4657 : Int => IR q4657) (fun q4657 => q4654.2) (fun q4657 => O) (fun q4657 => []) 50 (fun q4657 => [.int (zi q4657), .ref (zad E 250)]) (fun q4657 h4658 => ?_) (fun k4659 k4660 => ?_)
        · refine r_cV1 (pc := 50) (k := 250) (As := [.int (zi q4657)]) (st := []) C (m_X6_at (p := 250) (a1 := q4657) gw_250 h4658 rfl) cal_X6_at cl_X6 kd_250 ln_250 q_1041 dX11_sure_50 rfl rfl (Nat.le_of_ble_eq_true rfl) (Nat.le_of_ble_eq_true rfl) (Nat.le_of_ble_eq_true rfl) (Nat.le_of_ble_eq_true rfl) (Nat.le_of_ble_eq_true rfl) (fun h4663 => ?_)
          exact r_ireturn C hQ rfl dX11_sure_53 (fun e => by cases e; exact ⟨h4663, rfl, rfl, rfl, rfl, rfl⟩)
        · refine r_if_ne (tgt := 38) C ha2 dX11_sure_31 (by decide) (fun c4661 => ?_) (fun c4661 => ?_)
          · refine r_jf c4661 ?_
            refine r_aload_n (pc := 38) (j := 0) C dX11_sure_38 rfl rfl ?_
            refine r_getR (j := 14) (r := 249) C cl_X11 kd_0 ln_0 (by decide) rfl r0_0_14 (by decide) q_700 dX11_sure_39 ?_
            refine r_getR (j := 0) (r := 250) C cl_X9 kd_249 ln_249 (by decide) rfl r0_249_0 (by decide) q_659 dX11_sure_42 ?_
            refine r_cV1 (pc := 45) (k := 250) (As := []) (st := [.ref (zad E 250)]) C (m_X6_size (p := 250) gw_250 rfl) cal_X6_size cl_X6 kd_250 ln_250 q_736 dX11_sure_45 rfl rfl (Nat.le_of_ble_eq_true rfl) (Nat.le_of_ble_eq_true rfl) (Nat.le_of_ble_eq_true rfl) (Nat.le_of_ble_eq_true rfl) (Nat.le_of_ble_eq_true rfl) (fun h4662 => ?_)
            refine r_iconst (v := 1) C dX11_sure_48 (by decide) ?_
            refine r_isub C dX11_sure_49 ?_
            refine r_L (L' := []) [] rfl ?_
            exact k4660 (wr ((f_X6_size 250 q4654.2) - 1)) (IR_wr _)
          · refine r_jt c4661 ?_
            refine r_iconst (v := 0) C dX11_sure_34 (by decide) ?_
            refine r_goto (tgt := 50) C dX11_sure_35 (by decide) ?_
            refine r_L (L' := []) [] rfl ?_
            exact k4660 0 (IRd rfl)
      · refine r_t c4656 ?_
        refine r_L (L' := []) [] rfl ?_
        exact k4649 q4654.2 trivial
    · refine r_if_lt (tgt := 21) C ha2 dX11_sure_1 (by decide) (fun c4664 => ?_) (fun c4664 => ?_)
      · exact k4651 (Or.inl c4664)
      · refine r_iload_n (pc := 4) (j := 2) C dX11_sure_4 rfl rfl ?_
        refine r_iconst (v := 1) C dX11_sure_5 (by decide) ?_
        refine r_icmp_gt (tgt := 21) C ha2 (IRd rfl) dX11_sure_6 (by decide) (fun c4665 => ?_) (fun c4665 => ?_)
        · exact k4651 (Or.inr c4665)
        · exact k4652 (fun w => w.elim c4664 c4665)

def f_X11_ask (a1 : Int) (a2 : Int) (a3 : Int) (S : Sst) : Option (Int × Sst) :=
  jk (fun (q4754 : Sst) =>
    some ((-1), q4754)) fun k4756 =>
  if (a2 < 0 ∨ 1 < a2) then
    (k4756 S)
  else
    (Option.bind (f_X9_gather a1 a3 S) fun (q4762 : Int × Sst) =>
    if q4762.1 = 0 then
      (k4756 q4762.2)
    else
      (Option.bind (f_X9_bestQuestion q4762.2) fun (q4766 : Int) =>
      if (a2 = 0 ∨ q4766 = (-1)) then
        (some (q4766, q4762.2))
      else
        (Option.bind (f_X9_leftBy q4766 q4762.2) fun (q4772 : Int) =>
        some (q4772, q4762.2))))
set_option maxRecDepth 100000 in
set_option maxHeartbeats 4000000 in
theorem m_X11_ask {l : Launch} {E : EwT} {S : Sst} {O : Smo} {a1 : Int} (ha1 : IR a1) {a2 : Int} (ha2 : IR a2) {a3 : Int} (ha3 : IR a3) {q : Int × Sst} (hq : f_X11_ask a1 a2 a3 S = some q) : MetG l E yX11_ask cX11_ask 5 (some .int) 5 111 0 0 n0 R0 S O [.ref (zad E 0), .int (zi a1), .int (zi a2), .int (zi a3)] (IR q.1) (some (.int (zi q.1))) n0 R0 q.2 O := by
  refine ofG (L0 := [(0, .ref (zad E 0)), (1, .int (zi a1)), (2, .int (zi a2)), (3, .int (zi a3))]) hq (by decide +kernel) (Nat.le_of_ble_eq_true rfl) rfl (fun K _ C hQ => ?_)
  unfold f_X11_ask
  refine r_iload_n (pc := 0) (j := 2) C dX11_ask_0 rfl rfl ?_
  refine r_jk (fun q4754 : Sst => True) (fun q4754 => q4754) (fun q4754 => O) (fun q4754 => []) 21 (fun q4754 => []) (fun q4754 h4755 => ?_) (fun k4756 k4757 => ?_)
  · refine r_iconst (v := (-1)) C dX11_ask_21 (by decide) ?_
    exact r_ireturn C hQ rfl dX11_ask_22 (fun e => by cases e; exact ⟨(IRd rfl), rfl, rfl, rfl, rfl, rfl⟩)
  · refine r_cut (a2 < 0 ∨ 1 < a2) 21 9 [] (fun c4758 => ?_) (fun c4758 => ?_) (fun k4759 k4760 => ?_)
    · refine r_t c4758 ?_
      refine r_L (L' := []) [] rfl ?_
      exact k4757 S trivial
    · refine r_f c4758 ?_
      refine r_aload_n (pc := 9) (j := 0) C dX11_ask_9 rfl rfl ?_
      refine r_getR (j := 14) (r := 249) C cl_X11 kd_0 ln_0 (by decide) rfl r0_0_14 (by decide) q_700 dX11_ask_10 ?_
      refine r_iload_n (pc := 13) (j := 1) C dX11_ask_13 rfl rfl ?_
      refine r_iload_n (pc := 14) (j := 3) C dX11_ask_14 rfl rfl ?_
      refine r_bd (fun q4762 e4763 => ?_)
      refine r_cV1 (pc := 15) (k := 249) (As := [.int (zi a1), .int (zi a3)]) (st := []) C (m_X9_gather (a1 := a1) (a2 := a3) ha1 ha3 e4763) cal_X9_gather cl_X9 kd_249 ln_249 q_1507 dX11_ask_15 rfl rfl (Nat.le_of_ble_eq_true rfl) (Nat.le_of_ble_eq_true rfl) (Nat.le_of_ble_eq_true rfl) (Nat.le_of_ble_eq_true rfl) (Nat.le_of_ble_eq_true rfl) (fun h4761 => ?_)
      refine r_if_ne (tgt := 23) C h4761.ir dX11_ask_18 (by decide) (fun c4764 => ?_) (fun c4764 => ?_)
      · refine r_f c4764 ?_
        refine r_aload_n (pc := 23) (j := 0) C dX11_ask_23 rfl rfl ?_
        refine r_getR (j := 14) (r := 249) C cl_X11 kd_0 ln_0 (by decide) rfl r0_0_14 (by decide) q_700 dX11_ask_24 ?_
        refine r_bd (fun q4766 e4767 => ?_)
        refine r_cV1 (pc := 27) (k := 249) (As := []) (st := []) C (m_X9_bestQuestion  e4767) cal_X9_bestQuestion cl_X9 kd_249 ln_249 q_1532 dX11_ask_27 rfl rfl (Nat.le_of_ble_eq_true rfl) (Nat.le_of_ble_eq_true rfl) (Nat.le_of_ble_eq_true rfl) (Nat.le_of_ble_eq_true rfl) (Nat.le_of_ble_eq_true rfl) (fun h4765 => ?_)
        refine r_istore (L' := [(4, .int (zi q4766)), (0, .ref (zad E 0)), (1, .int (zi a1)), (2, .int (zi a2)), (3, .int (zi a3))]) C dX11_ask_30 (by decide) rfl ?_
        refine r_iload_n (pc := 32) (j := 3) C dX11_ask_32 rfl rfl ?_
        refine r_cut (a2 = 0 ∨ q4766 = (-1)) 42 47 [] (fun c4768 => ?_) (fun c4768 => ?_) (fun k4769 k4770 => ?_)
        · refine r_t c4768 ?_
          refine r_iload (pc := 42) (j := 0) C dX11_ask_42 rfl ?_
          refine r_goto (tgt := 56) C dX11_ask_44 (by decide) ?_
          exact r_ireturn C hQ rfl dX11_ask_56 (fun e => by cases e; exact ⟨h4765, rfl, rfl, rfl, rfl, rfl⟩)
        · refine r_f c4768 ?_
          refine r_aload_n (pc := 47) (j := 1) C dX11_ask_47 rfl rfl ?_
          refine r_getR (j := 14) (r := 249) C cl_X11 kd_0 ln_0 (by decide) rfl r0_0_14 (by decide) q_700 dX11_ask_48 ?_
          refine r_iload (pc := 51) (j := 0) C dX11_ask_51 rfl ?_
          refine r_bd (fun q4772 e4773 => ?_)
          refine r_cV1 (pc := 53) (k := 249) (As := [.int (zi q4766)]) (st := []) C (m_X9_leftBy (a1 := q4766) h4765 e4773) cal_X9_leftBy cl_X9 kd_249 ln_249 q_1542 dX11_ask_53 rfl rfl (Nat.le_of_ble_eq_true rfl) (Nat.le_of_ble_eq_true rfl) (Nat.le_of_ble_eq_true rfl) (Nat.le_of_ble_eq_true rfl) (Nat.le_of_ble_eq_true rfl) (fun h4771 => ?_)
          exact r_ireturn C hQ rfl dX11_ask_56 (fun e => by cases e; exact ⟨h4771, rfl, rfl, rfl, rfl, rfl⟩)
        · refine r_if_eq (tgt := 42) C ha2 dX11_ask_33 (by decide) (fun c4774 => ?_) (fun c4774 => ?_)
          · exact k4769 (Or.inl c4774)
          · refine r_iload (pc := 36) (j := 0) C dX11_ask_36 rfl ?_
            refine r_iconst (v := (-1)) C dX11_ask_38 (by decide) ?_
            refine r_icmp_ne (tgt := 47) C h4765 (IRd rfl) dX11_ask_39 (by decide) (fun c4775 => ?_) (fun c4775 => ?_)
            · exact k4770 (fun w => w.elim c4774 c4775)
            · exact k4769 (Or.inr c4775)
      · refine r_t c4764 ?_
        refine r_L (L' := []) [] rfl ?_
        exact k4757 q4762.2 trivial
    · refine r_if_lt (tgt := 21) C ha2 dX11_ask_1 (by decide) (fun c4776 => ?_) (fun c4776 => ?_)
      · exact k4759 (Or.inl c4776)
      · refine r_iload_n (pc := 4) (j := 2) C dX11_ask_4 rfl rfl ?_
        refine r_iconst (v := 1) C dX11_ask_5 (by decide) ?_
        refine r_icmp_gt (tgt := 21) C ha2 (IRd rfl) dX11_ask_6 (by decide) (fun c4777 => ?_) (fun c4777 => ?_)
        · exact k4759 (Or.inr c4777)
        · exact k4760 (fun w => w.elim c4776 c4777)

def f_X11_about (a1 : Int) (S : Sst) : Int :=
  jn (f_X7_newest 74 S) fun (v4779 : Int) =>
  if a1 = 0 then
    (f_X4_count 29 S)
  else
    (if a1 = 1 then
      (v4779)
    else
      (if a1 = 2 then
        (f_X6_at 75 v4779 S)
      else
        (if a1 = 3 then
          (f_X6_at 77 v4779 S)
        else
          (if a1 = 4 then
            (f_X6_size 87 S)
          else
            (if a1 = 5 then
              (S.2 29 11)
            else
              (if a1 = 6 then
                (S.2 239 1)
              else
                (if a1 = 7 then
                  (wr ((f_X6_size 240 S) - (S.2 239 1)))
                else
                  (if a1 = 8 then
                    (f_X6_size 254 S)
                  else
                    (if a1 = 9 then
                      (S.2 249 2)
                    else
                      (if a1 = 10 then
                        (f_X6_size 1 S)
                      else
                        (if a1 = 11 then
                          (S.2 29 10)
                        else
                          (if a1 = 12 then
                            (f_X6_size 3 S)
                          else
                            ((-1))))))))))))))
set_option maxRecDepth 100000 in
set_option maxHeartbeats 4000000 in
theorem m_X11_about {l : Launch} {E : EwT} {S : Sst} {O : Smo} {a1 : Int} (ha1 : IR a1) {q : Int} (hq : f_X11_about a1 S = q) : MetG l E yX11_about cX11_about 3 (some .int) 2 40 0 0 n0 R0 S O [.ref (zad E 0), .int (zi a1)] (IR q) (some (.int (zi q))) n0 R0 S O := by
  refine ofG (L0 := [(0, .ref (zad E 0)), (1, .int (zi a1))]) hq (by decide +kernel) (Nat.le_of_ble_eq_true rfl) rfl (fun K _ C hQ => ?_)
  unfold f_X11_about
  refine r_aload_n (pc := 0) (j := 0) C dX11_about_0 rfl rfl ?_
  refine r_getR (j := 7) (r := 74) C cl_X11 kd_0 ln_0 (by decide) rfl r0_0_7 (by decide) q_693 dX11_about_1 ?_
  refine r_cV1 (pc := 4) (k := 74) (As := []) (st := []) C (m_X7_newest (p := 74) gs_74 rfl) cal_X7_newest cl_X7 kd_74 ln_74 q_1036 dX11_about_4 rfl rfl (Nat.le_of_ble_eq_true rfl) (Nat.le_of_ble_eq_true rfl) (Nat.le_of_ble_eq_true rfl) (Nat.le_of_ble_eq_true rfl) (Nat.le_of_ble_eq_true rfl) (fun h4778 => ?_)
  refine r_jv h4778 (fun v4779 h4780 => ?_)
  refine r_istore_n (L' := [(2, .int (zi v4779)), (0, .ref (zad E 0)), (1, .int (zi a1))]) C dX11_about_7 rfl (by decide) rfl ?_
  refine r_iload_n (pc := 8) (j := 2) C dX11_about_8 rfl rfl ?_
  by_cases c4781 : (a1 = 0)
  · refine r_t c4781 ?_
    refine r_tswIn (kx := 0) (tgt := 76) C ha1 dX11_about_9 c4781 (by decide) (by decide) rfl (by decide) ?_
    refine r_aload_n (pc := 76) (j := 1) C dX11_about_76 rfl rfl ?_
    refine r_getR (j := 3) (r := 29) C cl_X11 kd_0 ln_0 (by decide) rfl r0_0_3 (by decide) q_689 dX11_about_77 ?_
    refine r_cV1 (pc := 80) (k := 29) (As := []) (st := []) C (m_X4_count (p := 29) gp_29 rfl) cal_X4_count cl_X4 kd_29 ln_29 q_1026 dX11_about_80 rfl rfl (Nat.le_of_ble_eq_true rfl) (Nat.le_of_ble_eq_true rfl) (Nat.le_of_ble_eq_true rfl) (Nat.le_of_ble_eq_true rfl) (Nat.le_of_ble_eq_true rfl) (fun h4782 => ?_)
    exact r_ireturn C hQ rfl dX11_about_83 (fun e => by subst e; exact ⟨h4782, rfl, rfl, rfl, rfl, rfl⟩)
  · refine r_f c4781 ?_
    by_cases c4783 : (a1 = 1)
    · refine r_t c4783 ?_
      refine r_tswIn (kx := 1) (tgt := 84) C ha1 dX11_about_9 c4783 (by decide) (by decide) rfl (by decide) ?_
      refine r_iload_n (pc := 84) (j := 0) C dX11_about_84 rfl rfl ?_
      exact r_ireturn C hQ rfl dX11_about_85 (fun e => by subst e; exact ⟨h4780, rfl, rfl, rfl, rfl, rfl⟩)
    · refine r_f c4783 ?_
      by_cases c4784 : (a1 = 2)
      · refine r_t c4784 ?_
        refine r_tswIn (kx := 2) (tgt := 86) C ha1 dX11_about_9 c4784 (by decide) (by decide) rfl (by decide) ?_
        refine r_aload_n (pc := 86) (j := 1) C dX11_about_86 rfl rfl ?_
        refine r_getR (j := 7) (r := 74) C cl_X11 kd_0 ln_0 (by decide) rfl r0_0_7 (by decide) q_693 dX11_about_87 ?_
        refine r_getR (j := 0) (r := 75) C cl_X7 kd_74 ln_74 (by decide) rfl r0_74_0 (by decide) q_510 dX11_about_90 ?_
        refine r_iload_n (pc := 93) (j := 0) C dX11_about_93 rfl rfl ?_
        refine r_cV1 (pc := 94) (k := 75) (As := [.int (zi v4779)]) (st := []) C (m_X6_at (p := 75) (a1 := v4779) gw_75 h4780 rfl) cal_X6_at cl_X6 kd_75 ln_75 q_1041 dX11_about_94 rfl rfl (Nat.le_of_ble_eq_true rfl) (Nat.le_of_ble_eq_true rfl) (Nat.le_of_ble_eq_true rfl) (Nat.le_of_ble_eq_true rfl) (Nat.le_of_ble_eq_true rfl) (fun h4785 => ?_)
        exact r_ireturn C hQ rfl dX11_about_97 (fun e => by subst e; exact ⟨h4785, rfl, rfl, rfl, rfl, rfl⟩)
      · refine r_f c4784 ?_
        by_cases c4786 : (a1 = 3)
        · refine r_t c4786 ?_
          refine r_tswIn (kx := 3) (tgt := 98) C ha1 dX11_about_9 c4786 (by decide) (by decide) rfl (by decide) ?_
          refine r_aload_n (pc := 98) (j := 1) C dX11_about_98 rfl rfl ?_
          refine r_getR (j := 7) (r := 74) C cl_X11 kd_0 ln_0 (by decide) rfl r0_0_7 (by decide) q_693 dX11_about_99 ?_
          refine r_getR (j := 1) (r := 77) C cl_X7 kd_74 ln_74 (by decide) rfl r0_74_1 (by decide) q_514 dX11_about_102 ?_
          refine r_iload_n (pc := 105) (j := 0) C dX11_about_105 rfl rfl ?_
          refine r_cV1 (pc := 106) (k := 77) (As := [.int (zi v4779)]) (st := []) C (m_X6_at (p := 77) (a1 := v4779) gw_77 h4780 rfl) cal_X6_at cl_X6 kd_77 ln_77 q_1041 dX11_about_106 rfl rfl (Nat.le_of_ble_eq_true rfl) (Nat.le_of_ble_eq_true rfl) (Nat.le_of_ble_eq_true rfl) (Nat.le_of_ble_eq_true rfl) (Nat.le_of_ble_eq_true rfl) (fun h4787 => ?_)
          exact r_ireturn C hQ rfl dX11_about_109 (fun e => by subst e; exact ⟨h4787, rfl, rfl, rfl, rfl, rfl⟩)
        · refine r_f c4786 ?_
          by_cases c4788 : (a1 = 4)
          · refine r_t c4788 ?_
            refine r_tswIn (kx := 4) (tgt := 110) C ha1 dX11_about_9 c4788 (by decide) (by decide) rfl (by decide) ?_
            refine r_aload_n (pc := 110) (j := 1) C dX11_about_110 rfl rfl ?_
            refine r_getR (j := 7) (r := 74) C cl_X11 kd_0 ln_0 (by decide) rfl r0_0_7 (by decide) q_693 dX11_about_111 ?_
            refine r_getR (j := 6) (r := 87) C cl_X7 kd_74 ln_74 (by decide) rfl r0_74_6 (by decide) q_526 dX11_about_114 ?_
            refine r_cV1 (pc := 117) (k := 87) (As := []) (st := []) C (m_X6_size (p := 87) gw_87 rfl) cal_X6_size cl_X6 kd_87 ln_87 q_736 dX11_about_117 rfl rfl (Nat.le_of_ble_eq_true rfl) (Nat.le_of_ble_eq_true rfl) (Nat.le_of_ble_eq_true rfl) (Nat.le_of_ble_eq_true rfl) (Nat.le_of_ble_eq_true rfl) (fun h4789 => ?_)
            exact r_ireturn C hQ rfl dX11_about_120 (fun e => by subst e; exact ⟨h4789, rfl, rfl, rfl, rfl, rfl⟩)
          · refine r_f c4788 ?_
            by_cases c4790 : (a1 = 5)
            · refine r_t c4790 ?_
              refine r_tswIn (kx := 5) (tgt := 121) C ha1 dX11_about_9 c4790 (by decide) (by decide) rfl (by decide) ?_
              refine r_aload_n (pc := 121) (j := 1) C dX11_about_121 rfl rfl ?_
              refine r_getR (j := 3) (r := 29) C cl_X11 kd_0 ln_0 (by decide) rfl r0_0_3 (by decide) q_689 dX11_about_122 ?_
              refine r_getS (j := 11) C cl_X4 kd_29 ln_29 lc_29 (by decide) (by decide) rfl q_248 dX11_about_125 (fun h4791 => ?_)
              exact r_ireturn C hQ rfl dX11_about_128 (fun e => by subst e; exact ⟨h4791, rfl, rfl, rfl, rfl, rfl⟩)
            · refine r_f c4790 ?_
              by_cases c4792 : (a1 = 6)
              · refine r_t c4792 ?_
                refine r_tswIn (kx := 6) (tgt := 129) C ha1 dX11_about_9 c4792 (by decide) (by decide) rfl (by decide) ?_
                refine r_aload_n (pc := 129) (j := 1) C dX11_about_129 rfl rfl ?_
                refine r_getR (j := 12) (r := 239) C cl_X11 kd_0 ln_0 (by decide) rfl r0_0_12 (by decide) q_698 dX11_about_130 ?_
                refine r_getS (j := 1) C cl_X0 kd_239 ln_239 lc_239 (by decide) (by decide) rfl q_591 dX11_about_133 (fun h4793 => ?_)
                exact r_ireturn C hQ rfl dX11_about_136 (fun e => by subst e; exact ⟨h4793, rfl, rfl, rfl, rfl, rfl⟩)
              · refine r_f c4792 ?_
                by_cases c4794 : (a1 = 7)
                · refine r_t c4794 ?_
                  refine r_tswIn (kx := 7) (tgt := 137) C ha1 dX11_about_9 c4794 (by decide) (by decide) rfl (by decide) ?_
                  refine r_aload_n (pc := 137) (j := 1) C dX11_about_137 rfl rfl ?_
                  refine r_getR (j := 12) (r := 239) C cl_X11 kd_0 ln_0 (by decide) rfl r0_0_12 (by decide) q_698 dX11_about_138 ?_
                  refine r_getR (j := 0) (r := 240) C cl_X0 kd_239 ln_239 (by decide) rfl r0_239_0 (by decide) q_589 dX11_about_141 ?_
                  refine r_cV1 (pc := 144) (k := 240) (As := []) (st := []) C (m_X6_size (p := 240) gw_240 rfl) cal_X6_size cl_X6 kd_240 ln_240 q_736 dX11_about_144 rfl rfl (Nat.le_of_ble_eq_true rfl) (Nat.le_of_ble_eq_true rfl) (Nat.le_of_ble_eq_true rfl) (Nat.le_of_ble_eq_true rfl) (Nat.le_of_ble_eq_true rfl) (fun h4795 => ?_)
                  refine r_aload_n (pc := 147) (j := 1) C dX11_about_147 rfl rfl ?_
                  refine r_getR (j := 12) (r := 239) C cl_X11 kd_0 ln_0 (by decide) rfl r0_0_12 (by decide) q_698 dX11_about_148 ?_
                  refine r_getS (j := 1) C cl_X0 kd_239 ln_239 lc_239 (by decide) (by decide) rfl q_591 dX11_about_151 (fun h4796 => ?_)
                  refine r_isub C dX11_about_154 ?_
                  exact r_ireturn C hQ rfl dX11_about_155 (fun e => by subst e; exact ⟨(IR_wr _), rfl, rfl, rfl, rfl, rfl⟩)
                · refine r_f c4794 ?_
                  by_cases c4797 : (a1 = 8)
                  · refine r_t c4797 ?_
                    refine r_tswIn (kx := 8) (tgt := 156) C ha1 dX11_about_9 c4797 (by decide) (by decide) rfl (by decide) ?_
                    refine r_aload_n (pc := 156) (j := 1) C dX11_about_156 rfl rfl ?_
                    refine r_getR (j := 14) (r := 249) C cl_X11 kd_0 ln_0 (by decide) rfl r0_0_14 (by decide) q_700 dX11_about_157 ?_
                    refine r_getR (j := 1) (r := 254) C cl_X9 kd_249 ln_249 (by decide) rfl r0_249_1 (by decide) q_661 dX11_about_160 ?_
                    refine r_cV1 (pc := 163) (k := 254) (As := []) (st := []) C (m_X6_size (p := 254) gw_254 rfl) cal_X6_size cl_X6 kd_254 ln_254 q_736 dX11_about_163 rfl rfl (Nat.le_of_ble_eq_true rfl) (Nat.le_of_ble_eq_true rfl) (Nat.le_of_ble_eq_true rfl) (Nat.le_of_ble_eq_true rfl) (Nat.le_of_ble_eq_true rfl) (fun h4798 => ?_)
                    exact r_ireturn C hQ rfl dX11_about_166 (fun e => by subst e; exact ⟨h4798, rfl, rfl, rfl, rfl, rfl⟩)
                  · refine r_f c4797 ?_
                    by_cases c4799 : (a1 = 9)
                    · refine r_t c4799 ?_
                      refine r_tswIn (kx := 9) (tgt := 167) C ha1 dX11_about_9 c4799 (by decide) (by decide) rfl (by decide) ?_
                      refine r_aload_n (pc := 167) (j := 1) C dX11_about_167 rfl rfl ?_
                      refine r_getR (j := 14) (r := 249) C cl_X11 kd_0 ln_0 (by decide) rfl r0_0_14 (by decide) q_700 dX11_about_168 ?_
                      refine r_getS (j := 2) C cl_X9 kd_249 ln_249 lc_249 (by decide) (by decide) rfl q_663 dX11_about_171 (fun h4800 => ?_)
                      exact r_ireturn C hQ rfl dX11_about_174 (fun e => by subst e; exact ⟨h4800, rfl, rfl, rfl, rfl, rfl⟩)
                    · refine r_f c4799 ?_
                      by_cases c4801 : (a1 = 10)
                      · refine r_t c4801 ?_
                        refine r_tswIn (kx := 10) (tgt := 175) C ha1 dX11_about_9 c4801 (by decide) (by decide) rfl (by decide) ?_
                        refine r_aload_n (pc := 175) (j := 1) C dX11_about_175 rfl rfl ?_
                        refine r_getR (j := 0) (r := 1) C cl_X11 kd_0 ln_0 (by decide) rfl r0_0_0 (by decide) q_686 dX11_about_176 ?_
                        refine r_cV1 (pc := 179) (k := 1) (As := []) (st := []) C (m_X6_size (p := 1) gw_1 rfl) cal_X6_size cl_X6 kd_1 ln_1 q_736 dX11_about_179 rfl rfl (Nat.le_of_ble_eq_true rfl) (Nat.le_of_ble_eq_true rfl) (Nat.le_of_ble_eq_true rfl) (Nat.le_of_ble_eq_true rfl) (Nat.le_of_ble_eq_true rfl) (fun h4802 => ?_)
                        exact r_ireturn C hQ rfl dX11_about_182 (fun e => by subst e; exact ⟨h4802, rfl, rfl, rfl, rfl, rfl⟩)
                      · refine r_f c4801 ?_
                        by_cases c4803 : (a1 = 11)
                        · refine r_t c4803 ?_
                          refine r_tswIn (kx := 11) (tgt := 183) C ha1 dX11_about_9 c4803 (by decide) (by decide) rfl (by decide) ?_
                          refine r_aload_n (pc := 183) (j := 1) C dX11_about_183 rfl rfl ?_
                          refine r_getR (j := 3) (r := 29) C cl_X11 kd_0 ln_0 (by decide) rfl r0_0_3 (by decide) q_689 dX11_about_184 ?_
                          refine r_getS (j := 10) C cl_X4 kd_29 ln_29 lc_29 (by decide) (by decide) rfl q_244 dX11_about_187 (fun h4804 => ?_)
                          exact r_ireturn C hQ rfl dX11_about_190 (fun e => by subst e; exact ⟨h4804, rfl, rfl, rfl, rfl, rfl⟩)
                        · refine r_f c4803 ?_
                          by_cases c4805 : (a1 = 12)
                          · refine r_t c4805 ?_
                            refine r_tswIn (kx := 12) (tgt := 191) C ha1 dX11_about_9 c4805 (by decide) (by decide) rfl (by decide) ?_
                            refine r_aload_n (pc := 191) (j := 1) C dX11_about_191 rfl rfl ?_
                            refine r_getR (j := 1) (r := 3) C cl_X11 kd_0 ln_0 (by decide) rfl r0_0_1 (by decide) q_687 dX11_about_192 ?_
                            refine r_cV1 (pc := 195) (k := 3) (As := []) (st := []) C (m_X6_size (p := 3) gw_3 rfl) cal_X6_size cl_X6 kd_3 ln_3 q_736 dX11_about_195 rfl rfl (Nat.le_of_ble_eq_true rfl) (Nat.le_of_ble_eq_true rfl) (Nat.le_of_ble_eq_true rfl) (Nat.le_of_ble_eq_true rfl) (Nat.le_of_ble_eq_true rfl) (fun h4806 => ?_)
                            exact r_ireturn C hQ rfl dX11_about_198 (fun e => by subst e; exact ⟨h4806, rfl, rfl, rfl, rfl, rfl⟩)
                          · refine r_f c4805 ?_
                            refine r_tswOut (tgt := 199) C ha1 dX11_about_9 (by omega) (by decide) ?_
                            refine r_iconst (v := (-1)) C dX11_about_199 (by decide) ?_
                            exact r_ireturn C hQ rfl dX11_about_200 (fun e => by subst e; exact ⟨(IRd rfl), rfl, rfl, rfl, rfl, rfl⟩)
