/-! m_survey: the methods as functions, and their walks (written by program) -/
def f_X9_forget (S : Sst) : Sst :=
  jn (f_X6_clear 254 S) fun (q1587 : Sst) =>
  jn (f_X6_clear 256 q1587) fun (q1590 : Sst) =>
  jn (f_X6_clear 258 q1590) fun (q1593 : Sst) =>
  jn (f_X6_clear 260 q1593) fun (q1596 : Sst) =>
  q1596
set_option maxRecDepth 100000 in
set_option maxHeartbeats 4000000 in
theorem m_X9_forget {l : Launch} {E : EwT} {S : Sst} {O : Smo}  {q : Sst} (hq : f_X9_forget S = q) : MetG l E yX9_forget cX9_forget 1 none 1 20 0 0 n0 R0 S O [.ref (zad E 249)] (True) none n0 R0 q O := by
  refine ofG (L0 := [(0, .ref (zad E 249))]) hq (by decide +kernel) (Nat.le_of_ble_eq_true rfl) rfl (fun K _ C hQ => ?_)
  unfold f_X9_forget
  refine r_aload_n (pc := 0) (j := 0) C dX9_forget_0 rfl rfl ?_
  refine r_getR (j := 1) (r := 254) C cl_X9 kd_249 ln_249 (by decide) rfl r0_249_1 (by decide) q_660 dX9_forget_1 ?_
  refine r_jn (fun q1587 e1588 => ?_)
  refine r_cV0 (pc := 4) (k := 254) (As := []) (st := []) C (m_X6_clear (p := 254) gw_254 e1588) cal_X6_clear cl_X6 kd_254 ln_254 q_1025 dX9_forget_4 rfl rfl (Nat.le_of_ble_eq_true rfl) (Nat.le_of_ble_eq_true rfl) (Nat.le_of_ble_eq_true rfl) (Nat.le_of_ble_eq_true rfl) (Nat.le_of_ble_eq_true rfl) (fun h1586 => ?_)
  refine r_aload_n (pc := 7) (j := 0) C dX9_forget_7 rfl rfl ?_
  refine r_getR (j := 4) (r := 256) C cl_X9 kd_249 ln_249 (by decide) rfl r0_249_4 (by decide) q_665 dX9_forget_8 ?_
  refine r_jn (fun q1590 e1591 => ?_)
  refine r_cV0 (pc := 11) (k := 256) (As := []) (st := []) C (m_X6_clear (p := 256) gw_256 e1591) cal_X6_clear cl_X6 kd_256 ln_256 q_1025 dX9_forget_11 rfl rfl (Nat.le_of_ble_eq_true rfl) (Nat.le_of_ble_eq_true rfl) (Nat.le_of_ble_eq_true rfl) (Nat.le_of_ble_eq_true rfl) (Nat.le_of_ble_eq_true rfl) (fun h1589 => ?_)
  refine r_aload_n (pc := 14) (j := 0) C dX9_forget_14 rfl rfl ?_
  refine r_getR (j := 5) (r := 258) C cl_X9 kd_249 ln_249 (by decide) rfl r0_249_5 (by decide) q_666 dX9_forget_15 ?_
  refine r_jn (fun q1593 e1594 => ?_)
  refine r_cV0 (pc := 18) (k := 258) (As := []) (st := []) C (m_X6_clear (p := 258) gw_258 e1594) cal_X6_clear cl_X6 kd_258 ln_258 q_1025 dX9_forget_18 rfl rfl (Nat.le_of_ble_eq_true rfl) (Nat.le_of_ble_eq_true rfl) (Nat.le_of_ble_eq_true rfl) (Nat.le_of_ble_eq_true rfl) (Nat.le_of_ble_eq_true rfl) (fun h1592 => ?_)
  refine r_aload_n (pc := 21) (j := 0) C dX9_forget_21 rfl rfl ?_
  refine r_getR (j := 6) (r := 260) C cl_X9 kd_249 ln_249 (by decide) rfl r0_249_6 (by decide) q_667 dX9_forget_22 ?_
  refine r_jn (fun q1596 e1597 => ?_)
  refine r_cV0 (pc := 25) (k := 260) (As := []) (st := []) C (m_X6_clear (p := 260) gw_260 e1597) cal_X6_clear cl_X6 kd_260 ln_260 q_1025 dX9_forget_25 rfl rfl (Nat.le_of_ble_eq_true rfl) (Nat.le_of_ble_eq_true rfl) (Nat.le_of_ble_eq_true rfl) (Nat.le_of_ble_eq_true rfl) (Nat.le_of_ble_eq_true rfl) (fun h1595 => ?_)
  exact r_return C hQ dX9_forget_28 (fun e => by subst e; exact ⟨trivial, rfl, rfl, rfl, rfl, rfl⟩)

def f_X8_nextEvent (S : Sst) : Int :=
  f_X6_at 46 (f_X6_at 81 (f_X7_newest 74 S) S) S
set_option maxRecDepth 100000 in
set_option maxHeartbeats 4000000 in
theorem m_X8_nextEvent {l : Launch} {E : EwT} {S : Sst} {O : Smo}  {q : Int} (hq : f_X8_nextEvent S = q) : MetG l E yX8_nextEvent cX8_nextEvent 1 (some .int) 2 40 0 0 n0 R0 S O [.ref (zad E 242)] (IR q) (some (.int (zi q))) n0 R0 S O := by
  refine ofG (L0 := [(0, .ref (zad E 242))]) hq (by decide +kernel) (Nat.le_of_ble_eq_true rfl) rfl (fun K _ C hQ => ?_)
  unfold f_X8_nextEvent
  refine r_aload_n (pc := 0) (j := 0) C dX8_nextEvent_0 rfl rfl ?_
  refine r_getR (j := 5) (r := 29) C cl_X8 kd_242 ln_242 (by decide) rfl r0_242_5 (by decide) q_624 dX8_nextEvent_1 ?_
  refine r_getR (j := 8) (r := 46) C cl_X4 kd_29 ln_29 (by decide) rfl r0_29_8 (by decide) q_238 dX8_nextEvent_4 ?_
  refine r_aload_n (pc := 7) (j := 0) C dX8_nextEvent_7 rfl rfl ?_
  refine r_getR (j := 7) (r := 74) C cl_X8 kd_242 ln_242 (by decide) rfl r0_242_7 (by decide) q_626 dX8_nextEvent_8 ?_
  refine r_getR (j := 3) (r := 81) C cl_X7 kd_74 ln_74 (by decide) rfl r0_74_3 (by decide) q_520 dX8_nextEvent_11 ?_
  refine r_aload_n (pc := 14) (j := 0) C dX8_nextEvent_14 rfl rfl ?_
  refine r_getR (j := 7) (r := 74) C cl_X8 kd_242 ln_242 (by decide) rfl r0_242_7 (by decide) q_626 dX8_nextEvent_15 ?_
  refine r_cV1 (pc := 18) (k := 74) (As := []) (st := [.ref (zad E 81), .ref (zad E 46)]) C (m_X7_newest (p := 74) gs_74 rfl) cal_X7_newest cl_X7 kd_74 ln_74 q_1068 dX8_nextEvent_18 rfl rfl (Nat.le_of_ble_eq_true rfl) (Nat.le_of_ble_eq_true rfl) (Nat.le_of_ble_eq_true rfl) (Nat.le_of_ble_eq_true rfl) (Nat.le_of_ble_eq_true rfl) (fun h1677 => ?_)
  refine r_cV1 (pc := 21) (k := 81) (As := [.int (zi (f_X7_newest 74 S))]) (st := [.ref (zad E 46)]) C (m_X6_at (p := 81) (a1 := f_X7_newest 74 S) gw_81 h1677 rfl) cal_X6_at cl_X6 kd_81 ln_81 q_1069 dX8_nextEvent_21 rfl rfl (Nat.le_of_ble_eq_true rfl) (Nat.le_of_ble_eq_true rfl) (Nat.le_of_ble_eq_true rfl) (Nat.le_of_ble_eq_true rfl) (Nat.le_of_ble_eq_true rfl) (fun h1678 => ?_)
  refine r_cV1 (pc := 24) (k := 46) (As := [.int (zi (f_X6_at 81 (f_X7_newest 74 S) S))]) (st := []) C (m_X6_at (p := 46) (a1 := f_X6_at 81 (f_X7_newest 74 S) S) gw_46 h1678 rfl) cal_X6_at cl_X6 kd_46 ln_46 q_1069 dX8_nextEvent_24 rfl rfl (Nat.le_of_ble_eq_true rfl) (Nat.le_of_ble_eq_true rfl) (Nat.le_of_ble_eq_true rfl) (Nat.le_of_ble_eq_true rfl) (Nat.le_of_ble_eq_true rfl) (fun h1679 => ?_)
  exact r_ireturn C hQ rfl dX8_nextEvent_27 (fun e => by subst e; exact ⟨h1679, rfl, rfl, rfl, rfl, rfl⟩)

def f_X8_show (a1 : Int) (S : Sst) : Option (Sst) :=
  Option.bind (f_X10_build (f_X6_at 77 a1 S) S) fun (q2809 : Sst) =>
  some q2809
set_option maxRecDepth 100000 in
set_option maxHeartbeats 4000000 in
theorem m_X8_show {l : Launch} {E : EwT} {S : Sst} {O : Smo} {a1 : Int} (ha1 : IR a1) {q : Sst} (hq : f_X8_show a1 S = some q) : MetG l E yX8_show cX8_show 2 none 4 90 0 0 n0 R0 S O [.ref (zad E 242), .int (zi a1)] (True) none n0 R0 q O := by
  refine ofG (L0 := [(0, .ref (zad E 242)), (1, .int (zi a1))]) hq (by decide +kernel) (Nat.le_of_ble_eq_true rfl) rfl (fun K _ C hQ => ?_)
  unfold f_X8_show
  refine r_aload_n (pc := 0) (j := 0) C dX8_show_0 rfl rfl ?_
  refine r_getR (j := 6) (r := 59) C cl_X8 kd_242 ln_242 (by decide) rfl r0_242_6 (by decide) q_625 dX8_show_1 ?_
  refine r_aload_n (pc := 4) (j := 0) C dX8_show_4 rfl rfl ?_
  refine r_getR (j := 7) (r := 74) C cl_X8 kd_242 ln_242 (by decide) rfl r0_242_7 (by decide) q_626 dX8_show_5 ?_
  refine r_getR (j := 1) (r := 77) C cl_X7 kd_74 ln_74 (by decide) rfl r0_74_1 (by decide) q_512 dX8_show_8 ?_
  refine r_iload_n (pc := 11) (j := 1) C dX8_show_11 rfl rfl ?_
  refine r_cV1 (pc := 12) (k := 77) (As := [.int (zi a1)]) (st := [.ref (zad E 59)]) C (m_X6_at (p := 77) (a1 := a1) gw_77 ha1 rfl) cal_X6_at cl_X6 kd_77 ln_77 q_1069 dX8_show_12 rfl rfl (Nat.le_of_ble_eq_true rfl) (Nat.le_of_ble_eq_true rfl) (Nat.le_of_ble_eq_true rfl) (Nat.le_of_ble_eq_true rfl) (Nat.le_of_ble_eq_true rfl) (fun h2807 => ?_)
  refine r_bd (fun q2809 e2810 => ?_)
  refine r_cV0 (pc := 15) (k := 59) (As := [.int (zi (f_X6_at 77 a1 S))]) (st := []) C (m_X10_build (a1 := f_X6_at 77 a1 S) h2807 e2810) cal_X10_build cl_X10 kd_59 ln_59 q_1249 dX8_show_15 rfl rfl (Nat.le_of_ble_eq_true rfl) (Nat.le_of_ble_eq_true rfl) (Nat.le_of_ble_eq_true rfl) (Nat.le_of_ble_eq_true rfl) (Nat.le_of_ble_eq_true rfl) (fun h2808 => ?_)
  exact r_return C hQ dX8_show_18 (fun e => by cases e; exact ⟨trivial, rfl, rfl, rfl, rfl, rfl⟩)

def f_X8_isSwept (a1 : Int) (S : Sst) : Int :=
  jn (f_X8_nextEvent S) fun (v2985 : Int) =>
  if (v2985 = (-1) ∨ a1 < v2985) then
    (1)
  else
    (0)
set_option maxRecDepth 100000 in
set_option maxHeartbeats 4000000 in
theorem m_X8_isSwept {l : Launch} {E : EwT} {S : Sst} {O : Smo} {a1 : Int} (ha1 : IR a1) {q : Int} (hq : f_X8_isSwept a1 S = q) : MetG l E yX8_isSwept cX8_isSwept 3 (some .boolean) 3 60 0 0 n0 R0 S O [.ref (zad E 242), .int (zi a1)] (BR q) (some (.int (zi q))) n0 R0 S O := by
  refine ofG (L0 := [(0, .ref (zad E 242)), (1, .int (zi a1))]) hq (by decide +kernel) (Nat.le_of_ble_eq_true rfl) rfl (fun K _ C hQ => ?_)
  unfold f_X8_isSwept
  refine r_aload_n (pc := 0) (j := 0) C dX8_isSwept_0 rfl rfl ?_
  refine r_cV1 (pc := 1) (k := 242) (As := []) (st := []) C (m_X8_nextEvent  rfl) cal_X8_nextEvent cl_X8 kd_242 ln_242 q_1301 dX8_isSwept_1 rfl rfl (Nat.le_of_ble_eq_true rfl) (Nat.le_of_ble_eq_true rfl) (Nat.le_of_ble_eq_true rfl) (Nat.le_of_ble_eq_true rfl) (Nat.le_of_ble_eq_true rfl) (fun h2984 => ?_)
  refine r_jv h2984 (fun v2985 h2986 => ?_)
  refine r_istore_n (L' := [(2, .int (zi v2985)), (0, .ref (zad E 242)), (1, .int (zi a1))]) C dX8_isSwept_4 rfl (by decide) rfl ?_
  refine r_iload_n (pc := 5) (j := 0) C dX8_isSwept_5 rfl rfl ?_
  refine r_iconst (v := (-1)) C dX8_isSwept_6 (by decide) ?_
  refine r_cut (v2985 = (-1) ∨ a1 < v2985) 15 19 [] (fun c2987 => ?_) (fun c2987 => ?_) (fun k2988 k2989 => ?_)
  · refine r_t c2987 ?_
    refine r_iconst (v := 1) C dX8_isSwept_15 (by decide) ?_
    refine r_goto (tgt := 20) C dX8_isSwept_16 (by decide) ?_
    exact r_ireturn C hQ (nar_z (BRd rfl)) dX8_isSwept_20 (fun e => by subst e; exact ⟨(BRd rfl), rfl, rfl, rfl, rfl, rfl⟩)
  · refine r_f c2987 ?_
    refine r_iconst (v := 0) C dX8_isSwept_19 (by decide) ?_
    exact r_ireturn C hQ (nar_z (BRd rfl)) dX8_isSwept_20 (fun e => by subst e; exact ⟨(BRd rfl), rfl, rfl, rfl, rfl, rfl⟩)
  · refine r_icmp_eq (tgt := 15) C h2986 (IRd rfl) dX8_isSwept_7 (by decide) (fun c2990 => ?_) (fun c2990 => ?_)
    · exact k2988 (Or.inl c2990)
    · refine r_iload_n (pc := 10) (j := 2) C dX8_isSwept_10 rfl rfl ?_
      refine r_iload_n (pc := 11) (j := 0) C dX8_isSwept_11 rfl rfl ?_
      refine r_icmp_ge (tgt := 19) C ha1 h2986 dX8_isSwept_12 (by decide) (fun c2991 => ?_) (fun c2991 => ?_)
      · exact k2989 (fun w => w.elim c2990 c2991)
      · exact k2988 (Or.inr c2991)

def f_X8_stampOf (a1 : Int) (S : Sst) : Option (Int) :=
  jn (f_X7_newest 74 S) fun (v2993 : Int) =>
  Option.bind (lp (fun (s2995 : Int) =>
    if (0 < s2995 ∧ a1 < f_X6_at 75 s2995 S) then
      (some (Sum.inl (wr (s2995 + (-1)))))
    else
      (some (Sum.inr s2995))) FU v2993) fun (r3007 : Int) =>
  some r3007
set_option maxRecDepth 100000 in
set_option maxHeartbeats 4000000 in
theorem m_X8_stampOf {l : Launch} {E : EwT} {S : Sst} {O : Smo} {a1 : Int} (ha1 : IR a1) {q : Int} (hq : f_X8_stampOf a1 S = some q) : MetG l E yX8_stampOf cX8_stampOf 3 (some .int) 2 40 0 0 n0 R0 S O [.ref (zad E 242), .int (zi a1)] (IR q) (some (.int (zi q))) n0 R0 S O := by
  refine ofG (L0 := [(0, .ref (zad E 242)), (1, .int (zi a1))]) hq (by decide +kernel) (Nat.le_of_ble_eq_true rfl) rfl (fun K _ C hQ => ?_)
  unfold f_X8_stampOf
  refine r_aload_n (pc := 0) (j := 0) C dX8_stampOf_0 rfl rfl ?_
  refine r_getR (j := 7) (r := 74) C cl_X8 kd_242 ln_242 (by decide) rfl r0_242_7 (by decide) q_626 dX8_stampOf_1 ?_
  refine r_cV1 (pc := 4) (k := 74) (As := []) (st := []) C (m_X7_newest (p := 74) gs_74 rfl) cal_X7_newest cl_X7 kd_74 ln_74 q_1068 dX8_stampOf_4 rfl rfl (Nat.le_of_ble_eq_true rfl) (Nat.le_of_ble_eq_true rfl) (Nat.le_of_ble_eq_true rfl) (Nat.le_of_ble_eq_true rfl) (Nat.le_of_ble_eq_true rfl) (fun h2992 => ?_)
  refine r_jv h2992 (fun v2993 h2994 => ?_)
  refine r_istore_n (L' := [(2, .int (zi v2993)), (0, .ref (zad E 242)), (1, .int (zi a1))]) C dX8_stampOf_7 rfl (by decide) rfl ?_
  refine r_L (L' := [(0, .ref (zad E 242)), (1, .int (zi a1)), (2, .int (zi v2993))]) [1, 2, 0] rfl ?_
  refine r_loop1 (fun s2995 : Int => IR s2995) (fun s2995 => S) (fun s2995 => O) (fun s2995 => [(0, .ref (zad E 242)), (1, .int (zi a1)), (2, .int (zi s2995))]) [] (fun r3007 : Int => IR r3007) (fun r3007 => S) (fun r3007 => O) (fun r3007 => [(2, .int (zi r3007))]) 33 (fun r3007 h3008 => ?_) (fun k2997 k2999 k2998 k3000 s2995 h2996 => ?_) h2994
  · refine r_iload_n (pc := 33) (j := 0) C dX8_stampOf_33 rfl rfl ?_
    exact r_ireturn C hQ rfl dX8_stampOf_34 (fun e => by cases e; exact ⟨h3008, rfl, rfl, rfl, rfl, rfl⟩)
  · refine r_iload_n (pc := 8) (j := 2) C dX8_stampOf_8 rfl rfl ?_
    refine r_cut (0 < s2995 ∧ a1 < f_X6_at 75 s2995 S) 27 33 [] (fun c3002 => ?_) (fun c3002 => ?_) (fun k3003 k3004 => ?_)
    · refine r_bt c3002 ?_
      refine r_iinc (j := 2) (L' := [(2, .int (zi (wr (s2995 + (-1))))), (0, .ref (zad E 242)), (1, .int (zi a1))]) C dX8_stampOf_27 rfl (by decide) rfl ?_
      refine r_goto (tgt := 8) C dX8_stampOf_30 (by decide) ?_
      refine r_L (L' := [(0, .ref (zad E 242)), (1, .int (zi a1)), (2, .int (zi (wr (s2995 + (-1)))))]) [1, 2, 0] rfl ?_
      exact k2998 (wr (s2995 + (-1))) (IR_wr _)
    · refine r_bf c3002 ?_
      refine r_L (L' := [(2, .int (zi s2995))]) [2] rfl ?_
      exact k3000 s2995 h2996
    · refine r_if_le (tgt := 33) C h2996 dX8_stampOf_9 (by decide) (fun c3005 => ?_) (fun c3005 => ?_)
      · exact k3004 (fun w => c3005 w.1)
      · refine r_aload_n (pc := 12) (j := 0) C dX8_stampOf_12 rfl rfl ?_
        refine r_getR (j := 7) (r := 74) C cl_X8 kd_242 ln_242 (by decide) rfl r0_242_7 (by decide) q_626 dX8_stampOf_13 ?_
        refine r_getR (j := 0) (r := 75) C cl_X7 kd_74 ln_74 (by decide) rfl r0_74_0 (by decide) q_508 dX8_stampOf_16 ?_
        refine r_iload_n (pc := 19) (j := 2) C dX8_stampOf_19 rfl rfl ?_
        refine r_cV1 (pc := 20) (k := 75) (As := [.int (zi s2995)]) (st := []) C (m_X6_at (p := 75) (a1 := s2995) gw_75 h2996 rfl) cal_X6_at cl_X6 kd_75 ln_75 q_1069 dX8_stampOf_20 rfl rfl (Nat.le_of_ble_eq_true rfl) (Nat.le_of_ble_eq_true rfl) (Nat.le_of_ble_eq_true rfl) (Nat.le_of_ble_eq_true rfl) (Nat.le_of_ble_eq_true rfl) (fun h3001 => ?_)
        refine r_iload_n (pc := 23) (j := 1) C dX8_stampOf_23 rfl rfl ?_
        refine r_icmp_le (tgt := 33) C h3001 ha1 dX8_stampOf_24 (by decide) (fun c3006 => ?_) (fun c3006 => ?_)
        · exact k3004 (fun w => c3006 w.2)
        · exact k3003 ⟨c3005, c3006⟩

def f_X8_countFartherUp (a1 : Int) (a2 : Int) (S : Sst) : Option (Sst) :=
  jn (upS S 242 1 0) fun (S3027 : Sst) =>
  Option.bind (lp (fun (s3028 : Int × Sst) =>
    if s3028.1 < f_X6_size 60 s3028.2 then
      (jn (
        if 0 < f_X4_aheadOf 29 (f_X6_at 60 s3028.1 s3028.2) a1 a2 s3028.2 then
          (jn (upS s3028.2 242 1 (wr ((s3028.2.2 242 1) + 1))) fun (S3044 : Sst) =>
          S3044)
        else
          (s3028.2)) fun (q3038 : Sst) =>
      some (Sum.inl (wr (s3028.1 + 1), q3038)))
    else
      (some (Sum.inr s3028.2))) FU (0, S3027)) fun (r3045 : Sst) =>
  some r3045
set_option maxRecDepth 100000 in
set_option maxHeartbeats 4000000 in
theorem m_X8_countFartherUp {l : Launch} {E : EwT} {S : Sst} {O : Smo} {a1 : Int} (ha1 : IR a1) {a2 : Int} (ha2 : IR a2) {q : Sst} (hq : f_X8_countFartherUp a1 a2 S = some q) : MetG l E yX8_countFartherUp cX8_countFartherUp 4 none 2 45 0 0 n0 R0 S O [.ref (zad E 242), .int (zi a1), .int (zi a2)] (True) none n0 R0 q O := by
  refine ofG (L0 := [(0, .ref (zad E 242)), (1, .int (zi a1)), (2, .int (zi a2))]) hq (by decide +kernel) (Nat.le_of_ble_eq_true rfl) rfl (fun K _ C hQ => ?_)
  unfold f_X8_countFartherUp
  refine r_aload_n (pc := 0) (j := 0) C dX8_countFartherUp_0 rfl rfl ?_
  refine r_iconst (v := 0) C dX8_countFartherUp_1 (by decide) ?_
  refine r_putS C cl_X8 kd_242 ln_242 lc_242 (by decide) (by decide) rfl rfl rfl (IRd rfl) q_616 dX8_countFartherUp_2 (fun S3027 => ?_)
  refine r_iconst (v := 0) C dX8_countFartherUp_5 (by decide) ?_
  refine r_istore_n (L' := [(3, .int (zi 0)), (0, .ref (zad E 242)), (1, .int (zi a1)), (2, .int (zi a2))]) C dX8_countFartherUp_6 rfl (by decide) rfl ?_
  refine r_L (L' := [(0, .ref (zad E 242)), (1, .int (zi a1)), (2, .int (zi a2)), (3, .int (zi 0))]) [1, 2, 3, 0] rfl ?_
  refine r_loop1 (fun s3028 : Int × Sst => IR s3028.1) (fun s3028 => s3028.2) (fun s3028 => O) (fun s3028 => [(0, .ref (zad E 242)), (1, .int (zi a1)), (2, .int (zi a2)), (3, .int (zi s3028.1))]) [] (fun r3045 : Sst => True) (fun r3045 => r3045) (fun r3045 => O) (fun r3045 => []) 60 (fun r3045 h3046 => ?_) (fun k3030 k3032 k3031 k3033 s3028 h3029 => ?_) (IRd rfl)
  · exact r_return C hQ dX8_countFartherUp_60 (fun e => by cases e; exact ⟨trivial, rfl, rfl, rfl, rfl, rfl⟩)
  · refine r_iload_n (pc := 7) (j := 3) C dX8_countFartherUp_7 rfl rfl ?_
    refine r_aload_n (pc := 8) (j := 0) C dX8_countFartherUp_8 rfl rfl ?_
    refine r_getR (j := 6) (r := 59) C cl_X8 kd_242 ln_242 (by decide) rfl r0_242_6 (by decide) q_625 dX8_countFartherUp_9 ?_
    refine r_getR (j := 0) (r := 60) C cl_X10 kd_59 ln_59 (by decide) rfl r0_59_0 (by decide) q_432 dX8_countFartherUp_12 ?_
    refine r_cV1 (pc := 15) (k := 60) (As := []) (st := [.int (zi s3028.1)]) C (m_X6_size (p := 60) gw_60 rfl) cal_X6_size cl_X6 kd_60 ln_60 q_1311 dX8_countFartherUp_15 rfl rfl (Nat.le_of_ble_eq_true rfl) (Nat.le_of_ble_eq_true rfl) (Nat.le_of_ble_eq_true rfl) (Nat.le_of_ble_eq_true rfl) (Nat.le_of_ble_eq_true rfl) (fun h3034 => ?_)
    refine r_icmp_ge (tgt := 60) C h3029 h3034 dX8_countFartherUp_18 (by decide) (fun c3035 => ?_) (fun c3035 => ?_)
    · refine r_bf c3035 ?_
      refine r_L (L' := []) [] rfl ?_
      exact k3033 s3028.2 trivial
    · refine r_bt c3035 ?_
      refine r_aload_n (pc := 21) (j := 0) C dX8_countFartherUp_21 rfl rfl ?_
      refine r_getR (j := 5) (r := 29) C cl_X8 kd_242 ln_242 (by decide) rfl r0_242_5 (by decide) q_624 dX8_countFartherUp_22 ?_
      refine r_aload_n (pc := 25) (j := 0) C dX8_countFartherUp_25 rfl rfl ?_
      refine r_getR (j := 6) (r := 59) C cl_X8 kd_242 ln_242 (by decide) rfl r0_242_6 (by decide) q_625 dX8_countFartherUp_26 ?_
      refine r_getR (j := 0) (r := 60) C cl_X10 kd_59 ln_59 (by decide) rfl r0_59_0 (by decide) q_432 dX8_countFartherUp_29 ?_
      refine r_iload_n (pc := 32) (j := 3) C dX8_countFartherUp_32 rfl rfl ?_
      refine r_cV1 (pc := 33) (k := 60) (As := [.int (zi s3028.1)]) (st := [.ref (zad E 29)]) C (m_X6_at (p := 60) (a1 := s3028.1) gw_60 h3029 rfl) cal_X6_at cl_X6 kd_60 ln_60 q_1069 dX8_countFartherUp_33 rfl rfl (Nat.le_of_ble_eq_true rfl) (Nat.le_of_ble_eq_true rfl) (Nat.le_of_ble_eq_true rfl) (Nat.le_of_ble_eq_true rfl) (Nat.le_of_ble_eq_true rfl) (fun h3036 => ?_)
      refine r_iload_n (pc := 36) (j := 1) C dX8_countFartherUp_36 rfl rfl ?_
      refine r_iload_n (pc := 37) (j := 2) C dX8_countFartherUp_37 rfl rfl ?_
      refine r_cV1 (pc := 38) (k := 29) (As := [.int (zi (f_X6_at 60 s3028.1 s3028.2)), .int (zi a1), .int (zi a2)]) (st := []) C (m_X4_aheadOf (p := 29) (a1 := f_X6_at 60 s3028.1 s3028.2) (a2 := a1) (a3 := a2) gp_29 h3036 ha1 ha2 rfl) cal_X4_aheadOf cl_X4 kd_29 ln_29 q_1312 dX8_countFartherUp_38 rfl rfl (Nat.le_of_ble_eq_true rfl) (Nat.le_of_ble_eq_true rfl) (Nat.le_of_ble_eq_true rfl) (Nat.le_of_ble_eq_true rfl) (Nat.le_of_ble_eq_true rfl) (fun h3037 => ?_)
      refine r_bj ?_
      refine r_join (fun q3038 : Sst => True) (fun q3038 => q3038) (fun q3038 => O) (fun q3038 => [(0, .ref (zad E 242)), (1, .int (zi a1)), (2, .int (zi a2)), (3, .int (zi s3028.1))]) 54 (fun q3038 => []) (fun q3038 h3039 => ?_) (fun k3040 k3041 => ?_)
      · refine r_iinc (j := 3) (L' := [(3, .int (zi (wr (s3028.1 + 1)))), (0, .ref (zad E 242)), (1, .int (zi a1)), (2, .int (zi a2))]) C dX8_countFartherUp_54 rfl (by decide) rfl ?_
        refine r_goto (tgt := 7) C dX8_countFartherUp_57 (by decide) ?_
        refine r_L (L' := [(0, .ref (zad E 242)), (1, .int (zi a1)), (2, .int (zi a2)), (3, .int (zi (wr (s3028.1 + 1))))]) [1, 2, 3, 0] rfl ?_
        exact k3031 (wr (s3028.1 + 1), q3038) (IR_wr _)
      · refine r_if_le (tgt := 54) C h3037 dX8_countFartherUp_41 (by decide) (fun c3042 => ?_) (fun c3042 => ?_)
        · refine r_jf c3042 ?_
          exact k3041 s3028.2 trivial
        · refine r_jt c3042 ?_
          refine r_aload_n (pc := 44) (j := 0) C dX8_countFartherUp_44 rfl rfl ?_
          refine r_dup C dX8_countFartherUp_45 rfl ?_
          refine r_getS (j := 1) C cl_X8 kd_242 ln_242 lc_242 (by decide) (by decide) rfl q_616 dX8_countFartherUp_46 (fun h3043 => ?_)
          refine r_iconst (v := 1) C dX8_countFartherUp_49 (by decide) ?_
          refine r_iadd C dX8_countFartherUp_50 ?_
          refine r_jj ?_
          refine r_putS C cl_X8 kd_242 ln_242 lc_242 (by decide) (by decide) rfl rfl rfl (IR_wr _) q_616 dX8_countFartherUp_51 (fun S3044 => ?_)
          exact k3041 S3044 trivial

def f_X8_find (a1 : Int) (a2 : Int) (S : Sst) : Option (Int × Sst) :=
  jn (
    if (((a1 < 0 ∨ 60 < a1) ∨ a2 < (-9)) ∨ 99 < a2) then
      (0)
    else
      (1)) fun (q3047 : Int) =>
  if (q3047 = 0 ∨ f_X8_isSwept a1 S = 0) then
    (some (0, S))
  else
    (Option.bind (f_X8_stampOf a1 S) fun (q3063 : Int) =>
    Option.bind (f_X8_show q3063 S) fun (q3066 : Sst) =>
    Option.bind (f_X8_countFartherUp a1 a2 q3066) fun (q3069 : Sst) =>
    some (1, q3069))
set_option maxRecDepth 100000 in
set_option maxHeartbeats 4000000 in
theorem m_X8_find {l : Launch} {E : EwT} {S : Sst} {O : Smo} {a1 : Int} (ha1 : IR a1) {a2 : Int} (ha2 : IR a2) {q : Int × Sst} (hq : f_X8_find a1 a2 S = some q) : MetG l E yX8_find cX8_find 4 (some .boolean) 5 111 0 0 n0 R0 S O [.ref (zad E 242), .int (zi a1), .int (zi a2)] (BR q.1) (some (.int (zi q.1))) n0 R0 q.2 O := by
  refine ofG (L0 := [(0, .ref (zad E 242)), (1, .int (zi a1)), (2, .int (zi a2))]) hq (by decide +kernel) (Nat.le_of_ble_eq_true rfl) rfl (fun K _ C hQ => ?_)
  unfold f_X8_find
  refine r_iload_n (pc := 0) (j := 1) C dX8_find_0 rfl rfl ?_
  refine r_join (fun q3047 : Int => BR q3047) (fun q3047 => S) (fun q3047 => O) (fun q3047 => [(0, .ref (zad E 242)), (1, .int (zi a1)), (2, .int (zi a2))]) 27 (fun q3047 => [.int (zi q3047)]) (fun q3047 h3048 => ?_) (fun k3049 k3050 => ?_)
  · refine r_istore_n (L' := [(3, .int (zi q3047)), (0, .ref (zad E 242)), (1, .int (zi a1)), (2, .int (zi a2))]) C dX8_find_27 rfl (by decide) rfl ?_
    refine r_iload_n (pc := 28) (j := 0) C dX8_find_28 rfl rfl ?_
    refine r_cut (q3047 = 0 ∨ f_X8_isSwept a1 S = 0) 40 42 [] (fun c3059 => ?_) (fun c3059 => ?_) (fun k3060 k3061 => ?_)
    · refine r_t c3059 ?_
      refine r_iconst (v := 0) C dX8_find_40 (by decide) ?_
      exact r_ireturn C hQ (nar_z (BRd rfl)) dX8_find_41 (fun e => by cases e; exact ⟨(BRd rfl), rfl, rfl, rfl, rfl, rfl⟩)
    · refine r_f c3059 ?_
      refine r_aload_n (pc := 42) (j := 1) C dX8_find_42 rfl rfl ?_
      refine r_aload_n (pc := 43) (j := 1) C dX8_find_43 rfl rfl ?_
      refine r_iload_n (pc := 44) (j := 2) C dX8_find_44 rfl rfl ?_
      refine r_bd (fun q3063 e3064 => ?_)
      refine r_cV1 (pc := 45) (k := 242) (As := [.int (zi a1)]) (st := [.ref (zad E 242)]) C (m_X8_stampOf (a1 := a1) ha1 e3064) cal_X8_stampOf cl_X8 kd_242 ln_242 q_1302 dX8_find_45 rfl rfl (Nat.le_of_ble_eq_true rfl) (Nat.le_of_ble_eq_true rfl) (Nat.le_of_ble_eq_true rfl) (Nat.le_of_ble_eq_true rfl) (Nat.le_of_ble_eq_true rfl) (fun h3062 => ?_)
      refine r_bd (fun q3066 e3067 => ?_)
      refine r_cV0 (pc := 48) (k := 242) (As := [.int (zi q3063)]) (st := []) C (m_X8_show (a1 := q3063) h3062 e3067) cal_X8_show cl_X8 kd_242 ln_242 q_1306 dX8_find_48 rfl rfl (Nat.le_of_ble_eq_true rfl) (Nat.le_of_ble_eq_true rfl) (Nat.le_of_ble_eq_true rfl) (Nat.le_of_ble_eq_true rfl) (Nat.le_of_ble_eq_true rfl) (fun h3065 => ?_)
      refine r_aload_n (pc := 51) (j := 1) C dX8_find_51 rfl rfl ?_
      refine r_iload_n (pc := 52) (j := 2) C dX8_find_52 rfl rfl ?_
      refine r_iload_n (pc := 53) (j := 3) C dX8_find_53 rfl rfl ?_
      refine r_bd (fun q3069 e3070 => ?_)
      refine r_cV0 (pc := 54) (k := 242) (As := [.int (zi a1), .int (zi a2)]) (st := []) C (m_X8_countFartherUp (a1 := a1) (a2 := a2) ha1 ha2 e3070) cal_X8_countFartherUp cl_X8 kd_242 ln_242 q_1307 dX8_find_54 rfl rfl (Nat.le_of_ble_eq_true rfl) (Nat.le_of_ble_eq_true rfl) (Nat.le_of_ble_eq_true rfl) (Nat.le_of_ble_eq_true rfl) (Nat.le_of_ble_eq_true rfl) (fun h3068 => ?_)
      refine r_iconst (v := 1) C dX8_find_57 (by decide) ?_
      exact r_ireturn C hQ (nar_z (BRd rfl)) dX8_find_58 (fun e => by cases e; exact ⟨(BRd rfl), rfl, rfl, rfl, rfl, rfl⟩)
    · refine r_if_eq (tgt := 40) C h3048.ir dX8_find_29 (by decide) (fun c3071 => ?_) (fun c3071 => ?_)
      · exact k3060 (Or.inl c3071)
      · refine r_aload_n (pc := 32) (j := 1) C dX8_find_32 rfl rfl ?_
        refine r_iload_n (pc := 33) (j := 2) C dX8_find_33 rfl rfl ?_
        refine r_cV1 (pc := 34) (k := 242) (As := [.int (zi a1)]) (st := []) C (m_X8_isSwept (a1 := a1) ha1 rfl) cal_X8_isSwept cl_X8 kd_242 ln_242 q_1297 dX8_find_34 rfl rfl (Nat.le_of_ble_eq_true rfl) (Nat.le_of_ble_eq_true rfl) (Nat.le_of_ble_eq_true rfl) (Nat.le_of_ble_eq_true rfl) (Nat.le_of_ble_eq_true rfl) (fun h3058 => ?_)
        refine r_if_ne (tgt := 42) C h3058.ir dX8_find_37 (by decide) (fun c3072 => ?_) (fun c3072 => ?_)
        · exact k3061 (fun w => w.elim c3071 c3072)
        · exact k3060 (Or.inr c3072)
  · refine r_cut (((a1 < 0 ∨ 60 < a1) ∨ a2 < (-9)) ∨ 99 < a2) 26 22 [] (fun c3051 => ?_) (fun c3051 => ?_) (fun k3052 k3053 => ?_)
    · refine r_jt c3051 ?_
      refine r_iconst (v := 0) C dX8_find_26 (by decide) ?_
      exact k3050 0 (BRd rfl)
    · refine r_jf c3051 ?_
      refine r_iconst (v := 1) C dX8_find_22 (by decide) ?_
      refine r_goto (tgt := 27) C dX8_find_23 (by decide) ?_
      exact k3050 1 (BRd rfl)
    · refine r_if_lt (tgt := 26) C ha1 dX8_find_1 (by decide) (fun c3054 => ?_) (fun c3054 => ?_)
      · exact k3052 (Or.inl (Or.inl (Or.inl c3054)))
      · refine r_iload_n (pc := 4) (j := 1) C dX8_find_4 rfl rfl ?_
        refine r_bipush (v := 60) C dX8_find_5 (by decide) ?_
        refine r_icmp_gt (tgt := 26) C ha1 (IRd rfl) dX8_find_7 (by decide) (fun c3055 => ?_) (fun c3055 => ?_)
        · exact k3052 (Or.inl (Or.inl (Or.inr c3055)))
        · refine r_iload_n (pc := 10) (j := 2) C dX8_find_10 rfl rfl ?_
          refine r_bipush (v := (-9)) C dX8_find_11 (by decide) ?_
          refine r_icmp_lt (tgt := 26) C ha2 (IRd rfl) dX8_find_13 (by decide) (fun c3056 => ?_) (fun c3056 => ?_)
          · exact k3052 (Or.inl (Or.inr c3056))
          · refine r_iload_n (pc := 16) (j := 2) C dX8_find_16 rfl rfl ?_
            refine r_bipush (v := 99) C dX8_find_17 (by decide) ?_
            refine r_icmp_gt (tgt := 26) C ha2 (IRd rfl) dX8_find_19 (by decide) (fun c3057 => ?_) (fun c3057 => ?_)
            · exact k3052 (Or.inr c3057)
            · exact k3053 (fun w => w.elim (fun w => w.elim (fun w => w.elim c3054 c3055) c3056) c3057)

def f_X8_foundBelow (S : Sst) : Int :=
  f_X6_at 60 (wr ((wr ((f_X6_size 60 S) - (S.2 242 1))) - 1)) S
set_option maxRecDepth 100000 in
set_option maxHeartbeats 4000000 in
theorem m_X8_foundBelow {l : Launch} {E : EwT} {S : Sst} {O : Smo}  {q : Int} (hq : f_X8_foundBelow S = q) : MetG l E yX8_foundBelow cX8_foundBelow 1 (some .int) 1 21 0 0 n0 R0 S O [.ref (zad E 242)] (IR q) (some (.int (zi q))) n0 R0 S O := by
  refine ofG (L0 := [(0, .ref (zad E 242))]) hq (by decide +kernel) (Nat.le_of_ble_eq_true rfl) rfl (fun K _ C hQ => ?_)
  unfold f_X8_foundBelow
  refine r_aload_n (pc := 0) (j := 0) C dX8_foundBelow_0 rfl rfl ?_
  refine r_getR (j := 6) (r := 59) C cl_X8 kd_242 ln_242 (by decide) rfl r0_242_6 (by decide) q_625 dX8_foundBelow_1 ?_
  refine r_getR (j := 0) (r := 60) C cl_X10 kd_59 ln_59 (by decide) rfl r0_59_0 (by decide) q_432 dX8_foundBelow_4 ?_
  refine r_aload_n (pc := 7) (j := 0) C dX8_foundBelow_7 rfl rfl ?_
  refine r_getR (j := 6) (r := 59) C cl_X8 kd_242 ln_242 (by decide) rfl r0_242_6 (by decide) q_625 dX8_foundBelow_8 ?_
  refine r_getR (j := 0) (r := 60) C cl_X10 kd_59 ln_59 (by decide) rfl r0_59_0 (by decide) q_432 dX8_foundBelow_11 ?_
  refine r_cV1 (pc := 14) (k := 60) (As := []) (st := [.ref (zad E 60)]) C (m_X6_size (p := 60) gw_60 rfl) cal_X6_size cl_X6 kd_60 ln_60 q_1311 dX8_foundBelow_14 rfl rfl (Nat.le_of_ble_eq_true rfl) (Nat.le_of_ble_eq_true rfl) (Nat.le_of_ble_eq_true rfl) (Nat.le_of_ble_eq_true rfl) (Nat.le_of_ble_eq_true rfl) (fun h3073 => ?_)
  refine r_aload_n (pc := 17) (j := 0) C dX8_foundBelow_17 rfl rfl ?_
  refine r_getS (j := 1) C cl_X8 kd_242 ln_242 lc_242 (by decide) (by decide) rfl q_616 dX8_foundBelow_18 (fun h3074 => ?_)
  refine r_isub C dX8_foundBelow_21 ?_
  refine r_iconst (v := 1) C dX8_foundBelow_22 (by decide) ?_
  refine r_isub C dX8_foundBelow_23 ?_
  refine r_cV1 (pc := 24) (k := 60) (As := [.int (zi (wr ((wr ((f_X6_size 60 S) - (S.2 242 1))) - 1)))]) (st := []) C (m_X6_at (p := 60) (a1 := wr ((wr ((f_X6_size 60 S) - (S.2 242 1))) - 1)) gw_60 (IR_wr _) rfl) cal_X6_at cl_X6 kd_60 ln_60 q_1069 dX8_foundBelow_24 rfl rfl (Nat.le_of_ble_eq_true rfl) (Nat.le_of_ble_eq_true rfl) (Nat.le_of_ble_eq_true rfl) (Nat.le_of_ble_eq_true rfl) (Nat.le_of_ble_eq_true rfl) (fun h3075 => ?_)
  exact r_ireturn C hQ rfl dX8_foundBelow_27 (fun e => by subst e; exact ⟨h3075, rfl, rfl, rfl, rfl, rfl⟩)

def f_X8_foundAbove (S : Sst) : Int :=
  f_X6_at 60 (wr ((f_X6_size 60 S) - (S.2 242 1))) S
set_option maxRecDepth 100000 in
set_option maxHeartbeats 4000000 in
theorem m_X8_foundAbove {l : Launch} {E : EwT} {S : Sst} {O : Smo}  {q : Int} (hq : f_X8_foundAbove S = q) : MetG l E yX8_foundAbove cX8_foundAbove 1 (some .int) 1 21 0 0 n0 R0 S O [.ref (zad E 242)] (IR q) (some (.int (zi q))) n0 R0 S O := by
  refine ofG (L0 := [(0, .ref (zad E 242))]) hq (by decide +kernel) (Nat.le_of_ble_eq_true rfl) rfl (fun K _ C hQ => ?_)
  unfold f_X8_foundAbove
  refine r_aload_n (pc := 0) (j := 0) C dX8_foundAbove_0 rfl rfl ?_
  refine r_getR (j := 6) (r := 59) C cl_X8 kd_242 ln_242 (by decide) rfl r0_242_6 (by decide) q_625 dX8_foundAbove_1 ?_
  refine r_getR (j := 0) (r := 60) C cl_X10 kd_59 ln_59 (by decide) rfl r0_59_0 (by decide) q_432 dX8_foundAbove_4 ?_
  refine r_aload_n (pc := 7) (j := 0) C dX8_foundAbove_7 rfl rfl ?_
  refine r_getR (j := 6) (r := 59) C cl_X8 kd_242 ln_242 (by decide) rfl r0_242_6 (by decide) q_625 dX8_foundAbove_8 ?_
  refine r_getR (j := 0) (r := 60) C cl_X10 kd_59 ln_59 (by decide) rfl r0_59_0 (by decide) q_432 dX8_foundAbove_11 ?_
  refine r_cV1 (pc := 14) (k := 60) (As := []) (st := [.ref (zad E 60)]) C (m_X6_size (p := 60) gw_60 rfl) cal_X6_size cl_X6 kd_60 ln_60 q_1311 dX8_foundAbove_14 rfl rfl (Nat.le_of_ble_eq_true rfl) (Nat.le_of_ble_eq_true rfl) (Nat.le_of_ble_eq_true rfl) (Nat.le_of_ble_eq_true rfl) (Nat.le_of_ble_eq_true rfl) (fun h3081 => ?_)
  refine r_aload_n (pc := 17) (j := 0) C dX8_foundAbove_17 rfl rfl ?_
  refine r_getS (j := 1) C cl_X8 kd_242 ln_242 lc_242 (by decide) (by decide) rfl q_616 dX8_foundAbove_18 (fun h3082 => ?_)
  refine r_isub C dX8_foundAbove_21 ?_
  refine r_cV1 (pc := 22) (k := 60) (As := [.int (zi (wr ((f_X6_size 60 S) - (S.2 242 1))))]) (st := []) C (m_X6_at (p := 60) (a1 := wr ((f_X6_size 60 S) - (S.2 242 1))) gw_60 (IR_wr _) rfl) cal_X6_at cl_X6 kd_60 ln_60 q_1069 dX8_foundAbove_22 rfl rfl (Nat.le_of_ble_eq_true rfl) (Nat.le_of_ble_eq_true rfl) (Nat.le_of_ble_eq_true rfl) (Nat.le_of_ble_eq_true rfl) (Nat.le_of_ble_eq_true rfl) (fun h3083 => ?_)
  exact r_ireturn C hQ rfl dX8_foundAbove_25 (fun e => by subst e; exact ⟨h3083, rfl, rfl, rfl, rfl, rfl⟩)

def f_X8_neighbours (a1 : Int) (a2 : Int) (S : Sst) : Option (Int × Sst) :=
  Option.bind (lp (fun (s3819 : Int × Int × Sst) =>
    if f_X7_newest 74 s3819.2.2 < s3819.2.1 then
      (some (Sum.inr (s3819.1, s3819.2.2)))
    else
      (Option.bind (f_X8_show s3819.2.1 s3819.2.2) fun (q3828 : Sst) =>
      Option.bind (lp (fun (s3830 : Int × Int) =>
        if s3830.2 < f_X6_size 60 q3828 then
          (jn (f_X6_at 60 (wr (s3830.2 + a2)) q3828) fun (v3839 : Int) =>
          jn (
            if (f_X6_at 60 s3830.2 q3828 = a1 ∧ ¬ v3839 = (-1)) then
              (jn (zor s3830.1 (zshl 1 v3839)) fun (v3849 : Int) =>
              v3849)
            else
              (s3830.1)) fun (q3842 : Int) =>
          some (Sum.inl (q3842, wr (s3830.2 + 1))))
        else
          (some (Sum.inr s3830.1))) FU (s3819.1, 0)) fun (r3853 : Int) =>
      some (Sum.inl (r3853, wr (s3819.2.1 + 1), q3828)))) FU (0, 0, S)) fun (r3855 : Int × Sst) =>
  some (r3855.1, r3855.2)
set_option maxRecDepth 100000 in
set_option maxHeartbeats 4000000 in
theorem m_X8_neighbours {l : Launch} {E : EwT} {S : Sst} {O : Smo} {a1 : Int} (ha1 : IR a1) {a2 : Int} (ha2 : IR a2) {q : Int × Sst} (hq : f_X8_neighbours a1 a2 S = some q) : MetG l E yX8_neighbours cX8_neighbours 7 (some .int) 5 111 0 0 n0 R0 S O [.ref (zad E 242), .int (zi a1), .int (zi a2)] (IR q.1) (some (.int (zi q.1))) n0 R0 q.2 O := by
  refine ofG (L0 := [(0, .ref (zad E 242)), (1, .int (zi a1)), (2, .int (zi a2))]) hq (by decide +kernel) (Nat.le_of_ble_eq_true rfl) rfl (fun K _ C hQ => ?_)
  unfold f_X8_neighbours
  refine r_iconst (v := 0) C dX8_neighbours_0 (by decide) ?_
  refine r_istore_n (L' := [(3, .int (zi 0)), (0, .ref (zad E 242)), (1, .int (zi a1)), (2, .int (zi a2))]) C dX8_neighbours_1 rfl (by decide) rfl ?_
  refine r_iconst (v := 0) C dX8_neighbours_2 (by decide) ?_
  refine r_istore (L' := [(4, .int (zi 0)), (3, .int (zi 0)), (0, .ref (zad E 242)), (1, .int (zi a1)), (2, .int (zi a2))]) C dX8_neighbours_3 (by decide) rfl ?_
  refine r_L (L' := [(0, .ref (zad E 242)), (1, .int (zi a1)), (2, .int (zi a2)), (3, .int (zi 0)), (4, .int (zi 0))]) [2, 3, 4, 1, 0] rfl ?_
  refine r_loop1 (fun s3819 : Int × Int × Sst => IR s3819.1 ∧ IR s3819.2.1) (fun s3819 => s3819.2.2) (fun s3819 => O) (fun s3819 => [(0, .ref (zad E 242)), (1, .int (zi a1)), (2, .int (zi a2)), (3, .int (zi s3819.1)), (4, .int (zi s3819.2.1))]) [] (fun r3855 : Int × Sst => IR r3855.1) (fun r3855 => r3855.2) (fun r3855 => O) (fun r3855 => [(3, .int (zi r3855.1))]) 98 (fun r3855 h3856 => ?_) (fun k3821 k3823 k3822 k3824 s3819 h3820 => ?_) ⟨(IRd rfl), (IRd rfl)⟩
  · refine r_iload_n (pc := 98) (j := 0) C dX8_neighbours_98 rfl rfl ?_
    exact r_ireturn C hQ rfl dX8_neighbours_99 (fun e => by cases e; exact ⟨h3856, rfl, rfl, rfl, rfl, rfl⟩)
  · refine r_iload (pc := 5) (j := 4) C dX8_neighbours_5 rfl ?_
    refine r_aload_n (pc := 7) (j := 0) C dX8_neighbours_7 rfl rfl ?_
    refine r_getR (j := 7) (r := 74) C cl_X8 kd_242 ln_242 (by decide) rfl r0_242_7 (by decide) q_626 dX8_neighbours_8 ?_
    refine r_cV1 (pc := 11) (k := 74) (As := []) (st := [.int (zi s3819.2.1)]) C (m_X7_newest (p := 74) gs_74 rfl) cal_X7_newest cl_X7 kd_74 ln_74 q_1068 dX8_neighbours_11 rfl rfl (Nat.le_of_ble_eq_true rfl) (Nat.le_of_ble_eq_true rfl) (Nat.le_of_ble_eq_true rfl) (Nat.le_of_ble_eq_true rfl) (Nat.le_of_ble_eq_true rfl) (fun h3825 => ?_)
    refine r_icmp_gt (tgt := 98) C h3820.2 h3825 dX8_neighbours_14 (by decide) (fun c3826 => ?_) (fun c3826 => ?_)
    · refine r_bt c3826 ?_
      refine r_L (L' := [(3, .int (zi s3819.1))]) [3] rfl ?_
      exact k3824 (s3819.1, s3819.2.2) h3820.1
    · refine r_bf c3826 ?_
      refine r_aload_n (pc := 17) (j := 0) C dX8_neighbours_17 rfl rfl ?_
      refine r_iload (pc := 18) (j := 4) C dX8_neighbours_18 rfl ?_
      refine r_bb ?_
      refine r_bd (fun q3828 e3829 => ?_)
      refine r_cV0 (pc := 20) (k := 242) (As := [.int (zi s3819.2.1)]) (st := []) C (m_X8_show (a1 := s3819.2.1) h3820.2 e3829) cal_X8_show cl_X8 kd_242 ln_242 q_1306 dX8_neighbours_20 rfl rfl (Nat.le_of_ble_eq_true rfl) (Nat.le_of_ble_eq_true rfl) (Nat.le_of_ble_eq_true rfl) (Nat.le_of_ble_eq_true rfl) (Nat.le_of_ble_eq_true rfl) (fun h3827 => ?_)
      refine r_iconst (v := 0) C dX8_neighbours_23 (by decide) ?_
      refine r_istore (L' := [(5, .int (zi 0)), (0, .ref (zad E 242)), (1, .int (zi a1)), (2, .int (zi a2)), (3, .int (zi s3819.1)), (4, .int (zi s3819.2.1))]) C dX8_neighbours_24 (by decide) rfl ?_
      refine r_L (L' := [(0, .ref (zad E 242)), (1, .int (zi a1)), (2, .int (zi a2)), (3, .int (zi s3819.1)), (4, .int (zi s3819.2.1)), (5, .int (zi 0))]) [1, 2, 3, 4, 5, 0] rfl ?_
      refine r_bb ?_
      refine r_loop1 (fun s3830 : Int × Int => IR s3830.1 ∧ IR s3830.2) (fun s3830 => q3828) (fun s3830 => O) (fun s3830 => [(0, .ref (zad E 242)), (1, .int (zi a1)), (2, .int (zi a2)), (3, .int (zi s3830.1)), (4, .int (zi s3819.2.1)), (5, .int (zi s3830.2))]) [] (fun r3853 : Int => IR r3853) (fun r3853 => q3828) (fun r3853 => O) (fun r3853 => [(0, .ref (zad E 242)), (1, .int (zi a1)), (2, .int (zi a2)), (3, .int (zi r3853)), (4, .int (zi s3819.2.1))]) 92 (fun r3853 h3854 => ?_) (fun k3832 k3834 k3833 k3835 s3830 h3831 => ?_) ⟨h3820.1, (IRd rfl)⟩
      · refine r_iinc (j := 4) (L' := [(4, .int (zi (wr (s3819.2.1 + 1)))), (0, .ref (zad E 242)), (1, .int (zi a1)), (2, .int (zi a2)), (3, .int (zi r3853))]) C dX8_neighbours_92 rfl (by decide) rfl ?_
        refine r_goto (tgt := 5) C dX8_neighbours_95 (by decide) ?_
        refine r_L (L' := [(0, .ref (zad E 242)), (1, .int (zi a1)), (2, .int (zi a2)), (3, .int (zi r3853)), (4, .int (zi (wr (s3819.2.1 + 1))))]) [1, 2, 3, 4, 0] rfl ?_
        exact k3822 (r3853, wr (s3819.2.1 + 1), q3828) ⟨h3854, (IR_wr _)⟩
      · refine r_iload (pc := 26) (j := 5) C dX8_neighbours_26 rfl ?_
        refine r_aload_n (pc := 28) (j := 0) C dX8_neighbours_28 rfl rfl ?_
        refine r_getR (j := 6) (r := 59) C cl_X8 kd_242 ln_242 (by decide) rfl r0_242_6 (by decide) q_625 dX8_neighbours_29 ?_
        refine r_getR (j := 0) (r := 60) C cl_X10 kd_59 ln_59 (by decide) rfl r0_59_0 (by decide) q_432 dX8_neighbours_32 ?_
        refine r_cV1 (pc := 35) (k := 60) (As := []) (st := [.int (zi s3830.2)]) C (m_X6_size (p := 60) gw_60 rfl) cal_X6_size cl_X6 kd_60 ln_60 q_1311 dX8_neighbours_35 rfl rfl (Nat.le_of_ble_eq_true rfl) (Nat.le_of_ble_eq_true rfl) (Nat.le_of_ble_eq_true rfl) (Nat.le_of_ble_eq_true rfl) (Nat.le_of_ble_eq_true rfl) (fun h3836 => ?_)
        refine r_icmp_ge (tgt := 92) C h3831.2 h3836 dX8_neighbours_38 (by decide) (fun c3837 => ?_) (fun c3837 => ?_)
        · refine r_bf c3837 ?_
          refine r_L (L' := [(0, .ref (zad E 242)), (1, .int (zi a1)), (2, .int (zi a2)), (3, .int (zi s3830.1)), (4, .int (zi s3819.2.1))]) [0, 1, 2, 3, 4] rfl ?_
          exact k3835 s3830.1 h3831.1
        · refine r_bt c3837 ?_
          refine r_aload_n (pc := 41) (j := 0) C dX8_neighbours_41 rfl rfl ?_
          refine r_getR (j := 6) (r := 59) C cl_X8 kd_242 ln_242 (by decide) rfl r0_242_6 (by decide) q_625 dX8_neighbours_42 ?_
          refine r_getR (j := 0) (r := 60) C cl_X10 kd_59 ln_59 (by decide) rfl r0_59_0 (by decide) q_432 dX8_neighbours_45 ?_
          refine r_iload (pc := 48) (j := 5) C dX8_neighbours_48 rfl ?_
          refine r_iload_n (pc := 50) (j := 2) C dX8_neighbours_50 rfl rfl ?_
          refine r_iadd C dX8_neighbours_51 ?_
          refine r_cV1 (pc := 52) (k := 60) (As := [.int (zi (wr (s3830.2 + a2)))]) (st := []) C (m_X6_at (p := 60) (a1 := wr (s3830.2 + a2)) gw_60 (IR_wr _) rfl) cal_X6_at cl_X6 kd_60 ln_60 q_1069 dX8_neighbours_52 rfl rfl (Nat.le_of_ble_eq_true rfl) (Nat.le_of_ble_eq_true rfl) (Nat.le_of_ble_eq_true rfl) (Nat.le_of_ble_eq_true rfl) (Nat.le_of_ble_eq_true rfl) (fun h3838 => ?_)
          refine r_bj ?_
          refine r_jv h3838 (fun v3839 h3840 => ?_)
          refine r_istore (L' := [(6, .int (zi v3839)), (0, .ref (zad E 242)), (1, .int (zi a1)), (2, .int (zi a2)), (3, .int (zi s3830.1)), (4, .int (zi s3819.2.1)), (5, .int (zi s3830.2))]) C dX8_neighbours_55 (by decide) rfl ?_
          refine r_aload_n (pc := 57) (j := 1) C dX8_neighbours_57 rfl rfl ?_
          refine r_getR (j := 6) (r := 59) C cl_X8 kd_242 ln_242 (by decide) rfl r0_242_6 (by decide) q_625 dX8_neighbours_58 ?_
          refine r_getR (j := 0) (r := 60) C cl_X10 kd_59 ln_59 (by decide) rfl r0_59_0 (by decide) q_432 dX8_neighbours_61 ?_
          refine r_iload (pc := 64) (j := 6) C dX8_neighbours_64 rfl ?_
          refine r_cV1 (pc := 66) (k := 60) (As := [.int (zi s3830.2)]) (st := []) C (m_X6_at (p := 60) (a1 := s3830.2) gw_60 h3831.2 rfl) cal_X6_at cl_X6 kd_60 ln_60 q_1069 dX8_neighbours_66 rfl rfl (Nat.le_of_ble_eq_true rfl) (Nat.le_of_ble_eq_true rfl) (Nat.le_of_ble_eq_true rfl) (Nat.le_of_ble_eq_true rfl) (Nat.le_of_ble_eq_true rfl) (fun h3841 => ?_)
          refine r_iload_n (pc := 69) (j := 2) C dX8_neighbours_69 rfl rfl ?_
          refine r_bj ?_
          refine r_join (fun q3842 : Int => IR q3842) (fun q3842 => q3828) (fun q3842 => O) (fun q3842 => [(0, .ref (zad E 242)), (1, .int (zi a1)), (2, .int (zi a2)), (3, .int (zi q3842)), (4, .int (zi s3819.2.1)), (5, .int (zi s3830.2))]) 86 (fun q3842 => []) (fun q3842 h3843 => ?_) (fun k3844 k3845 => ?_)
          · refine r_iinc (j := 5) (L' := [(5, .int (zi (wr (s3830.2 + 1)))), (0, .ref (zad E 242)), (1, .int (zi a1)), (2, .int (zi a2)), (3, .int (zi q3842)), (4, .int (zi s3819.2.1))]) C dX8_neighbours_86 rfl (by decide) rfl ?_
            refine r_goto (tgt := 26) C dX8_neighbours_89 (by decide) ?_
            refine r_L (L' := [(0, .ref (zad E 242)), (1, .int (zi a1)), (2, .int (zi a2)), (3, .int (zi q3842)), (4, .int (zi s3819.2.1)), (5, .int (zi (wr (s3830.2 + 1))))]) [1, 2, 3, 4, 5, 0] rfl ?_
            exact k3833 (q3842, wr (s3830.2 + 1)) ⟨h3843, (IR_wr _)⟩
          · refine r_cut (f_X6_at 60 s3830.2 q3828 = a1 ∧ ¬ v3839 = (-1)) 79 86 [] (fun c3846 => ?_) (fun c3846 => ?_) (fun k3847 k3848 => ?_)
            · refine r_jt c3846 ?_
              refine r_iload_n (pc := 79) (j := 4) C dX8_neighbours_79 rfl rfl ?_
              refine r_iconst (v := 1) C dX8_neighbours_80 (by decide) ?_
              refine r_iload (pc := 81) (j := 0) C dX8_neighbours_81 rfl ?_
              refine r_ishl C dX8_neighbours_83 ?_
              refine r_ior C dX8_neighbours_84 ?_
              refine r_jj ?_
              refine r_jv (i32_IR _) (fun v3849 h3850 => ?_)
              refine r_istore_n (L' := [(3, .int (zi v3849)), (6, .int (zi v3839)), (0, .ref (zad E 242)), (1, .int (zi a1)), (2, .int (zi a2)), (4, .int (zi s3819.2.1)), (5, .int (zi s3830.2))]) C dX8_neighbours_85 rfl (by decide) rfl ?_
              refine r_L (L' := [(0, .ref (zad E 242)), (1, .int (zi a1)), (2, .int (zi a2)), (3, .int (zi v3849)), (4, .int (zi s3819.2.1)), (5, .int (zi s3830.2))]) [2, 3, 4, 0, 5, 6] rfl ?_
              exact k3845 v3849 h3850
            · refine r_jf c3846 ?_
              refine r_L (L' := [(0, .ref (zad E 242)), (1, .int (zi a1)), (2, .int (zi a2)), (3, .int (zi s3830.1)), (4, .int (zi s3819.2.1)), (5, .int (zi s3830.2))]) [1, 2, 3, 4, 5, 6] rfl ?_
              exact k3845 s3830.1 h3831.1
            · refine r_icmp_ne (tgt := 86) C h3841 ha1 dX8_neighbours_70 (by decide) (fun c3851 => ?_) (fun c3851 => ?_)
              · exact k3848 (fun w => c3851 w.1)
              · refine r_iload (pc := 73) (j := 0) C dX8_neighbours_73 rfl ?_
                refine r_iconst (v := (-1)) C dX8_neighbours_75 (by decide) ?_
                refine r_icmp_eq (tgt := 86) C h3840 (IRd rfl) dX8_neighbours_76 (by decide) (fun c3852 => ?_) (fun c3852 => ?_)
                · exact k3848 (fun w => w.2 c3852)
                · exact k3847 ⟨c3851, c3852⟩

def f_X8_aboveOf (a1 : Int) (S : Sst) : Option (Int) :=
  Option.bind (lp (fun (s3884 : Int) =>
    if s3884 < f_X6_size 60 S then
      (if f_X6_at 60 s3884 S = a1 then
        (some (Sum.inr (Sum.inl s3884)))
      else
        (some (Sum.inl (wr (s3884 + 1)))))
    else
      (some (Sum.inr (Sum.inr ())))) FU 0) fun z3901 => Sum.elim (fun (r3896 : Int) =>
    some (f_X6_at 60 (wr (r3896 + 1)) S)) (fun (r3898 : Unit) =>
    some (-2)) z3901
set_option maxRecDepth 100000 in
set_option maxHeartbeats 4000000 in
theorem m_X8_aboveOf {l : Launch} {E : EwT} {S : Sst} {O : Smo} {a1 : Int} (ha1 : IR a1) {q : Int} (hq : f_X8_aboveOf a1 S = some q) : MetG l E yX8_aboveOf cX8_aboveOf 3 (some .int) 1 21 0 0 n0 R0 S O [.ref (zad E 242), .int (zi a1)] (IR q) (some (.int (zi q))) n0 R0 S O := by
  refine ofG (L0 := [(0, .ref (zad E 242)), (1, .int (zi a1))]) hq (by decide +kernel) (Nat.le_of_ble_eq_true rfl) rfl (fun K _ C hQ => ?_)
  unfold f_X8_aboveOf
  refine r_iconst (v := 0) C dX8_aboveOf_0 (by decide) ?_
  refine r_istore_n (L' := [(2, .int (zi 0)), (0, .ref (zad E 242)), (1, .int (zi a1))]) C dX8_aboveOf_1 rfl (by decide) rfl ?_
  refine r_L (L' := [(0, .ref (zad E 242)), (1, .int (zi a1)), (2, .int (zi 0))]) [1, 2, 0] rfl ?_
  refine r_loop2 (fun s3884 : Int => IR s3884) (fun s3884 => S) (fun s3884 => O) (fun s3884 => [(0, .ref (zad E 242)), (1, .int (zi a1)), (2, .int (zi s3884))]) [] (fun r3896 : Int => IR r3896) (fun r3896 => S) (fun r3896 => O) (fun r3896 => [(0, .ref (zad E 242)), (2, .int (zi r3896))]) 31 (fun r3896 h3897 => ?_) (fun r3898 : Unit => True) (fun r3898 => S) (fun r3898 => O) (fun r3898 => []) 51 (fun r3898 h3899 => ?_) (fun k3886 k3888 k3890 k3887 k3889 k3891 s3884 h3885 => ?_) (IRd rfl)
  · refine r_aload_n (pc := 31) (j := 0) C dX8_aboveOf_31 rfl rfl ?_
    refine r_getR (j := 6) (r := 59) C cl_X8 kd_242 ln_242 (by decide) rfl r0_242_6 (by decide) q_625 dX8_aboveOf_32 ?_
    refine r_getR (j := 0) (r := 60) C cl_X10 kd_59 ln_59 (by decide) rfl r0_59_0 (by decide) q_432 dX8_aboveOf_35 ?_
    refine r_iload_n (pc := 38) (j := 1) C dX8_aboveOf_38 rfl rfl ?_
    refine r_iconst (v := 1) C dX8_aboveOf_39 (by decide) ?_
    refine r_iadd C dX8_aboveOf_40 ?_
    refine r_cV1 (pc := 41) (k := 60) (As := [.int (zi (wr (r3896 + 1)))]) (st := []) C (m_X6_at (p := 60) (a1 := wr (r3896 + 1)) gw_60 (IR_wr _) rfl) cal_X6_at cl_X6 kd_60 ln_60 q_1069 dX8_aboveOf_41 rfl rfl (Nat.le_of_ble_eq_true rfl) (Nat.le_of_ble_eq_true rfl) (Nat.le_of_ble_eq_true rfl) (Nat.le_of_ble_eq_true rfl) (Nat.le_of_ble_eq_true rfl) (fun h3900 => ?_)
    exact r_ireturn C hQ rfl dX8_aboveOf_44 (fun e => by cases e; exact ⟨h3900, rfl, rfl, rfl, rfl, rfl⟩)
  · refine r_bipush (v := (-2)) C dX8_aboveOf_51 (by decide) ?_
    exact r_ireturn C hQ rfl dX8_aboveOf_53 (fun e => by cases e; exact ⟨(IRd rfl), rfl, rfl, rfl, rfl, rfl⟩)
  · refine r_iload_n (pc := 2) (j := 2) C dX8_aboveOf_2 rfl rfl ?_
    refine r_aload_n (pc := 3) (j := 0) C dX8_aboveOf_3 rfl rfl ?_
    refine r_getR (j := 6) (r := 59) C cl_X8 kd_242 ln_242 (by decide) rfl r0_242_6 (by decide) q_625 dX8_aboveOf_4 ?_
    refine r_getR (j := 0) (r := 60) C cl_X10 kd_59 ln_59 (by decide) rfl r0_59_0 (by decide) q_432 dX8_aboveOf_7 ?_
    refine r_cV1 (pc := 10) (k := 60) (As := []) (st := [.int (zi s3884)]) C (m_X6_size (p := 60) gw_60 rfl) cal_X6_size cl_X6 kd_60 ln_60 q_1311 dX8_aboveOf_10 rfl rfl (Nat.le_of_ble_eq_true rfl) (Nat.le_of_ble_eq_true rfl) (Nat.le_of_ble_eq_true rfl) (Nat.le_of_ble_eq_true rfl) (Nat.le_of_ble_eq_true rfl) (fun h3892 => ?_)
    refine r_icmp_ge (tgt := 51) C h3885 h3892 dX8_aboveOf_13 (by decide) (fun c3893 => ?_) (fun c3893 => ?_)
    · refine r_bf c3893 ?_
      refine r_L (L' := []) [] rfl ?_
      exact k3891 () trivial
    · refine r_bt c3893 ?_
      refine r_aload_n (pc := 16) (j := 0) C dX8_aboveOf_16 rfl rfl ?_
      refine r_getR (j := 6) (r := 59) C cl_X8 kd_242 ln_242 (by decide) rfl r0_242_6 (by decide) q_625 dX8_aboveOf_17 ?_
      refine r_getR (j := 0) (r := 60) C cl_X10 kd_59 ln_59 (by decide) rfl r0_59_0 (by decide) q_432 dX8_aboveOf_20 ?_
      refine r_iload_n (pc := 23) (j := 2) C dX8_aboveOf_23 rfl rfl ?_
      refine r_cV1 (pc := 24) (k := 60) (As := [.int (zi s3884)]) (st := []) C (m_X6_at (p := 60) (a1 := s3884) gw_60 h3885 rfl) cal_X6_at cl_X6 kd_60 ln_60 q_1069 dX8_aboveOf_24 rfl rfl (Nat.le_of_ble_eq_true rfl) (Nat.le_of_ble_eq_true rfl) (Nat.le_of_ble_eq_true rfl) (Nat.le_of_ble_eq_true rfl) (Nat.le_of_ble_eq_true rfl) (fun h3894 => ?_)
      refine r_iload_n (pc := 27) (j := 1) C dX8_aboveOf_27 rfl rfl ?_
      refine r_icmp_ne (tgt := 45) C h3894 ha1 dX8_aboveOf_28 (by decide) (fun c3895 => ?_) (fun c3895 => ?_)
      · refine r_bf c3895 ?_
        refine r_iinc (j := 2) (L' := [(2, .int (zi (wr (s3884 + 1)))), (0, .ref (zad E 242)), (1, .int (zi a1))]) C dX8_aboveOf_45 rfl (by decide) rfl ?_
        refine r_goto (tgt := 2) C dX8_aboveOf_48 (by decide) ?_
        refine r_L (L' := [(0, .ref (zad E 242)), (1, .int (zi a1)), (2, .int (zi (wr (s3884 + 1))))]) [1, 2, 0] rfl ?_
        exact k3887 (wr (s3884 + 1)) (IR_wr _)
      · refine r_bt c3895 ?_
        refine r_L (L' := [(0, .ref (zad E 242)), (2, .int (zi s3884))]) [0, 2] rfl ?_
        exact k3889 s3884 h3885

def f_X8_endStretch (a1 : Int) (a2 : Int) (a3 : Int) (S : Sst) : Int × Sst :=
  jn (f_X6_at 245 a1 S) fun (v3903 : Int) =>
  if v3903 = a2 then
    ((0, S))
  else
    (jn (
      if (v3903 = (-2) ∨ ¬ f_X6_at 247 a1 S < a3) then
        (0)
      else
        (1)) fun (q3907 : Int) =>
    jn (f_X6_put 245 a1 a2 S) fun (q3917 : Sst) =>
    jn (f_X6_put 247 a1 a3 q3917) fun (q3920 : Sst) =>
    if q3907 = 0 then
      ((0, q3920))
    else
      ((1, q3920)))
set_option maxRecDepth 100000 in
set_option maxHeartbeats 4000000 in
theorem m_X8_endStretch {l : Launch} {E : EwT} {S : Sst} {O : Smo} {a1 : Int} (ha1 : IR a1) {a2 : Int} (ha2 : IR a2) {a3 : Int} (ha3 : IR a3) {q : Int × Sst} (hq : f_X8_endStretch a1 a2 a3 S = q) : MetG l E yX8_endStretch cX8_endStretch 6 (some .int) 1 22 0 0 n0 R0 S O [.ref (zad E 242), .int (zi a1), .int (zi a2), .int (zi a3)] (IR q.1) (some (.int (zi q.1))) n0 R0 q.2 O := by
  refine ofG (L0 := [(0, .ref (zad E 242)), (1, .int (zi a1)), (2, .int (zi a2)), (3, .int (zi a3))]) hq (by decide +kernel) (Nat.le_of_ble_eq_true rfl) rfl (fun K _ C hQ => ?_)
  unfold f_X8_endStretch
  refine r_aload_n (pc := 0) (j := 0) C dX8_endStretch_0 rfl rfl ?_
  refine r_getR (j := 8) (r := 245) C cl_X8 kd_242 ln_242 (by decide) rfl r0_242_8 (by decide) q_627 dX8_endStretch_1 ?_
  refine r_iload_n (pc := 4) (j := 1) C dX8_endStretch_4 rfl rfl ?_
  refine r_cV1 (pc := 5) (k := 245) (As := [.int (zi a1)]) (st := []) C (m_X6_at (p := 245) (a1 := a1) gw_245 ha1 rfl) cal_X6_at cl_X6 kd_245 ln_245 q_1069 dX8_endStretch_5 rfl rfl (Nat.le_of_ble_eq_true rfl) (Nat.le_of_ble_eq_true rfl) (Nat.le_of_ble_eq_true rfl) (Nat.le_of_ble_eq_true rfl) (Nat.le_of_ble_eq_true rfl) (fun h3902 => ?_)
  refine r_jv h3902 (fun v3903 h3904 => ?_)
  refine r_istore (L' := [(4, .int (zi v3903)), (0, .ref (zad E 242)), (1, .int (zi a1)), (2, .int (zi a2)), (3, .int (zi a3))]) C dX8_endStretch_8 (by decide) rfl ?_
  refine r_iload (pc := 10) (j := 0) C dX8_endStretch_10 rfl ?_
  refine r_iload_n (pc := 12) (j := 3) C dX8_endStretch_12 rfl rfl ?_
  refine r_icmp_ne (tgt := 18) C h3904 ha2 dX8_endStretch_13 (by decide) (fun c3905 => ?_) (fun c3905 => ?_)
  · refine r_f c3905 ?_
    refine r_iload (pc := 18) (j := 0) C dX8_endStretch_18 rfl ?_
    refine r_bipush (v := (-2)) C dX8_endStretch_20 (by decide) ?_
    refine r_join (fun q3907 : Int => BR q3907) (fun q3907 => S) (fun q3907 => O) (fun q3907 => [(0, .ref (zad E 242)), (1, .int (zi a1)), (2, .int (zi a2)), (3, .int (zi a3))]) 42 (fun q3907 => [.int (zi q3907)]) (fun q3907 h3908 => ?_) (fun k3909 k3910 => ?_)
    · refine r_istore (L' := [(5, .int (zi q3907)), (0, .ref (zad E 242)), (1, .int (zi a1)), (2, .int (zi a2)), (3, .int (zi a3))]) C dX8_endStretch_42 (by decide) rfl ?_
      refine r_aload_n (pc := 44) (j := 1) C dX8_endStretch_44 rfl rfl ?_
      refine r_getR (j := 8) (r := 245) C cl_X8 kd_242 ln_242 (by decide) rfl r0_242_8 (by decide) q_627 dX8_endStretch_45 ?_
      refine r_iload_n (pc := 48) (j := 2) C dX8_endStretch_48 rfl rfl ?_
      refine r_iload_n (pc := 49) (j := 3) C dX8_endStretch_49 rfl rfl ?_
      refine r_jn (fun q3917 e3918 => ?_)
      refine r_cV0 (pc := 50) (k := 245) (As := [.int (zi a1), .int (zi a2)]) (st := []) C (m_X6_put (p := 245) (a1 := a1) (a2 := a2) gw_245 ha1 ha2 e3918) cal_X6_put cl_X6 kd_245 ln_245 q_1437 dX8_endStretch_50 rfl rfl (Nat.le_of_ble_eq_true rfl) (Nat.le_of_ble_eq_true rfl) (Nat.le_of_ble_eq_true rfl) (Nat.le_of_ble_eq_true rfl) (Nat.le_of_ble_eq_true rfl) (fun h3916 => ?_)
      refine r_aload_n (pc := 53) (j := 1) C dX8_endStretch_53 rfl rfl ?_
      refine r_getR (j := 9) (r := 247) C cl_X8 kd_242 ln_242 (by decide) rfl r0_242_9 (by decide) q_628 dX8_endStretch_54 ?_
      refine r_iload_n (pc := 57) (j := 2) C dX8_endStretch_57 rfl rfl ?_
      refine r_iload_n (pc := 58) (j := 4) C dX8_endStretch_58 rfl rfl ?_
      refine r_jn (fun q3920 e3921 => ?_)
      refine r_cV0 (pc := 59) (k := 247) (As := [.int (zi a1), .int (zi a3)]) (st := []) C (m_X6_put (p := 247) (a1 := a1) (a2 := a3) gw_247 ha1 ha3 e3921) cal_X6_put cl_X6 kd_247 ln_247 q_1437 dX8_endStretch_59 rfl rfl (Nat.le_of_ble_eq_true rfl) (Nat.le_of_ble_eq_true rfl) (Nat.le_of_ble_eq_true rfl) (Nat.le_of_ble_eq_true rfl) (Nat.le_of_ble_eq_true rfl) (fun h3919 => ?_)
      refine r_iload (pc := 62) (j := 0) C dX8_endStretch_62 rfl ?_
      refine r_if_eq (tgt := 71) C h3908.ir dX8_endStretch_64 (by decide) (fun c3922 => ?_) (fun c3922 => ?_)
      · refine r_t c3922 ?_
        refine r_iconst (v := 0) C dX8_endStretch_71 (by decide) ?_
        exact r_ireturn C hQ rfl dX8_endStretch_72 (fun e => by subst e; exact ⟨(IRd rfl), rfl, rfl, rfl, rfl, rfl⟩)
      · refine r_f c3922 ?_
        refine r_iconst (v := 1) C dX8_endStretch_67 (by decide) ?_
        refine r_goto (tgt := 72) C dX8_endStretch_68 (by decide) ?_
        exact r_ireturn C hQ rfl dX8_endStretch_72 (fun e => by subst e; exact ⟨(IRd rfl), rfl, rfl, rfl, rfl, rfl⟩)
    · refine r_cut (v3903 = (-2) ∨ ¬ f_X6_at 247 a1 S < a3) 41 37 [] (fun c3911 => ?_) (fun c3911 => ?_) (fun k3912 k3913 => ?_)
      · refine r_jt c3911 ?_
        refine r_iconst (v := 0) C dX8_endStretch_41 (by decide) ?_
        refine r_L (L' := [(0, .ref (zad E 242)), (1, .int (zi a1)), (2, .int (zi a2)), (3, .int (zi a3))]) [1, 2, 3, 4] rfl ?_
        exact k3910 0 (BRd rfl)
      · refine r_jf c3911 ?_
        refine r_iconst (v := 1) C dX8_endStretch_37 (by decide) ?_
        refine r_goto (tgt := 42) C dX8_endStretch_38 (by decide) ?_
        refine r_L (L' := [(0, .ref (zad E 242)), (1, .int (zi a1)), (2, .int (zi a2)), (3, .int (zi a3))]) [1, 2, 3, 4] rfl ?_
        exact k3910 1 (BRd rfl)
      · refine r_icmp_eq (tgt := 41) C h3904 (IRd rfl) dX8_endStretch_22 (by decide) (fun c3914 => ?_) (fun c3914 => ?_)
        · exact k3912 (Or.inl c3914)
        · refine r_iload_n (pc := 25) (j := 4) C dX8_endStretch_25 rfl rfl ?_
          refine r_aload_n (pc := 26) (j := 1) C dX8_endStretch_26 rfl rfl ?_
          refine r_getR (j := 9) (r := 247) C cl_X8 kd_242 ln_242 (by decide) rfl r0_242_9 (by decide) q_628 dX8_endStretch_27 ?_
          refine r_iload_n (pc := 30) (j := 2) C dX8_endStretch_30 rfl rfl ?_
          refine r_cV1 (pc := 31) (k := 247) (As := [.int (zi a1)]) (st := [.int (zi a3)]) C (m_X6_at (p := 247) (a1 := a1) gw_247 ha1 rfl) cal_X6_at cl_X6 kd_247 ln_247 q_1069 dX8_endStretch_31 rfl rfl (Nat.le_of_ble_eq_true rfl) (Nat.le_of_ble_eq_true rfl) (Nat.le_of_ble_eq_true rfl) (Nat.le_of_ble_eq_true rfl) (Nat.le_of_ble_eq_true rfl) (fun h3906 => ?_)
          refine r_icmp_le (tgt := 41) C ha3 h3906 dX8_endStretch_34 (by decide) (fun c3915 => ?_) (fun c3915 => ?_)
          · exact k3912 (Or.inr c3915)
          · exact k3913 (fun w => w.elim c3914 (fun x => x c3915))
  · refine r_t c3905 ?_
    refine r_iconst (v := 0) C dX8_endStretch_16 (by decide) ?_
    exact r_ireturn C hQ rfl dX8_endStretch_17 (fun e => by subst e; exact ⟨(IRd rfl), rfl, rfl, rfl, rfl, rfl⟩)

def f_X8_countTrapezes (S : Sst) : Option (Int × Sst) :=
  jn (f_X6_fill 245 8 (-2) S) fun (q4052 : Sst) =>
  jn (f_X6_fill 247 8 0 q4052) fun (q4055 : Sst) =>
  Option.bind (lp (fun (s4057 : Int × Int × Sst) =>
    if f_X7_newest 74 s4057.2.2 < s4057.2.1 then
      (some (Sum.inr (s4057.1, s4057.2.2)))
    else
      (Option.bind (f_X8_show s4057.2.1 s4057.2.2) fun (q4066 : Sst) =>
      Option.bind (lp (fun (s4068 : Int × Int × Sst) =>
        if s4068.2.1 < f_X4_count 29 s4068.2.2 then
          (Option.bind (f_X8_aboveOf s4068.2.1 s4068.2.2) fun (q4077 : Int) =>
          jn (f_X8_endStretch s4068.2.1 q4077 (f_X6_at 75 s4057.2.1 s4068.2.2) s4068.2.2) fun (q4081 : Int × Sst) =>
          jn (wr (s4068.1 + q4081.1)) fun (v4083 : Int) =>
          some (Sum.inl (v4083, wr (s4068.2.1 + 1), q4081.2)))
        else
          (some (Sum.inr (s4068.1, s4068.2.2)))) FU (s4057.1, 0, q4066)) fun (r4085 : Int × Sst) =>
      some (Sum.inl (r4085.1, wr (s4057.2.1 + 1), r4085.2)))) FU (0, 0, q4055)) fun (r4087 : Int × Sst) =>
  jn (
    if f_X8_nextEvent r4087.2 = (-1) then
      (60)
    else
      (f_X8_nextEvent r4087.2)) fun (q4090 : Int) =>
  Option.bind (lp (fun (s4096 : Int × Int × Sst) =>
    if s4096.2.1 < f_X4_count 29 s4096.2.2 then
      (jn (f_X8_endStretch s4096.2.1 (-2) q4090 s4096.2.2) fun (q4105 : Int × Sst) =>
      jn (wr (s4096.1 + q4105.1)) fun (v4107 : Int) =>
      some (Sum.inl (v4107, wr (s4096.2.1 + 1), q4105.2)))
    else
      (some (Sum.inr (s4096.1, s4096.2.2)))) FU (r4087.1, 0, r4087.2)) fun (r4109 : Int × Sst) =>
  some (r4109.1, r4109.2)
set_option maxRecDepth 100000 in
set_option maxHeartbeats 4000000 in
theorem m_X8_countTrapezes {l : Launch} {E : EwT} {S : Sst} {O : Smo}  {q : Int × Sst} (hq : f_X8_countTrapezes S = some q) : MetG l E yX8_countTrapezes cX8_countTrapezes 4 (some .int) 5 111 0 0 n0 R0 S O [.ref (zad E 242)] (IR q.1) (some (.int (zi q.1))) n0 R0 q.2 O := by
  refine ofG (L0 := [(0, .ref (zad E 242))]) hq (by decide +kernel) (Nat.le_of_ble_eq_true rfl) rfl (fun K _ C hQ => ?_)
  unfold f_X8_countTrapezes
  refine r_iconst (v := 0) C dX8_countTrapezes_0 (by decide) ?_
  refine r_istore_n (L' := [(1, .int (zi 0)), (0, .ref (zad E 242))]) C dX8_countTrapezes_1 rfl (by decide) rfl ?_
  refine r_aload_n (pc := 2) (j := 1) C dX8_countTrapezes_2 rfl rfl ?_
  refine r_getR (j := 8) (r := 245) C cl_X8 kd_242 ln_242 (by decide) rfl r0_242_8 (by decide) q_627 dX8_countTrapezes_3 ?_
  refine r_bipush (v := 8) C dX8_countTrapezes_6 (by decide) ?_
  refine r_bipush (v := (-2)) C dX8_countTrapezes_8 (by decide) ?_
  refine r_jn (fun q4052 e4053 => ?_)
  refine r_cV0 (pc := 10) (k := 245) (As := [.int (zi 8), .int (zi (-2))]) (st := []) C (m_X6_fill (p := 245) (a1 := 8) (a2 := (-2)) gw_245 (IRd rfl) (IRd rfl) e4053) cal_X6_fill cl_X6 kd_245 ln_245 q_1427 dX8_countTrapezes_10 rfl rfl (Nat.le_of_ble_eq_true rfl) (Nat.le_of_ble_eq_true rfl) (Nat.le_of_ble_eq_true rfl) (Nat.le_of_ble_eq_true rfl) (Nat.le_of_ble_eq_true rfl) (fun h4051 => ?_)
  refine r_aload_n (pc := 13) (j := 1) C dX8_countTrapezes_13 rfl rfl ?_
  refine r_getR (j := 9) (r := 247) C cl_X8 kd_242 ln_242 (by decide) rfl r0_242_9 (by decide) q_628 dX8_countTrapezes_14 ?_
  refine r_bipush (v := 8) C dX8_countTrapezes_17 (by decide) ?_
  refine r_iconst (v := 0) C dX8_countTrapezes_19 (by decide) ?_
  refine r_jn (fun q4055 e4056 => ?_)
  refine r_cV0 (pc := 20) (k := 247) (As := [.int (zi 8), .int (zi 0)]) (st := []) C (m_X6_fill (p := 247) (a1 := 8) (a2 := 0) gw_247 (IRd rfl) (IRd rfl) e4056) cal_X6_fill cl_X6 kd_247 ln_247 q_1427 dX8_countTrapezes_20 rfl rfl (Nat.le_of_ble_eq_true rfl) (Nat.le_of_ble_eq_true rfl) (Nat.le_of_ble_eq_true rfl) (Nat.le_of_ble_eq_true rfl) (Nat.le_of_ble_eq_true rfl) (fun h4054 => ?_)
  refine r_iconst (v := 0) C dX8_countTrapezes_23 (by decide) ?_
  refine r_istore_n (L' := [(2, .int (zi 0)), (1, .int (zi 0)), (0, .ref (zad E 242))]) C dX8_countTrapezes_24 rfl (by decide) rfl ?_
  refine r_L (L' := [(0, .ref (zad E 242)), (1, .int (zi 0)), (2, .int (zi 0))]) [2, 1, 0] rfl ?_
  refine r_loop1 (fun s4057 : Int × Int × Sst => IR s4057.1 ∧ IR s4057.2.1) (fun s4057 => s4057.2.2) (fun s4057 => O) (fun s4057 => [(0, .ref (zad E 242)), (1, .int (zi s4057.1)), (2, .int (zi s4057.2.1))]) [] (fun r4087 : Int × Sst => IR r4087.1) (fun r4087 => r4087.2) (fun r4087 => O) (fun r4087 => [(0, .ref (zad E 242)), (1, .int (zi r4087.1))]) 90 (fun r4087 h4088 => ?_) (fun k4059 k4061 k4060 k4062 s4057 h4058 => ?_) ⟨(IRd rfl), (IRd rfl)⟩
  · refine r_aload_n (pc := 90) (j := 0) C dX8_countTrapezes_90 rfl rfl ?_
    refine r_cV1 (pc := 91) (k := 242) (As := []) (st := []) C (m_X8_nextEvent  rfl) cal_X8_nextEvent cl_X8 kd_242 ln_242 q_1301 dX8_countTrapezes_91 rfl rfl (Nat.le_of_ble_eq_true rfl) (Nat.le_of_ble_eq_true rfl) (Nat.le_of_ble_eq_true rfl) (Nat.le_of_ble_eq_true rfl) (Nat.le_of_ble_eq_true rfl) (fun h4089 => ?_)
    refine r_iconst (v := (-1)) C dX8_countTrapezes_94 (by decide) ?_
    refine r_join (fun q4090 : Int => IR q4090) (fun q4090 => r4087.2) (fun q4090 => O) (fun q4090 => [(0, .ref (zad E 242)), (1, .int (zi r4087.1))]) 107 (fun q4090 => [.int (zi q4090)]) (fun q4090 h4091 => ?_) (fun k4092 k4093 => ?_)
    · refine r_istore_n (L' := [(2, .int (zi q4090)), (0, .ref (zad E 242)), (1, .int (zi r4087.1))]) C dX8_countTrapezes_107 rfl (by decide) rfl ?_
      refine r_iconst (v := 0) C dX8_countTrapezes_108 (by decide) ?_
      refine r_istore_n (L' := [(3, .int (zi 0)), (2, .int (zi q4090)), (0, .ref (zad E 242)), (1, .int (zi r4087.1))]) C dX8_countTrapezes_109 rfl (by decide) rfl ?_
      refine r_L (L' := [(0, .ref (zad E 242)), (1, .int (zi r4087.1)), (2, .int (zi q4090)), (3, .int (zi 0))]) [2, 3, 1, 0] rfl ?_
      refine r_loop1 (fun s4096 : Int × Int × Sst => IR s4096.1 ∧ IR s4096.2.1) (fun s4096 => s4096.2.2) (fun s4096 => O) (fun s4096 => [(0, .ref (zad E 242)), (1, .int (zi s4096.1)), (2, .int (zi q4090)), (3, .int (zi s4096.2.1))]) [] (fun r4109 : Int × Sst => IR r4109.1) (fun r4109 => r4109.2) (fun r4109 => O) (fun r4109 => [(1, .int (zi r4109.1))]) 138 (fun r4109 h4110 => ?_) (fun k4098 k4100 k4099 k4101 s4096 h4097 => ?_) ⟨h4088, (IRd rfl)⟩
      · refine r_iload_n (pc := 138) (j := 0) C dX8_countTrapezes_138 rfl rfl ?_
        exact r_ireturn C hQ rfl dX8_countTrapezes_139 (fun e => by cases e; exact ⟨h4110, rfl, rfl, rfl, rfl, rfl⟩)
      · refine r_iload_n (pc := 110) (j := 3) C dX8_countTrapezes_110 rfl rfl ?_
        refine r_aload_n (pc := 111) (j := 0) C dX8_countTrapezes_111 rfl rfl ?_
        refine r_getR (j := 5) (r := 29) C cl_X8 kd_242 ln_242 (by decide) rfl r0_242_5 (by decide) q_624 dX8_countTrapezes_112 ?_
        refine r_cV1 (pc := 115) (k := 29) (As := []) (st := [.int (zi s4096.2.1)]) C (m_X4_count (p := 29) gp_29 rfl) cal_X4_count cl_X4 kd_29 ln_29 q_1428 dX8_countTrapezes_115 rfl rfl (Nat.le_of_ble_eq_true rfl) (Nat.le_of_ble_eq_true rfl) (Nat.le_of_ble_eq_true rfl) (Nat.le_of_ble_eq_true rfl) (Nat.le_of_ble_eq_true rfl) (fun h4102 => ?_)
        refine r_icmp_ge (tgt := 138) C h4097.2 h4102 dX8_countTrapezes_118 (by decide) (fun c4103 => ?_) (fun c4103 => ?_)
        · refine r_bf c4103 ?_
          refine r_L (L' := [(1, .int (zi s4096.1))]) [1] rfl ?_
          exact k4101 (s4096.1, s4096.2.2) h4097.1
        · refine r_bt c4103 ?_
          refine r_iload_n (pc := 121) (j := 1) C dX8_countTrapezes_121 rfl rfl ?_
          refine r_aload_n (pc := 122) (j := 0) C dX8_countTrapezes_122 rfl rfl ?_
          refine r_iload_n (pc := 123) (j := 3) C dX8_countTrapezes_123 rfl rfl ?_
          refine r_bipush (v := (-2)) C dX8_countTrapezes_124 (by decide) ?_
          refine r_iload_n (pc := 126) (j := 2) C dX8_countTrapezes_126 rfl rfl ?_
          refine r_bj ?_
          refine r_jn (fun q4105 e4106 => ?_)
          refine r_cV1 (pc := 127) (k := 242) (As := [.int (zi s4096.2.1), .int (zi (-2)), .int (zi q4090)]) (st := [.int (zi s4096.1)]) C (m_X8_endStretch (a1 := s4096.2.1) (a2 := (-2)) (a3 := q4090) h4097.2 (IRd rfl) h4091 e4106) cal_X8_endStretch cl_X8 kd_242 ln_242 q_1433 dX8_countTrapezes_127 rfl rfl (Nat.le_of_ble_eq_true rfl) (Nat.le_of_ble_eq_true rfl) (Nat.le_of_ble_eq_true rfl) (Nat.le_of_ble_eq_true rfl) (Nat.le_of_ble_eq_true rfl) (fun h4104 => ?_)
          refine r_iadd C dX8_countTrapezes_130 ?_
          refine r_bj ?_
          refine r_jv (IR_wr _) (fun v4107 h4108 => ?_)
          refine r_istore_n (L' := [(1, .int (zi v4107)), (0, .ref (zad E 242)), (2, .int (zi q4090)), (3, .int (zi s4096.2.1))]) C dX8_countTrapezes_131 rfl (by decide) rfl ?_
          refine r_iinc (j := 3) (L' := [(3, .int (zi (wr (s4096.2.1 + 1)))), (1, .int (zi v4107)), (0, .ref (zad E 242)), (2, .int (zi q4090))]) C dX8_countTrapezes_132 rfl (by decide) rfl ?_
          refine r_goto (tgt := 110) C dX8_countTrapezes_135 (by decide) ?_
          refine r_L (L' := [(0, .ref (zad E 242)), (1, .int (zi v4107)), (2, .int (zi q4090)), (3, .int (zi (wr (s4096.2.1 + 1))))]) [2, 1, 3, 0] rfl ?_
          exact k4099 (v4107, wr (s4096.2.1 + 1), q4105.2) ⟨h4108, (IR_wr _)⟩
    · refine r_icmp_ne (tgt := 103) C h4089 (IRd rfl) dX8_countTrapezes_95 (by decide) (fun c4094 => ?_) (fun c4094 => ?_)
      · refine r_jf c4094 ?_
        refine r_aload_n (pc := 103) (j := 0) C dX8_countTrapezes_103 rfl rfl ?_
        refine r_cV1 (pc := 104) (k := 242) (As := []) (st := []) C (m_X8_nextEvent  rfl) cal_X8_nextEvent cl_X8 kd_242 ln_242 q_1301 dX8_countTrapezes_104 rfl rfl (Nat.le_of_ble_eq_true rfl) (Nat.le_of_ble_eq_true rfl) (Nat.le_of_ble_eq_true rfl) (Nat.le_of_ble_eq_true rfl) (Nat.le_of_ble_eq_true rfl) (fun h4095 => ?_)
        exact k4093 (f_X8_nextEvent r4087.2) h4095
      · refine r_jt c4094 ?_
        refine r_bipush (v := 60) C dX8_countTrapezes_98 (by decide) ?_
        refine r_goto (tgt := 107) C dX8_countTrapezes_100 (by decide) ?_
        exact k4093 60 (IRd rfl)
  · refine r_iload_n (pc := 25) (j := 2) C dX8_countTrapezes_25 rfl rfl ?_
    refine r_aload_n (pc := 26) (j := 0) C dX8_countTrapezes_26 rfl rfl ?_
    refine r_getR (j := 7) (r := 74) C cl_X8 kd_242 ln_242 (by decide) rfl r0_242_7 (by decide) q_626 dX8_countTrapezes_27 ?_
    refine r_cV1 (pc := 30) (k := 74) (As := []) (st := [.int (zi s4057.2.1)]) C (m_X7_newest (p := 74) gs_74 rfl) cal_X7_newest cl_X7 kd_74 ln_74 q_1068 dX8_countTrapezes_30 rfl rfl (Nat.le_of_ble_eq_true rfl) (Nat.le_of_ble_eq_true rfl) (Nat.le_of_ble_eq_true rfl) (Nat.le_of_ble_eq_true rfl) (Nat.le_of_ble_eq_true rfl) (fun h4063 => ?_)
    refine r_icmp_gt (tgt := 90) C h4058.2 h4063 dX8_countTrapezes_33 (by decide) (fun c4064 => ?_) (fun c4064 => ?_)
    · refine r_bt c4064 ?_
      refine r_L (L' := [(0, .ref (zad E 242)), (1, .int (zi s4057.1))]) [0, 1] rfl ?_
      exact k4062 (s4057.1, s4057.2.2) h4058.1
    · refine r_bf c4064 ?_
      refine r_aload_n (pc := 36) (j := 0) C dX8_countTrapezes_36 rfl rfl ?_
      refine r_iload_n (pc := 37) (j := 2) C dX8_countTrapezes_37 rfl rfl ?_
      refine r_bb ?_
      refine r_bd (fun q4066 e4067 => ?_)
      refine r_cV0 (pc := 38) (k := 242) (As := [.int (zi s4057.2.1)]) (st := []) C (m_X8_show (a1 := s4057.2.1) h4058.2 e4067) cal_X8_show cl_X8 kd_242 ln_242 q_1306 dX8_countTrapezes_38 rfl rfl (Nat.le_of_ble_eq_true rfl) (Nat.le_of_ble_eq_true rfl) (Nat.le_of_ble_eq_true rfl) (Nat.le_of_ble_eq_true rfl) (Nat.le_of_ble_eq_true rfl) (fun h4065 => ?_)
      refine r_iconst (v := 0) C dX8_countTrapezes_41 (by decide) ?_
      refine r_istore_n (L' := [(3, .int (zi 0)), (0, .ref (zad E 242)), (1, .int (zi s4057.1)), (2, .int (zi s4057.2.1))]) C dX8_countTrapezes_42 rfl (by decide) rfl ?_
      refine r_L (L' := [(0, .ref (zad E 242)), (1, .int (zi s4057.1)), (2, .int (zi s4057.2.1)), (3, .int (zi 0))]) [1, 2, 3, 0] rfl ?_
      refine r_bb ?_
      refine r_loop1 (fun s4068 : Int × Int × Sst => IR s4068.1 ∧ IR s4068.2.1) (fun s4068 => s4068.2.2) (fun s4068 => O) (fun s4068 => [(0, .ref (zad E 242)), (1, .int (zi s4068.1)), (2, .int (zi s4057.2.1)), (3, .int (zi s4068.2.1))]) [] (fun r4085 : Int × Sst => IR r4085.1) (fun r4085 => r4085.2) (fun r4085 => O) (fun r4085 => [(0, .ref (zad E 242)), (1, .int (zi r4085.1)), (2, .int (zi s4057.2.1))]) 84 (fun r4085 h4086 => ?_) (fun k4070 k4072 k4071 k4073 s4068 h4069 => ?_) ⟨h4058.1, (IRd rfl)⟩
      · refine r_iinc (j := 2) (L' := [(2, .int (zi (wr (s4057.2.1 + 1)))), (0, .ref (zad E 242)), (1, .int (zi r4085.1))]) C dX8_countTrapezes_84 rfl (by decide) rfl ?_
        refine r_goto (tgt := 25) C dX8_countTrapezes_87 (by decide) ?_
        refine r_L (L' := [(0, .ref (zad E 242)), (1, .int (zi r4085.1)), (2, .int (zi (wr (s4057.2.1 + 1))))]) [1, 2, 0] rfl ?_
        exact k4060 (r4085.1, wr (s4057.2.1 + 1), r4085.2) ⟨h4086, (IR_wr _)⟩
      · refine r_iload_n (pc := 43) (j := 3) C dX8_countTrapezes_43 rfl rfl ?_
        refine r_aload_n (pc := 44) (j := 0) C dX8_countTrapezes_44 rfl rfl ?_
        refine r_getR (j := 5) (r := 29) C cl_X8 kd_242 ln_242 (by decide) rfl r0_242_5 (by decide) q_624 dX8_countTrapezes_45 ?_
        refine r_cV1 (pc := 48) (k := 29) (As := []) (st := [.int (zi s4068.2.1)]) C (m_X4_count (p := 29) gp_29 rfl) cal_X4_count cl_X4 kd_29 ln_29 q_1428 dX8_countTrapezes_48 rfl rfl (Nat.le_of_ble_eq_true rfl) (Nat.le_of_ble_eq_true rfl) (Nat.le_of_ble_eq_true rfl) (Nat.le_of_ble_eq_true rfl) (Nat.le_of_ble_eq_true rfl) (fun h4074 => ?_)
        refine r_icmp_ge (tgt := 84) C h4069.2 h4074 dX8_countTrapezes_51 (by decide) (fun c4075 => ?_) (fun c4075 => ?_)
        · refine r_bf c4075 ?_
          refine r_L (L' := [(0, .ref (zad E 242)), (1, .int (zi s4068.1)), (2, .int (zi s4057.2.1))]) [0, 1, 2] rfl ?_
          exact k4073 (s4068.1, s4068.2.2) h4069.1
        · refine r_bt c4075 ?_
          refine r_iload_n (pc := 54) (j := 1) C dX8_countTrapezes_54 rfl rfl ?_
          refine r_aload_n (pc := 55) (j := 0) C dX8_countTrapezes_55 rfl rfl ?_
          refine r_iload_n (pc := 56) (j := 3) C dX8_countTrapezes_56 rfl rfl ?_
          refine r_aload_n (pc := 57) (j := 0) C dX8_countTrapezes_57 rfl rfl ?_
          refine r_iload_n (pc := 58) (j := 3) C dX8_countTrapezes_58 rfl rfl ?_
          refine r_bb ?_
          refine r_bd (fun q4077 e4078 => ?_)
          refine r_cV1 (pc := 59) (k := 242) (As := [.int (zi s4068.2.1)]) (st := [.int (zi s4068.2.1), .ref (zad E 242), .int (zi s4068.1)]) C (m_X8_aboveOf (a1 := s4068.2.1) h4069.2 e4078) cal_X8_aboveOf cl_X8 kd_242 ln_242 q_1429 dX8_countTrapezes_59 rfl rfl (Nat.le_of_ble_eq_true rfl) (Nat.le_of_ble_eq_true rfl) (Nat.le_of_ble_eq_true rfl) (Nat.le_of_ble_eq_true rfl) (Nat.le_of_ble_eq_true rfl) (fun h4076 => ?_)
          refine r_aload_n (pc := 62) (j := 0) C dX8_countTrapezes_62 rfl rfl ?_
          refine r_getR (j := 7) (r := 74) C cl_X8 kd_242 ln_242 (by decide) rfl r0_242_7 (by decide) q_626 dX8_countTrapezes_63 ?_
          refine r_getR (j := 0) (r := 75) C cl_X7 kd_74 ln_74 (by decide) rfl r0_74_0 (by decide) q_508 dX8_countTrapezes_66 ?_
          refine r_iload_n (pc := 69) (j := 2) C dX8_countTrapezes_69 rfl rfl ?_
          refine r_cV1 (pc := 70) (k := 75) (As := [.int (zi s4057.2.1)]) (st := [.int (zi q4077), .int (zi s4068.2.1), .ref (zad E 242), .int (zi s4068.1)]) C (m_X6_at (p := 75) (a1 := s4057.2.1) gw_75 h4058.2 rfl) cal_X6_at cl_X6 kd_75 ln_75 q_1069 dX8_countTrapezes_70 rfl rfl (Nat.le_of_ble_eq_true rfl) (Nat.le_of_ble_eq_true rfl) (Nat.le_of_ble_eq_true rfl) (Nat.le_of_ble_eq_true rfl) (Nat.le_of_ble_eq_true rfl) (fun h4079 => ?_)
          refine r_bj ?_
          refine r_jn (fun q4081 e4082 => ?_)
          refine r_cV1 (pc := 73) (k := 242) (As := [.int (zi s4068.2.1), .int (zi q4077), .int (zi (f_X6_at 75 s4057.2.1 s4068.2.2))]) (st := [.int (zi s4068.1)]) C (m_X8_endStretch (a1 := s4068.2.1) (a2 := q4077) (a3 := f_X6_at 75 s4057.2.1 s4068.2.2) h4069.2 h4076 h4079 e4082) cal_X8_endStretch cl_X8 kd_242 ln_242 q_1433 dX8_countTrapezes_73 rfl rfl (Nat.le_of_ble_eq_true rfl) (Nat.le_of_ble_eq_true rfl) (Nat.le_of_ble_eq_true rfl) (Nat.le_of_ble_eq_true rfl) (Nat.le_of_ble_eq_true rfl) (fun h4080 => ?_)
          refine r_iadd C dX8_countTrapezes_76 ?_
          refine r_bj ?_
          refine r_jv (IR_wr _) (fun v4083 h4084 => ?_)
          refine r_istore_n (L' := [(1, .int (zi v4083)), (0, .ref (zad E 242)), (2, .int (zi s4057.2.1)), (3, .int (zi s4068.2.1))]) C dX8_countTrapezes_77 rfl (by decide) rfl ?_
          refine r_iinc (j := 3) (L' := [(3, .int (zi (wr (s4068.2.1 + 1)))), (1, .int (zi v4083)), (0, .ref (zad E 242)), (2, .int (zi s4057.2.1))]) C dX8_countTrapezes_78 rfl (by decide) rfl ?_
          refine r_goto (tgt := 43) C dX8_countTrapezes_81 (by decide) ?_
          refine r_L (L' := [(0, .ref (zad E 242)), (1, .int (zi v4083)), (2, .int (zi s4057.2.1)), (3, .int (zi (wr (s4068.2.1 + 1))))]) [2, 1, 3, 0] rfl ?_
          exact k4071 (v4083, wr (s4068.2.1 + 1), q4081.2) ⟨h4084, (IR_wr _)⟩

def f_X8_showUnlessShown (a1 : Int) (a2 : Int) (S : Sst) : Option (Int × Sst) :=
  Option.bind (
    if a1 = a2 then
      (some S)
    else
      (Option.bind (f_X8_show a1 S) fun (q4120 : Sst) =>
      some q4120)) fun (q4114 : Sst) =>
  some (a1, q4114)
set_option maxRecDepth 100000 in
set_option maxHeartbeats 4000000 in
theorem m_X8_showUnlessShown {l : Launch} {E : EwT} {S : Sst} {O : Smo} {a1 : Int} (ha1 : IR a1) {a2 : Int} (ha2 : IR a2) {q : Int × Sst} (hq : f_X8_showUnlessShown a1 a2 S = some q) : MetG l E yX8_showUnlessShown cX8_showUnlessShown 3 (some .int) 5 111 0 0 n0 R0 S O [.ref (zad E 242), .int (zi a1), .int (zi a2)] (IR q.1) (some (.int (zi q.1))) n0 R0 q.2 O := by
  refine ofG (L0 := [(0, .ref (zad E 242)), (1, .int (zi a1)), (2, .int (zi a2))]) hq (by decide +kernel) (Nat.le_of_ble_eq_true rfl) rfl (fun K _ C hQ => ?_)
  unfold f_X8_showUnlessShown
  refine r_iload_n (pc := 0) (j := 1) C dX8_showUnlessShown_0 rfl rfl ?_
  refine r_iload_n (pc := 1) (j := 2) C dX8_showUnlessShown_1 rfl rfl ?_
  refine r_joinb (fun q4114 : Sst => True) (fun q4114 => q4114) (fun q4114 => O) (fun q4114 => [(1, .int (zi a1))]) 10 (fun q4114 => []) (fun q4114 h4115 => ?_) (fun k4116 k4117 => ?_)
  · refine r_iload_n (pc := 10) (j := 0) C dX8_showUnlessShown_10 rfl rfl ?_
    exact r_ireturn C hQ rfl dX8_showUnlessShown_11 (fun e => by cases e; exact ⟨ha1, rfl, rfl, rfl, rfl, rfl⟩)
  · refine r_icmp_eq (tgt := 10) C ha1 ha2 dX8_showUnlessShown_2 (by decide) (fun c4118 => ?_) (fun c4118 => ?_)
    · refine r_bt c4118 ?_
      refine r_L (L' := [(1, .int (zi a1))]) [1] rfl ?_
      exact k4117 S trivial
    · refine r_bf c4118 ?_
      refine r_aload_n (pc := 5) (j := 0) C dX8_showUnlessShown_5 rfl rfl ?_
      refine r_iload_n (pc := 6) (j := 1) C dX8_showUnlessShown_6 rfl rfl ?_
      refine r_bb ?_
      refine r_bd (fun q4120 e4121 => ?_)
      refine r_cV0 (pc := 7) (k := 242) (As := [.int (zi a1)]) (st := []) C (m_X8_show (a1 := a1) ha1 e4121) cal_X8_show cl_X8 kd_242 ln_242 q_1306 dX8_showUnlessShown_7 rfl rfl (Nat.le_of_ble_eq_true rfl) (Nat.le_of_ble_eq_true rfl) (Nat.le_of_ble_eq_true rfl) (Nat.le_of_ble_eq_true rfl) (Nat.le_of_ble_eq_true rfl) (fun h4119 => ?_)
      refine r_L (L' := [(1, .int (zi a1))]) [1] rfl ?_
      exact k4117 q4120 trivial

def f_X8_measureAt (a1 : Int) (S : Sst) : Option (Sst) :=
  Option.bind (lp (fun (s4159 : Int × Int × Int × Sst) =>
    if s4159.2.2.1 < f_X6_size 60 s4159.2.2.2 then
      (jn (f_X6_at 60 s4159.2.2.1 s4159.2.2.2) fun (v4168 : Int) =>
      Option.bind (f_X4_ceilingOf 29 v4168 a1 s4159.2.2.2) fun (q4171 : Int) =>
      jn (f_X6_put 243 (wr (s4159.1 + 1)) (wr ((wr ((f_X6_at 243 (wr (s4159.1 + 1)) s4159.2.2.2) + q4171)) - s4159.2.1)) s4159.2.2.2) fun (q4175 : Sst) =>
      some (Sum.inl (v4168, q4171, wr (s4159.2.2.1 + 1), q4175)))
    else
      (some (Sum.inr (s4159.1, s4159.2.1, s4159.2.2.2)))) FU ((-1), 0, 0, S)) fun (r4177 : Int × Int × Sst) =>
  jn (f_X6_put 243 (wr (r4177.1 + 1)) (wr ((wr ((wr ((f_X6_at 243 (wr (r4177.1 + 1)) r4177.2.2) + 60)) + 1)) - r4177.2.1)) r4177.2.2) fun (q4181 : Sst) =>
  some q4181
set_option maxRecDepth 100000 in
set_option maxHeartbeats 4000000 in
theorem m_X8_measureAt {l : Launch} {E : EwT} {S : Sst} {O : Smo} {a1 : Int} (ha1 : IR a1) {q : Sst} (hq : f_X8_measureAt a1 S = some q) : MetG l E yX8_measureAt cX8_measureAt 7 none 2 46 0 0 n0 R0 S O [.ref (zad E 242), .int (zi a1)] (True) none n0 R0 q O := by
  refine ofG (L0 := [(0, .ref (zad E 242)), (1, .int (zi a1))]) hq (by decide +kernel) (Nat.le_of_ble_eq_true rfl) rfl (fun K _ C hQ => ?_)
  unfold f_X8_measureAt
  refine r_iconst (v := (-1)) C dX8_measureAt_0 (by decide) ?_
  refine r_istore_n (L' := [(2, .int (zi (-1))), (0, .ref (zad E 242)), (1, .int (zi a1))]) C dX8_measureAt_1 rfl (by decide) rfl ?_
  refine r_iconst (v := 0) C dX8_measureAt_2 (by decide) ?_
  refine r_istore_n (L' := [(3, .int (zi 0)), (2, .int (zi (-1))), (0, .ref (zad E 242)), (1, .int (zi a1))]) C dX8_measureAt_3 rfl (by decide) rfl ?_
  refine r_iconst (v := 0) C dX8_measureAt_4 (by decide) ?_
  refine r_istore (L' := [(4, .int (zi 0)), (3, .int (zi 0)), (2, .int (zi (-1))), (0, .ref (zad E 242)), (1, .int (zi a1))]) C dX8_measureAt_5 (by decide) rfl ?_
  refine r_L (L' := [(0, .ref (zad E 242)), (1, .int (zi a1)), (2, .int (zi (-1))), (3, .int (zi 0)), (4, .int (zi 0))]) [3, 4, 2, 1, 0] rfl ?_
  refine r_loop1 (fun s4159 : Int × Int × Int × Sst => IR s4159.1 ∧ IR s4159.2.1 ∧ IR s4159.2.2.1) (fun s4159 => s4159.2.2.2) (fun s4159 => O) (fun s4159 => [(0, .ref (zad E 242)), (1, .int (zi a1)), (2, .int (zi s4159.1)), (3, .int (zi s4159.2.1)), (4, .int (zi s4159.2.2.1))]) [] (fun r4177 : Int × Int × Sst => IR r4177.1 ∧ IR r4177.2.1) (fun r4177 => r4177.2.2) (fun r4177 => O) (fun r4177 => [(0, .ref (zad E 242)), (2, .int (zi r4177.1)), (3, .int (zi r4177.2.1))]) 85 (fun r4177 h4178 => ?_) (fun k4161 k4163 k4162 k4164 s4159 h4160 => ?_) ⟨(IRd rfl), (IRd rfl), (IRd rfl)⟩
  · refine r_aload_n (pc := 85) (j := 0) C dX8_measureAt_85 rfl rfl ?_
    refine r_getR (j := 0) (r := 243) C cl_X8 kd_242 ln_242 (by decide) rfl r0_242_0 (by decide) q_614 dX8_measureAt_86 ?_
    refine r_iload_n (pc := 89) (j := 1) C dX8_measureAt_89 rfl rfl ?_
    refine r_iconst (v := 1) C dX8_measureAt_90 (by decide) ?_
    refine r_iadd C dX8_measureAt_91 ?_
    refine r_aload_n (pc := 92) (j := 0) C dX8_measureAt_92 rfl rfl ?_
    refine r_getR (j := 0) (r := 243) C cl_X8 kd_242 ln_242 (by decide) rfl r0_242_0 (by decide) q_614 dX8_measureAt_93 ?_
    refine r_iload_n (pc := 96) (j := 1) C dX8_measureAt_96 rfl rfl ?_
    refine r_iconst (v := 1) C dX8_measureAt_97 (by decide) ?_
    refine r_iadd C dX8_measureAt_98 ?_
    refine r_cV1 (pc := 99) (k := 243) (As := [.int (zi (wr (r4177.1 + 1)))]) (st := [.int (zi (wr (r4177.1 + 1))), .ref (zad E 243)]) C (m_X6_at (p := 243) (a1 := wr (r4177.1 + 1)) gw_243 (IR_wr _) rfl) cal_X6_at cl_X6 kd_243 ln_243 q_1069 dX8_measureAt_99 rfl rfl (Nat.le_of_ble_eq_true rfl) (Nat.le_of_ble_eq_true rfl) (Nat.le_of_ble_eq_true rfl) (Nat.le_of_ble_eq_true rfl) (Nat.le_of_ble_eq_true rfl) (fun h4179 => ?_)
    refine r_bipush (v := 60) C dX8_measureAt_102 (by decide) ?_
    refine r_iadd C dX8_measureAt_104 ?_
    refine r_iconst (v := 1) C dX8_measureAt_105 (by decide) ?_
    refine r_iadd C dX8_measureAt_106 ?_
    refine r_iload_n (pc := 107) (j := 2) C dX8_measureAt_107 rfl rfl ?_
    refine r_isub C dX8_measureAt_108 ?_
    refine r_jn (fun q4181 e4182 => ?_)
    refine r_cV0 (pc := 109) (k := 243) (As := [.int (zi (wr (r4177.1 + 1))), .int (zi (wr ((wr ((wr ((f_X6_at 243 (wr (r4177.1 + 1)) r4177.2.2) + 60)) + 1)) - r4177.2.1)))]) (st := []) C (m_X6_put (p := 243) (a1 := wr (r4177.1 + 1)) (a2 := wr ((wr ((wr ((f_X6_at 243 (wr (r4177.1 + 1)) r4177.2.2) + 60)) + 1)) - r4177.2.1)) gw_243 (IR_wr _) (IR_wr _) e4182) cal_X6_put cl_X6 kd_243 ln_243 q_1437 dX8_measureAt_109 rfl rfl (Nat.le_of_ble_eq_true rfl) (Nat.le_of_ble_eq_true rfl) (Nat.le_of_ble_eq_true rfl) (Nat.le_of_ble_eq_true rfl) (Nat.le_of_ble_eq_true rfl) (fun h4180 => ?_)
    exact r_return C hQ dX8_measureAt_112 (fun e => by cases e; exact ⟨trivial, rfl, rfl, rfl, rfl, rfl⟩)
  · refine r_iload (pc := 7) (j := 4) C dX8_measureAt_7 rfl ?_
    refine r_aload_n (pc := 9) (j := 0) C dX8_measureAt_9 rfl rfl ?_
    refine r_getR (j := 6) (r := 59) C cl_X8 kd_242 ln_242 (by decide) rfl r0_242_6 (by decide) q_625 dX8_measureAt_10 ?_
    refine r_getR (j := 0) (r := 60) C cl_X10 kd_59 ln_59 (by decide) rfl r0_59_0 (by decide) q_432 dX8_measureAt_13 ?_
    refine r_cV1 (pc := 16) (k := 60) (As := []) (st := [.int (zi s4159.2.2.1)]) C (m_X6_size (p := 60) gw_60 rfl) cal_X6_size cl_X6 kd_60 ln_60 q_1311 dX8_measureAt_16 rfl rfl (Nat.le_of_ble_eq_true rfl) (Nat.le_of_ble_eq_true rfl) (Nat.le_of_ble_eq_true rfl) (Nat.le_of_ble_eq_true rfl) (Nat.le_of_ble_eq_true rfl) (fun h4165 => ?_)
    refine r_icmp_ge (tgt := 85) C h4160.2.2 h4165 dX8_measureAt_19 (by decide) (fun c4166 => ?_) (fun c4166 => ?_)
    · refine r_bf c4166 ?_
      refine r_L (L' := [(0, .ref (zad E 242)), (2, .int (zi s4159.1)), (3, .int (zi s4159.2.1))]) [0, 2, 3] rfl ?_
      exact k4164 (s4159.1, s4159.2.1, s4159.2.2.2) ⟨h4160.1, h4160.2.1⟩
    · refine r_bt c4166 ?_
      refine r_aload_n (pc := 22) (j := 0) C dX8_measureAt_22 rfl rfl ?_
      refine r_getR (j := 6) (r := 59) C cl_X8 kd_242 ln_242 (by decide) rfl r0_242_6 (by decide) q_625 dX8_measureAt_23 ?_
      refine r_getR (j := 0) (r := 60) C cl_X10 kd_59 ln_59 (by decide) rfl r0_59_0 (by decide) q_432 dX8_measureAt_26 ?_
      refine r_iload (pc := 29) (j := 4) C dX8_measureAt_29 rfl ?_
      refine r_cV1 (pc := 31) (k := 60) (As := [.int (zi s4159.2.2.1)]) (st := []) C (m_X6_at (p := 60) (a1 := s4159.2.2.1) gw_60 h4160.2.2 rfl) cal_X6_at cl_X6 kd_60 ln_60 q_1069 dX8_measureAt_31 rfl rfl (Nat.le_of_ble_eq_true rfl) (Nat.le_of_ble_eq_true rfl) (Nat.le_of_ble_eq_true rfl) (Nat.le_of_ble_eq_true rfl) (Nat.le_of_ble_eq_true rfl) (fun h4167 => ?_)
      refine r_bj ?_
      refine r_jv h4167 (fun v4168 h4169 => ?_)
      refine r_istore (L' := [(5, .int (zi v4168)), (0, .ref (zad E 242)), (1, .int (zi a1)), (2, .int (zi s4159.1)), (3, .int (zi s4159.2.1)), (4, .int (zi s4159.2.2.1))]) C dX8_measureAt_34 (by decide) rfl ?_
      refine r_aload_n (pc := 36) (j := 1) C dX8_measureAt_36 rfl rfl ?_
      refine r_getR (j := 5) (r := 29) C cl_X8 kd_242 ln_242 (by decide) rfl r0_242_5 (by decide) q_624 dX8_measureAt_37 ?_
      refine r_iload (pc := 40) (j := 0) C dX8_measureAt_40 rfl ?_
      refine r_iload_n (pc := 42) (j := 2) C dX8_measureAt_42 rfl rfl ?_
      refine r_bb ?_
      refine r_bd (fun q4171 e4172 => ?_)
      refine r_cV1 (pc := 43) (k := 29) (As := [.int (zi v4168), .int (zi a1)]) (st := []) C (m_X4_ceilingOf (p := 29) (a1 := v4168) (a2 := a1) gp_29 h4169 ha1 e4172) cal_X4_ceilingOf cl_X4 kd_29 ln_29 q_1454 dX8_measureAt_43 rfl rfl (Nat.le_of_ble_eq_true rfl) (Nat.le_of_ble_eq_true rfl) (Nat.le_of_ble_eq_true rfl) (Nat.le_of_ble_eq_true rfl) (Nat.le_of_ble_eq_true rfl) (fun h4170 => ?_)
      refine r_istore (L' := [(6, .int (zi q4171)), (5, .int (zi v4168)), (0, .ref (zad E 242)), (1, .int (zi a1)), (2, .int (zi s4159.1)), (3, .int (zi s4159.2.1)), (4, .int (zi s4159.2.2.1))]) C dX8_measureAt_46 (by decide) rfl ?_
      refine r_aload_n (pc := 48) (j := 2) C dX8_measureAt_48 rfl rfl ?_
      refine r_getR (j := 0) (r := 243) C cl_X8 kd_242 ln_242 (by decide) rfl r0_242_0 (by decide) q_614 dX8_measureAt_49 ?_
      refine r_iload_n (pc := 52) (j := 4) C dX8_measureAt_52 rfl rfl ?_
      refine r_iconst (v := 1) C dX8_measureAt_53 (by decide) ?_
      refine r_iadd C dX8_measureAt_54 ?_
      refine r_aload_n (pc := 55) (j := 2) C dX8_measureAt_55 rfl rfl ?_
      refine r_getR (j := 0) (r := 243) C cl_X8 kd_242 ln_242 (by decide) rfl r0_242_0 (by decide) q_614 dX8_measureAt_56 ?_
      refine r_iload_n (pc := 59) (j := 4) C dX8_measureAt_59 rfl rfl ?_
      refine r_iconst (v := 1) C dX8_measureAt_60 (by decide) ?_
      refine r_iadd C dX8_measureAt_61 ?_
      refine r_cV1 (pc := 62) (k := 243) (As := [.int (zi (wr (s4159.1 + 1)))]) (st := [.int (zi (wr (s4159.1 + 1))), .ref (zad E 243)]) C (m_X6_at (p := 243) (a1 := wr (s4159.1 + 1)) gw_243 (IR_wr _) rfl) cal_X6_at cl_X6 kd_243 ln_243 q_1069 dX8_measureAt_62 rfl rfl (Nat.le_of_ble_eq_true rfl) (Nat.le_of_ble_eq_true rfl) (Nat.le_of_ble_eq_true rfl) (Nat.le_of_ble_eq_true rfl) (Nat.le_of_ble_eq_true rfl) (fun h4173 => ?_)
      refine r_iload (pc := 65) (j := 0) C dX8_measureAt_65 rfl ?_
      refine r_iadd C dX8_measureAt_67 ?_
      refine r_iload_n (pc := 68) (j := 5) C dX8_measureAt_68 rfl rfl ?_
      refine r_isub C dX8_measureAt_69 ?_
      refine r_bj ?_
      refine r_jn (fun q4175 e4176 => ?_)
      refine r_cV0 (pc := 70) (k := 243) (As := [.int (zi (wr (s4159.1 + 1))), .int (zi (wr ((wr ((f_X6_at 243 (wr (s4159.1 + 1)) s4159.2.2.2) + q4171)) - s4159.2.1)))]) (st := []) C (m_X6_put (p := 243) (a1 := wr (s4159.1 + 1)) (a2 := wr ((wr ((f_X6_at 243 (wr (s4159.1 + 1)) s4159.2.2.2) + q4171)) - s4159.2.1)) gw_243 (IR_wr _) (IR_wr _) e4176) cal_X6_put cl_X6 kd_243 ln_243 q_1437 dX8_measureAt_70 rfl rfl (Nat.le_of_ble_eq_true rfl) (Nat.le_of_ble_eq_true rfl) (Nat.le_of_ble_eq_true rfl) (Nat.le_of_ble_eq_true rfl) (Nat.le_of_ble_eq_true rfl) (fun h4174 => ?_)
      refine r_iload (pc := 73) (j := 1) C dX8_measureAt_73 rfl ?_
      refine r_istore_n (L' := [(2, .int (zi v4168)), (6, .int (zi q4171)), (5, .int (zi v4168)), (0, .ref (zad E 242)), (1, .int (zi a1)), (3, .int (zi s4159.2.1)), (4, .int (zi s4159.2.2.1))]) C dX8_measureAt_75 rfl (by decide) rfl ?_
      refine r_iload (pc := 76) (j := 1) C dX8_measureAt_76 rfl ?_
      refine r_istore_n (L' := [(3, .int (zi q4171)), (2, .int (zi v4168)), (6, .int (zi q4171)), (5, .int (zi v4168)), (0, .ref (zad E 242)), (1, .int (zi a1)), (4, .int (zi s4159.2.2.1))]) C dX8_measureAt_78 rfl (by decide) rfl ?_
      refine r_iinc (j := 6) (L' := [(4, .int (zi (wr (s4159.2.2.1 + 1)))), (3, .int (zi q4171)), (2, .int (zi v4168)), (6, .int (zi q4171)), (5, .int (zi v4168)), (0, .ref (zad E 242)), (1, .int (zi a1))]) C dX8_measureAt_79 rfl (by decide) rfl ?_
      refine r_goto (tgt := 7) C dX8_measureAt_82 (by decide) ?_
      refine r_L (L' := [(0, .ref (zad E 242)), (1, .int (zi a1)), (2, .int (zi v4168)), (3, .int (zi q4171)), (4, .int (zi (wr (s4159.2.2.1 + 1))))]) [5, 6, 2, 1, 0] rfl ?_
      exact k4162 (v4168, q4171, wr (s4159.2.2.1 + 1), q4175) ⟨h4169, h4170, (IR_wr _)⟩

def f_X8_measure (S : Sst) : Option (Sst) :=
  jn (f_X6_fill 243 9 0 S) fun (q4208 : Sst) =>
  Option.bind (lp (fun (s4210 : Int × Int × Sst) =>
    if (60 < s4210.2.1 ∨ f_X8_isSwept s4210.2.1 s4210.2.2 = 0) then
      (some (Sum.inr s4210.2.2))
    else
      (Option.bind (f_X8_stampOf s4210.2.1 s4210.2.2) fun (q4221 : Int) =>
      Option.bind (f_X8_showUnlessShown q4221 s4210.1 s4210.2.2) fun (q4224 : Int × Sst) =>
      Option.bind (f_X8_measureAt s4210.2.1 q4224.2) fun (q4227 : Sst) =>
      some (Sum.inl (q4224.1, wr (s4210.2.1 + 1), q4227)))) FU ((-1), 0, q4208)) fun (r4231 : Sst) =>
  some r4231
set_option maxRecDepth 100000 in
set_option maxHeartbeats 4000000 in
theorem m_X8_measure {l : Launch} {E : EwT} {S : Sst} {O : Smo}  {q : Sst} (hq : f_X8_measure S = some q) : MetG l E yX8_measure cX8_measure 3 none 6 133 0 0 n0 R0 S O [.ref (zad E 242)] (True) none n0 R0 q O := by
  refine ofG (L0 := [(0, .ref (zad E 242))]) hq (by decide +kernel) (Nat.le_of_ble_eq_true rfl) rfl (fun K _ C hQ => ?_)
  unfold f_X8_measure
  refine r_aload_n (pc := 0) (j := 0) C dX8_measure_0 rfl rfl ?_
  refine r_getR (j := 0) (r := 243) C cl_X8 kd_242 ln_242 (by decide) rfl r0_242_0 (by decide) q_614 dX8_measure_1 ?_
  refine r_bipush (v := 9) C dX8_measure_4 (by decide) ?_
  refine r_iconst (v := 0) C dX8_measure_6 (by decide) ?_
  refine r_jn (fun q4208 e4209 => ?_)
  refine r_cV0 (pc := 7) (k := 243) (As := [.int (zi 9), .int (zi 0)]) (st := []) C (m_X6_fill (p := 243) (a1 := 9) (a2 := 0) gw_243 (IRd rfl) (IRd rfl) e4209) cal_X6_fill cl_X6 kd_243 ln_243 q_1427 dX8_measure_7 rfl rfl (Nat.le_of_ble_eq_true rfl) (Nat.le_of_ble_eq_true rfl) (Nat.le_of_ble_eq_true rfl) (Nat.le_of_ble_eq_true rfl) (Nat.le_of_ble_eq_true rfl) (fun h4207 => ?_)
  refine r_iconst (v := (-1)) C dX8_measure_10 (by decide) ?_
  refine r_istore_n (L' := [(1, .int (zi (-1))), (0, .ref (zad E 242))]) C dX8_measure_11 rfl (by decide) rfl ?_
  refine r_iconst (v := 0) C dX8_measure_12 (by decide) ?_
  refine r_istore_n (L' := [(2, .int (zi 0)), (1, .int (zi (-1))), (0, .ref (zad E 242))]) C dX8_measure_13 rfl (by decide) rfl ?_
  refine r_L (L' := [(0, .ref (zad E 242)), (1, .int (zi (-1))), (2, .int (zi 0))]) [2, 1, 0] rfl ?_
  refine r_loop1 (fun s4210 : Int × Int × Sst => IR s4210.1 ∧ IR s4210.2.1) (fun s4210 => s4210.2.2) (fun s4210 => O) (fun s4210 => [(0, .ref (zad E 242)), (1, .int (zi s4210.1)), (2, .int (zi s4210.2.1))]) [] (fun r4231 : Sst => True) (fun r4231 => r4231) (fun r4231 => O) (fun r4231 => []) 50 (fun r4231 h4232 => ?_) (fun k4212 k4214 k4213 k4215 s4210 h4211 => ?_) ⟨(IRd rfl), (IRd rfl)⟩
  · exact r_return C hQ dX8_measure_50 (fun e => by cases e; exact ⟨trivial, rfl, rfl, rfl, rfl, rfl⟩)
  · refine r_iload_n (pc := 14) (j := 2) C dX8_measure_14 rfl rfl ?_
    refine r_bipush (v := 60) C dX8_measure_15 (by decide) ?_
    refine r_cut (60 < s4210.2.1 ∨ f_X8_isSwept s4210.2.1 s4210.2.2 = 0) 50 28 [] (fun c4217 => ?_) (fun c4217 => ?_) (fun k4218 k4219 => ?_)
    · refine r_bt c4217 ?_
      refine r_L (L' := []) [] rfl ?_
      exact k4215 s4210.2.2 trivial
    · refine r_bf c4217 ?_
      refine r_aload_n (pc := 28) (j := 0) C dX8_measure_28 rfl rfl ?_
      refine r_aload_n (pc := 29) (j := 0) C dX8_measure_29 rfl rfl ?_
      refine r_iload_n (pc := 30) (j := 2) C dX8_measure_30 rfl rfl ?_
      refine r_bb ?_
      refine r_bd (fun q4221 e4222 => ?_)
      refine r_cV1 (pc := 31) (k := 242) (As := [.int (zi s4210.2.1)]) (st := [.ref (zad E 242)]) C (m_X8_stampOf (a1 := s4210.2.1) h4211.2 e4222) cal_X8_stampOf cl_X8 kd_242 ln_242 q_1302 dX8_measure_31 rfl rfl (Nat.le_of_ble_eq_true rfl) (Nat.le_of_ble_eq_true rfl) (Nat.le_of_ble_eq_true rfl) (Nat.le_of_ble_eq_true rfl) (Nat.le_of_ble_eq_true rfl) (fun h4220 => ?_)
      refine r_iload_n (pc := 34) (j := 1) C dX8_measure_34 rfl rfl ?_
      refine r_bb ?_
      refine r_bd (fun q4224 e4225 => ?_)
      refine r_cV1 (pc := 35) (k := 242) (As := [.int (zi q4221), .int (zi s4210.1)]) (st := []) C (m_X8_showUnlessShown (a1 := q4221) (a2 := s4210.1) h4220 h4211.1 e4225) cal_X8_showUnlessShown cl_X8 kd_242 ln_242 q_1446 dX8_measure_35 rfl rfl (Nat.le_of_ble_eq_true rfl) (Nat.le_of_ble_eq_true rfl) (Nat.le_of_ble_eq_true rfl) (Nat.le_of_ble_eq_true rfl) (Nat.le_of_ble_eq_true rfl) (fun h4223 => ?_)
      refine r_istore_n (L' := [(1, .int (zi q4224.1)), (0, .ref (zad E 242)), (2, .int (zi s4210.2.1))]) C dX8_measure_38 rfl (by decide) rfl ?_
      refine r_aload_n (pc := 39) (j := 1) C dX8_measure_39 rfl rfl ?_
      refine r_iload_n (pc := 40) (j := 2) C dX8_measure_40 rfl rfl ?_
      refine r_bb ?_
      refine r_bd (fun q4227 e4228 => ?_)
      refine r_cV0 (pc := 41) (k := 242) (As := [.int (zi s4210.2.1)]) (st := []) C (m_X8_measureAt (a1 := s4210.2.1) h4211.2 e4228) cal_X8_measureAt cl_X8 kd_242 ln_242 q_1450 dX8_measure_41 rfl rfl (Nat.le_of_ble_eq_true rfl) (Nat.le_of_ble_eq_true rfl) (Nat.le_of_ble_eq_true rfl) (Nat.le_of_ble_eq_true rfl) (Nat.le_of_ble_eq_true rfl) (fun h4226 => ?_)
      refine r_iinc (j := 2) (L' := [(2, .int (zi (wr (s4210.2.1 + 1)))), (1, .int (zi q4224.1)), (0, .ref (zad E 242))]) C dX8_measure_44 rfl (by decide) rfl ?_
      refine r_goto (tgt := 14) C dX8_measure_47 (by decide) ?_
      refine r_L (L' := [(0, .ref (zad E 242)), (1, .int (zi q4224.1)), (2, .int (zi (wr (s4210.2.1 + 1))))]) [2, 1, 0] rfl ?_
      exact k4213 (q4224.1, wr (s4210.2.1 + 1), q4227) ⟨h4223, (IR_wr _)⟩
    · refine r_icmp_gt (tgt := 50) C h4211.2 (IRd rfl) dX8_measure_17 (by decide) (fun c4229 => ?_) (fun c4229 => ?_)
      · exact k4218 (Or.inl c4229)
      · refine r_aload_n (pc := 20) (j := 0) C dX8_measure_20 rfl rfl ?_
        refine r_iload_n (pc := 21) (j := 2) C dX8_measure_21 rfl rfl ?_
        refine r_cV1 (pc := 22) (k := 242) (As := [.int (zi s4210.2.1)]) (st := []) C (m_X8_isSwept (a1 := s4210.2.1) h4211.2 rfl) cal_X8_isSwept cl_X8 kd_242 ln_242 q_1297 dX8_measure_22 rfl rfl (Nat.le_of_ble_eq_true rfl) (Nat.le_of_ble_eq_true rfl) (Nat.le_of_ble_eq_true rfl) (Nat.le_of_ble_eq_true rfl) (Nat.le_of_ble_eq_true rfl) (fun h4216 => ?_)
        refine r_if_eq (tgt := 50) C h4216.ir dX8_measure_25 (by decide) (fun c4230 => ?_) (fun c4230 => ?_)
        · exact k4218 (Or.inr c4230)
        · exact k4219 (fun w => w.elim c4229 c4230)

def f_X8_hide (S : Sst) : Option (Sst) :=
  jn (upS S 242 2 0) fun (S4323 : Sst) =>
  jn (upS S4323 242 3 0) fun (S4324 : Sst) =>
  jn (upS S4324 242 4 (-1)) fun (S4325 : Sst) =>
  Option.bind (lp (fun (s4326 : Int × Int × Sst) =>
    if (60 < s4326.2.1 ∨ f_X8_isSwept s4326.2.1 s4326.2.2 = 0) then
      (some (Sum.inr s4326.2.2))
    else
      (Option.bind (f_X8_stampOf s4326.2.1 s4326.2.2) fun (q4337 : Int) =>
      Option.bind (f_X8_showUnlessShown q4337 s4326.1 s4326.2.2) fun (q4340 : Int × Sst) =>
      Option.bind (f_X8_countFartherUp s4326.2.1 0 q4340.2) fun (q4343 : Sst) =>
      jn (
        if q4343.2 242 4 < q4343.2 242 1 then
          (jn (upS q4343 242 4 (q4343.2 242 1)) fun (S4353 : Sst) =>
          jn (upS S4353 242 2 s4326.2.1) fun (S4354 : Sst) =>
          S4354)
        else
          (q4343)) fun (q4347 : Sst) =>
      some (Sum.inl (q4340.1, wr (s4326.2.1 + 1), q4347)))) FU ((-1), 0, S4325)) fun (r4357 : Sst) =>
  some r4357
set_option maxRecDepth 100000 in
set_option maxHeartbeats 4000000 in
theorem m_X8_hide {l : Launch} {E : EwT} {S : Sst} {O : Smo}  {q : Sst} (hq : f_X8_hide S = some q) : MetG l E yX8_hide cX8_hide 3 none 6 133 0 0 n0 R0 S O [.ref (zad E 242)] (True) none n0 R0 q O := by
  refine ofG (L0 := [(0, .ref (zad E 242))]) hq (by decide +kernel) (Nat.le_of_ble_eq_true rfl) rfl (fun K _ C hQ => ?_)
  unfold f_X8_hide
  refine r_aload_n (pc := 0) (j := 0) C dX8_hide_0 rfl rfl ?_
  refine r_iconst (v := 0) C dX8_hide_1 (by decide) ?_
  refine r_putS C cl_X8 kd_242 ln_242 lc_242 (by decide) (by decide) rfl rfl rfl (IRd rfl) q_618 dX8_hide_2 (fun S4323 => ?_)
  refine r_aload_n (pc := 5) (j := 0) C dX8_hide_5 rfl rfl ?_
  refine r_iconst (v := 0) C dX8_hide_6 (by decide) ?_
  refine r_putS C cl_X8 kd_242 ln_242 lc_242 (by decide) (by decide) rfl rfl rfl (IRd rfl) q_620 dX8_hide_7 (fun S4324 => ?_)
  refine r_aload_n (pc := 10) (j := 0) C dX8_hide_10 rfl rfl ?_
  refine r_iconst (v := (-1)) C dX8_hide_11 (by decide) ?_
  refine r_putS C cl_X8 kd_242 ln_242 lc_242 (by decide) (by decide) rfl rfl rfl (IRd rfl) q_622 dX8_hide_12 (fun S4325 => ?_)
  refine r_iconst (v := (-1)) C dX8_hide_15 (by decide) ?_
  refine r_istore_n (L' := [(1, .int (zi (-1))), (0, .ref (zad E 242))]) C dX8_hide_16 rfl (by decide) rfl ?_
  refine r_iconst (v := 0) C dX8_hide_17 (by decide) ?_
  refine r_istore_n (L' := [(2, .int (zi 0)), (1, .int (zi (-1))), (0, .ref (zad E 242))]) C dX8_hide_18 rfl (by decide) rfl ?_
  refine r_L (L' := [(0, .ref (zad E 242)), (1, .int (zi (-1))), (2, .int (zi 0))]) [2, 1, 0] rfl ?_
  refine r_loop1 (fun s4326 : Int × Int × Sst => IR s4326.1 ∧ IR s4326.2.1) (fun s4326 => s4326.2.2) (fun s4326 => O) (fun s4326 => [(0, .ref (zad E 242)), (1, .int (zi s4326.1)), (2, .int (zi s4326.2.1))]) [] (fun r4357 : Sst => True) (fun r4357 => r4357) (fun r4357 => O) (fun r4357 => []) 80 (fun r4357 h4358 => ?_) (fun k4328 k4330 k4329 k4331 s4326 h4327 => ?_) ⟨(IRd rfl), (IRd rfl)⟩
  · exact r_return C hQ dX8_hide_80 (fun e => by cases e; exact ⟨trivial, rfl, rfl, rfl, rfl, rfl⟩)
  · refine r_iload_n (pc := 19) (j := 2) C dX8_hide_19 rfl rfl ?_
    refine r_bipush (v := 60) C dX8_hide_20 (by decide) ?_
    refine r_cut (60 < s4326.2.1 ∨ f_X8_isSwept s4326.2.1 s4326.2.2 = 0) 80 33 [] (fun c4333 => ?_) (fun c4333 => ?_) (fun k4334 k4335 => ?_)
    · refine r_bt c4333 ?_
      refine r_L (L' := []) [] rfl ?_
      exact k4331 s4326.2.2 trivial
    · refine r_bf c4333 ?_
      refine r_aload_n (pc := 33) (j := 0) C dX8_hide_33 rfl rfl ?_
      refine r_aload_n (pc := 34) (j := 0) C dX8_hide_34 rfl rfl ?_
      refine r_iload_n (pc := 35) (j := 2) C dX8_hide_35 rfl rfl ?_
      refine r_bb ?_
      refine r_bd (fun q4337 e4338 => ?_)
      refine r_cV1 (pc := 36) (k := 242) (As := [.int (zi s4326.2.1)]) (st := [.ref (zad E 242)]) C (m_X8_stampOf (a1 := s4326.2.1) h4327.2 e4338) cal_X8_stampOf cl_X8 kd_242 ln_242 q_1302 dX8_hide_36 rfl rfl (Nat.le_of_ble_eq_true rfl) (Nat.le_of_ble_eq_true rfl) (Nat.le_of_ble_eq_true rfl) (Nat.le_of_ble_eq_true rfl) (Nat.le_of_ble_eq_true rfl) (fun h4336 => ?_)
      refine r_iload_n (pc := 39) (j := 1) C dX8_hide_39 rfl rfl ?_
      refine r_bb ?_
      refine r_bd (fun q4340 e4341 => ?_)
      refine r_cV1 (pc := 40) (k := 242) (As := [.int (zi q4337), .int (zi s4326.1)]) (st := []) C (m_X8_showUnlessShown (a1 := q4337) (a2 := s4326.1) h4336 h4327.1 e4341) cal_X8_showUnlessShown cl_X8 kd_242 ln_242 q_1446 dX8_hide_40 rfl rfl (Nat.le_of_ble_eq_true rfl) (Nat.le_of_ble_eq_true rfl) (Nat.le_of_ble_eq_true rfl) (Nat.le_of_ble_eq_true rfl) (Nat.le_of_ble_eq_true rfl) (fun h4339 => ?_)
      refine r_istore_n (L' := [(1, .int (zi q4340.1)), (0, .ref (zad E 242)), (2, .int (zi s4326.2.1))]) C dX8_hide_43 rfl (by decide) rfl ?_
      refine r_aload_n (pc := 44) (j := 1) C dX8_hide_44 rfl rfl ?_
      refine r_iload_n (pc := 45) (j := 2) C dX8_hide_45 rfl rfl ?_
      refine r_iconst (v := 0) C dX8_hide_46 (by decide) ?_
      refine r_bb ?_
      refine r_bd (fun q4343 e4344 => ?_)
      refine r_cV0 (pc := 47) (k := 242) (As := [.int (zi s4326.2.1), .int (zi 0)]) (st := []) C (m_X8_countFartherUp (a1 := s4326.2.1) (a2 := 0) h4327.2 (IRd rfl) e4344) cal_X8_countFartherUp cl_X8 kd_242 ln_242 q_1307 dX8_hide_47 rfl rfl (Nat.le_of_ble_eq_true rfl) (Nat.le_of_ble_eq_true rfl) (Nat.le_of_ble_eq_true rfl) (Nat.le_of_ble_eq_true rfl) (Nat.le_of_ble_eq_true rfl) (fun h4342 => ?_)
      refine r_aload_n (pc := 50) (j := 1) C dX8_hide_50 rfl rfl ?_
      refine r_getS (j := 1) C cl_X8 kd_242 ln_242 lc_242 (by decide) (by decide) rfl q_616 dX8_hide_51 (fun h4345 => ?_)
      refine r_aload_n (pc := 54) (j := 1) C dX8_hide_54 rfl rfl ?_
      refine r_getS (j := 4) C cl_X8 kd_242 ln_242 lc_242 (by decide) (by decide) rfl q_622 dX8_hide_55 (fun h4346 => ?_)
      refine r_bj ?_
      refine r_join (fun q4347 : Sst => True) (fun q4347 => q4347) (fun q4347 => O) (fun q4347 => [(0, .ref (zad E 242)), (1, .int (zi q4340.1)), (2, .int (zi s4326.2.1))]) 74 (fun q4347 => []) (fun q4347 h4348 => ?_) (fun k4349 k4350 => ?_)
      · refine r_iinc (j := 2) (L' := [(2, .int (zi (wr (s4326.2.1 + 1)))), (0, .ref (zad E 242)), (1, .int (zi q4340.1))]) C dX8_hide_74 rfl (by decide) rfl ?_
        refine r_goto (tgt := 19) C dX8_hide_77 (by decide) ?_
        refine r_L (L' := [(0, .ref (zad E 242)), (1, .int (zi q4340.1)), (2, .int (zi (wr (s4326.2.1 + 1))))]) [1, 2, 0] rfl ?_
        exact k4329 (q4340.1, wr (s4326.2.1 + 1), q4347) ⟨h4339, (IR_wr _)⟩
      · refine r_icmp_le (tgt := 74) C h4345 h4346 dX8_hide_58 (by decide) (fun c4351 => ?_) (fun c4351 => ?_)
        · refine r_jf c4351 ?_
          refine r_L (L' := [(0, .ref (zad E 242)), (1, .int (zi q4340.1)), (2, .int (zi s4326.2.1))]) [1, 0, 2] rfl ?_
          exact k4350 q4343 trivial
        · refine r_jt c4351 ?_
          refine r_aload_n (pc := 61) (j := 1) C dX8_hide_61 rfl rfl ?_
          refine r_aload_n (pc := 62) (j := 1) C dX8_hide_62 rfl rfl ?_
          refine r_getS (j := 1) C cl_X8 kd_242 ln_242 lc_242 (by decide) (by decide) rfl q_616 dX8_hide_63 (fun h4352 => ?_)
          refine r_jj ?_
          refine r_putS C cl_X8 kd_242 ln_242 lc_242 (by decide) (by decide) rfl rfl rfl h4352 q_622 dX8_hide_66 (fun S4353 => ?_)
          refine r_aload_n (pc := 69) (j := 1) C dX8_hide_69 rfl rfl ?_
          refine r_iload_n (pc := 70) (j := 2) C dX8_hide_70 rfl rfl ?_
          refine r_jj ?_
          refine r_putS C cl_X8 kd_242 ln_242 lc_242 (by decide) (by decide) rfl rfl rfl h4327.2 q_618 dX8_hide_71 (fun S4354 => ?_)
          refine r_L (L' := [(0, .ref (zad E 242)), (1, .int (zi q4340.1)), (2, .int (zi s4326.2.1))]) [1, 0, 2] rfl ?_
          exact k4350 S4354 trivial
    · refine r_icmp_gt (tgt := 80) C h4327.2 (IRd rfl) dX8_hide_22 (by decide) (fun c4355 => ?_) (fun c4355 => ?_)
      · exact k4334 (Or.inl c4355)
      · refine r_aload_n (pc := 25) (j := 0) C dX8_hide_25 rfl rfl ?_
        refine r_iload_n (pc := 26) (j := 2) C dX8_hide_26 rfl rfl ?_
        refine r_cV1 (pc := 27) (k := 242) (As := [.int (zi s4326.2.1)]) (st := []) C (m_X8_isSwept (a1 := s4326.2.1) h4327.2 rfl) cal_X8_isSwept cl_X8 kd_242 ln_242 q_1297 dX8_hide_27 rfl rfl (Nat.le_of_ble_eq_true rfl) (Nat.le_of_ble_eq_true rfl) (Nat.le_of_ble_eq_true rfl) (Nat.le_of_ble_eq_true rfl) (Nat.le_of_ble_eq_true rfl) (fun h4332 => ?_)
        refine r_if_eq (tgt := 80) C h4332.ir dX8_hide_30 (by decide) (fun c4356 => ?_) (fun c4356 => ?_)
        · exact k4334 (Or.inr c4356)
        · exact k4335 (fun w => w.elim c4355 c4356)

def f_X9_tell (a1 : Int) (a2 : Int) (S : Sst) : Int × Sst :=
  if f_X6_size 254 S < 30 then
    (jn (f_X6_add 254 a1 S) fun (q4379 : Sst) =>
    jn (
      if a2 = 0 then
        (0)
      else
        (1)) fun (q4381 : Int) =>
    jn (f_X6_add 256 q4381 q4379) fun (q4387 : Sst) =>
    jn (f_X6_add 258 (q4387.2 249 2) q4387) fun (q4391 : Sst) =>
    jn (f_X6_add 260 (-1) q4391) fun (q4394 : Sst) =>
    (wr ((f_X6_size 254 q4394) - 1), q4394))
  else
    (((-1), S))
set_option maxRecDepth 100000 in
set_option maxHeartbeats 4000000 in
theorem m_X9_tell {l : Launch} {E : EwT} {S : Sst} {O : Smo} {a1 : Int} (ha1 : IR a1) {a2 : Int} (ha2 : BR a2) {q : Int × Sst} (hq : f_X9_tell a1 a2 S = q) : MetG l E yX9_tell cX9_tell 3 (some .int) 1 21 0 0 n0 R0 S O [.ref (zad E 249), .int (zi a1), .int (zi a2)] (IR q.1) (some (.int (zi q.1))) n0 R0 q.2 O := by
  refine ofG (L0 := [(0, .ref (zad E 249)), (1, .int (zi a1)), (2, .int (zi a2))]) hq (by decide +kernel) (Nat.le_of_ble_eq_true rfl) rfl (fun K _ C hQ => ?_)
  unfold f_X9_tell
  refine r_aload_n (pc := 0) (j := 0) C dX9_tell_0 rfl rfl ?_
  refine r_getR (j := 1) (r := 254) C cl_X9 kd_249 ln_249 (by decide) rfl r0_249_1 (by decide) q_660 dX9_tell_1 ?_
  refine r_cV1 (pc := 4) (k := 254) (As := []) (st := []) C (m_X6_size (p := 254) gw_254 rfl) cal_X6_size cl_X6 kd_254 ln_254 q_1482 dX9_tell_4 rfl rfl (Nat.le_of_ble_eq_true rfl) (Nat.le_of_ble_eq_true rfl) (Nat.le_of_ble_eq_true rfl) (Nat.le_of_ble_eq_true rfl) (Nat.le_of_ble_eq_true rfl) (fun h4376 => ?_)
  refine r_bipush (v := 30) C dX9_tell_7 (by decide) ?_
  refine r_icmp_lt (tgt := 14) C h4376 (IRd rfl) dX9_tell_9 (by decide) (fun c4377 => ?_) (fun c4377 => ?_)
  · refine r_t c4377 ?_
    refine r_aload_n (pc := 14) (j := 0) C dX9_tell_14 rfl rfl ?_
    refine r_getR (j := 1) (r := 254) C cl_X9 kd_249 ln_249 (by decide) rfl r0_249_1 (by decide) q_660 dX9_tell_15 ?_
    refine r_iload_n (pc := 18) (j := 1) C dX9_tell_18 rfl rfl ?_
    refine r_jn (fun q4379 e4380 => ?_)
    refine r_cV0 (pc := 19) (k := 254) (As := [.int (zi a1)]) (st := []) C (m_X6_add (p := 254) (a1 := a1) gw_254 ha1 e4380) cal_X6_add cl_X6 kd_254 ln_254 q_1483 dX9_tell_19 rfl rfl (Nat.le_of_ble_eq_true rfl) (Nat.le_of_ble_eq_true rfl) (Nat.le_of_ble_eq_true rfl) (Nat.le_of_ble_eq_true rfl) (Nat.le_of_ble_eq_true rfl) (fun h4378 => ?_)
    refine r_aload_n (pc := 22) (j := 0) C dX9_tell_22 rfl rfl ?_
    refine r_getR (j := 4) (r := 256) C cl_X9 kd_249 ln_249 (by decide) rfl r0_249_4 (by decide) q_665 dX9_tell_23 ?_
    refine r_iload_n (pc := 26) (j := 2) C dX9_tell_26 rfl rfl ?_
    refine r_join (fun q4381 : Int => BR q4381) (fun q4381 => q4379) (fun q4381 => O) (fun q4381 => [(0, .ref (zad E 249))]) 35 (fun q4381 => [.int (zi q4381), .ref (zad E 256)]) (fun q4381 h4382 => ?_) (fun k4383 k4384 => ?_)
    · refine r_jn (fun q4387 e4388 => ?_)
      refine r_cV0 (pc := 35) (k := 256) (As := [.int (zi q4381)]) (st := []) C (m_X6_add (p := 256) (a1 := q4381) gw_256 h4382.ir e4388) cal_X6_add cl_X6 kd_256 ln_256 q_1483 dX9_tell_35 rfl rfl (Nat.le_of_ble_eq_true rfl) (Nat.le_of_ble_eq_true rfl) (Nat.le_of_ble_eq_true rfl) (Nat.le_of_ble_eq_true rfl) (Nat.le_of_ble_eq_true rfl) (fun h4386 => ?_)
      refine r_aload_n (pc := 38) (j := 0) C dX9_tell_38 rfl rfl ?_
      refine r_getR (j := 5) (r := 258) C cl_X9 kd_249 ln_249 (by decide) rfl r0_249_5 (by decide) q_666 dX9_tell_39 ?_
      refine r_aload_n (pc := 42) (j := 0) C dX9_tell_42 rfl rfl ?_
      refine r_getS (j := 2) C cl_X9 kd_249 ln_249 lc_249 (by decide) (by decide) rfl q_662 dX9_tell_43 (fun h4389 => ?_)
      refine r_jn (fun q4391 e4392 => ?_)
      refine r_cV0 (pc := 46) (k := 258) (As := [.int (zi (q4387.2 249 2))]) (st := []) C (m_X6_add (p := 258) (a1 := q4387.2 249 2) gw_258 h4389 e4392) cal_X6_add cl_X6 kd_258 ln_258 q_1483 dX9_tell_46 rfl rfl (Nat.le_of_ble_eq_true rfl) (Nat.le_of_ble_eq_true rfl) (Nat.le_of_ble_eq_true rfl) (Nat.le_of_ble_eq_true rfl) (Nat.le_of_ble_eq_true rfl) (fun h4390 => ?_)
      refine r_aload_n (pc := 49) (j := 0) C dX9_tell_49 rfl rfl ?_
      refine r_getR (j := 6) (r := 260) C cl_X9 kd_249 ln_249 (by decide) rfl r0_249_6 (by decide) q_667 dX9_tell_50 ?_
      refine r_iconst (v := (-1)) C dX9_tell_53 (by decide) ?_
      refine r_jn (fun q4394 e4395 => ?_)
      refine r_cV0 (pc := 54) (k := 260) (As := [.int (zi (-1))]) (st := []) C (m_X6_add (p := 260) (a1 := (-1)) gw_260 (IRd rfl) e4395) cal_X6_add cl_X6 kd_260 ln_260 q_1483 dX9_tell_54 rfl rfl (Nat.le_of_ble_eq_true rfl) (Nat.le_of_ble_eq_true rfl) (Nat.le_of_ble_eq_true rfl) (Nat.le_of_ble_eq_true rfl) (Nat.le_of_ble_eq_true rfl) (fun h4393 => ?_)
      refine r_aload_n (pc := 57) (j := 0) C dX9_tell_57 rfl rfl ?_
      refine r_getR (j := 1) (r := 254) C cl_X9 kd_249 ln_249 (by decide) rfl r0_249_1 (by decide) q_660 dX9_tell_58 ?_
      refine r_cV1 (pc := 61) (k := 254) (As := []) (st := []) C (m_X6_size (p := 254) gw_254 rfl) cal_X6_size cl_X6 kd_254 ln_254 q_1482 dX9_tell_61 rfl rfl (Nat.le_of_ble_eq_true rfl) (Nat.le_of_ble_eq_true rfl) (Nat.le_of_ble_eq_true rfl) (Nat.le_of_ble_eq_true rfl) (Nat.le_of_ble_eq_true rfl) (fun h4396 => ?_)
      refine r_iconst (v := 1) C dX9_tell_64 (by decide) ?_
      refine r_isub C dX9_tell_65 ?_
      exact r_ireturn C hQ rfl dX9_tell_66 (fun e => by subst e; exact ⟨(IR_wr _), rfl, rfl, rfl, rfl, rfl⟩)
    · refine r_if_eq (tgt := 34) C ha2.ir dX9_tell_27 (by decide) (fun c4385 => ?_) (fun c4385 => ?_)
      · refine r_jt c4385 ?_
        refine r_iconst (v := 0) C dX9_tell_34 (by decide) ?_
        refine r_L (L' := [(0, .ref (zad E 249))]) [0] rfl ?_
        exact k4384 0 (BRd rfl)
      · refine r_jf c4385 ?_
        refine r_iconst (v := 1) C dX9_tell_30 (by decide) ?_
        refine r_goto (tgt := 35) C dX9_tell_31 (by decide) ?_
        refine r_L (L' := [(0, .ref (zad E 249))]) [0] rfl ?_
        exact k4384 1 (BRd rfl)
  · refine r_f c4377 ?_
    refine r_iconst (v := (-1)) C dX9_tell_12 (by decide) ?_
    exact r_ireturn C hQ rfl dX9_tell_13 (fun e => by subst e; exact ⟨(IRd rfl), rfl, rfl, rfl, rfl, rfl⟩)

def f_X9_takeBack (a1 : Int) (S : Sst) : Int × Sst :=
  if ((a1 < 0 ∨ ¬ a1 < f_X6_size 254 S) ∨ ¬ f_X6_at 260 a1 S = (-1)) then
    ((0, S))
  else
    (jn (f_X6_put 260 a1 (S.2 249 2) S) fun (q4413 : Sst) =>
    (1, q4413))
set_option maxRecDepth 100000 in
set_option maxHeartbeats 4000000 in
theorem m_X9_takeBack {l : Launch} {E : EwT} {S : Sst} {O : Smo} {a1 : Int} (ha1 : IR a1) {q : Int × Sst} (hq : f_X9_takeBack a1 S = q) : MetG l E yX9_takeBack cX9_takeBack 2 (some .boolean) 1 22 0 0 n0 R0 S O [.ref (zad E 249), .int (zi a1)] (BR q.1) (some (.int (zi q.1))) n0 R0 q.2 O := by
  refine ofG (L0 := [(0, .ref (zad E 249)), (1, .int (zi a1))]) hq (by decide +kernel) (Nat.le_of_ble_eq_true rfl) rfl (fun K _ C hQ => ?_)
  unfold f_X9_takeBack
  refine r_iload_n (pc := 0) (j := 1) C dX9_takeBack_0 rfl rfl ?_
  refine r_cut ((a1 < 0 ∨ ¬ a1 < f_X6_size 254 S) ∨ ¬ f_X6_at 260 a1 S = (-1)) 27 29 [] (fun c4408 => ?_) (fun c4408 => ?_) (fun k4409 k4410 => ?_)
  · refine r_t c4408 ?_
    refine r_iconst (v := 0) C dX9_takeBack_27 (by decide) ?_
    exact r_ireturn C hQ (nar_z (BRd rfl)) dX9_takeBack_28 (fun e => by subst e; exact ⟨(BRd rfl), rfl, rfl, rfl, rfl, rfl⟩)
  · refine r_f c4408 ?_
    refine r_aload_n (pc := 29) (j := 0) C dX9_takeBack_29 rfl rfl ?_
    refine r_getR (j := 6) (r := 260) C cl_X9 kd_249 ln_249 (by decide) rfl r0_249_6 (by decide) q_667 dX9_takeBack_30 ?_
    refine r_iload_n (pc := 33) (j := 1) C dX9_takeBack_33 rfl rfl ?_
    refine r_aload_n (pc := 34) (j := 0) C dX9_takeBack_34 rfl rfl ?_
    refine r_getS (j := 2) C cl_X9 kd_249 ln_249 lc_249 (by decide) (by decide) rfl q_662 dX9_takeBack_35 (fun h4411 => ?_)
    refine r_jn (fun q4413 e4414 => ?_)
    refine r_cV0 (pc := 38) (k := 260) (As := [.int (zi a1), .int (zi (S.2 249 2))]) (st := []) C (m_X6_put (p := 260) (a1 := a1) (a2 := S.2 249 2) gw_260 ha1 h4411 e4414) cal_X6_put cl_X6 kd_260 ln_260 q_1493 dX9_takeBack_38 rfl rfl (Nat.le_of_ble_eq_true rfl) (Nat.le_of_ble_eq_true rfl) (Nat.le_of_ble_eq_true rfl) (Nat.le_of_ble_eq_true rfl) (Nat.le_of_ble_eq_true rfl) (fun h4412 => ?_)
    refine r_iconst (v := 1) C dX9_takeBack_41 (by decide) ?_
    exact r_ireturn C hQ (nar_z (BRd rfl)) dX9_takeBack_42 (fun e => by subst e; exact ⟨(BRd rfl), rfl, rfl, rfl, rfl, rfl⟩)
  · refine r_if_lt (tgt := 27) C ha1 dX9_takeBack_1 (by decide) (fun c4415 => ?_) (fun c4415 => ?_)
    · exact k4409 (Or.inl (Or.inl c4415))
    · refine r_iload_n (pc := 4) (j := 1) C dX9_takeBack_4 rfl rfl ?_
      refine r_aload_n (pc := 5) (j := 0) C dX9_takeBack_5 rfl rfl ?_
      refine r_getR (j := 1) (r := 254) C cl_X9 kd_249 ln_249 (by decide) rfl r0_249_1 (by decide) q_660 dX9_takeBack_6 ?_
      refine r_cV1 (pc := 9) (k := 254) (As := []) (st := [.int (zi a1)]) C (m_X6_size (p := 254) gw_254 rfl) cal_X6_size cl_X6 kd_254 ln_254 q_1482 dX9_takeBack_9 rfl rfl (Nat.le_of_ble_eq_true rfl) (Nat.le_of_ble_eq_true rfl) (Nat.le_of_ble_eq_true rfl) (Nat.le_of_ble_eq_true rfl) (Nat.le_of_ble_eq_true rfl) (fun h4406 => ?_)
      refine r_icmp_ge (tgt := 27) C ha1 h4406 dX9_takeBack_12 (by decide) (fun c4416 => ?_) (fun c4416 => ?_)
      · exact k4409 (Or.inl (Or.inr c4416))
      · refine r_aload_n (pc := 15) (j := 0) C dX9_takeBack_15 rfl rfl ?_
        refine r_getR (j := 6) (r := 260) C cl_X9 kd_249 ln_249 (by decide) rfl r0_249_6 (by decide) q_667 dX9_takeBack_16 ?_
        refine r_iload_n (pc := 19) (j := 1) C dX9_takeBack_19 rfl rfl ?_
        refine r_cV1 (pc := 20) (k := 260) (As := [.int (zi a1)]) (st := []) C (m_X6_at (p := 260) (a1 := a1) gw_260 ha1 rfl) cal_X6_at cl_X6 kd_260 ln_260 q_1492 dX9_takeBack_20 rfl rfl (Nat.le_of_ble_eq_true rfl) (Nat.le_of_ble_eq_true rfl) (Nat.le_of_ble_eq_true rfl) (Nat.le_of_ble_eq_true rfl) (Nat.le_of_ble_eq_true rfl) (fun h4407 => ?_)
        refine r_iconst (v := (-1)) C dX9_takeBack_23 (by decide) ?_
        refine r_icmp_eq (tgt := 29) C h4407 (IRd rfl) dX9_takeBack_24 (by decide) (fun c4417 => ?_) (fun c4417 => ?_)
        · exact k4410 (fun w => w.elim (fun w => w.elim c4415 (fun x => x c4416)) (fun x => x c4417))
        · exact k4409 (Or.inr c4417)

def f_X9_goOn (a1 : Int) (S : Sst) : Int × Sst :=
  if ((a1 < 0 ∨ 1000 < a1) ∨ 100000 < wr ((S.2 249 2) + a1)) then
    (((-1), S))
  else
    (jn (upS S 249 2 (wr ((S.2 249 2) + a1))) fun (S4426 : Sst) =>
    (S4426.2 249 2, S4426))
set_option maxRecDepth 100000 in
set_option maxHeartbeats 4000000 in
theorem m_X9_goOn {l : Launch} {E : EwT} {S : Sst} {O : Smo} {a1 : Int} (ha1 : IR a1) {q : Int × Sst} (hq : f_X9_goOn a1 S = q) : MetG l E yX9_goOn cX9_goOn 2 (some .int) 0 0 0 0 n0 R0 S O [.ref (zad E 249), .int (zi a1)] (IR q.1) (some (.int (zi q.1))) n0 R0 q.2 O := by
  refine ofG (L0 := [(0, .ref (zad E 249)), (1, .int (zi a1))]) hq (by decide +kernel) (Nat.le_of_ble_eq_true rfl) rfl (fun K _ C hQ => ?_)
  unfold f_X9_goOn
  refine r_iload_n (pc := 0) (j := 1) C dX9_goOn_0 rfl rfl ?_
  refine r_cut ((a1 < 0 ∨ 1000 < a1) ∨ 100000 < wr ((S.2 249 2) + a1)) 22 24 [] (fun c4422 => ?_) (fun c4422 => ?_) (fun k4423 k4424 => ?_)
  · refine r_t c4422 ?_
    refine r_iconst (v := (-1)) C dX9_goOn_22 (by decide) ?_
    exact r_ireturn C hQ rfl dX9_goOn_23 (fun e => by subst e; exact ⟨(IRd rfl), rfl, rfl, rfl, rfl, rfl⟩)
  · refine r_f c4422 ?_
    refine r_aload_n (pc := 24) (j := 0) C dX9_goOn_24 rfl rfl ?_
    refine r_dup C dX9_goOn_25 rfl ?_
    refine r_getS (j := 2) C cl_X9 kd_249 ln_249 lc_249 (by decide) (by decide) rfl q_662 dX9_goOn_26 (fun h4425 => ?_)
    refine r_iload_n (pc := 29) (j := 1) C dX9_goOn_29 rfl rfl ?_
    refine r_iadd C dX9_goOn_30 ?_
    refine r_putS C cl_X9 kd_249 ln_249 lc_249 (by decide) (by decide) rfl rfl rfl (IR_wr _) q_662 dX9_goOn_31 (fun S4426 => ?_)
    refine r_aload_n (pc := 34) (j := 0) C dX9_goOn_34 rfl rfl ?_
    refine r_getS (j := 2) C cl_X9 kd_249 ln_249 lc_249 (by decide) (by decide) rfl q_662 dX9_goOn_35 (fun h4427 => ?_)
    exact r_ireturn C hQ rfl dX9_goOn_38 (fun e => by subst e; exact ⟨h4427, rfl, rfl, rfl, rfl, rfl⟩)
  · refine r_if_lt (tgt := 22) C ha1 dX9_goOn_1 (by decide) (fun c4428 => ?_) (fun c4428 => ?_)
    · exact k4423 (Or.inl (Or.inl c4428))
    · refine r_iload_n (pc := 4) (j := 1) C dX9_goOn_4 rfl rfl ?_
      refine r_sipush (v := 1000) C dX9_goOn_5 (by decide) ?_
      refine r_icmp_gt (tgt := 22) C ha1 (IRd rfl) dX9_goOn_8 (by decide) (fun c4429 => ?_) (fun c4429 => ?_)
      · exact k4423 (Or.inl (Or.inr c4429))
      · refine r_aload_n (pc := 11) (j := 0) C dX9_goOn_11 rfl rfl ?_
        refine r_getS (j := 2) C cl_X9 kd_249 ln_249 lc_249 (by decide) (by decide) rfl q_662 dX9_goOn_12 (fun h4421 => ?_)
        refine r_iload_n (pc := 15) (j := 1) C dX9_goOn_15 rfl rfl ?_
        refine r_iadd C dX9_goOn_16 ?_
        refine r_ldc (v := 100000) C q_1502 dX9_goOn_17 (by decide) ?_
        refine r_icmp_le (tgt := 24) C (IR_wr _) (IRd rfl) dX9_goOn_19 (by decide) (fun c4430 => ?_) (fun c4430 => ?_)
        · exact k4424 (fun w => w.elim (fun w => w.elim c4428 c4429) c4430)
        · exact k4423 (Or.inr c4430)

def f_X9_counts (a1 : Int) (a2 : Int) (S : Sst) : Int :=
  jn (f_X6_at 260 a1 S) fun (v4487 : Int) =>
  jk (fun (q4490 : Unit) =>
    0) fun k4492 =>
  if a2 < f_X6_at 258 a1 S then
    (k4492 ())
  else
    (if (v4487 = (-1) ∨ a2 < v4487) then
      (1)
    else
      (k4492 ()))
set_option maxRecDepth 100000 in
set_option maxHeartbeats 4000000 in
theorem m_X9_counts {l : Launch} {E : EwT} {S : Sst} {O : Smo} {a1 : Int} (ha1 : IR a1) {a2 : Int} (ha2 : IR a2) {q : Int} (hq : f_X9_counts a1 a2 S = q) : MetG l E yX9_counts cX9_counts 4 (some .boolean) 1 21 0 0 n0 R0 S O [.ref (zad E 249), .int (zi a1), .int (zi a2)] (BR q) (some (.int (zi q))) n0 R0 S O := by
  refine ofG (L0 := [(0, .ref (zad E 249)), (1, .int (zi a1)), (2, .int (zi a2))]) hq (by decide +kernel) (Nat.le_of_ble_eq_true rfl) rfl (fun K _ C hQ => ?_)
  unfold f_X9_counts
  refine r_aload_n (pc := 0) (j := 0) C dX9_counts_0 rfl rfl ?_
  refine r_getR (j := 6) (r := 260) C cl_X9 kd_249 ln_249 (by decide) rfl r0_249_6 (by decide) q_667 dX9_counts_1 ?_
  refine r_iload_n (pc := 4) (j := 1) C dX9_counts_4 rfl rfl ?_
  refine r_cV1 (pc := 5) (k := 260) (As := [.int (zi a1)]) (st := []) C (m_X6_at (p := 260) (a1 := a1) gw_260 ha1 rfl) cal_X6_at cl_X6 kd_260 ln_260 q_1492 dX9_counts_5 rfl rfl (Nat.le_of_ble_eq_true rfl) (Nat.le_of_ble_eq_true rfl) (Nat.le_of_ble_eq_true rfl) (Nat.le_of_ble_eq_true rfl) (Nat.le_of_ble_eq_true rfl) (fun h4486 => ?_)
  refine r_jv h4486 (fun v4487 h4488 => ?_)
  refine r_istore_n (L' := [(3, .int (zi v4487)), (0, .ref (zad E 249)), (1, .int (zi a1)), (2, .int (zi a2))]) C dX9_counts_8 rfl (by decide) rfl ?_
  refine r_aload_n (pc := 9) (j := 1) C dX9_counts_9 rfl rfl ?_
  refine r_getR (j := 5) (r := 258) C cl_X9 kd_249 ln_249 (by decide) rfl r0_249_5 (by decide) q_666 dX9_counts_10 ?_
  refine r_iload_n (pc := 13) (j := 2) C dX9_counts_13 rfl rfl ?_
  refine r_cV1 (pc := 14) (k := 258) (As := [.int (zi a1)]) (st := []) C (m_X6_at (p := 258) (a1 := a1) gw_258 ha1 rfl) cal_X6_at cl_X6 kd_258 ln_258 q_1492 dX9_counts_14 rfl rfl (Nat.le_of_ble_eq_true rfl) (Nat.le_of_ble_eq_true rfl) (Nat.le_of_ble_eq_true rfl) (Nat.le_of_ble_eq_true rfl) (Nat.le_of_ble_eq_true rfl) (fun h4489 => ?_)
  refine r_iload_n (pc := 17) (j := 3) C dX9_counts_17 rfl rfl ?_
  refine r_jk (fun q4490 : Unit => True) (fun q4490 => S) (fun q4490 => O) (fun q4490 => []) 35 (fun q4490 => []) (fun q4490 h4491 => ?_) (fun k4492 k4493 => ?_)
  · refine r_iconst (v := 0) C dX9_counts_35 (by decide) ?_
    exact r_ireturn C hQ (nar_z (BRd rfl)) dX9_counts_36 (fun e => by subst e; exact ⟨(BRd rfl), rfl, rfl, rfl, rfl, rfl⟩)
  · refine r_icmp_gt (tgt := 35) C h4489 ha2 dX9_counts_18 (by decide) (fun c4494 => ?_) (fun c4494 => ?_)
    · refine r_t c4494 ?_
      refine r_L (L' := []) [] rfl ?_
      exact k4493 () trivial
    · refine r_f c4494 ?_
      refine r_iload_n (pc := 21) (j := 0) C dX9_counts_21 rfl rfl ?_
      refine r_iconst (v := (-1)) C dX9_counts_22 (by decide) ?_
      refine r_cut (v4487 = (-1) ∨ a2 < v4487) 31 35 [] (fun c4495 => ?_) (fun c4495 => ?_) (fun k4496 k4497 => ?_)
      · refine r_t c4495 ?_
        refine r_iconst (v := 1) C dX9_counts_31 (by decide) ?_
        refine r_goto (tgt := 36) C dX9_counts_32 (by decide) ?_
        exact r_ireturn C hQ (nar_z (BRd rfl)) dX9_counts_36 (fun e => by subst e; exact ⟨(BRd rfl), rfl, rfl, rfl, rfl, rfl⟩)
      · refine r_f c4495 ?_
        refine r_L (L' := []) [] rfl ?_
        exact k4493 () trivial
      · refine r_icmp_eq (tgt := 31) C h4488 (IRd rfl) dX9_counts_23 (by decide) (fun c4498 => ?_) (fun c4498 => ?_)
        · exact k4496 (Or.inl c4498)
        · refine r_iload_n (pc := 26) (j := 0) C dX9_counts_26 rfl rfl ?_
          refine r_iload_n (pc := 27) (j := 3) C dX9_counts_27 rfl rfl ?_
          refine r_icmp_le (tgt := 35) C h4488 ha2 dX9_counts_28 (by decide) (fun c4499 => ?_) (fun c4499 => ?_)
          · exact k4497 (fun w => w.elim c4498 c4499)
          · exact k4496 (Or.inr c4499)

def f_X9_agrees (a1 : Int) (a2 : Int) (S : Sst) : Option (Int) :=
  Option.bind (lp (fun (s4533 : Int) =>
    if s4533 < f_X6_size 254 S then
      (jn (
        if f_X6_at 254 s4533 S = a1 then
          (1)
        else
          (0)) fun (q4544 : Int) =>
      jn (
        if f_X6_at 256 s4533 S = 1 then
          (1)
        else
          (0)) fun (q4550 : Int) =>
      jn (
        if q4544 = q4550 then
          (1)
        else
          (0)) fun (q4555 : Int) =>
      if (f_X9_counts s4533 a2 S = 0 ∨ ¬ q4555 = 0) then
        (some (Sum.inl (wr (s4533 + 1))))
      else
        (some (Sum.inr (Sum.inl ()))))
    else
      (some (Sum.inr (Sum.inr ())))) FU 0) fun z4570 => Sum.elim (fun (r4566 : Unit) =>
    some 0) (fun (r4568 : Unit) =>
    some 1) z4570
set_option maxRecDepth 100000 in
set_option maxHeartbeats 4000000 in
theorem m_X9_agrees {l : Launch} {E : EwT} {S : Sst} {O : Smo} {a1 : Int} (ha1 : IR a1) {a2 : Int} (ha2 : IR a2) {q : Int} (hq : f_X9_agrees a1 a2 S = some q) : MetG l E yX9_agrees cX9_agrees 5 (some .boolean) 2 44 0 0 n0 R0 S O [.ref (zad E 249), .int (zi a1), .int (zi a2)] (BR q) (some (.int (zi q))) n0 R0 S O := by
  refine ofG (L0 := [(0, .ref (zad E 249)), (1, .int (zi a1)), (2, .int (zi a2))]) hq (by decide +kernel) (Nat.le_of_ble_eq_true rfl) rfl (fun K _ C hQ => ?_)
  unfold f_X9_agrees
  refine r_iconst (v := 0) C dX9_agrees_0 (by decide) ?_
  refine r_istore_n (L' := [(3, .int (zi 0)), (0, .ref (zad E 249)), (1, .int (zi a1)), (2, .int (zi a2))]) C dX9_agrees_1 rfl (by decide) rfl ?_
  refine r_L (L' := [(0, .ref (zad E 249)), (1, .int (zi a1)), (2, .int (zi a2)), (3, .int (zi 0))]) [1, 2, 3, 0] rfl ?_
  refine r_loop2 (fun s4533 : Int => IR s4533) (fun s4533 => S) (fun s4533 => O) (fun s4533 => [(0, .ref (zad E 249)), (1, .int (zi a1)), (2, .int (zi a2)), (3, .int (zi s4533))]) [] (fun r4566 : Unit => True) (fun r4566 => S) (fun r4566 => O) (fun r4566 => []) 71 (fun r4566 h4567 => ?_) (fun r4568 : Unit => True) (fun r4568 => S) (fun r4568 => O) (fun r4568 => []) 79 (fun r4568 h4569 => ?_) (fun k4535 k4537 k4539 k4536 k4538 k4540 s4533 h4534 => ?_) (IRd rfl)
  · refine r_iconst (v := 0) C dX9_agrees_71 (by decide) ?_
    exact r_ireturn C hQ (nar_z (BRd rfl)) dX9_agrees_72 (fun e => by cases e; exact ⟨(BRd rfl), rfl, rfl, rfl, rfl, rfl⟩)
  · refine r_iconst (v := 1) C dX9_agrees_79 (by decide) ?_
    exact r_ireturn C hQ (nar_z (BRd rfl)) dX9_agrees_80 (fun e => by cases e; exact ⟨(BRd rfl), rfl, rfl, rfl, rfl, rfl⟩)
  · refine r_iload_n (pc := 2) (j := 3) C dX9_agrees_2 rfl rfl ?_
    refine r_aload_n (pc := 3) (j := 0) C dX9_agrees_3 rfl rfl ?_
    refine r_getR (j := 1) (r := 254) C cl_X9 kd_249 ln_249 (by decide) rfl r0_249_1 (by decide) q_660 dX9_agrees_4 ?_
    refine r_cV1 (pc := 7) (k := 254) (As := []) (st := [.int (zi s4533)]) C (m_X6_size (p := 254) gw_254 rfl) cal_X6_size cl_X6 kd_254 ln_254 q_1482 dX9_agrees_7 rfl rfl (Nat.le_of_ble_eq_true rfl) (Nat.le_of_ble_eq_true rfl) (Nat.le_of_ble_eq_true rfl) (Nat.le_of_ble_eq_true rfl) (Nat.le_of_ble_eq_true rfl) (fun h4541 => ?_)
    refine r_icmp_ge (tgt := 79) C h4534 h4541 dX9_agrees_10 (by decide) (fun c4542 => ?_) (fun c4542 => ?_)
    · refine r_bf c4542 ?_
      refine r_L (L' := []) [] rfl ?_
      exact k4540 () trivial
    · refine r_bt c4542 ?_
      refine r_aload_n (pc := 13) (j := 0) C dX9_agrees_13 rfl rfl ?_
      refine r_getR (j := 1) (r := 254) C cl_X9 kd_249 ln_249 (by decide) rfl r0_249_1 (by decide) q_660 dX9_agrees_14 ?_
      refine r_iload_n (pc := 17) (j := 3) C dX9_agrees_17 rfl rfl ?_
      refine r_cV1 (pc := 18) (k := 254) (As := [.int (zi s4533)]) (st := []) C (m_X6_at (p := 254) (a1 := s4533) gw_254 h4534 rfl) cal_X6_at cl_X6 kd_254 ln_254 q_1492 dX9_agrees_18 rfl rfl (Nat.le_of_ble_eq_true rfl) (Nat.le_of_ble_eq_true rfl) (Nat.le_of_ble_eq_true rfl) (Nat.le_of_ble_eq_true rfl) (Nat.le_of_ble_eq_true rfl) (fun h4543 => ?_)
      refine r_iload_n (pc := 21) (j := 1) C dX9_agrees_21 rfl rfl ?_
      refine r_bj ?_
      refine r_join (fun q4544 : Int => BR q4544) (fun q4544 => S) (fun q4544 => O) (fun q4544 => [(0, .ref (zad E 249)), (1, .int (zi a1)), (2, .int (zi a2)), (3, .int (zi s4533))]) 30 (fun q4544 => [.int (zi q4544)]) (fun q4544 h4545 => ?_) (fun k4546 k4547 => ?_)
      · refine r_aload_n (pc := 30) (j := 0) C dX9_agrees_30 rfl rfl ?_
        refine r_getR (j := 4) (r := 256) C cl_X9 kd_249 ln_249 (by decide) rfl r0_249_4 (by decide) q_665 dX9_agrees_31 ?_
        refine r_iload_n (pc := 34) (j := 3) C dX9_agrees_34 rfl rfl ?_
        refine r_cV1 (pc := 35) (k := 256) (As := [.int (zi s4533)]) (st := [.int (zi q4544)]) C (m_X6_at (p := 256) (a1 := s4533) gw_256 h4534 rfl) cal_X6_at cl_X6 kd_256 ln_256 q_1492 dX9_agrees_35 rfl rfl (Nat.le_of_ble_eq_true rfl) (Nat.le_of_ble_eq_true rfl) (Nat.le_of_ble_eq_true rfl) (Nat.le_of_ble_eq_true rfl) (Nat.le_of_ble_eq_true rfl) (fun h4549 => ?_)
        refine r_iconst (v := 1) C dX9_agrees_38 (by decide) ?_
        refine r_bj ?_
        refine r_join (fun q4550 : Int => BR q4550) (fun q4550 => S) (fun q4550 => O) (fun q4550 => [(0, .ref (zad E 249)), (1, .int (zi a1)), (2, .int (zi a2)), (3, .int (zi s4533))]) 47 (fun q4550 => [.int (zi q4550), .int (zi q4544)]) (fun q4550 h4551 => ?_) (fun k4552 k4553 => ?_)
        · refine r_bj ?_
          refine r_join (fun q4555 : Int => BR q4555) (fun q4555 => S) (fun q4555 => O) (fun q4555 => [(0, .ref (zad E 249)), (1, .int (zi a1)), (2, .int (zi a2)), (3, .int (zi s4533))]) 55 (fun q4555 => [.int (zi q4555)]) (fun q4555 h4556 => ?_) (fun k4557 k4558 => ?_)
          · refine r_istore (L' := [(4, .int (zi q4555)), (0, .ref (zad E 249)), (1, .int (zi a1)), (2, .int (zi a2)), (3, .int (zi s4533))]) C dX9_agrees_55 (by decide) rfl ?_
            refine r_aload_n (pc := 57) (j := 1) C dX9_agrees_57 rfl rfl ?_
            refine r_iload_n (pc := 58) (j := 4) C dX9_agrees_58 rfl rfl ?_
            refine r_iload_n (pc := 59) (j := 3) C dX9_agrees_59 rfl rfl ?_
            refine r_cV1 (pc := 60) (k := 249) (As := [.int (zi s4533), .int (zi a2)]) (st := []) C (m_X9_counts (a1 := s4533) (a2 := a2) h4534 ha2 rfl) cal_X9_counts cl_X9 kd_249 ln_249 q_1520 dX9_agrees_60 rfl rfl (Nat.le_of_ble_eq_true rfl) (Nat.le_of_ble_eq_true rfl) (Nat.le_of_ble_eq_true rfl) (Nat.le_of_ble_eq_true rfl) (Nat.le_of_ble_eq_true rfl) (fun h4560 => ?_)
            refine r_cut (f_X9_counts s4533 a2 S = 0 ∨ ¬ q4555 = 0) 73 71 [] (fun c4561 => ?_) (fun c4561 => ?_) (fun k4562 k4563 => ?_)
            · refine r_bt c4561 ?_
              refine r_iinc (j := 4) (L' := [(3, .int (zi (wr (s4533 + 1)))), (4, .int (zi q4555)), (0, .ref (zad E 249)), (1, .int (zi a1)), (2, .int (zi a2))]) C dX9_agrees_73 rfl (by decide) rfl ?_
              refine r_goto (tgt := 2) C dX9_agrees_76 (by decide) ?_
              refine r_L (L' := [(0, .ref (zad E 249)), (1, .int (zi a1)), (2, .int (zi a2)), (3, .int (zi (wr (s4533 + 1))))]) [2, 3, 4, 0] rfl ?_
              exact k4536 (wr (s4533 + 1)) (IR_wr _)
            · refine r_bf c4561 ?_
              refine r_L (L' := []) [] rfl ?_
              exact k4538 () trivial
            · refine r_if_eq (tgt := 73) C h4560.ir dX9_agrees_63 (by decide) (fun c4564 => ?_) (fun c4564 => ?_)
              · exact k4562 (Or.inl c4564)
              · refine r_iload (pc := 66) (j := 0) C dX9_agrees_66 rfl ?_
                refine r_if_ne (tgt := 73) C h4556.ir dX9_agrees_68 (by decide) (fun c4565 => ?_) (fun c4565 => ?_)
                · exact k4562 (Or.inr c4565)
                · exact k4563 (fun w => w.elim c4564 (fun x => x c4565))
          · refine r_icmp_ne (tgt := 54) C h4545.ir h4551.ir dX9_agrees_47 (by decide) (fun c4559 => ?_) (fun c4559 => ?_)
            · refine r_jf c4559 ?_
              refine r_iconst (v := 0) C dX9_agrees_54 (by decide) ?_
              exact k4558 0 (BRd rfl)
            · refine r_jt c4559 ?_
              refine r_iconst (v := 1) C dX9_agrees_50 (by decide) ?_
              refine r_goto (tgt := 55) C dX9_agrees_51 (by decide) ?_
              exact k4558 1 (BRd rfl)
        · refine r_icmp_ne (tgt := 46) C h4549 (IRd rfl) dX9_agrees_39 (by decide) (fun c4554 => ?_) (fun c4554 => ?_)
          · refine r_jf c4554 ?_
            refine r_iconst (v := 0) C dX9_agrees_46 (by decide) ?_
            exact k4553 0 (BRd rfl)
          · refine r_jt c4554 ?_
            refine r_iconst (v := 1) C dX9_agrees_42 (by decide) ?_
            refine r_goto (tgt := 47) C dX9_agrees_43 (by decide) ?_
            exact k4553 1 (BRd rfl)
      · refine r_icmp_ne (tgt := 29) C h4543 ha1 dX9_agrees_22 (by decide) (fun c4548 => ?_) (fun c4548 => ?_)
        · refine r_jf c4548 ?_
          refine r_iconst (v := 0) C dX9_agrees_29 (by decide) ?_
          exact k4547 0 (BRd rfl)
        · refine r_jt c4548 ?_
          refine r_iconst (v := 1) C dX9_agrees_25 (by decide) ?_
          refine r_goto (tgt := 30) C dX9_agrees_26 (by decide) ?_
          exact k4547 1 (BRd rfl)

def f_X9_gather (a1 : Int) (a2 : Int) (S : Sst) : Option (Int × Sst) :=
  jn (f_X6_clear 250 S) fun (q4605 : Sst) =>
  jn (f_X6_clear 252 q4605) fun (q4608 : Sst) =>
  if (a1 < (-9) ∨ 99 < a1) then
    (some (0, q4608))
  else
    (Option.bind (lp (fun (s4613 : Int × Sst) =>
      if 60 < s4613.1 then
        (some (Sum.inr s4613.2))
      else
        (Option.bind (f_X4_regionOf 29 s4613.1 a1 s4613.2) fun (q4621 : Int) =>
        Option.bind (f_X9_agrees q4621 a2 s4613.2) fun (q4624 : Int) =>
        jn (
          if q4624 = 0 then
            (s4613.2)
          else
            (jn (f_X6_add 250 s4613.1 s4613.2) fun (q4632 : Sst) =>
            jn (f_X6_add 252 q4621 q4632) fun (q4635 : Sst) =>
            q4635)) fun (q4626 : Sst) =>
        some (Sum.inl (wr (s4613.1 + 1), q4626)))) FU (0, q4608)) fun (r4637 : Sst) =>
    some (1, r4637))
set_option maxRecDepth 100000 in
set_option maxHeartbeats 4000000 in
theorem m_X9_gather {l : Launch} {E : EwT} {S : Sst} {O : Smo} {a1 : Int} (ha1 : IR a1) {a2 : Int} (ha2 : IR a2) {q : Int × Sst} (hq : f_X9_gather a1 a2 S = some q) : MetG l E yX9_gather cX9_gather 5 (some .boolean) 4 87 0 0 n0 R0 S O [.ref (zad E 249), .int (zi a1), .int (zi a2)] (BR q.1) (some (.int (zi q.1))) n0 R0 q.2 O := by
  refine ofG (L0 := [(0, .ref (zad E 249)), (1, .int (zi a1)), (2, .int (zi a2))]) hq (by decide +kernel) (Nat.le_of_ble_eq_true rfl) rfl (fun K _ C hQ => ?_)
  unfold f_X9_gather
  refine r_aload_n (pc := 0) (j := 0) C dX9_gather_0 rfl rfl ?_
  refine r_getR (j := 0) (r := 250) C cl_X9 kd_249 ln_249 (by decide) rfl r0_249_0 (by decide) q_658 dX9_gather_1 ?_
  refine r_jn (fun q4605 e4606 => ?_)
  refine r_cV0 (pc := 4) (k := 250) (As := []) (st := []) C (m_X6_clear (p := 250) gw_250 e4606) cal_X6_clear cl_X6 kd_250 ln_250 q_1025 dX9_gather_4 rfl rfl (Nat.le_of_ble_eq_true rfl) (Nat.le_of_ble_eq_true rfl) (Nat.le_of_ble_eq_true rfl) (Nat.le_of_ble_eq_true rfl) (Nat.le_of_ble_eq_true rfl) (fun h4604 => ?_)
  refine r_aload_n (pc := 7) (j := 0) C dX9_gather_7 rfl rfl ?_
  refine r_getR (j := 7) (r := 252) C cl_X9 kd_249 ln_249 (by decide) rfl r0_249_7 (by decide) q_668 dX9_gather_8 ?_
  refine r_jn (fun q4608 e4609 => ?_)
  refine r_cV0 (pc := 11) (k := 252) (As := []) (st := []) C (m_X6_clear (p := 252) gw_252 e4609) cal_X6_clear cl_X6 kd_252 ln_252 q_1025 dX9_gather_11 rfl rfl (Nat.le_of_ble_eq_true rfl) (Nat.le_of_ble_eq_true rfl) (Nat.le_of_ble_eq_true rfl) (Nat.le_of_ble_eq_true rfl) (Nat.le_of_ble_eq_true rfl) (fun h4607 => ?_)
  refine r_iload_n (pc := 14) (j := 1) C dX9_gather_14 rfl rfl ?_
  refine r_bipush (v := (-9)) C dX9_gather_15 (by decide) ?_
  refine r_cut (a1 < (-9) ∨ 99 < a1) 26 28 [] (fun c4610 => ?_) (fun c4610 => ?_) (fun k4611 k4612 => ?_)
  · refine r_t c4610 ?_
    refine r_iconst (v := 0) C dX9_gather_26 (by decide) ?_
    exact r_ireturn C hQ (nar_z (BRd rfl)) dX9_gather_27 (fun e => by cases e; exact ⟨(BRd rfl), rfl, rfl, rfl, rfl, rfl⟩)
  · refine r_f c4610 ?_
    refine r_iconst (v := 0) C dX9_gather_28 (by decide) ?_
    refine r_istore_n (L' := [(3, .int (zi 0)), (0, .ref (zad E 249)), (1, .int (zi a1)), (2, .int (zi a2))]) C dX9_gather_29 rfl (by decide) rfl ?_
    refine r_L (L' := [(0, .ref (zad E 249)), (1, .int (zi a1)), (2, .int (zi a2)), (3, .int (zi 0))]) [1, 2, 3, 0] rfl ?_
    refine r_loop1 (fun s4613 : Int × Sst => IR s4613.1) (fun s4613 => s4613.2) (fun s4613 => O) (fun s4613 => [(0, .ref (zad E 249)), (1, .int (zi a1)), (2, .int (zi a2)), (3, .int (zi s4613.1))]) [] (fun r4637 : Sst => True) (fun r4637 => r4637) (fun r4637 => O) (fun r4637 => []) 80 (fun r4637 h4638 => ?_) (fun k4615 k4617 k4616 k4618 s4613 h4614 => ?_) (IRd rfl)
    · refine r_iconst (v := 1) C dX9_gather_80 (by decide) ?_
      exact r_ireturn C hQ (nar_z (BRd rfl)) dX9_gather_81 (fun e => by cases e; exact ⟨(BRd rfl), rfl, rfl, rfl, rfl, rfl⟩)
    · refine r_iload_n (pc := 30) (j := 3) C dX9_gather_30 rfl rfl ?_
      refine r_bipush (v := 60) C dX9_gather_31 (by decide) ?_
      refine r_icmp_gt (tgt := 80) C h4614 (IRd rfl) dX9_gather_33 (by decide) (fun c4619 => ?_) (fun c4619 => ?_)
      · refine r_bt c4619 ?_
        refine r_L (L' := []) [] rfl ?_
        exact k4618 s4613.2 trivial
      · refine r_bf c4619 ?_
        refine r_aload_n (pc := 36) (j := 0) C dX9_gather_36 rfl rfl ?_
        refine r_getR (j := 3) (r := 29) C cl_X9 kd_249 ln_249 (by decide) rfl r0_249_3 (by decide) q_664 dX9_gather_37 ?_
        refine r_iload_n (pc := 40) (j := 3) C dX9_gather_40 rfl rfl ?_
        refine r_iload_n (pc := 41) (j := 1) C dX9_gather_41 rfl rfl ?_
        refine r_bb ?_
        refine r_bd (fun q4621 e4622 => ?_)
        refine r_cV1 (pc := 42) (k := 29) (As := [.int (zi s4613.1), .int (zi a1)]) (st := []) C (m_X4_regionOf (p := 29) (a1 := s4613.1) (a2 := a1) gp_29 h4614 ha1 e4622) cal_X4_regionOf cl_X4 kd_29 ln_29 q_1511 dX9_gather_42 rfl rfl (Nat.le_of_ble_eq_true rfl) (Nat.le_of_ble_eq_true rfl) (Nat.le_of_ble_eq_true rfl) (Nat.le_of_ble_eq_true rfl) (Nat.le_of_ble_eq_true rfl) (fun h4620 => ?_)
        refine r_istore (L' := [(4, .int (zi q4621)), (0, .ref (zad E 249)), (1, .int (zi a1)), (2, .int (zi a2)), (3, .int (zi s4613.1))]) C dX9_gather_45 (by decide) rfl ?_
        refine r_aload_n (pc := 47) (j := 1) C dX9_gather_47 rfl rfl ?_
        refine r_iload (pc := 48) (j := 0) C dX9_gather_48 rfl ?_
        refine r_iload_n (pc := 50) (j := 3) C dX9_gather_50 rfl rfl ?_
        refine r_bb ?_
        refine r_bd (fun q4624 e4625 => ?_)
        refine r_cV1 (pc := 51) (k := 249) (As := [.int (zi q4621), .int (zi a2)]) (st := []) C (m_X9_agrees (a1 := q4621) (a2 := a2) h4620 ha2 e4625) cal_X9_agrees cl_X9 kd_249 ln_249 q_1516 dX9_gather_51 rfl rfl (Nat.le_of_ble_eq_true rfl) (Nat.le_of_ble_eq_true rfl) (Nat.le_of_ble_eq_true rfl) (Nat.le_of_ble_eq_true rfl) (Nat.le_of_ble_eq_true rfl) (fun h4623 => ?_)
        refine r_bj ?_
        refine r_join (fun q4626 : Sst => True) (fun q4626 => q4626) (fun q4626 => O) (fun q4626 => [(0, .ref (zad E 249)), (1, .int (zi a1)), (2, .int (zi a2)), (3, .int (zi s4613.1))]) 74 (fun q4626 => []) (fun q4626 h4627 => ?_) (fun k4628 k4629 => ?_)
        · refine r_iinc (j := 3) (L' := [(3, .int (zi (wr (s4613.1 + 1)))), (0, .ref (zad E 249)), (1, .int (zi a1)), (2, .int (zi a2))]) C dX9_gather_74 rfl (by decide) rfl ?_
          refine r_goto (tgt := 30) C dX9_gather_77 (by decide) ?_
          refine r_L (L' := [(0, .ref (zad E 249)), (1, .int (zi a1)), (2, .int (zi a2)), (3, .int (zi (wr (s4613.1 + 1))))]) [1, 2, 3, 0] rfl ?_
          exact k4616 (wr (s4613.1 + 1), q4626) (IR_wr _)
        · refine r_if_eq (tgt := 74) C h4623.ir dX9_gather_54 (by decide) (fun c4630 => ?_) (fun c4630 => ?_)
          · refine r_jt c4630 ?_
            refine r_L (L' := [(0, .ref (zad E 249)), (1, .int (zi a1)), (2, .int (zi a2)), (3, .int (zi s4613.1))]) [1, 2, 3, 4] rfl ?_
            exact k4629 s4613.2 trivial
          · refine r_jf c4630 ?_
            refine r_aload_n (pc := 57) (j := 1) C dX9_gather_57 rfl rfl ?_
            refine r_getR (j := 0) (r := 250) C cl_X9 kd_249 ln_249 (by decide) rfl r0_249_0 (by decide) q_658 dX9_gather_58 ?_
            refine r_iload_n (pc := 61) (j := 4) C dX9_gather_61 rfl rfl ?_
            refine r_jj ?_
            refine r_jn (fun q4632 e4633 => ?_)
            refine r_cV0 (pc := 62) (k := 250) (As := [.int (zi s4613.1)]) (st := []) C (m_X6_add (p := 250) (a1 := s4613.1) gw_250 h4614 e4633) cal_X6_add cl_X6 kd_250 ln_250 q_1483 dX9_gather_62 rfl rfl (Nat.le_of_ble_eq_true rfl) (Nat.le_of_ble_eq_true rfl) (Nat.le_of_ble_eq_true rfl) (Nat.le_of_ble_eq_true rfl) (Nat.le_of_ble_eq_true rfl) (fun h4631 => ?_)
            refine r_aload_n (pc := 65) (j := 1) C dX9_gather_65 rfl rfl ?_
            refine r_getR (j := 7) (r := 252) C cl_X9 kd_249 ln_249 (by decide) rfl r0_249_7 (by decide) q_668 dX9_gather_66 ?_
            refine r_iload (pc := 69) (j := 0) C dX9_gather_69 rfl ?_
            refine r_jj ?_
            refine r_jn (fun q4635 e4636 => ?_)
            refine r_cV0 (pc := 71) (k := 252) (As := [.int (zi q4621)]) (st := []) C (m_X6_add (p := 252) (a1 := q4621) gw_252 h4620 e4636) cal_X6_add cl_X6 kd_252 ln_252 q_1483 dX9_gather_71 rfl rfl (Nat.le_of_ble_eq_true rfl) (Nat.le_of_ble_eq_true rfl) (Nat.le_of_ble_eq_true rfl) (Nat.le_of_ble_eq_true rfl) (Nat.le_of_ble_eq_true rfl) (fun h4634 => ?_)
            refine r_L (L' := [(0, .ref (zad E 249)), (1, .int (zi a1)), (2, .int (zi a2)), (3, .int (zi s4613.1))]) [1, 2, 3, 4] rfl ?_
            exact k4629 q4635 trivial
  · refine r_icmp_lt (tgt := 26) C ha1 (IRd rfl) dX9_gather_17 (by decide) (fun c4639 => ?_) (fun c4639 => ?_)
    · exact k4611 (Or.inl c4639)
    · refine r_iload_n (pc := 20) (j := 1) C dX9_gather_20 rfl rfl ?_
      refine r_bipush (v := 99) C dX9_gather_21 (by decide) ?_
      refine r_icmp_le (tgt := 28) C ha1 (IRd rfl) dX9_gather_23 (by decide) (fun c4640 => ?_) (fun c4640 => ?_)
      · exact k4612 (fun w => w.elim c4639 c4640)
      · exact k4611 (Or.inr c4640)

def f_X9_leftBy (a1 : Int) (S : Sst) : Option (Int) :=
  Option.bind (lp (fun (s4682 : Int × Int) =>
    if s4682.2 < f_X6_size 252 S then
      (jn (
        if f_X6_at 252 s4682.2 S = a1 then
          (1)
        else
          (0)) fun (q4691 : Int) =>
      jn (wr (s4682.1 + q4691)) fun (v4696 : Int) =>
      some (Sum.inl (v4696, wr (s4682.2 + 1))))
    else
      (some (Sum.inr s4682.1))) FU (0, 0)) fun (r4698 : Int) =>
  some (f_J9_max_7cf53 r4698 (wr ((f_X6_size 252 S) - r4698)))
set_option maxRecDepth 100000 in
set_option maxHeartbeats 4000000 in
theorem m_X9_leftBy {l : Launch} {E : EwT} {S : Sst} {O : Smo} {a1 : Int} (ha1 : IR a1) {q : Int} (hq : f_X9_leftBy a1 S = some q) : MetG l E yX9_leftBy cX9_leftBy 4 (some .int) 1 21 0 0 n0 R0 S O [.ref (zad E 249), .int (zi a1)] (IR q) (some (.int (zi q))) n0 R0 S O := by
  refine ofG (L0 := [(0, .ref (zad E 249)), (1, .int (zi a1))]) hq (by decide +kernel) (Nat.le_of_ble_eq_true rfl) rfl (fun K _ C hQ => ?_)
  unfold f_X9_leftBy
  refine r_iconst (v := 0) C dX9_leftBy_0 (by decide) ?_
  refine r_istore_n (L' := [(2, .int (zi 0)), (0, .ref (zad E 249)), (1, .int (zi a1))]) C dX9_leftBy_1 rfl (by decide) rfl ?_
  refine r_iconst (v := 0) C dX9_leftBy_2 (by decide) ?_
  refine r_istore_n (L' := [(3, .int (zi 0)), (2, .int (zi 0)), (0, .ref (zad E 249)), (1, .int (zi a1))]) C dX9_leftBy_3 rfl (by decide) rfl ?_
  refine r_L (L' := [(0, .ref (zad E 249)), (1, .int (zi a1)), (2, .int (zi 0)), (3, .int (zi 0))]) [2, 3, 1, 0] rfl ?_
  refine r_loop1 (fun s4682 : Int × Int => IR s4682.1 ∧ IR s4682.2) (fun s4682 => S) (fun s4682 => O) (fun s4682 => [(0, .ref (zad E 249)), (1, .int (zi a1)), (2, .int (zi s4682.1)), (3, .int (zi s4682.2))]) [] (fun r4698 : Int => IR r4698) (fun r4698 => S) (fun r4698 => O) (fun r4698 => [(0, .ref (zad E 249)), (2, .int (zi r4698))]) 41 (fun r4698 h4699 => ?_) (fun k4684 k4686 k4685 k4687 s4682 h4683 => ?_) ⟨(IRd rfl), (IRd rfl)⟩
  · refine r_iload_n (pc := 41) (j := 1) C dX9_leftBy_41 rfl rfl ?_
    refine r_aload_n (pc := 42) (j := 0) C dX9_leftBy_42 rfl rfl ?_
    refine r_getR (j := 7) (r := 252) C cl_X9 kd_249 ln_249 (by decide) rfl r0_249_7 (by decide) q_668 dX9_leftBy_43 ?_
    refine r_cV1 (pc := 46) (k := 252) (As := []) (st := [.int (zi r4698)]) C (m_X6_size (p := 252) gw_252 rfl) cal_X6_size cl_X6 kd_252 ln_252 q_1482 dX9_leftBy_46 rfl rfl (Nat.le_of_ble_eq_true rfl) (Nat.le_of_ble_eq_true rfl) (Nat.le_of_ble_eq_true rfl) (Nat.le_of_ble_eq_true rfl) (Nat.le_of_ble_eq_true rfl) (fun h4700 => ?_)
    refine r_iload_n (pc := 49) (j := 1) C dX9_leftBy_49 rfl rfl ?_
    refine r_isub C dX9_leftBy_50 ?_
    refine r_cS1 (pc := 51) (As := [.int (zi r4698), .int (zi (wr ((f_X6_size 252 S) - r4698)))]) (st := []) C (m_J9_max_7cf53 (a0 := r4698) (a1 := wr ((f_X6_size 252 S) - r4698)) h4699 (IR_wr _) rfl) cal_J9_max_7cf53 q_1541 dX9_leftBy_51 rfl rfl (Nat.le_of_ble_eq_true rfl) (Nat.le_of_ble_eq_true rfl) (Nat.le_of_ble_eq_true rfl) (Nat.le_of_ble_eq_true rfl) (Nat.le_of_ble_eq_true rfl) (fun h4701 => ?_)
    exact r_ireturn C hQ rfl dX9_leftBy_54 (fun e => by cases e; exact ⟨h4701, rfl, rfl, rfl, rfl, rfl⟩)
  · refine r_iload_n (pc := 4) (j := 3) C dX9_leftBy_4 rfl rfl ?_
    refine r_aload_n (pc := 5) (j := 0) C dX9_leftBy_5 rfl rfl ?_
    refine r_getR (j := 7) (r := 252) C cl_X9 kd_249 ln_249 (by decide) rfl r0_249_7 (by decide) q_668 dX9_leftBy_6 ?_
    refine r_cV1 (pc := 9) (k := 252) (As := []) (st := [.int (zi s4682.2)]) C (m_X6_size (p := 252) gw_252 rfl) cal_X6_size cl_X6 kd_252 ln_252 q_1482 dX9_leftBy_9 rfl rfl (Nat.le_of_ble_eq_true rfl) (Nat.le_of_ble_eq_true rfl) (Nat.le_of_ble_eq_true rfl) (Nat.le_of_ble_eq_true rfl) (Nat.le_of_ble_eq_true rfl) (fun h4688 => ?_)
    refine r_icmp_ge (tgt := 41) C h4683.2 h4688 dX9_leftBy_12 (by decide) (fun c4689 => ?_) (fun c4689 => ?_)
    · refine r_bf c4689 ?_
      refine r_L (L' := [(0, .ref (zad E 249)), (2, .int (zi s4682.1))]) [0, 2] rfl ?_
      exact k4687 s4682.1 h4683.1
    · refine r_bt c4689 ?_
      refine r_iload_n (pc := 15) (j := 2) C dX9_leftBy_15 rfl rfl ?_
      refine r_aload_n (pc := 16) (j := 0) C dX9_leftBy_16 rfl rfl ?_
      refine r_getR (j := 7) (r := 252) C cl_X9 kd_249 ln_249 (by decide) rfl r0_249_7 (by decide) q_668 dX9_leftBy_17 ?_
      refine r_iload_n (pc := 20) (j := 3) C dX9_leftBy_20 rfl rfl ?_
      refine r_cV1 (pc := 21) (k := 252) (As := [.int (zi s4682.2)]) (st := [.int (zi s4682.1)]) C (m_X6_at (p := 252) (a1 := s4682.2) gw_252 h4683.2 rfl) cal_X6_at cl_X6 kd_252 ln_252 q_1492 dX9_leftBy_21 rfl rfl (Nat.le_of_ble_eq_true rfl) (Nat.le_of_ble_eq_true rfl) (Nat.le_of_ble_eq_true rfl) (Nat.le_of_ble_eq_true rfl) (Nat.le_of_ble_eq_true rfl) (fun h4690 => ?_)
      refine r_iload_n (pc := 24) (j := 1) C dX9_leftBy_24 rfl rfl ?_
      refine r_bj ?_
      refine r_join (fun q4691 : Int => BR q4691) (fun q4691 => S) (fun q4691 => O) (fun q4691 => [(0, .ref (zad E 249)), (1, .int (zi a1)), (3, .int (zi s4682.2))]) 33 (fun q4691 => [.int (zi q4691), .int (zi s4682.1)]) (fun q4691 h4692 => ?_) (fun k4693 k4694 => ?_)
      · refine r_iadd C dX9_leftBy_33 ?_
        refine r_bj ?_
        refine r_jv (IR_wr _) (fun v4696 h4697 => ?_)
        refine r_istore_n (L' := [(2, .int (zi v4696)), (0, .ref (zad E 249)), (1, .int (zi a1)), (3, .int (zi s4682.2))]) C dX9_leftBy_34 rfl (by decide) rfl ?_
        refine r_iinc (j := 3) (L' := [(3, .int (zi (wr (s4682.2 + 1)))), (2, .int (zi v4696)), (0, .ref (zad E 249)), (1, .int (zi a1))]) C dX9_leftBy_35 rfl (by decide) rfl ?_
        refine r_goto (tgt := 4) C dX9_leftBy_38 (by decide) ?_
        refine r_L (L' := [(0, .ref (zad E 249)), (1, .int (zi a1)), (2, .int (zi v4696)), (3, .int (zi (wr (s4682.2 + 1))))]) [2, 3, 1, 0] rfl ?_
        exact k4685 (v4696, wr (s4682.2 + 1)) ⟨h4697, (IR_wr _)⟩
      · refine r_icmp_ne (tgt := 32) C h4690 ha1 dX9_leftBy_25 (by decide) (fun c4695 => ?_) (fun c4695 => ?_)
        · refine r_jf c4695 ?_
          refine r_iconst (v := 0) C dX9_leftBy_32 (by decide) ?_
          refine r_L (L' := [(0, .ref (zad E 249)), (1, .int (zi a1)), (3, .int (zi s4682.2))]) [0, 1, 3] rfl ?_
          exact k4694 0 (BRd rfl)
        · refine r_jt c4695 ?_
          refine r_iconst (v := 1) C dX9_leftBy_28 (by decide) ?_
          refine r_goto (tgt := 33) C dX9_leftBy_29 (by decide) ?_
          refine r_L (L' := [(0, .ref (zad E 249)), (1, .int (zi a1)), (3, .int (zi s4682.2))]) [0, 1, 3] rfl ?_
          exact k4694 1 (BRd rfl)

def f_X9_bestQuestion (S : Sst) : Option (Int) :=
  Option.bind (lp (fun (s4727 : Int × Int × Int) =>
    if (s4727.2.2 < f_X4_count 29 S ∧ 0 < f_X6_size 250 S) then
      (Option.bind (f_X9_leftBy s4727.2.2 S) fun (q4739 : Int) =>
      jn (
        if (s4727.1 = (-1) ∨ q4739 < s4727.2.1) then
          ((s4727.2.2, q4739))
        else
          ((s4727.1, s4727.2.1))) fun (q4741 : Int × Int) =>
      some (Sum.inl (q4741.1, q4741.2, wr (s4727.2.2 + 1))))
    else
      (some (Sum.inr s4727.1))) FU ((-1), 0, 0)) fun (r4752 : Int) =>
  some r4752
set_option maxRecDepth 100000 in
set_option maxHeartbeats 4000000 in
theorem m_X9_bestQuestion {l : Launch} {E : EwT} {S : Sst} {O : Smo}  {q : Int} (hq : f_X9_bestQuestion S = some q) : MetG l E yX9_bestQuestion cX9_bestQuestion 5 (some .int) 2 44 0 0 n0 R0 S O [.ref (zad E 249)] (IR q) (some (.int (zi q))) n0 R0 S O := by
  refine ofG (L0 := [(0, .ref (zad E 249))]) hq (by decide +kernel) (Nat.le_of_ble_eq_true rfl) rfl (fun K _ C hQ => ?_)
  unfold f_X9_bestQuestion
  refine r_iconst (v := (-1)) C dX9_bestQuestion_0 (by decide) ?_
  refine r_istore_n (L' := [(1, .int (zi (-1))), (0, .ref (zad E 249))]) C dX9_bestQuestion_1 rfl (by decide) rfl ?_
  refine r_iconst (v := 0) C dX9_bestQuestion_2 (by decide) ?_
  refine r_istore_n (L' := [(2, .int (zi 0)), (1, .int (zi (-1))), (0, .ref (zad E 249))]) C dX9_bestQuestion_3 rfl (by decide) rfl ?_
  refine r_iconst (v := 0) C dX9_bestQuestion_4 (by decide) ?_
  refine r_istore_n (L' := [(3, .int (zi 0)), (2, .int (zi 0)), (1, .int (zi (-1))), (0, .ref (zad E 249))]) C dX9_bestQuestion_5 rfl (by decide) rfl ?_
  refine r_L (L' := [(0, .ref (zad E 249)), (1, .int (zi (-1))), (2, .int (zi 0)), (3, .int (zi 0))]) [3, 2, 1, 0] rfl ?_
  refine r_loop1 (fun s4727 : Int × Int × Int => IR s4727.1 ∧ IR s4727.2.1 ∧ IR s4727.2.2) (fun s4727 => S) (fun s4727 => O) (fun s4727 => [(0, .ref (zad E 249)), (1, .int (zi s4727.1)), (2, .int (zi s4727.2.1)), (3, .int (zi s4727.2.2))]) [] (fun r4752 : Int => IR r4752) (fun r4752 => S) (fun r4752 => O) (fun r4752 => [(1, .int (zi r4752))]) 56 (fun r4752 h4753 => ?_) (fun k4729 k4731 k4730 k4732 s4727 h4728 => ?_) ⟨(IRd rfl), (IRd rfl), (IRd rfl)⟩
  · refine r_iload_n (pc := 56) (j := 0) C dX9_bestQuestion_56 rfl rfl ?_
    exact r_ireturn C hQ rfl dX9_bestQuestion_57 (fun e => by cases e; exact ⟨h4753, rfl, rfl, rfl, rfl, rfl⟩)
  · refine r_iload_n (pc := 6) (j := 3) C dX9_bestQuestion_6 rfl rfl ?_
    refine r_aload_n (pc := 7) (j := 0) C dX9_bestQuestion_7 rfl rfl ?_
    refine r_getR (j := 3) (r := 29) C cl_X9 kd_249 ln_249 (by decide) rfl r0_249_3 (by decide) q_664 dX9_bestQuestion_8 ?_
    refine r_cV1 (pc := 11) (k := 29) (As := []) (st := [.int (zi s4727.2.2)]) C (m_X4_count (p := 29) gp_29 rfl) cal_X4_count cl_X4 kd_29 ln_29 q_1536 dX9_bestQuestion_11 rfl rfl (Nat.le_of_ble_eq_true rfl) (Nat.le_of_ble_eq_true rfl) (Nat.le_of_ble_eq_true rfl) (Nat.le_of_ble_eq_true rfl) (Nat.le_of_ble_eq_true rfl) (fun h4733 => ?_)
    refine r_cut (s4727.2.2 < f_X4_count 29 S ∧ 0 < f_X6_size 250 S) 27 56 [] (fun c4735 => ?_) (fun c4735 => ?_) (fun k4736 k4737 => ?_)
    · refine r_bt c4735 ?_
      refine r_aload_n (pc := 27) (j := 0) C dX9_bestQuestion_27 rfl rfl ?_
      refine r_iload_n (pc := 28) (j := 3) C dX9_bestQuestion_28 rfl rfl ?_
      refine r_bb ?_
      refine r_bd (fun q4739 e4740 => ?_)
      refine r_cV1 (pc := 29) (k := 249) (As := [.int (zi s4727.2.2)]) (st := []) C (m_X9_leftBy (a1 := s4727.2.2) h4728.2.2 e4740) cal_X9_leftBy cl_X9 kd_249 ln_249 q_1537 dX9_bestQuestion_29 rfl rfl (Nat.le_of_ble_eq_true rfl) (Nat.le_of_ble_eq_true rfl) (Nat.le_of_ble_eq_true rfl) (Nat.le_of_ble_eq_true rfl) (Nat.le_of_ble_eq_true rfl) (fun h4738 => ?_)
      refine r_istore (L' := [(4, .int (zi q4739)), (0, .ref (zad E 249)), (1, .int (zi s4727.1)), (2, .int (zi s4727.2.1)), (3, .int (zi s4727.2.2))]) C dX9_bestQuestion_32 (by decide) rfl ?_
      refine r_iload_n (pc := 34) (j := 2) C dX9_bestQuestion_34 rfl rfl ?_
      refine r_iconst (v := (-1)) C dX9_bestQuestion_35 (by decide) ?_
      refine r_bj ?_
      refine r_join (fun q4741 : Int × Int => IR q4741.1 ∧ IR q4741.2) (fun q4741 => S) (fun q4741 => O) (fun q4741 => [(0, .ref (zad E 249)), (1, .int (zi q4741.1)), (2, .int (zi q4741.2)), (3, .int (zi s4727.2.2))]) 50 (fun q4741 => []) (fun q4741 h4742 => ?_) (fun k4743 k4744 => ?_)
      · refine r_iinc (j := 3) (L' := [(3, .int (zi (wr (s4727.2.2 + 1)))), (0, .ref (zad E 249)), (1, .int (zi q4741.1)), (2, .int (zi q4741.2))]) C dX9_bestQuestion_50 rfl (by decide) rfl ?_
        refine r_goto (tgt := 6) C dX9_bestQuestion_53 (by decide) ?_
        refine r_L (L' := [(0, .ref (zad E 249)), (1, .int (zi q4741.1)), (2, .int (zi q4741.2)), (3, .int (zi (wr (s4727.2.2 + 1))))]) [1, 2, 3, 0] rfl ?_
        exact k4730 (q4741.1, q4741.2, wr (s4727.2.2 + 1)) ⟨h4742.1, h4742.2, (IR_wr _)⟩
      · refine r_cut (s4727.1 = (-1) ∨ q4739 < s4727.2.1) 45 50 [] (fun c4745 => ?_) (fun c4745 => ?_) (fun k4746 k4747 => ?_)
        · refine r_jt c4745 ?_
          refine r_iload_n (pc := 45) (j := 4) C dX9_bestQuestion_45 rfl rfl ?_
          refine r_istore_n (L' := [(1, .int (zi s4727.2.2)), (4, .int (zi q4739)), (0, .ref (zad E 249)), (2, .int (zi s4727.2.1)), (3, .int (zi s4727.2.2))]) C dX9_bestQuestion_46 rfl (by decide) rfl ?_
          refine r_iload (pc := 47) (j := 1) C dX9_bestQuestion_47 rfl ?_
          refine r_istore_n (L' := [(2, .int (zi q4739)), (1, .int (zi s4727.2.2)), (4, .int (zi q4739)), (0, .ref (zad E 249)), (3, .int (zi s4727.2.2))]) C dX9_bestQuestion_49 rfl (by decide) rfl ?_
          refine r_L (L' := [(0, .ref (zad E 249)), (1, .int (zi s4727.2.2)), (2, .int (zi q4739)), (3, .int (zi s4727.2.2))]) [3, 1, 0, 4] rfl ?_
          exact k4744 (s4727.2.2, q4739) ⟨h4728.2.2, h4738⟩
        · refine r_jf c4745 ?_
          refine r_L (L' := [(0, .ref (zad E 249)), (1, .int (zi s4727.1)), (2, .int (zi s4727.2.1)), (3, .int (zi s4727.2.2))]) [1, 2, 3, 4] rfl ?_
          exact k4744 (s4727.1, s4727.2.1) ⟨h4728.1, h4728.2.1⟩
        · refine r_icmp_eq (tgt := 45) C h4728.1 (IRd rfl) dX9_bestQuestion_36 (by decide) (fun c4748 => ?_) (fun c4748 => ?_)
          · exact k4746 (Or.inl c4748)
          · refine r_iload (pc := 39) (j := 0) C dX9_bestQuestion_39 rfl ?_
            refine r_iload_n (pc := 41) (j := 3) C dX9_bestQuestion_41 rfl rfl ?_
            refine r_icmp_ge (tgt := 50) C h4738 h4728.2.1 dX9_bestQuestion_42 (by decide) (fun c4749 => ?_) (fun c4749 => ?_)
            · exact k4747 (fun w => w.elim c4748 c4749)
            · exact k4746 (Or.inr c4749)
    · refine r_bf c4735 ?_
      refine r_L (L' := [(1, .int (zi s4727.1))]) [1] rfl ?_
      exact k4732 s4727.1 h4728.1
    · refine r_icmp_ge (tgt := 56) C h4728.2.2 h4733 dX9_bestQuestion_14 (by decide) (fun c4750 => ?_) (fun c4750 => ?_)
      · exact k4737 (fun w => c4750 w.1)
      · refine r_aload_n (pc := 17) (j := 0) C dX9_bestQuestion_17 rfl rfl ?_
        refine r_getR (j := 0) (r := 250) C cl_X9 kd_249 ln_249 (by decide) rfl r0_249_0 (by decide) q_658 dX9_bestQuestion_18 ?_
        refine r_cV1 (pc := 21) (k := 250) (As := []) (st := []) C (m_X6_size (p := 250) gw_250 rfl) cal_X6_size cl_X6 kd_250 ln_250 q_1482 dX9_bestQuestion_21 rfl rfl (Nat.le_of_ble_eq_true rfl) (Nat.le_of_ble_eq_true rfl) (Nat.le_of_ble_eq_true rfl) (Nat.le_of_ble_eq_true rfl) (Nat.le_of_ble_eq_true rfl) (fun h4734 => ?_)
        refine r_if_le (tgt := 56) C h4734 dX9_bestQuestion_24 (by decide) (fun c4751 => ?_) (fun c4751 => ?_)
        · exact k4737 (fun w => c4751 w.2)
        · exact k4736 ⟨c4750, c4751⟩
