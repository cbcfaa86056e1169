/-! m_read: the methods as functions, and their walks (written by program) -/
def f_X5_newName (S : Sst) : Option (Sst) :=
  Option.bind (
    if S.2 53 0 = 4 then
      (jn (f_X3_fail 3 S) fun (q314 : Sst) =>
      some q314)
    else
      (if S.2 53 0 = 3 then
        (Option.bind (f_X3_addName S) fun (q319 : Sst) =>
        some q319)
      else
        (jn (f_X3_fail 2 S) fun (q322 : Sst) =>
        some q322))) fun (q308 : Sst) =>
  Option.bind (f_X3_step q308) fun (q325 : Sst) =>
  some q325
set_option maxRecDepth 100000 in
set_option maxHeartbeats 4000000 in
theorem m_X5_newName {l : Launch} {E : EwT} {S : Sst} {O : Smo}  {q : Sst} (hq : f_X5_newName S = some q) : MetG l E yX5_newName cX5_newName 1 none 7 192 0 0 n0 R0 S O [.ref (zad E 55)] (True) none n0 R0 q O := by
  refine ofG (L0 := [(0, .ref (zad E 55))]) hq (by decide +kernel) (Nat.le_of_ble_eq_true rfl) rfl (fun K _ C hQ => ?_)
  unfold f_X5_newName
  refine r_aload_n (pc := 0) (j := 0) C dX5_newName_0 rfl rfl ?_
  refine r_getR (j := 0) (r := 53) C cl_X5 kd_55 ln_55 (by decide) rfl r0_55_0 (by decide) q_404 dX5_newName_1 ?_
  refine r_getS (j := 0) C cl_X3 kd_53 ln_53 lc_53 (by decide) (by decide) rfl q_341 dX5_newName_4 (fun h307 => ?_)
  refine r_iconst (v := 4) C dX5_newName_7 (by decide) ?_
  refine r_joinb (fun q308 : Sst => True) (fun q308 => q308) (fun q308 => O) (fun q308 => [(0, .ref (zad E 55))]) 51 (fun q308 => []) (fun q308 h309 => ?_) (fun k310 k311 => ?_)
  · refine r_aload_n (pc := 51) (j := 0) C dX5_newName_51 rfl rfl ?_
    refine r_getR (j := 0) (r := 53) C cl_X5 kd_55 ln_55 (by decide) rfl r0_55_0 (by decide) q_404 dX5_newName_52 ?_
    refine r_bd (fun q325 e326 => ?_)
    refine r_cV0 (pc := 55) (k := 53) (As := []) (st := []) C (m_X3_step  e326) cal_X3_step cl_X3 kd_53 ln_53 q_861 dX5_newName_55 rfl rfl (Nat.le_of_ble_eq_true rfl) (Nat.le_of_ble_eq_true rfl) (Nat.le_of_ble_eq_true rfl) (Nat.le_of_ble_eq_true rfl) (Nat.le_of_ble_eq_true rfl) (fun h324 => ?_)
    exact r_return C hQ dX5_newName_58 (fun e => by cases e; exact ⟨trivial, rfl, rfl, rfl, rfl, rfl⟩)
  · refine r_icmp_ne (tgt := 22) C h307 (IRd rfl) dX5_newName_8 (by decide) (fun c312 => ?_) (fun c312 => ?_)
    · refine r_bf c312 ?_
      refine r_aload_n (pc := 22) (j := 0) C dX5_newName_22 rfl rfl ?_
      refine r_getR (j := 0) (r := 53) C cl_X5 kd_55 ln_55 (by decide) rfl r0_55_0 (by decide) q_404 dX5_newName_23 ?_
      refine r_getS (j := 0) C cl_X3 kd_53 ln_53 lc_53 (by decide) (by decide) rfl q_341 dX5_newName_26 (fun h316 => ?_)
      refine r_iconst (v := 3) C dX5_newName_29 (by decide) ?_
      refine r_icmp_eq (tgt := 44) C h316 (IRd rfl) dX5_newName_30 (by decide) (fun c317 => ?_) (fun c317 => ?_)
      · refine r_bt c317 ?_
        refine r_aload_n (pc := 44) (j := 0) C dX5_newName_44 rfl rfl ?_
        refine r_getR (j := 0) (r := 53) C cl_X5 kd_55 ln_55 (by decide) rfl r0_55_0 (by decide) q_404 dX5_newName_45 ?_
        refine r_bb ?_
        refine r_bd (fun q319 e320 => ?_)
        refine r_cV0 (pc := 48) (k := 53) (As := []) (st := []) C (m_X3_addName  e320) cal_X3_addName cl_X3 kd_53 ln_53 q_870 dX5_newName_48 rfl rfl (Nat.le_of_ble_eq_true rfl) (Nat.le_of_ble_eq_true rfl) (Nat.le_of_ble_eq_true rfl) (Nat.le_of_ble_eq_true rfl) (Nat.le_of_ble_eq_true rfl) (fun h318 => ?_)
        exact k311 q319 trivial
      · refine r_bf c317 ?_
        refine r_aload_n (pc := 33) (j := 0) C dX5_newName_33 rfl rfl ?_
        refine r_getR (j := 0) (r := 53) C cl_X5 kd_55 ln_55 (by decide) rfl r0_55_0 (by decide) q_404 dX5_newName_34 ?_
        refine r_iconst (v := 2) C dX5_newName_37 (by decide) ?_
        refine r_bj ?_
        refine r_jn (fun q322 e323 => ?_)
        refine r_cV0 (pc := 38) (k := 53) (As := [.int (zi 2)]) (st := []) C (m_X3_fail (a1 := 2) (IRd rfl) e323) cal_X3_fail cl_X3 kd_53 ln_53 q_866 dX5_newName_38 rfl rfl (Nat.le_of_ble_eq_true rfl) (Nat.le_of_ble_eq_true rfl) (Nat.le_of_ble_eq_true rfl) (Nat.le_of_ble_eq_true rfl) (Nat.le_of_ble_eq_true rfl) (fun h321 => ?_)
        refine r_goto (tgt := 51) C dX5_newName_41 (by decide) ?_
        exact k311 q322 trivial
    · refine r_bt c312 ?_
      refine r_aload_n (pc := 11) (j := 0) C dX5_newName_11 rfl rfl ?_
      refine r_getR (j := 0) (r := 53) C cl_X5 kd_55 ln_55 (by decide) rfl r0_55_0 (by decide) q_404 dX5_newName_12 ?_
      refine r_iconst (v := 3) C dX5_newName_15 (by decide) ?_
      refine r_bj ?_
      refine r_jn (fun q314 e315 => ?_)
      refine r_cV0 (pc := 16) (k := 53) (As := [.int (zi 3)]) (st := []) C (m_X3_fail (a1 := 3) (IRd rfl) e315) cal_X3_fail cl_X3 kd_53 ln_53 q_866 dX5_newName_16 rfl rfl (Nat.le_of_ble_eq_true rfl) (Nat.le_of_ble_eq_true rfl) (Nat.le_of_ble_eq_true rfl) (Nat.le_of_ble_eq_true rfl) (Nat.le_of_ble_eq_true rfl) (fun h313 => ?_)
      refine r_goto (tgt := 51) C dX5_newName_19 (by decide) ?_
      exact k311 q314 trivial

def f_X5_expect (a1 : Int) (S : Sst) : Option (Sst) :=
  jn (
    if S.2 53 0 = a1 then
      (S)
    else
      (jn (f_X3_fail 2 S) fun (q334 : Sst) =>
      q334)) fun (q328 : Sst) =>
  Option.bind (f_X3_step q328) fun (q337 : Sst) =>
  some q337
set_option maxRecDepth 100000 in
set_option maxHeartbeats 4000000 in
theorem m_X5_expect {l : Launch} {E : EwT} {S : Sst} {O : Smo} {a1 : Int} (ha1 : IR a1) {q : Sst} (hq : f_X5_expect a1 S = some q) : MetG l E yX5_expect cX5_expect 2 none 7 192 0 0 n0 R0 S O [.ref (zad E 55), .int (zi a1)] (True) none n0 R0 q O := by
  refine ofG (L0 := [(0, .ref (zad E 55)), (1, .int (zi a1))]) hq (by decide +kernel) (Nat.le_of_ble_eq_true rfl) rfl (fun K _ C hQ => ?_)
  unfold f_X5_expect
  refine r_aload_n (pc := 0) (j := 0) C dX5_expect_0 rfl rfl ?_
  refine r_getR (j := 0) (r := 53) C cl_X5 kd_55 ln_55 (by decide) rfl r0_55_0 (by decide) q_404 dX5_expect_1 ?_
  refine r_getS (j := 0) C cl_X3 kd_53 ln_53 lc_53 (by decide) (by decide) rfl q_341 dX5_expect_4 (fun h327 => ?_)
  refine r_iload_n (pc := 7) (j := 1) C dX5_expect_7 rfl rfl ?_
  refine r_join (fun q328 : Sst => True) (fun q328 => q328) (fun q328 => O) (fun q328 => [(0, .ref (zad E 55))]) 19 (fun q328 => []) (fun q328 h329 => ?_) (fun k330 k331 => ?_)
  · refine r_aload_n (pc := 19) (j := 0) C dX5_expect_19 rfl rfl ?_
    refine r_getR (j := 0) (r := 53) C cl_X5 kd_55 ln_55 (by decide) rfl r0_55_0 (by decide) q_404 dX5_expect_20 ?_
    refine r_bd (fun q337 e338 => ?_)
    refine r_cV0 (pc := 23) (k := 53) (As := []) (st := []) C (m_X3_step  e338) cal_X3_step cl_X3 kd_53 ln_53 q_861 dX5_expect_23 rfl rfl (Nat.le_of_ble_eq_true rfl) (Nat.le_of_ble_eq_true rfl) (Nat.le_of_ble_eq_true rfl) (Nat.le_of_ble_eq_true rfl) (Nat.le_of_ble_eq_true rfl) (fun h336 => ?_)
    exact r_return C hQ dX5_expect_26 (fun e => by cases e; exact ⟨trivial, rfl, rfl, rfl, rfl, rfl⟩)
  · refine r_icmp_eq (tgt := 19) C h327 ha1 dX5_expect_8 (by decide) (fun c332 => ?_) (fun c332 => ?_)
    · refine r_jt c332 ?_
      refine r_L (L' := [(0, .ref (zad E 55))]) [0] rfl ?_
      exact k331 S trivial
    · refine r_jf c332 ?_
      refine r_aload_n (pc := 11) (j := 0) C dX5_expect_11 rfl rfl ?_
      refine r_getR (j := 0) (r := 53) C cl_X5 kd_55 ln_55 (by decide) rfl r0_55_0 (by decide) q_404 dX5_expect_12 ?_
      refine r_iconst (v := 2) C dX5_expect_15 (by decide) ?_
      refine r_jj ?_
      refine r_jn (fun q334 e335 => ?_)
      refine r_cV0 (pc := 16) (k := 53) (As := [.int (zi 2)]) (st := []) C (m_X3_fail (a1 := 2) (IRd rfl) e335) cal_X3_fail cl_X3 kd_53 ln_53 q_866 dX5_expect_16 rfl rfl (Nat.le_of_ble_eq_true rfl) (Nat.le_of_ble_eq_true rfl) (Nat.le_of_ble_eq_true rfl) (Nat.le_of_ble_eq_true rfl) (Nat.le_of_ble_eq_true rfl) (fun h333 => ?_)
      refine r_L (L' := [(0, .ref (zad E 55))]) [0] rfl ?_
      exact k331 q334 trivial

def f_X5_number (a1 : Int) (a2 : Int) (S : Sst) : Int × Sst :=
  jn (
    if S.2 53 0 = 2 then
      (if (S.2 53 1 < a1 ∨ a2 < S.2 53 1) then
        (jn (f_X3_fail 4 S) fun (q351 : Sst) =>
        q351)
      else
        (S))
    else
      (jn (f_X3_fail 2 S) fun (q356 : Sst) =>
      q356)) fun (q340 : Sst) =>
  (q340.2 53 1, q340)
set_option maxRecDepth 100000 in
set_option maxHeartbeats 4000000 in
theorem m_X5_number {l : Launch} {E : EwT} {S : Sst} {O : Smo} {a1 : Int} (ha1 : IR a1) {a2 : Int} (ha2 : IR a2) {q : Int × Sst} (hq : f_X5_number a1 a2 S = q) : MetG l E yX5_number cX5_number 3 (some .int) 1 21 0 0 n0 R0 S O [.ref (zad E 55), .int (zi a1), .int (zi a2)] (IR q.1) (some (.int (zi q.1))) n0 R0 q.2 O := by
  refine ofG (L0 := [(0, .ref (zad E 55)), (1, .int (zi a1)), (2, .int (zi a2))]) hq (by decide +kernel) (Nat.le_of_ble_eq_true rfl) rfl (fun K _ C hQ => ?_)
  unfold f_X5_number
  refine r_aload_n (pc := 0) (j := 0) C dX5_number_0 rfl rfl ?_
  refine r_getR (j := 0) (r := 53) C cl_X5 kd_55 ln_55 (by decide) rfl r0_55_0 (by decide) q_404 dX5_number_1 ?_
  refine r_getS (j := 0) C cl_X3 kd_53 ln_53 lc_53 (by decide) (by decide) rfl q_341 dX5_number_4 (fun h339 => ?_)
  refine r_iconst (v := 2) C dX5_number_7 (by decide) ?_
  refine r_join (fun q340 : Sst => True) (fun q340 => q340) (fun q340 => O) (fun q340 => [(0, .ref (zad E 55))]) 52 (fun q340 => []) (fun q340 h341 => ?_) (fun k342 k343 => ?_)
  · refine r_aload_n (pc := 52) (j := 0) C dX5_number_52 rfl rfl ?_
    refine r_getR (j := 0) (r := 53) C cl_X5 kd_55 ln_55 (by decide) rfl r0_55_0 (by decide) q_404 dX5_number_53 ?_
    refine r_getS (j := 1) C cl_X3 kd_53 ln_53 lc_53 (by decide) (by decide) rfl q_345 dX5_number_56 (fun h358 => ?_)
    exact r_ireturn C hQ rfl dX5_number_59 (fun e => by subst e; exact ⟨h358, rfl, rfl, rfl, rfl, rfl⟩)
  · refine r_icmp_eq (tgt := 22) C h339 (IRd rfl) dX5_number_8 (by decide) (fun c344 => ?_) (fun c344 => ?_)
    · refine r_jt c344 ?_
      refine r_aload_n (pc := 22) (j := 0) C dX5_number_22 rfl rfl ?_
      refine r_getR (j := 0) (r := 53) C cl_X5 kd_55 ln_55 (by decide) rfl r0_55_0 (by decide) q_404 dX5_number_23 ?_
      refine r_getS (j := 1) C cl_X3 kd_53 ln_53 lc_53 (by decide) (by decide) rfl q_345 dX5_number_26 (fun h345 => ?_)
      refine r_iload_n (pc := 29) (j := 1) C dX5_number_29 rfl rfl ?_
      refine r_cut (S.2 53 1 < a1 ∨ a2 < S.2 53 1) 44 52 [] (fun c347 => ?_) (fun c347 => ?_) (fun k348 k349 => ?_)
      · refine r_jt c347 ?_
        refine r_aload_n (pc := 44) (j := 0) C dX5_number_44 rfl rfl ?_
        refine r_getR (j := 0) (r := 53) C cl_X5 kd_55 ln_55 (by decide) rfl r0_55_0 (by decide) q_404 dX5_number_45 ?_
        refine r_iconst (v := 4) C dX5_number_48 (by decide) ?_
        refine r_jj ?_
        refine r_jn (fun q351 e352 => ?_)
        refine r_cV0 (pc := 49) (k := 53) (As := [.int (zi 4)]) (st := []) C (m_X3_fail (a1 := 4) (IRd rfl) e352) cal_X3_fail cl_X3 kd_53 ln_53 q_866 dX5_number_49 rfl rfl (Nat.le_of_ble_eq_true rfl) (Nat.le_of_ble_eq_true rfl) (Nat.le_of_ble_eq_true rfl) (Nat.le_of_ble_eq_true rfl) (Nat.le_of_ble_eq_true rfl) (fun h350 => ?_)
        refine r_L (L' := [(0, .ref (zad E 55))]) [0] rfl ?_
        exact k343 q351 trivial
      · refine r_jf c347 ?_
        refine r_L (L' := [(0, .ref (zad E 55))]) [0] rfl ?_
        exact k343 S trivial
      · refine r_icmp_lt (tgt := 44) C h345 ha1 dX5_number_30 (by decide) (fun c353 => ?_) (fun c353 => ?_)
        · exact k348 (Or.inl c353)
        · refine r_aload_n (pc := 33) (j := 0) C dX5_number_33 rfl rfl ?_
          refine r_getR (j := 0) (r := 53) C cl_X5 kd_55 ln_55 (by decide) rfl r0_55_0 (by decide) q_404 dX5_number_34 ?_
          refine r_getS (j := 1) C cl_X3 kd_53 ln_53 lc_53 (by decide) (by decide) rfl q_345 dX5_number_37 (fun h346 => ?_)
          refine r_iload_n (pc := 40) (j := 2) C dX5_number_40 rfl rfl ?_
          refine r_icmp_le (tgt := 52) C h346 ha2 dX5_number_41 (by decide) (fun c354 => ?_) (fun c354 => ?_)
          · exact k349 (fun w => w.elim c353 c354)
          · exact k348 (Or.inr c354)
    · refine r_jf c344 ?_
      refine r_aload_n (pc := 11) (j := 0) C dX5_number_11 rfl rfl ?_
      refine r_getR (j := 0) (r := 53) C cl_X5 kd_55 ln_55 (by decide) rfl r0_55_0 (by decide) q_404 dX5_number_12 ?_
      refine r_iconst (v := 2) C dX5_number_15 (by decide) ?_
      refine r_jj ?_
      refine r_jn (fun q356 e357 => ?_)
      refine r_cV0 (pc := 16) (k := 53) (As := [.int (zi 2)]) (st := []) C (m_X3_fail (a1 := 2) (IRd rfl) e357) cal_X3_fail cl_X3 kd_53 ln_53 q_866 dX5_number_16 rfl rfl (Nat.le_of_ble_eq_true rfl) (Nat.le_of_ble_eq_true rfl) (Nat.le_of_ble_eq_true rfl) (Nat.le_of_ble_eq_true rfl) (Nat.le_of_ble_eq_true rfl) (fun h355 => ?_)
      refine r_goto (tgt := 52) C dX5_number_19 (by decide) ?_
      refine r_L (L' := [(0, .ref (zad E 55))]) [0] rfl ?_
      exact k343 q356 trivial

def f_X5_readSegment (S : Sst) : Option (Sst) :=
  Option.bind (f_X3_step S) fun (q461 : Sst) =>
  Option.bind (f_X5_newName q461) fun (q464 : Sst) =>
  Option.bind (f_X5_expect 101 q464) fun (q467 : Sst) =>
  jn (f_X5_number 0 59 q467) fun (q470 : Int × Sst) =>
  Option.bind (f_X3_step q470.2) fun (q473 : Sst) =>
  jn (f_X5_number 0 60 q473) fun (q476 : Int × Sst) =>
  Option.bind (f_X3_step q476.2) fun (q479 : Sst) =>
  Option.bind (f_X5_expect 102 q479) fun (q482 : Sst) =>
  jn (f_X5_number (wr (q470.1 + 1)) 60 q482) fun (q485 : Int × Sst) =>
  Option.bind (f_X3_step q485.2) fun (q488 : Sst) =>
  jn (f_X5_number 0 60 q488) fun (q491 : Int × Sst) =>
  if f_X3_failed q491.2 = 0 then
    (jn (f_X4_addSegment 5 q470.1 q476.1 q485.1 q491.1 q491.2) fun (q496 : Sst) =>
    Option.bind (f_X4_lastMeetsAnother 5 q496) fun (q499 : Int) =>
    jn (
      if q499 = 0 then
        (q496)
      else
        (jn (f_X3_fail 5 q496) fun (q507 : Sst) =>
        q507)) fun (q501 : Sst) =>
    Option.bind (f_X3_step q501) fun (q510 : Sst) =>
    some q510)
  else
    (some q491.2)
set_option maxRecDepth 100000 in
set_option maxHeartbeats 4000000 in
theorem m_X5_readSegment {l : Launch} {E : EwT} {S : Sst} {O : Smo}  {q : Sst} (hq : f_X5_readSegment S = some q) : MetG l E yX5_readSegment cX5_readSegment 5 none 8 213 0 0 n0 R0 S O [.ref (zad E 55)] (True) none n0 R0 q O := by
  refine ofG (L0 := [(0, .ref (zad E 55))]) hq (by decide +kernel) (Nat.le_of_ble_eq_true rfl) rfl (fun K _ C hQ => ?_)
  unfold f_X5_readSegment
  refine r_aload_n (pc := 0) (j := 0) C dX5_readSegment_0 rfl rfl ?_
  refine r_getR (j := 0) (r := 53) C cl_X5 kd_55 ln_55 (by decide) rfl r0_55_0 (by decide) q_404 dX5_readSegment_1 ?_
  refine r_bd (fun q461 e462 => ?_)
  refine r_cV0 (pc := 4) (k := 53) (As := []) (st := []) C (m_X3_step  e462) cal_X3_step cl_X3 kd_53 ln_53 q_861 dX5_readSegment_4 rfl rfl (Nat.le_of_ble_eq_true rfl) (Nat.le_of_ble_eq_true rfl) (Nat.le_of_ble_eq_true rfl) (Nat.le_of_ble_eq_true rfl) (Nat.le_of_ble_eq_true rfl) (fun h460 => ?_)
  refine r_aload_n (pc := 7) (j := 0) C dX5_readSegment_7 rfl rfl ?_
  refine r_bd (fun q464 e465 => ?_)
  refine r_cV0 (pc := 8) (k := 55) (As := []) (st := []) C (m_X5_newName  e465) cal_X5_newName cl_X5 kd_55 ln_55 q_862 dX5_readSegment_8 rfl rfl (Nat.le_of_ble_eq_true rfl) (Nat.le_of_ble_eq_true rfl) (Nat.le_of_ble_eq_true rfl) (Nat.le_of_ble_eq_true rfl) (Nat.le_of_ble_eq_true rfl) (fun h463 => ?_)
  refine r_aload_n (pc := 11) (j := 0) C dX5_readSegment_11 rfl rfl ?_
  refine r_bipush (v := 101) C dX5_readSegment_12 (by decide) ?_
  refine r_bd (fun q467 e468 => ?_)
  refine r_cV0 (pc := 14) (k := 55) (As := [.int (zi 101)]) (st := []) C (m_X5_expect (a1 := 101) (IRd rfl) e468) cal_X5_expect cl_X5 kd_55 ln_55 q_874 dX5_readSegment_14 rfl rfl (Nat.le_of_ble_eq_true rfl) (Nat.le_of_ble_eq_true rfl) (Nat.le_of_ble_eq_true rfl) (Nat.le_of_ble_eq_true rfl) (Nat.le_of_ble_eq_true rfl) (fun h466 => ?_)
  refine r_aload_n (pc := 17) (j := 0) C dX5_readSegment_17 rfl rfl ?_
  refine r_iconst (v := 0) C dX5_readSegment_18 (by decide) ?_
  refine r_bipush (v := 59) C dX5_readSegment_19 (by decide) ?_
  refine r_jn (fun q470 e471 => ?_)
  refine r_cV1 (pc := 21) (k := 55) (As := [.int (zi 0), .int (zi 59)]) (st := []) C (m_X5_number (a1 := 0) (a2 := 59) (IRd rfl) (IRd rfl) e471) cal_X5_number cl_X5 kd_55 ln_55 q_878 dX5_readSegment_21 rfl rfl (Nat.le_of_ble_eq_true rfl) (Nat.le_of_ble_eq_true rfl) (Nat.le_of_ble_eq_true rfl) (Nat.le_of_ble_eq_true rfl) (Nat.le_of_ble_eq_true rfl) (fun h469 => ?_)
  refine r_istore_n (L' := [(1, .int (zi q470.1)), (0, .ref (zad E 55))]) C dX5_readSegment_24 rfl (by decide) rfl ?_
  refine r_aload_n (pc := 25) (j := 1) C dX5_readSegment_25 rfl rfl ?_
  refine r_getR (j := 0) (r := 53) C cl_X5 kd_55 ln_55 (by decide) rfl r0_55_0 (by decide) q_404 dX5_readSegment_26 ?_
  refine r_bd (fun q473 e474 => ?_)
  refine r_cV0 (pc := 29) (k := 53) (As := []) (st := []) C (m_X3_step  e474) cal_X3_step cl_X3 kd_53 ln_53 q_861 dX5_readSegment_29 rfl rfl (Nat.le_of_ble_eq_true rfl) (Nat.le_of_ble_eq_true rfl) (Nat.le_of_ble_eq_true rfl) (Nat.le_of_ble_eq_true rfl) (Nat.le_of_ble_eq_true rfl) (fun h472 => ?_)
  refine r_aload_n (pc := 32) (j := 1) C dX5_readSegment_32 rfl rfl ?_
  refine r_iconst (v := 0) C dX5_readSegment_33 (by decide) ?_
  refine r_bipush (v := 60) C dX5_readSegment_34 (by decide) ?_
  refine r_jn (fun q476 e477 => ?_)
  refine r_cV1 (pc := 36) (k := 55) (As := [.int (zi 0), .int (zi 60)]) (st := []) C (m_X5_number (a1 := 0) (a2 := 60) (IRd rfl) (IRd rfl) e477) cal_X5_number cl_X5 kd_55 ln_55 q_878 dX5_readSegment_36 rfl rfl (Nat.le_of_ble_eq_true rfl) (Nat.le_of_ble_eq_true rfl) (Nat.le_of_ble_eq_true rfl) (Nat.le_of_ble_eq_true rfl) (Nat.le_of_ble_eq_true rfl) (fun h475 => ?_)
  refine r_istore_n (L' := [(2, .int (zi q476.1)), (1, .int (zi q470.1)), (0, .ref (zad E 55))]) C dX5_readSegment_39 rfl (by decide) rfl ?_
  refine r_aload_n (pc := 40) (j := 2) C dX5_readSegment_40 rfl rfl ?_
  refine r_getR (j := 0) (r := 53) C cl_X5 kd_55 ln_55 (by decide) rfl r0_55_0 (by decide) q_404 dX5_readSegment_41 ?_
  refine r_bd (fun q479 e480 => ?_)
  refine r_cV0 (pc := 44) (k := 53) (As := []) (st := []) C (m_X3_step  e480) cal_X3_step cl_X3 kd_53 ln_53 q_861 dX5_readSegment_44 rfl rfl (Nat.le_of_ble_eq_true rfl) (Nat.le_of_ble_eq_true rfl) (Nat.le_of_ble_eq_true rfl) (Nat.le_of_ble_eq_true rfl) (Nat.le_of_ble_eq_true rfl) (fun h478 => ?_)
  refine r_aload_n (pc := 47) (j := 2) C dX5_readSegment_47 rfl rfl ?_
  refine r_bipush (v := 102) C dX5_readSegment_48 (by decide) ?_
  refine r_bd (fun q482 e483 => ?_)
  refine r_cV0 (pc := 50) (k := 55) (As := [.int (zi 102)]) (st := []) C (m_X5_expect (a1 := 102) (IRd rfl) e483) cal_X5_expect cl_X5 kd_55 ln_55 q_874 dX5_readSegment_50 rfl rfl (Nat.le_of_ble_eq_true rfl) (Nat.le_of_ble_eq_true rfl) (Nat.le_of_ble_eq_true rfl) (Nat.le_of_ble_eq_true rfl) (Nat.le_of_ble_eq_true rfl) (fun h481 => ?_)
  refine r_aload_n (pc := 53) (j := 2) C dX5_readSegment_53 rfl rfl ?_
  refine r_iload_n (pc := 54) (j := 1) C dX5_readSegment_54 rfl rfl ?_
  refine r_iconst (v := 1) C dX5_readSegment_55 (by decide) ?_
  refine r_iadd C dX5_readSegment_56 ?_
  refine r_bipush (v := 60) C dX5_readSegment_57 (by decide) ?_
  refine r_jn (fun q485 e486 => ?_)
  refine r_cV1 (pc := 59) (k := 55) (As := [.int (zi (wr (q470.1 + 1))), .int (zi 60)]) (st := []) C (m_X5_number (a1 := wr (q470.1 + 1)) (a2 := 60) (IR_wr _) (IRd rfl) e486) cal_X5_number cl_X5 kd_55 ln_55 q_878 dX5_readSegment_59 rfl rfl (Nat.le_of_ble_eq_true rfl) (Nat.le_of_ble_eq_true rfl) (Nat.le_of_ble_eq_true rfl) (Nat.le_of_ble_eq_true rfl) (Nat.le_of_ble_eq_true rfl) (fun h484 => ?_)
  refine r_istore_n (L' := [(3, .int (zi q485.1)), (2, .int (zi q476.1)), (1, .int (zi q470.1)), (0, .ref (zad E 55))]) C dX5_readSegment_62 rfl (by decide) rfl ?_
  refine r_aload_n (pc := 63) (j := 3) C dX5_readSegment_63 rfl rfl ?_
  refine r_getR (j := 0) (r := 53) C cl_X5 kd_55 ln_55 (by decide) rfl r0_55_0 (by decide) q_404 dX5_readSegment_64 ?_
  refine r_bd (fun q488 e489 => ?_)
  refine r_cV0 (pc := 67) (k := 53) (As := []) (st := []) C (m_X3_step  e489) cal_X3_step cl_X3 kd_53 ln_53 q_861 dX5_readSegment_67 rfl rfl (Nat.le_of_ble_eq_true rfl) (Nat.le_of_ble_eq_true rfl) (Nat.le_of_ble_eq_true rfl) (Nat.le_of_ble_eq_true rfl) (Nat.le_of_ble_eq_true rfl) (fun h487 => ?_)
  refine r_aload_n (pc := 70) (j := 3) C dX5_readSegment_70 rfl rfl ?_
  refine r_iconst (v := 0) C dX5_readSegment_71 (by decide) ?_
  refine r_bipush (v := 60) C dX5_readSegment_72 (by decide) ?_
  refine r_jn (fun q491 e492 => ?_)
  refine r_cV1 (pc := 74) (k := 55) (As := [.int (zi 0), .int (zi 60)]) (st := []) C (m_X5_number (a1 := 0) (a2 := 60) (IRd rfl) (IRd rfl) e492) cal_X5_number cl_X5 kd_55 ln_55 q_878 dX5_readSegment_74 rfl rfl (Nat.le_of_ble_eq_true rfl) (Nat.le_of_ble_eq_true rfl) (Nat.le_of_ble_eq_true rfl) (Nat.le_of_ble_eq_true rfl) (Nat.le_of_ble_eq_true rfl) (fun h490 => ?_)
  refine r_istore (L' := [(4, .int (zi q491.1)), (3, .int (zi q485.1)), (2, .int (zi q476.1)), (1, .int (zi q470.1)), (0, .ref (zad E 55))]) C dX5_readSegment_77 (by decide) rfl ?_
  refine r_aload_n (pc := 79) (j := 4) C dX5_readSegment_79 rfl rfl ?_
  refine r_getR (j := 0) (r := 53) C cl_X5 kd_55 ln_55 (by decide) rfl r0_55_0 (by decide) q_404 dX5_readSegment_80 ?_
  refine r_cV1 (pc := 83) (k := 53) (As := []) (st := []) C (m_X3_failed  rfl) cal_X3_failed cl_X3 kd_53 ln_53 q_882 dX5_readSegment_83 rfl rfl (Nat.le_of_ble_eq_true rfl) (Nat.le_of_ble_eq_true rfl) (Nat.le_of_ble_eq_true rfl) (Nat.le_of_ble_eq_true rfl) (Nat.le_of_ble_eq_true rfl) (fun h493 => ?_)
  refine r_if_eq (tgt := 90) C h493.ir dX5_readSegment_86 (by decide) (fun c494 => ?_) (fun c494 => ?_)
  · refine r_t c494 ?_
    refine r_aload_n (pc := 90) (j := 4) C dX5_readSegment_90 rfl rfl ?_
    refine r_getR (j := 1) (r := 5) C cl_X5 kd_55 ln_55 (by decide) rfl r0_55_1 (by decide) q_405 dX5_readSegment_91 ?_
    refine r_iload_n (pc := 94) (j := 3) C dX5_readSegment_94 rfl rfl ?_
    refine r_iload_n (pc := 95) (j := 2) C dX5_readSegment_95 rfl rfl ?_
    refine r_iload_n (pc := 96) (j := 1) C dX5_readSegment_96 rfl rfl ?_
    refine r_iload (pc := 97) (j := 0) C dX5_readSegment_97 rfl ?_
    refine r_jn (fun q496 e497 => ?_)
    refine r_cV0 (pc := 99) (k := 5) (As := [.int (zi q470.1), .int (zi q476.1), .int (zi q485.1), .int (zi q491.1)]) (st := []) C (m_X4_addSegment (p := 5) (a1 := q470.1) (a2 := q476.1) (a3 := q485.1) (a4 := q491.1) gp_5 h469 h475 h484 h490 e497) cal_X4_addSegment cl_X4 kd_5 ln_5 q_886 dX5_readSegment_99 rfl rfl (Nat.le_of_ble_eq_true rfl) (Nat.le_of_ble_eq_true rfl) (Nat.le_of_ble_eq_true rfl) (Nat.le_of_ble_eq_true rfl) (Nat.le_of_ble_eq_true rfl) (fun h495 => ?_)
    refine r_aload_n (pc := 102) (j := 4) C dX5_readSegment_102 rfl rfl ?_
    refine r_getR (j := 1) (r := 5) C cl_X5 kd_55 ln_55 (by decide) rfl r0_55_1 (by decide) q_405 dX5_readSegment_103 ?_
    refine r_bd (fun q499 e500 => ?_)
    refine r_cV1 (pc := 106) (k := 5) (As := []) (st := []) C (m_X4_lastMeetsAnother (p := 5) gp_5 e500) cal_X4_lastMeetsAnother cl_X4 kd_5 ln_5 q_891 dX5_readSegment_106 rfl rfl (Nat.le_of_ble_eq_true rfl) (Nat.le_of_ble_eq_true rfl) (Nat.le_of_ble_eq_true rfl) (Nat.le_of_ble_eq_true rfl) (Nat.le_of_ble_eq_true rfl) (fun h498 => ?_)
    refine r_join (fun q501 : Sst => True) (fun q501 => q501) (fun q501 => O) (fun q501 => [(0, .ref (zad E 55))]) 120 (fun q501 => []) (fun q501 h502 => ?_) (fun k503 k504 => ?_)
    · refine r_aload_n (pc := 120) (j := 0) C dX5_readSegment_120 rfl rfl ?_
      refine r_getR (j := 0) (r := 53) C cl_X5 kd_55 ln_55 (by decide) rfl r0_55_0 (by decide) q_404 dX5_readSegment_121 ?_
      refine r_bd (fun q510 e511 => ?_)
      refine r_cV0 (pc := 124) (k := 53) (As := []) (st := []) C (m_X3_step  e511) cal_X3_step cl_X3 kd_53 ln_53 q_861 dX5_readSegment_124 rfl rfl (Nat.le_of_ble_eq_true rfl) (Nat.le_of_ble_eq_true rfl) (Nat.le_of_ble_eq_true rfl) (Nat.le_of_ble_eq_true rfl) (Nat.le_of_ble_eq_true rfl) (fun h509 => ?_)
      exact r_return C hQ dX5_readSegment_127 (fun e => by cases e; exact ⟨trivial, rfl, rfl, rfl, rfl, rfl⟩)
    · refine r_if_eq (tgt := 120) C h498.ir dX5_readSegment_109 (by decide) (fun c505 => ?_) (fun c505 => ?_)
      · refine r_jt c505 ?_
        refine r_L (L' := [(0, .ref (zad E 55))]) [4] rfl ?_
        exact k504 q496 trivial
      · refine r_jf c505 ?_
        refine r_aload_n (pc := 112) (j := 4) C dX5_readSegment_112 rfl rfl ?_
        refine r_getR (j := 0) (r := 53) C cl_X5 kd_55 ln_55 (by decide) rfl r0_55_0 (by decide) q_404 dX5_readSegment_113 ?_
        refine r_iconst (v := 5) C dX5_readSegment_116 (by decide) ?_
        refine r_jj ?_
        refine r_jn (fun q507 e508 => ?_)
        refine r_cV0 (pc := 117) (k := 53) (As := [.int (zi 5)]) (st := []) C (m_X3_fail (a1 := 5) (IRd rfl) e508) cal_X3_fail cl_X3 kd_53 ln_53 q_866 dX5_readSegment_117 rfl rfl (Nat.le_of_ble_eq_true rfl) (Nat.le_of_ble_eq_true rfl) (Nat.le_of_ble_eq_true rfl) (Nat.le_of_ble_eq_true rfl) (Nat.le_of_ble_eq_true rfl) (fun h506 => ?_)
        refine r_L (L' := [(0, .ref (zad E 55))]) [4] rfl ?_
        exact k504 q507 trivial
  · refine r_f c494 ?_
    exact r_return C hQ dX5_readSegment_89 (fun e => by cases e; exact ⟨trivial, rfl, rfl, rfl, rfl, rfl⟩)

def f_X2_rankOf (a0 : Int) : Int :=
  if (a0 = 37 ∨ a0 = 42) then
    (6)
  else
    (if (a0 = 43 ∨ a0 = 45) then
      (5)
    else
      (if a0 = 47 then
        (6)
      else
        (if (a0 = 60 ∨ a0 = 61 ∨ a0 = 62) then
          (4)
        else
          (if a0 = 106 then
            (1)
          else
            (if a0 = 107 then
              (2)
            else
              (if a0 = 108 then
                (3)
              else
                (0)))))))
set_option maxRecDepth 100000 in
set_option maxHeartbeats 4000000 in
theorem m_X2_rankOf {l : Launch} {E : EwT} {n : Nat} {R : Srf} {S : Sst} {O : Smo} {a0 : Int} (ha0 : IR a0) {q : Int} (hq : f_X2_rankOf a0 = q) : MetG l E yX2_rankOf cX2_rankOf 1 (some .int) 0 0 0 0 n R S O [.int (zi a0)] (IR q) (some (.int (zi q))) n R S O := by
  refine ofG (L0 := [(0, .int (zi a0))]) hq (by decide +kernel) (Nat.le_of_ble_eq_true rfl) rfl (fun K _ C hQ => ?_)
  unfold f_X2_rankOf
  refine r_iload_n (pc := 0) (j := 0) C dX2_rankOf_0 rfl rfl ?_
  by_cases c512 : (a0 = 37 ∨ a0 = 42)
  · refine r_t c512 ?_
    refine r_cutS 110 [] (?_) (fun k513 => ?_)
    · refine r_bipush (v := 6) C dX2_rankOf_110 (by decide) ?_
      exact r_ireturn C hQ rfl dX2_rankOf_112 (fun e => by subst e; exact ⟨(IRd rfl), rfl, rfl, rfl, rfl, rfl⟩)
    · rcases c512 with c514 | c514
      · refine r_lswIn (kx := 37) (tgt := 110) C ha0 dX2_rankOf_1 rfl c514 rfl (by decide) ?_
        exact k513
      · refine r_lswIn (kx := 42) (tgt := 110) C ha0 dX2_rankOf_1 rfl c514 rfl (by decide) ?_
        exact k513
  · refine r_f c512 ?_
    by_cases c515 : (a0 = 43 ∨ a0 = 45)
    · refine r_t c515 ?_
      refine r_cutS 108 [] (?_) (fun k516 => ?_)
      · refine r_iconst (v := 5) C dX2_rankOf_108 (by decide) ?_
        exact r_ireturn C hQ rfl dX2_rankOf_109 (fun e => by subst e; exact ⟨(IRd rfl), rfl, rfl, rfl, rfl, rfl⟩)
      · rcases c515 with c517 | c517
        · refine r_lswIn (kx := 43) (tgt := 108) C ha0 dX2_rankOf_1 rfl c517 rfl (by decide) ?_
          exact k516
        · refine r_lswIn (kx := 45) (tgt := 108) C ha0 dX2_rankOf_1 rfl c517 rfl (by decide) ?_
          exact k516
    · refine r_f c515 ?_
      by_cases c518 : (a0 = 47)
      · refine r_t c518 ?_
        refine r_lswIn (kx := 47) (tgt := 110) C ha0 dX2_rankOf_1 rfl c518 rfl (by decide) ?_
        refine r_bipush (v := 6) C dX2_rankOf_110 (by decide) ?_
        exact r_ireturn C hQ rfl dX2_rankOf_112 (fun e => by subst e; exact ⟨(IRd rfl), rfl, rfl, rfl, rfl, rfl⟩)
      · refine r_f c518 ?_
        by_cases c519 : (a0 = 60 ∨ a0 = 61 ∨ a0 = 62)
        · refine r_t c519 ?_
          refine r_cutS 106 [] (?_) (fun k520 => ?_)
          · refine r_iconst (v := 4) C dX2_rankOf_106 (by decide) ?_
            exact r_ireturn C hQ rfl dX2_rankOf_107 (fun e => by subst e; exact ⟨(IRd rfl), rfl, rfl, rfl, rfl, rfl⟩)
          · rcases c519 with c521 | c521
            · refine r_lswIn (kx := 60) (tgt := 106) C ha0 dX2_rankOf_1 rfl c521 rfl (by decide) ?_
              exact k520
            · rcases c521 with c522 | c522
              · refine r_lswIn (kx := 61) (tgt := 106) C ha0 dX2_rankOf_1 rfl c522 rfl (by decide) ?_
                exact k520
              · refine r_lswIn (kx := 62) (tgt := 106) C ha0 dX2_rankOf_1 rfl c522 rfl (by decide) ?_
                exact k520
        · refine r_f c519 ?_
          by_cases c523 : (a0 = 106)
          · refine r_t c523 ?_
            refine r_lswIn (kx := 106) (tgt := 100) C ha0 dX2_rankOf_1 rfl c523 rfl (by decide) ?_
            refine r_iconst (v := 1) C dX2_rankOf_100 (by decide) ?_
            exact r_ireturn C hQ rfl dX2_rankOf_101 (fun e => by subst e; exact ⟨(IRd rfl), rfl, rfl, rfl, rfl, rfl⟩)
          · refine r_f c523 ?_
            by_cases c524 : (a0 = 107)
            · refine r_t c524 ?_
              refine r_lswIn (kx := 107) (tgt := 102) C ha0 dX2_rankOf_1 rfl c524 rfl (by decide) ?_
              refine r_iconst (v := 2) C dX2_rankOf_102 (by decide) ?_
              exact r_ireturn C hQ rfl dX2_rankOf_103 (fun e => by subst e; exact ⟨(IRd rfl), rfl, rfl, rfl, rfl, rfl⟩)
            · refine r_f c524 ?_
              by_cases c525 : (a0 = 108)
              · refine r_t c525 ?_
                refine r_lswIn (kx := 108) (tgt := 104) C ha0 dX2_rankOf_1 rfl c525 rfl (by decide) ?_
                refine r_iconst (v := 3) C dX2_rankOf_104 (by decide) ?_
                exact r_ireturn C hQ rfl dX2_rankOf_105 (fun e => by subst e; exact ⟨(IRd rfl), rfl, rfl, rfl, rfl, rfl⟩)
              · refine r_f c525 ?_
                refine r_lswOut (tgt := 113) C ha0 dX2_rankOf_1 rfl (by intro q hq; simp at hq; rcases hq with rfl | rfl | rfl | rfl | rfl | rfl | rfl | rfl | rfl | rfl | rfl <;> omega) (by decide) ?_
                refine r_iconst (v := 0) C dX2_rankOf_113 (by decide) ?_
                exact r_ireturn C hQ rfl dX2_rankOf_114 (fun e => by subst e; exact ⟨(IRd rfl), rfl, rfl, rfl, rfl, rfl⟩)

def f_X2_settle (o1 : Nat) (a2 : Int) (S : Sst) : Option (Sst) :=
  Option.bind (lp (fun (s557 : Int × Sst) =>
    if s557.1 < 64 then
      (jn (f_X2_rankOf (f_X6_last 57 s557.2)) fun (v568 : Int) =>
      if (v568 = 0 ∨ v568 < a2) then
        (some (Sum.inr (Sum.inl s557.2)))
      else
        (jn (f_X6_takeLast 57 s557.2) fun (q574 : Int × Sst) =>
        jn (f_X1_add o1 q574.1 q574.2) fun (q577 : Sst) =>
        jn (
          if v568 = 3 then
            (1)
          else
            (0)) fun (q580 : Int) =>
        jn (upS q577 56 2 (wr ((q577.2 56 2) - q580))) fun (S585 : Sst) =>
        some (Sum.inl (wr (s557.1 + 1), S585))))
    else
      (some (Sum.inr (Sum.inr s557.2)))) FU (0, S)) fun z592 => Sum.elim (fun (r588 : Sst) =>
    some r588) (fun (r590 : Sst) =>
    some r590) z592
set_option maxRecDepth 100000 in
set_option maxHeartbeats 4000000 in
theorem m_X2_settle {l : Launch} {E : EwT} {S : Sst} {O : Smo} {o1 : Nat} (ho1 : gFm n0 R0 o1) {a2 : Int} (ha2 : IR a2) {q : Sst} (hq : f_X2_settle o1 a2 S = some q) : MetG l E yX2_settle cX2_settle 5 none 2 42 0 0 n0 R0 S O [.ref (zad E 56), .ref (zad E o1), .int (zi a2)] (True) none n0 R0 q O := by
  refine ofG (L0 := [(0, .ref (zad E 56)), (1, .ref (zad E o1)), (2, .int (zi a2))]) hq (by decide +kernel) (Nat.le_of_ble_eq_true rfl) rfl (fun K _ C hQ => ?_)
  unfold f_X2_settle
  refine r_iconst (v := 0) C dX2_settle_0 (by decide) ?_
  refine r_istore_n (L' := [(3, .int (zi 0)), (0, .ref (zad E 56)), (1, .ref (zad E o1)), (2, .int (zi a2))]) C dX2_settle_1 rfl (by decide) rfl ?_
  refine r_L (L' := [(0, .ref (zad E 56)), (1, .ref (zad E o1)), (2, .int (zi a2)), (3, .int (zi 0))]) [1, 2, 3, 0] rfl ?_
  refine r_loop2 (fun s557 : Int × Sst => IR s557.1) (fun s557 => s557.2) (fun s557 => O) (fun s557 => [(0, .ref (zad E 56)), (1, .ref (zad E o1)), (2, .int (zi a2)), (3, .int (zi s557.1))]) [] (fun r588 : Sst => True) (fun r588 => r588) (fun r588 => O) (fun r588 => []) 31 (fun r588 h589 => ?_) (fun r590 : Sst => True) (fun r590 => r590) (fun r590 => O) (fun r590 => []) 69 (fun r590 h591 => ?_) (fun k559 k561 k563 k560 k562 k564 s557 h558 => ?_) (IRd rfl)
  · exact r_return C hQ dX2_settle_31 (fun e => by cases e; exact ⟨trivial, rfl, rfl, rfl, rfl, rfl⟩)
  · exact r_return C hQ dX2_settle_69 (fun e => by cases e; exact ⟨trivial, rfl, rfl, rfl, rfl, rfl⟩)
  · refine r_iload_n (pc := 2) (j := 3) C dX2_settle_2 rfl rfl ?_
    refine r_bipush (v := 64) C dX2_settle_3 (by decide) ?_
    refine r_icmp_ge (tgt := 69) C h558 (IRd rfl) dX2_settle_5 (by decide) (fun c565 => ?_) (fun c565 => ?_)
    · refine r_bf c565 ?_
      refine r_L (L' := []) [] rfl ?_
      exact k564 s557.2 trivial
    · refine r_bt c565 ?_
      refine r_aload_n (pc := 8) (j := 0) C dX2_settle_8 rfl rfl ?_
      refine r_getR (j := 1) (r := 57) C cl_X2 kd_56 ln_56 (by decide) rfl r0_56_1 (by decide) q_395 dX2_settle_9 ?_
      refine r_cV1 (pc := 12) (k := 57) (As := []) (st := []) C (m_X6_last (p := 57) gw_57 rfl) cal_X6_last cl_X6 kd_57 ln_57 q_935 dX2_settle_12 rfl rfl (Nat.le_of_ble_eq_true rfl) (Nat.le_of_ble_eq_true rfl) (Nat.le_of_ble_eq_true rfl) (Nat.le_of_ble_eq_true rfl) (Nat.le_of_ble_eq_true rfl) (fun h566 => ?_)
      refine r_cS1 (pc := 15) (As := [.int (zi (f_X6_last 57 s557.2))]) (st := []) C (m_X2_rankOf (a0 := f_X6_last 57 s557.2) h566 rfl) cal_X2_rankOf q_924 dX2_settle_15 rfl rfl (Nat.le_of_ble_eq_true rfl) (Nat.le_of_ble_eq_true rfl) (Nat.le_of_ble_eq_true rfl) (Nat.le_of_ble_eq_true rfl) (Nat.le_of_ble_eq_true rfl) (fun h567 => ?_)
      refine r_bj ?_
      refine r_jv h567 (fun v568 h569 => ?_)
      refine r_istore (L' := [(4, .int (zi v568)), (0, .ref (zad E 56)), (1, .ref (zad E o1)), (2, .int (zi a2)), (3, .int (zi s557.1))]) C dX2_settle_18 (by decide) rfl ?_
      refine r_iload (pc := 20) (j := 0) C dX2_settle_20 rfl ?_
      refine r_cut (v568 = 0 ∨ v568 < a2) 31 32 [] (fun c570 => ?_) (fun c570 => ?_) (fun k571 k572 => ?_)
      · refine r_bt c570 ?_
        refine r_L (L' := []) [] rfl ?_
        exact k562 s557.2 trivial
      · refine r_bf c570 ?_
        refine r_aload_n (pc := 32) (j := 2) C dX2_settle_32 rfl rfl ?_
        refine r_aload_n (pc := 33) (j := 1) C dX2_settle_33 rfl rfl ?_
        refine r_getR (j := 1) (r := 57) C cl_X2 kd_56 ln_56 (by decide) rfl r0_56_1 (by decide) q_395 dX2_settle_34 ?_
        refine r_bj ?_
        refine r_jn (fun q574 e575 => ?_)
        refine r_cV1 (pc := 37) (k := 57) (As := []) (st := [.ref (zad E o1)]) C (m_X6_takeLast (p := 57) gw_57 e575) cal_X6_takeLast cl_X6 kd_57 ln_57 q_940 dX2_settle_37 rfl rfl (Nat.le_of_ble_eq_true rfl) (Nat.le_of_ble_eq_true rfl) (Nat.le_of_ble_eq_true rfl) (Nat.le_of_ble_eq_true rfl) (Nat.le_of_ble_eq_true rfl) (fun h573 => ?_)
        refine r_bj ?_
        refine r_jn (fun q577 e578 => ?_)
        refine r_cV0 (pc := 40) (k := o1) (As := [.int (zi q574.1)]) (st := []) C (m_X1_add (p := o1) (a1 := q574.1) ho1 h573 e578) cal_X1_add cl_X1 (gFm_k ho1).1 (gFm_k ho1).2.1 q_945 dX2_settle_40 rfl rfl (Nat.le_of_ble_eq_true rfl) (Nat.le_of_ble_eq_true rfl) (Nat.le_of_ble_eq_true rfl) (Nat.le_of_ble_eq_true rfl) (Nat.le_of_ble_eq_true rfl) (fun h576 => ?_)
        refine r_aload_n (pc := 43) (j := 1) C dX2_settle_43 rfl rfl ?_
        refine r_dup C dX2_settle_44 rfl ?_
        refine r_getS (j := 2) C cl_X2 kd_56 ln_56 lc_56 (by decide) (by decide) rfl q_396 dX2_settle_45 (fun h579 => ?_)
        refine r_iload (pc := 48) (j := 0) C dX2_settle_48 rfl ?_
        refine r_iconst (v := 3) C dX2_settle_50 (by decide) ?_
        refine r_bj ?_
        refine r_join (fun q580 : Int => BR q580) (fun q580 => q577) (fun q580 => O) (fun q580 => [(0, .ref (zad E 56)), (1, .ref (zad E o1)), (2, .int (zi a2)), (3, .int (zi s557.1))]) 59 (fun q580 => [.int (zi q580), .int (zi (q577.2 56 2)), .ref (zad E 56)]) (fun q580 h581 => ?_) (fun k582 k583 => ?_)
        · refine r_isub C dX2_settle_59 ?_
          refine r_bj ?_
          refine r_putS C cl_X2 kd_56 ln_56 lc_56 (by decide) (by decide) rfl rfl rfl (IR_wr _) q_396 dX2_settle_60 (fun S585 => ?_)
          refine r_iinc (j := 3) (L' := [(3, .int (zi (wr (s557.1 + 1)))), (0, .ref (zad E 56)), (1, .ref (zad E o1)), (2, .int (zi a2))]) C dX2_settle_63 rfl (by decide) rfl ?_
          refine r_goto (tgt := 2) C dX2_settle_66 (by decide) ?_
          refine r_L (L' := [(0, .ref (zad E 56)), (1, .ref (zad E o1)), (2, .int (zi a2)), (3, .int (zi (wr (s557.1 + 1))))]) [1, 2, 3, 0] rfl ?_
          exact k560 (wr (s557.1 + 1), S585) (IR_wr _)
        · refine r_icmp_ne (tgt := 58) C h569 (IRd rfl) dX2_settle_51 (by decide) (fun c584 => ?_) (fun c584 => ?_)
          · refine r_jf c584 ?_
            refine r_iconst (v := 0) C dX2_settle_58 (by decide) ?_
            refine r_L (L' := [(0, .ref (zad E 56)), (1, .ref (zad E o1)), (2, .int (zi a2)), (3, .int (zi s557.1))]) [1, 2, 3, 4] rfl ?_
            exact k583 0 (BRd rfl)
          · refine r_jt c584 ?_
            refine r_iconst (v := 1) C dX2_settle_54 (by decide) ?_
            refine r_goto (tgt := 59) C dX2_settle_55 (by decide) ?_
            refine r_L (L' := [(0, .ref (zad E 56)), (1, .ref (zad E o1)), (2, .int (zi a2)), (3, .int (zi s557.1))]) [1, 2, 3, 4] rfl ?_
            exact k583 1 (BRd rfl)
      · refine r_if_eq (tgt := 31) C h569 dX2_settle_22 (by decide) (fun c586 => ?_) (fun c586 => ?_)
        · exact k571 (Or.inl c586)
        · refine r_iload (pc := 25) (j := 0) C dX2_settle_25 rfl ?_
          refine r_iload_n (pc := 27) (j := 3) C dX2_settle_27 rfl rfl ?_
          refine r_icmp_ge (tgt := 32) C h569 ha2 dX2_settle_28 (by decide) (fun c587 => ?_) (fun c587 => ?_)
          · exact k572 (fun w => w.elim c586 c587)
          · exact k571 (Or.inr c587)

def f_X2_close (o1 : Nat) (a2 : Int) (S : Sst) : Option (Int × Sst) :=
  Option.bind (f_X2_settle o1 1 S) fun (q594 : Sst) =>
  jn (
    if 0 < f_X6_size 57 q594 then
      (1)
    else
      (0)) fun (q597 : Int) =>
  jn (
    if a2 = 41 then
      (1)
    else
      (0)) fun (q602 : Int) =>
  if q597 = q602 then
    (if a2 = 59 then
      (some (3, q594))
    else
      (jn (f_X6_takeLast 57 q594) fun (q610 : Int × Sst) =>
      jn (upS q610.2 56 2 (wr ((q610.2.2 56 2) - 1))) fun (S613 : Sst) =>
      Option.bind (f_X3_step S613) fun (q615 : Sst) =>
      some (2, q615)))
  else
    (jn (f_X3_fail 2 q594) fun (q618 : Sst) =>
    some (3, q618))
set_option maxRecDepth 100000 in
set_option maxHeartbeats 4000000 in
theorem m_X2_close {l : Launch} {E : EwT} {S : Sst} {O : Smo} {o1 : Nat} (ho1 : gFm n0 R0 o1) {a2 : Int} (ha2 : IR a2) {q : Int × Sst} (hq : f_X2_close o1 a2 S = some q) : MetG l E yX2_close cX2_close 4 (some .int) 7 192 0 0 n0 R0 S O [.ref (zad E 56), .ref (zad E o1), .int (zi a2)] (IR q.1) (some (.int (zi q.1))) n0 R0 q.2 O := by
  refine ofG (L0 := [(0, .ref (zad E 56)), (1, .ref (zad E o1)), (2, .int (zi a2))]) hq (by decide +kernel) (Nat.le_of_ble_eq_true rfl) rfl (fun K _ C hQ => ?_)
  unfold f_X2_close
  refine r_aload_n (pc := 0) (j := 0) C dX2_close_0 rfl rfl ?_
  refine r_aload_n (pc := 1) (j := 1) C dX2_close_1 rfl rfl ?_
  refine r_iconst (v := 1) C dX2_close_2 (by decide) ?_
  refine r_bd (fun q594 e595 => ?_)
  refine r_cV0 (pc := 3) (k := 56) (As := [.ref (zad E o1), .int (zi 1)]) (st := []) C (m_X2_settle (o1 := o1) (a2 := 1) ho1 (IRd rfl) e595) cal_X2_settle cl_X2 kd_56 ln_56 q_931 dX2_close_3 rfl rfl (Nat.le_of_ble_eq_true rfl) (Nat.le_of_ble_eq_true rfl) (Nat.le_of_ble_eq_true rfl) (Nat.le_of_ble_eq_true rfl) (Nat.le_of_ble_eq_true rfl) (fun h593 => ?_)
  refine r_aload_n (pc := 6) (j := 0) C dX2_close_6 rfl rfl ?_
  refine r_getR (j := 1) (r := 57) C cl_X2 kd_56 ln_56 (by decide) rfl r0_56_1 (by decide) q_395 dX2_close_7 ?_
  refine r_cV1 (pc := 10) (k := 57) (As := []) (st := []) C (m_X6_size (p := 57) gw_57 rfl) cal_X6_size cl_X6 kd_57 ln_57 q_946 dX2_close_10 rfl rfl (Nat.le_of_ble_eq_true rfl) (Nat.le_of_ble_eq_true rfl) (Nat.le_of_ble_eq_true rfl) (Nat.le_of_ble_eq_true rfl) (Nat.le_of_ble_eq_true rfl) (fun h596 => ?_)
  refine r_join (fun q597 : Int => BR q597) (fun q597 => q594) (fun q597 => O) (fun q597 => [(0, .ref (zad E 56)), (2, .int (zi a2))]) 21 (fun q597 => [.int (zi q597)]) (fun q597 h598 => ?_) (fun k599 k600 => ?_)
  · refine r_istore_n (L' := [(3, .int (zi q597)), (0, .ref (zad E 56)), (2, .int (zi a2))]) C dX2_close_21 rfl (by decide) rfl ?_
    refine r_iload_n (pc := 22) (j := 0) C dX2_close_22 rfl rfl ?_
    refine r_iload_n (pc := 23) (j := 2) C dX2_close_23 rfl rfl ?_
    refine r_bipush (v := 41) C dX2_close_24 (by decide) ?_
    refine r_join (fun q602 : Int => BR q602) (fun q602 => q594) (fun q602 => O) (fun q602 => [(0, .ref (zad E 56)), (2, .int (zi a2))]) 34 (fun q602 => [.int (zi q602), .int (zi q597)]) (fun q602 h603 => ?_) (fun k604 k605 => ?_)
    · refine r_icmp_eq (tgt := 47) C h598.ir h603.ir dX2_close_34 (by decide) (fun c607 => ?_) (fun c607 => ?_)
      · refine r_t c607 ?_
        refine r_iload_n (pc := 47) (j := 1) C dX2_close_47 rfl rfl ?_
        refine r_bipush (v := 59) C dX2_close_48 (by decide) ?_
        refine r_icmp_ne (tgt := 55) C ha2 (IRd rfl) dX2_close_50 (by decide) (fun c608 => ?_) (fun c608 => ?_)
        · refine r_f c608 ?_
          refine r_aload_n (pc := 55) (j := 0) C dX2_close_55 rfl rfl ?_
          refine r_getR (j := 1) (r := 57) C cl_X2 kd_56 ln_56 (by decide) rfl r0_56_1 (by decide) q_395 dX2_close_56 ?_
          refine r_jn (fun q610 e611 => ?_)
          refine r_cV1 (pc := 59) (k := 57) (As := []) (st := []) C (m_X6_takeLast (p := 57) gw_57 e611) cal_X6_takeLast cl_X6 kd_57 ln_57 q_940 dX2_close_59 rfl rfl (Nat.le_of_ble_eq_true rfl) (Nat.le_of_ble_eq_true rfl) (Nat.le_of_ble_eq_true rfl) (Nat.le_of_ble_eq_true rfl) (Nat.le_of_ble_eq_true rfl) (fun h609 => ?_)
          refine r_pop C dX2_close_62 rfl ?_
          refine r_aload_n (pc := 63) (j := 0) C dX2_close_63 rfl rfl ?_
          refine r_dup C dX2_close_64 rfl ?_
          refine r_getS (j := 2) C cl_X2 kd_56 ln_56 lc_56 (by decide) (by decide) rfl q_396 dX2_close_65 (fun h612 => ?_)
          refine r_iconst (v := 1) C dX2_close_68 (by decide) ?_
          refine r_isub C dX2_close_69 ?_
          refine r_putS C cl_X2 kd_56 ln_56 lc_56 (by decide) (by decide) rfl rfl rfl (IR_wr _) q_396 dX2_close_70 (fun S613 => ?_)
          refine r_aload_n (pc := 73) (j := 0) C dX2_close_73 rfl rfl ?_
          refine r_getR (j := 0) (r := 53) C cl_X2 kd_56 ln_56 (by decide) rfl r0_56_0 (by decide) q_394 dX2_close_74 ?_
          refine r_bd (fun q615 e616 => ?_)
          refine r_cV0 (pc := 77) (k := 53) (As := []) (st := []) C (m_X3_step  e616) cal_X3_step cl_X3 kd_53 ln_53 q_948 dX2_close_77 rfl rfl (Nat.le_of_ble_eq_true rfl) (Nat.le_of_ble_eq_true rfl) (Nat.le_of_ble_eq_true rfl) (Nat.le_of_ble_eq_true rfl) (Nat.le_of_ble_eq_true rfl) (fun h614 => ?_)
          refine r_iconst (v := 2) C dX2_close_80 (by decide) ?_
          exact r_ireturn C hQ rfl dX2_close_81 (fun e => by cases e; exact ⟨(IRd rfl), rfl, rfl, rfl, rfl, rfl⟩)
        · refine r_t c608 ?_
          refine r_iconst (v := 3) C dX2_close_53 (by decide) ?_
          exact r_ireturn C hQ rfl dX2_close_54 (fun e => by cases e; exact ⟨(IRd rfl), rfl, rfl, rfl, rfl, rfl⟩)
      · refine r_f c607 ?_
        refine r_aload_n (pc := 37) (j := 0) C dX2_close_37 rfl rfl ?_
        refine r_getR (j := 0) (r := 53) C cl_X2 kd_56 ln_56 (by decide) rfl r0_56_0 (by decide) q_394 dX2_close_38 ?_
        refine r_iconst (v := 2) C dX2_close_41 (by decide) ?_
        refine r_jn (fun q618 e619 => ?_)
        refine r_cV0 (pc := 42) (k := 53) (As := [.int (zi 2)]) (st := []) C (m_X3_fail (a1 := 2) (IRd rfl) e619) cal_X3_fail cl_X3 kd_53 ln_53 q_947 dX2_close_42 rfl rfl (Nat.le_of_ble_eq_true rfl) (Nat.le_of_ble_eq_true rfl) (Nat.le_of_ble_eq_true rfl) (Nat.le_of_ble_eq_true rfl) (Nat.le_of_ble_eq_true rfl) (fun h617 => ?_)
        refine r_iconst (v := 3) C dX2_close_45 (by decide) ?_
        exact r_ireturn C hQ rfl dX2_close_46 (fun e => by cases e; exact ⟨(IRd rfl), rfl, rfl, rfl, rfl, rfl⟩)
    · refine r_icmp_ne (tgt := 33) C ha2 (IRd rfl) dX2_close_26 (by decide) (fun c606 => ?_) (fun c606 => ?_)
      · refine r_jf c606 ?_
        refine r_iconst (v := 0) C dX2_close_33 (by decide) ?_
        refine r_L (L' := [(0, .ref (zad E 56)), (2, .int (zi a2))]) [1, 2] rfl ?_
        exact k605 0 (BRd rfl)
      · refine r_jt c606 ?_
        refine r_iconst (v := 1) C dX2_close_29 (by decide) ?_
        refine r_goto (tgt := 34) C dX2_close_30 (by decide) ?_
        refine r_L (L' := [(0, .ref (zad E 56)), (2, .int (zi a2))]) [1, 2] rfl ?_
        exact k605 1 (BRd rfl)
  · refine r_if_le (tgt := 20) C h596 dX2_close_13 (by decide) (fun c601 => ?_) (fun c601 => ?_)
    · refine r_jf c601 ?_
      refine r_iconst (v := 0) C dX2_close_20 (by decide) ?_
      refine r_L (L' := [(0, .ref (zad E 56)), (2, .int (zi a2))]) [0, 2] rfl ?_
      exact k600 0 (BRd rfl)
    · refine r_jt c601 ?_
      refine r_iconst (v := 1) C dX2_close_16 (by decide) ?_
      refine r_goto (tgt := 21) C dX2_close_17 (by decide) ?_
      refine r_L (L' := [(0, .ref (zad E 56)), (2, .int (zi a2))]) [0, 2] rfl ?_
      exact k600 1 (BRd rfl)

def f_X2_readSign (o1 : Nat) (S : Sst) : Option (Int × Sst) :=
  jn (S.2 53 0) fun (v621 : Int) =>
  jn (f_X2_rankOf v621) fun (v624 : Int) =>
  if (v621 = 59 ∨ v621 = 41) then
    (Option.bind (f_X2_close o1 v621 S) fun (q630 : Int × Sst) =>
    some (q630.1, q630.2))
  else
    (jn (
      if v624 = 4 then
        (5)
      else
        (v624)) fun (q632 : Int) =>
    Option.bind (f_X2_settle o1 q632 S) fun (q638 : Sst) =>
    jn (
      if (v624 = 4 ∧ f_X2_rankOf (f_X6_last 57 q638) = 4) then
        (1)
      else
        (0)) fun (q642 : Int) =>
    if ((v624 = 0 ∨ v624 = 3) ∨ ¬ q642 = 0) then
      (jn (f_X3_fail 2 q638) fun (q655 : Sst) =>
      some (3, q655))
    else
      (jn (f_X6_add 57 v621 q638) fun (q658 : Sst) =>
      Option.bind (f_X3_step q658) fun (q661 : Sst) =>
      if 2 < v624 then
        (some (1, q661))
      else
        (some (0, q661))))
set_option maxRecDepth 100000 in
set_option maxHeartbeats 4000000 in
theorem m_X2_readSign {l : Launch} {E : EwT} {S : Sst} {O : Smo} {o1 : Nat} (ho1 : gFm n0 R0 o1) {q : Int × Sst} (hq : f_X2_readSign o1 S = some q) : MetG l E yX2_readSign cX2_readSign 5 (some .int) 8 215 0 0 n0 R0 S O [.ref (zad E 56), .ref (zad E o1)] (IR q.1) (some (.int (zi q.1))) n0 R0 q.2 O := by
  refine ofG (L0 := [(0, .ref (zad E 56)), (1, .ref (zad E o1))]) hq (by decide +kernel) (Nat.le_of_ble_eq_true rfl) rfl (fun K _ C hQ => ?_)
  unfold f_X2_readSign
  refine r_aload_n (pc := 0) (j := 0) C dX2_readSign_0 rfl rfl ?_
  refine r_getR (j := 0) (r := 53) C cl_X2 kd_56 ln_56 (by decide) rfl r0_56_0 (by decide) q_394 dX2_readSign_1 ?_
  refine r_getS (j := 0) C cl_X3 kd_53 ln_53 lc_53 (by decide) (by decide) rfl q_342 dX2_readSign_4 (fun h620 => ?_)
  refine r_jv h620 (fun v621 h622 => ?_)
  refine r_istore_n (L' := [(2, .int (zi v621)), (0, .ref (zad E 56)), (1, .ref (zad E o1))]) C dX2_readSign_7 rfl (by decide) rfl ?_
  refine r_iload_n (pc := 8) (j := 0) C dX2_readSign_8 rfl rfl ?_
  refine r_cS1 (pc := 9) (As := [.int (zi v621)]) (st := []) C (m_X2_rankOf (a0 := v621) h622 rfl) cal_X2_rankOf q_924 dX2_readSign_9 rfl rfl (Nat.le_of_ble_eq_true rfl) (Nat.le_of_ble_eq_true rfl) (Nat.le_of_ble_eq_true rfl) (Nat.le_of_ble_eq_true rfl) (Nat.le_of_ble_eq_true rfl) (fun h623 => ?_)
  refine r_jv h623 (fun v624 h625 => ?_)
  refine r_istore_n (L' := [(3, .int (zi v624)), (2, .int (zi v621)), (0, .ref (zad E 56)), (1, .ref (zad E o1))]) C dX2_readSign_12 rfl (by decide) rfl ?_
  refine r_iload_n (pc := 13) (j := 1) C dX2_readSign_13 rfl rfl ?_
  refine r_bipush (v := 59) C dX2_readSign_14 (by decide) ?_
  refine r_cut (v621 = 59 ∨ v621 = 41) 25 32 [] (fun c626 => ?_) (fun c626 => ?_) (fun k627 k628 => ?_)
  · refine r_t c626 ?_
    refine r_aload_n (pc := 25) (j := 2) C dX2_readSign_25 rfl rfl ?_
    refine r_aload_n (pc := 26) (j := 3) C dX2_readSign_26 rfl rfl ?_
    refine r_iload_n (pc := 27) (j := 1) C dX2_readSign_27 rfl rfl ?_
    refine r_bd (fun q630 e631 => ?_)
    refine r_cV1 (pc := 28) (k := 56) (As := [.ref (zad E o1), .int (zi v621)]) (st := []) C (m_X2_close (o1 := o1) (a2 := v621) ho1 h622 e631) cal_X2_close cl_X2 kd_56 ln_56 q_927 dX2_readSign_28 rfl rfl (Nat.le_of_ble_eq_true rfl) (Nat.le_of_ble_eq_true rfl) (Nat.le_of_ble_eq_true rfl) (Nat.le_of_ble_eq_true rfl) (Nat.le_of_ble_eq_true rfl) (fun h629 => ?_)
    exact r_ireturn C hQ rfl dX2_readSign_31 (fun e => by cases e; exact ⟨h629, rfl, rfl, rfl, rfl, rfl⟩)
  · refine r_f c626 ?_
    refine r_aload_n (pc := 32) (j := 2) C dX2_readSign_32 rfl rfl ?_
    refine r_aload_n (pc := 33) (j := 3) C dX2_readSign_33 rfl rfl ?_
    refine r_iload_n (pc := 34) (j := 0) C dX2_readSign_34 rfl rfl ?_
    refine r_iconst (v := 4) C dX2_readSign_35 (by decide) ?_
    refine r_join (fun q632 : Int => IR q632) (fun q632 => S) (fun q632 => O) (fun q632 => [(0, .ref (zad E 56)), (2, .int (zi v621)), (3, .int (zi v624))]) 44 (fun q632 => [.int (zi q632), .ref (zad E o1), .ref (zad E 56)]) (fun q632 h633 => ?_) (fun k634 k635 => ?_)
    · refine r_bd (fun q638 e639 => ?_)
      refine r_cV0 (pc := 44) (k := 56) (As := [.ref (zad E o1), .int (zi q632)]) (st := []) C (m_X2_settle (o1 := o1) (a2 := q632) ho1 h633 e639) cal_X2_settle cl_X2 kd_56 ln_56 q_931 dX2_readSign_44 rfl rfl (Nat.le_of_ble_eq_true rfl) (Nat.le_of_ble_eq_true rfl) (Nat.le_of_ble_eq_true rfl) (Nat.le_of_ble_eq_true rfl) (Nat.le_of_ble_eq_true rfl) (fun h637 => ?_)
      refine r_iload_n (pc := 47) (j := 2) C dX2_readSign_47 rfl rfl ?_
      refine r_iconst (v := 4) C dX2_readSign_48 (by decide) ?_
      refine r_join (fun q642 : Int => BR q642) (fun q642 => q638) (fun q642 => O) (fun q642 => [(0, .ref (zad E 56)), (2, .int (zi v621)), (3, .int (zi v624))]) 71 (fun q642 => [.int (zi q642)]) (fun q642 h643 => ?_) (fun k644 k645 => ?_)
      · refine r_istore (L' := [(4, .int (zi q642)), (0, .ref (zad E 56)), (2, .int (zi v621)), (3, .int (zi v624))]) C dX2_readSign_71 (by decide) rfl ?_
        refine r_iload_n (pc := 73) (j := 3) C dX2_readSign_73 rfl rfl ?_
        refine r_cut ((v624 = 0 ∨ v624 = 3) ∨ ¬ q642 = 0) 87 97 [] (fun c651 => ?_) (fun c651 => ?_) (fun k652 k653 => ?_)
        · refine r_t c651 ?_
          refine r_aload_n (pc := 87) (j := 1) C dX2_readSign_87 rfl rfl ?_
          refine r_getR (j := 0) (r := 53) C cl_X2 kd_56 ln_56 (by decide) rfl r0_56_0 (by decide) q_394 dX2_readSign_88 ?_
          refine r_iconst (v := 2) C dX2_readSign_91 (by decide) ?_
          refine r_jn (fun q655 e656 => ?_)
          refine r_cV0 (pc := 92) (k := 53) (As := [.int (zi 2)]) (st := []) C (m_X3_fail (a1 := 2) (IRd rfl) e656) cal_X3_fail cl_X3 kd_53 ln_53 q_947 dX2_readSign_92 rfl rfl (Nat.le_of_ble_eq_true rfl) (Nat.le_of_ble_eq_true rfl) (Nat.le_of_ble_eq_true rfl) (Nat.le_of_ble_eq_true rfl) (Nat.le_of_ble_eq_true rfl) (fun h654 => ?_)
          refine r_iconst (v := 3) C dX2_readSign_95 (by decide) ?_
          exact r_ireturn C hQ rfl dX2_readSign_96 (fun e => by cases e; exact ⟨(IRd rfl), rfl, rfl, rfl, rfl, rfl⟩)
        · refine r_f c651 ?_
          refine r_aload_n (pc := 97) (j := 1) C dX2_readSign_97 rfl rfl ?_
          refine r_getR (j := 1) (r := 57) C cl_X2 kd_56 ln_56 (by decide) rfl r0_56_1 (by decide) q_395 dX2_readSign_98 ?_
          refine r_iload_n (pc := 101) (j := 2) C dX2_readSign_101 rfl rfl ?_
          refine r_jn (fun q658 e659 => ?_)
          refine r_cV0 (pc := 102) (k := 57) (As := [.int (zi v621)]) (st := []) C (m_X6_add (p := 57) (a1 := v621) gw_57 h622 e659) cal_X6_add cl_X6 kd_57 ln_57 q_949 dX2_readSign_102 rfl rfl (Nat.le_of_ble_eq_true rfl) (Nat.le_of_ble_eq_true rfl) (Nat.le_of_ble_eq_true rfl) (Nat.le_of_ble_eq_true rfl) (Nat.le_of_ble_eq_true rfl) (fun h657 => ?_)
          refine r_aload_n (pc := 105) (j := 1) C dX2_readSign_105 rfl rfl ?_
          refine r_getR (j := 0) (r := 53) C cl_X2 kd_56 ln_56 (by decide) rfl r0_56_0 (by decide) q_394 dX2_readSign_106 ?_
          refine r_bd (fun q661 e662 => ?_)
          refine r_cV0 (pc := 109) (k := 53) (As := []) (st := []) C (m_X3_step  e662) cal_X3_step cl_X3 kd_53 ln_53 q_948 dX2_readSign_109 rfl rfl (Nat.le_of_ble_eq_true rfl) (Nat.le_of_ble_eq_true rfl) (Nat.le_of_ble_eq_true rfl) (Nat.le_of_ble_eq_true rfl) (Nat.le_of_ble_eq_true rfl) (fun h660 => ?_)
          refine r_iload_n (pc := 112) (j := 3) C dX2_readSign_112 rfl rfl ?_
          refine r_iconst (v := 2) C dX2_readSign_113 (by decide) ?_
          refine r_icmp_gt (tgt := 121) C h625 (IRd rfl) dX2_readSign_114 (by decide) (fun c663 => ?_) (fun c663 => ?_)
          · refine r_t c663 ?_
            refine r_iconst (v := 1) C dX2_readSign_121 (by decide) ?_
            exact r_ireturn C hQ rfl dX2_readSign_122 (fun e => by cases e; exact ⟨(IRd rfl), rfl, rfl, rfl, rfl, rfl⟩)
          · refine r_f c663 ?_
            refine r_iconst (v := 0) C dX2_readSign_117 (by decide) ?_
            refine r_goto (tgt := 122) C dX2_readSign_118 (by decide) ?_
            exact r_ireturn C hQ rfl dX2_readSign_122 (fun e => by cases e; exact ⟨(IRd rfl), rfl, rfl, rfl, rfl, rfl⟩)
        · refine r_if_eq (tgt := 87) C h625 dX2_readSign_74 (by decide) (fun c664 => ?_) (fun c664 => ?_)
          · exact k652 (Or.inl (Or.inl c664))
          · refine r_iload_n (pc := 77) (j := 3) C dX2_readSign_77 rfl rfl ?_
            refine r_iconst (v := 3) C dX2_readSign_78 (by decide) ?_
            refine r_icmp_eq (tgt := 87) C h625 (IRd rfl) dX2_readSign_79 (by decide) (fun c665 => ?_) (fun c665 => ?_)
            · exact k652 (Or.inl (Or.inr c665))
            · refine r_iload (pc := 82) (j := 0) C dX2_readSign_82 rfl ?_
              refine r_if_eq (tgt := 97) C h643.ir dX2_readSign_84 (by decide) (fun c666 => ?_) (fun c666 => ?_)
              · exact k653 (fun w => w.elim (fun w => w.elim c664 c665) (fun x => x c666))
              · exact k652 (Or.inr c666)
      · refine r_cut (v624 = 4 ∧ f_X2_rankOf (f_X6_last 57 q638) = 4) 66 70 [] (fun c646 => ?_) (fun c646 => ?_) (fun k647 k648 => ?_)
        · refine r_jt c646 ?_
          refine r_iconst (v := 1) C dX2_readSign_66 (by decide) ?_
          refine r_goto (tgt := 71) C dX2_readSign_67 (by decide) ?_
          exact k645 1 (BRd rfl)
        · refine r_jf c646 ?_
          refine r_iconst (v := 0) C dX2_readSign_70 (by decide) ?_
          exact k645 0 (BRd rfl)
        · refine r_icmp_ne (tgt := 70) C h625 (IRd rfl) dX2_readSign_49 (by decide) (fun c649 => ?_) (fun c649 => ?_)
          · exact k648 (fun w => c649 w.1)
          · refine r_aload_n (pc := 52) (j := 0) C dX2_readSign_52 rfl rfl ?_
            refine r_getR (j := 1) (r := 57) C cl_X2 kd_56 ln_56 (by decide) rfl r0_56_1 (by decide) q_395 dX2_readSign_53 ?_
            refine r_cV1 (pc := 56) (k := 57) (As := []) (st := []) C (m_X6_last (p := 57) gw_57 rfl) cal_X6_last cl_X6 kd_57 ln_57 q_935 dX2_readSign_56 rfl rfl (Nat.le_of_ble_eq_true rfl) (Nat.le_of_ble_eq_true rfl) (Nat.le_of_ble_eq_true rfl) (Nat.le_of_ble_eq_true rfl) (Nat.le_of_ble_eq_true rfl) (fun h640 => ?_)
            refine r_cS1 (pc := 59) (As := [.int (zi (f_X6_last 57 q638))]) (st := []) C (m_X2_rankOf (a0 := f_X6_last 57 q638) h640 rfl) cal_X2_rankOf q_924 dX2_readSign_59 rfl rfl (Nat.le_of_ble_eq_true rfl) (Nat.le_of_ble_eq_true rfl) (Nat.le_of_ble_eq_true rfl) (Nat.le_of_ble_eq_true rfl) (Nat.le_of_ble_eq_true rfl) (fun h641 => ?_)
            refine r_iconst (v := 4) C dX2_readSign_62 (by decide) ?_
            refine r_icmp_ne (tgt := 70) C h641 (IRd rfl) dX2_readSign_63 (by decide) (fun c650 => ?_) (fun c650 => ?_)
            · exact k648 (fun w => c650 w.2)
            · exact k647 ⟨c649, c650⟩
    · refine r_icmp_ne (tgt := 43) C h625 (IRd rfl) dX2_readSign_36 (by decide) (fun c636 => ?_) (fun c636 => ?_)
      · refine r_jf c636 ?_
        refine r_iload_n (pc := 43) (j := 0) C dX2_readSign_43 rfl rfl ?_
        refine r_L (L' := [(0, .ref (zad E 56)), (2, .int (zi v621)), (3, .int (zi v624))]) [2, 1, 0] rfl ?_
        exact k635 v624 h625
      · refine r_jt c636 ?_
        refine r_iconst (v := 5) C dX2_readSign_39 (by decide) ?_
        refine r_goto (tgt := 44) C dX2_readSign_40 (by decide) ?_
        refine r_L (L' := [(0, .ref (zad E 56)), (2, .int (zi v621)), (3, .int (zi v624))]) [2, 1, 0] rfl ?_
        exact k635 5 (IRd rfl)
  · refine r_icmp_eq (tgt := 25) C h622 (IRd rfl) dX2_readSign_16 (by decide) (fun c667 => ?_) (fun c667 => ?_)
    · exact k627 (Or.inl c667)
    · refine r_iload_n (pc := 19) (j := 1) C dX2_readSign_19 rfl rfl ?_
      refine r_bipush (v := 41) C dX2_readSign_20 (by decide) ?_
      refine r_icmp_ne (tgt := 32) C h622 (IRd rfl) dX2_readSign_22 (by decide) (fun c668 => ?_) (fun c668 => ?_)
      · exact k628 (fun w => w.elim c667 c668)
      · exact k627 (Or.inr c668)

def f_X2_open (a1 : Int) (S : Sst) : Option (Sst) :=
  if 6 < S.2 56 2 then
    (jn (f_X3_fail 2 S) fun (q672 : Sst) =>
    some q672)
  else
    (jn (upS S 56 2 (wr ((S.2 56 2) + 1))) fun (S675 : Sst) =>
    jn (f_X6_add 57 a1 S675) fun (q677 : Sst) =>
    Option.bind (f_X3_step q677) fun (q680 : Sst) =>
    some q680)
set_option maxRecDepth 100000 in
set_option maxHeartbeats 4000000 in
theorem m_X2_open {l : Launch} {E : EwT} {S : Sst} {O : Smo} {a1 : Int} (ha1 : IR a1) {q : Sst} (hq : f_X2_open a1 S = some q) : MetG l E yX2_open cX2_open 2 none 7 192 0 0 n0 R0 S O [.ref (zad E 56), .int (zi a1)] (True) none n0 R0 q O := by
  refine ofG (L0 := [(0, .ref (zad E 56)), (1, .int (zi a1))]) hq (by decide +kernel) (Nat.le_of_ble_eq_true rfl) rfl (fun K _ C hQ => ?_)
  unfold f_X2_open
  refine r_aload_n (pc := 0) (j := 0) C dX2_open_0 rfl rfl ?_
  refine r_getS (j := 2) C cl_X2 kd_56 ln_56 lc_56 (by decide) (by decide) rfl q_396 dX2_open_1 (fun h669 => ?_)
  refine r_bipush (v := 6) C dX2_open_4 (by decide) ?_
  refine r_icmp_le (tgt := 18) C h669 (IRd rfl) dX2_open_6 (by decide) (fun c670 => ?_) (fun c670 => ?_)
  · refine r_f c670 ?_
    refine r_aload_n (pc := 18) (j := 0) C dX2_open_18 rfl rfl ?_
    refine r_dup C dX2_open_19 rfl ?_
    refine r_getS (j := 2) C cl_X2 kd_56 ln_56 lc_56 (by decide) (by decide) rfl q_396 dX2_open_20 (fun h674 => ?_)
    refine r_iconst (v := 1) C dX2_open_23 (by decide) ?_
    refine r_iadd C dX2_open_24 ?_
    refine r_putS C cl_X2 kd_56 ln_56 lc_56 (by decide) (by decide) rfl rfl rfl (IR_wr _) q_396 dX2_open_25 (fun S675 => ?_)
    refine r_aload_n (pc := 28) (j := 0) C dX2_open_28 rfl rfl ?_
    refine r_getR (j := 1) (r := 57) C cl_X2 kd_56 ln_56 (by decide) rfl r0_56_1 (by decide) q_395 dX2_open_29 ?_
    refine r_iload_n (pc := 32) (j := 1) C dX2_open_32 rfl rfl ?_
    refine r_jn (fun q677 e678 => ?_)
    refine r_cV0 (pc := 33) (k := 57) (As := [.int (zi a1)]) (st := []) C (m_X6_add (p := 57) (a1 := a1) gw_57 ha1 e678) cal_X6_add cl_X6 kd_57 ln_57 q_949 dX2_open_33 rfl rfl (Nat.le_of_ble_eq_true rfl) (Nat.le_of_ble_eq_true rfl) (Nat.le_of_ble_eq_true rfl) (Nat.le_of_ble_eq_true rfl) (Nat.le_of_ble_eq_true rfl) (fun h676 => ?_)
    refine r_aload_n (pc := 36) (j := 0) C dX2_open_36 rfl rfl ?_
    refine r_getR (j := 0) (r := 53) C cl_X2 kd_56 ln_56 (by decide) rfl r0_56_0 (by decide) q_394 dX2_open_37 ?_
    refine r_bd (fun q680 e681 => ?_)
    refine r_cV0 (pc := 40) (k := 53) (As := []) (st := []) C (m_X3_step  e681) cal_X3_step cl_X3 kd_53 ln_53 q_948 dX2_open_40 rfl rfl (Nat.le_of_ble_eq_true rfl) (Nat.le_of_ble_eq_true rfl) (Nat.le_of_ble_eq_true rfl) (Nat.le_of_ble_eq_true rfl) (Nat.le_of_ble_eq_true rfl) (fun h679 => ?_)
    exact r_return C hQ dX2_open_43 (fun e => by cases e; exact ⟨trivial, rfl, rfl, rfl, rfl, rfl⟩)
  · refine r_t c670 ?_
    refine r_aload_n (pc := 9) (j := 0) C dX2_open_9 rfl rfl ?_
    refine r_getR (j := 0) (r := 53) C cl_X2 kd_56 ln_56 (by decide) rfl r0_56_0 (by decide) q_394 dX2_open_10 ?_
    refine r_iconst (v := 2) C dX2_open_13 (by decide) ?_
    refine r_jn (fun q672 e673 => ?_)
    refine r_cV0 (pc := 14) (k := 53) (As := [.int (zi 2)]) (st := []) C (m_X3_fail (a1 := 2) (IRd rfl) e673) cal_X3_fail cl_X3 kd_53 ln_53 q_947 dX2_open_14 rfl rfl (Nat.le_of_ble_eq_true rfl) (Nat.le_of_ble_eq_true rfl) (Nat.le_of_ble_eq_true rfl) (Nat.le_of_ble_eq_true rfl) (Nat.le_of_ble_eq_true rfl) (fun h671 => ?_)
    exact r_return C hQ dX2_open_17 (fun e => by cases e; exact ⟨trivial, rfl, rfl, rfl, rfl, rfl⟩)

def f_X2_beginsUnit (a0 : Int) : Int :=
  jn (
    if (a0 < 109 ∨ 113 < a0) then
      (0)
    else
      (1)) fun (q682 : Int) =>
  if ((q682 = 0 ∧ ¬ a0 = 2) ∧ ¬ a0 = 40) then
    (0)
  else
    (1)
set_option maxRecDepth 100000 in
set_option maxHeartbeats 4000000 in
theorem m_X2_beginsUnit {l : Launch} {E : EwT} {n : Nat} {R : Srf} {S : Sst} {O : Smo} {a0 : Int} (ha0 : IR a0) {q : Int} (hq : f_X2_beginsUnit a0 = q) : MetG l E yX2_beginsUnit cX2_beginsUnit 2 (some .boolean) 0 0 0 0 n R S O [.int (zi a0)] (BR q) (some (.int (zi q))) n R S O := by
  refine ofG (L0 := [(0, .int (zi a0))]) hq (by decide +kernel) (Nat.le_of_ble_eq_true rfl) rfl (fun K _ C hQ => ?_)
  unfold f_X2_beginsUnit
  refine r_iload_n (pc := 0) (j := 0) C dX2_beginsUnit_0 rfl rfl ?_
  refine r_bipush (v := 109) C dX2_beginsUnit_1 (by decide) ?_
  refine r_join (fun q682 : Int => BR q682) (fun q682 => S) (fun q682 => O) (fun q682 => [(0, .int (zi a0))]) 17 (fun q682 => [.int (zi q682)]) (fun q682 h683 => ?_) (fun k684 k685 => ?_)
  · refine r_istore_n (L' := [(1, .int (zi q682)), (0, .int (zi a0))]) C dX2_beginsUnit_17 rfl (by decide) rfl ?_
    refine r_iload_n (pc := 18) (j := 0) C dX2_beginsUnit_18 rfl rfl ?_
    refine r_cut ((q682 = 0 ∧ ¬ a0 = 2) ∧ ¬ a0 = 40) 37 33 [] (fun c691 => ?_) (fun c691 => ?_) (fun k692 k693 => ?_)
    · refine r_t c691 ?_
      refine r_iconst (v := 0) C dX2_beginsUnit_37 (by decide) ?_
      exact r_ireturn C hQ (nar_z (BRd rfl)) dX2_beginsUnit_38 (fun e => by subst e; exact ⟨(BRd rfl), rfl, rfl, rfl, rfl, rfl⟩)
    · refine r_f c691 ?_
      refine r_iconst (v := 1) C dX2_beginsUnit_33 (by decide) ?_
      refine r_goto (tgt := 38) C dX2_beginsUnit_34 (by decide) ?_
      exact r_ireturn C hQ (nar_z (BRd rfl)) dX2_beginsUnit_38 (fun e => by subst e; exact ⟨(BRd rfl), rfl, rfl, rfl, rfl, rfl⟩)
    · refine r_if_ne (tgt := 33) C h683.ir dX2_beginsUnit_19 (by decide) (fun c694 => ?_) (fun c694 => ?_)
      · exact k693 (fun w => (fun w => c694 w.1) w.1)
      · refine r_iload_n (pc := 22) (j := 1) C dX2_beginsUnit_22 rfl rfl ?_
        refine r_iconst (v := 2) C dX2_beginsUnit_23 (by decide) ?_
        refine r_icmp_eq (tgt := 33) C ha0 (IRd rfl) dX2_beginsUnit_24 (by decide) (fun c695 => ?_) (fun c695 => ?_)
        · exact k693 (fun w => (fun w => w.2 c695) w.1)
        · refine r_iload_n (pc := 27) (j := 1) C dX2_beginsUnit_27 rfl rfl ?_
          refine r_bipush (v := 40) C dX2_beginsUnit_28 (by decide) ?_
          refine r_icmp_ne (tgt := 37) C ha0 (IRd rfl) dX2_beginsUnit_30 (by decide) (fun c696 => ?_) (fun c696 => ?_)
          · exact k692 ⟨⟨c694, c695⟩, c696⟩
          · exact k693 (fun w => w.2 c696)
  · refine r_cut (a0 < 109 ∨ 113 < a0) 16 12 [] (fun c686 => ?_) (fun c686 => ?_) (fun k687 k688 => ?_)
    · refine r_jt c686 ?_
      refine r_iconst (v := 0) C dX2_beginsUnit_16 (by decide) ?_
      exact k685 0 (BRd rfl)
    · refine r_jf c686 ?_
      refine r_iconst (v := 1) C dX2_beginsUnit_12 (by decide) ?_
      refine r_goto (tgt := 17) C dX2_beginsUnit_13 (by decide) ?_
      exact k685 1 (BRd rfl)
    · refine r_icmp_lt (tgt := 16) C ha0 (IRd rfl) dX2_beginsUnit_3 (by decide) (fun c689 => ?_) (fun c689 => ?_)
      · exact k687 (Or.inl c689)
      · refine r_iload_n (pc := 6) (j := 0) C dX2_beginsUnit_6 rfl rfl ?_
        refine r_bipush (v := 113) C dX2_beginsUnit_7 (by decide) ?_
        refine r_icmp_gt (tgt := 16) C ha0 (IRd rfl) dX2_beginsUnit_9 (by decide) (fun c690 => ?_) (fun c690 => ?_)
        · exact k687 (Or.inr c690)
        · exact k688 (fun w => w.elim c689 c690)

def f_X2_readUnit (o1 : Nat) (a2 : Int) (S : Sst) : Option (Int × Sst) :=
  jn (S.2 53 0) fun (v698 : Int) =>
  if (v698 = 108 ∧ a2 = 0) then
    (Option.bind (f_X2_open v698 S) fun (q704 : Sst) =>
    some (0, q704))
  else
    (if (S.2 o1 0 < 30 ∧ ¬ f_X2_beginsUnit v698 = 0) then
      (jn (upS S o1 0 (wr ((S.2 o1 0) + 1))) fun (S712 : Sst) =>
      if v698 = 40 then
        (Option.bind (f_X2_open v698 S712) fun (q715 : Sst) =>
        some (0, q715))
      else
        (jn (
          if v698 = 2 then
            (wr (1000 + (S712.2 53 1)))
          else
            (v698)) fun (q717 : Int) =>
        jn (f_X1_add o1 q717 S712) fun (q724 : Sst) =>
        Option.bind (f_X3_step q724) fun (q727 : Sst) =>
        some (2, q727)))
    else
      (jn (f_X3_fail 2 S) fun (q730 : Sst) =>
      some (3, q730)))
set_option maxRecDepth 100000 in
set_option maxHeartbeats 4000000 in
theorem m_X2_readUnit {l : Launch} {E : EwT} {S : Sst} {O : Smo} {o1 : Nat} (ho1 : gFm n0 R0 o1) {a2 : Int} (ha2 : IR a2) {q : Int × Sst} (hq : f_X2_readUnit o1 a2 S = some q) : MetG l E yX2_readUnit cX2_readUnit 4 (some .int) 8 213 0 0 n0 R0 S O [.ref (zad E 56), .ref (zad E o1), .int (zi a2)] (IR q.1) (some (.int (zi q.1))) n0 R0 q.2 O := by
  refine ofG (L0 := [(0, .ref (zad E 56)), (1, .ref (zad E o1)), (2, .int (zi a2))]) hq (by decide +kernel) (Nat.le_of_ble_eq_true rfl) rfl (fun K _ C hQ => ?_)
  unfold f_X2_readUnit
  refine r_aload_n (pc := 0) (j := 0) C dX2_readUnit_0 rfl rfl ?_
  refine r_getR (j := 0) (r := 53) C cl_X2 kd_56 ln_56 (by decide) rfl r0_56_0 (by decide) q_394 dX2_readUnit_1 ?_
  refine r_getS (j := 0) C cl_X3 kd_53 ln_53 lc_53 (by decide) (by decide) rfl q_342 dX2_readUnit_4 (fun h697 => ?_)
  refine r_jv h697 (fun v698 h699 => ?_)
  refine r_istore_n (L' := [(3, .int (zi v698)), (0, .ref (zad E 56)), (1, .ref (zad E o1)), (2, .int (zi a2))]) C dX2_readUnit_7 rfl (by decide) rfl ?_
  refine r_iload_n (pc := 8) (j := 0) C dX2_readUnit_8 rfl rfl ?_
  refine r_bipush (v := 108) C dX2_readUnit_9 (by decide) ?_
  refine r_cut (v698 = 108 ∧ a2 = 0) 18 25 [] (fun c700 => ?_) (fun c700 => ?_) (fun k701 k702 => ?_)
  · refine r_t c700 ?_
    refine r_aload_n (pc := 18) (j := 1) C dX2_readUnit_18 rfl rfl ?_
    refine r_iload_n (pc := 19) (j := 0) C dX2_readUnit_19 rfl rfl ?_
    refine r_bd (fun q704 e705 => ?_)
    refine r_cV0 (pc := 20) (k := 56) (As := [.int (zi v698)]) (st := []) C (m_X2_open (a1 := v698) h699 e705) cal_X2_open cl_X2 kd_56 ln_56 q_954 dX2_readUnit_20 rfl rfl (Nat.le_of_ble_eq_true rfl) (Nat.le_of_ble_eq_true rfl) (Nat.le_of_ble_eq_true rfl) (Nat.le_of_ble_eq_true rfl) (Nat.le_of_ble_eq_true rfl) (fun h703 => ?_)
    refine r_iconst (v := 0) C dX2_readUnit_23 (by decide) ?_
    exact r_ireturn C hQ rfl dX2_readUnit_24 (fun e => by cases e; exact ⟨(IRd rfl), rfl, rfl, rfl, rfl, rfl⟩)
  · refine r_f c700 ?_
    refine r_aload_n (pc := 25) (j := 2) C dX2_readUnit_25 rfl rfl ?_
    refine r_getS (j := 0) C cl_X1 (gFm_k ho1).1 (gFm_k ho1).2.1 (gFm_k ho1).2.2 (by decide) (by decide) rfl q_189 dX2_readUnit_26 (fun h706 => ?_)
    refine r_bipush (v := 30) C dX2_readUnit_29 (by decide) ?_
    refine r_cut (S.2 o1 0 < 30 ∧ ¬ f_X2_beginsUnit v698 = 0) 51 41 [] (fun c708 => ?_) (fun c708 => ?_) (fun k709 k710 => ?_)
    · refine r_t c708 ?_
      refine r_aload_n (pc := 51) (j := 2) C dX2_readUnit_51 rfl rfl ?_
      refine r_dup C dX2_readUnit_52 rfl ?_
      refine r_getS (j := 0) C cl_X1 (gFm_k ho1).1 (gFm_k ho1).2.1 (gFm_k ho1).2.2 (by decide) (by decide) rfl q_189 dX2_readUnit_53 (fun h711 => ?_)
      refine r_iconst (v := 1) C dX2_readUnit_56 (by decide) ?_
      refine r_iadd C dX2_readUnit_57 ?_
      refine r_putS C cl_X1 (gFm_k ho1).1 (gFm_k ho1).2.1 (gFm_k ho1).2.2 (by decide) (by decide) rfl rfl rfl (IR_wr _) q_189 dX2_readUnit_58 (fun S712 => ?_)
      refine r_iload_n (pc := 61) (j := 0) C dX2_readUnit_61 rfl rfl ?_
      refine r_bipush (v := 40) C dX2_readUnit_62 (by decide) ?_
      refine r_icmp_ne (tgt := 74) C h699 (IRd rfl) dX2_readUnit_64 (by decide) (fun c713 => ?_) (fun c713 => ?_)
      · refine r_f c713 ?_
        refine r_aload_n (pc := 74) (j := 2) C dX2_readUnit_74 rfl rfl ?_
        refine r_iload_n (pc := 75) (j := 0) C dX2_readUnit_75 rfl rfl ?_
        refine r_iconst (v := 2) C dX2_readUnit_76 (by decide) ?_
        refine r_join (fun q717 : Int => IR q717) (fun q717 => S712) (fun q717 => O) (fun q717 => [(0, .ref (zad E 56))]) 95 (fun q717 => [.int (zi q717), .ref (zad E o1)]) (fun q717 h718 => ?_) (fun k719 k720 => ?_)
        · refine r_jn (fun q724 e725 => ?_)
          refine r_cV0 (pc := 95) (k := o1) (As := [.int (zi q717)]) (st := []) C (m_X1_add (p := o1) (a1 := q717) ho1 h718 e725) cal_X1_add cl_X1 (gFm_k ho1).1 (gFm_k ho1).2.1 q_945 dX2_readUnit_95 rfl rfl (Nat.le_of_ble_eq_true rfl) (Nat.le_of_ble_eq_true rfl) (Nat.le_of_ble_eq_true rfl) (Nat.le_of_ble_eq_true rfl) (Nat.le_of_ble_eq_true rfl) (fun h723 => ?_)
          refine r_aload_n (pc := 98) (j := 0) C dX2_readUnit_98 rfl rfl ?_
          refine r_getR (j := 0) (r := 53) C cl_X2 kd_56 ln_56 (by decide) rfl r0_56_0 (by decide) q_394 dX2_readUnit_99 ?_
          refine r_bd (fun q727 e728 => ?_)
          refine r_cV0 (pc := 102) (k := 53) (As := []) (st := []) C (m_X3_step  e728) cal_X3_step cl_X3 kd_53 ln_53 q_948 dX2_readUnit_102 rfl rfl (Nat.le_of_ble_eq_true rfl) (Nat.le_of_ble_eq_true rfl) (Nat.le_of_ble_eq_true rfl) (Nat.le_of_ble_eq_true rfl) (Nat.le_of_ble_eq_true rfl) (fun h726 => ?_)
          refine r_iconst (v := 2) C dX2_readUnit_105 (by decide) ?_
          exact r_ireturn C hQ rfl dX2_readUnit_106 (fun e => by cases e; exact ⟨(IRd rfl), rfl, rfl, rfl, rfl, rfl⟩)
        · refine r_icmp_ne (tgt := 94) C h699 (IRd rfl) dX2_readUnit_77 (by decide) (fun c721 => ?_) (fun c721 => ?_)
          · refine r_jf c721 ?_
            refine r_iload_n (pc := 94) (j := 0) C dX2_readUnit_94 rfl rfl ?_
            refine r_L (L' := [(0, .ref (zad E 56))]) [1] rfl ?_
            exact k720 v698 h699
          · refine r_jt c721 ?_
            refine r_sipush (v := 1000) C dX2_readUnit_80 (by decide) ?_
            refine r_aload_n (pc := 83) (j := 1) C dX2_readUnit_83 rfl rfl ?_
            refine r_getR (j := 0) (r := 53) C cl_X2 kd_56 ln_56 (by decide) rfl r0_56_0 (by decide) q_394 dX2_readUnit_84 ?_
            refine r_getS (j := 1) C cl_X3 kd_53 ln_53 lc_53 (by decide) (by decide) rfl q_344 dX2_readUnit_87 (fun h722 => ?_)
            refine r_iadd C dX2_readUnit_90 ?_
            refine r_goto (tgt := 95) C dX2_readUnit_91 (by decide) ?_
            refine r_L (L' := [(0, .ref (zad E 56))]) [1] rfl ?_
            exact k720 (wr (1000 + (S712.2 53 1))) (IR_wr _)
      · refine r_t c713 ?_
        refine r_aload_n (pc := 67) (j := 1) C dX2_readUnit_67 rfl rfl ?_
        refine r_iload_n (pc := 68) (j := 0) C dX2_readUnit_68 rfl rfl ?_
        refine r_bd (fun q715 e716 => ?_)
        refine r_cV0 (pc := 69) (k := 56) (As := [.int (zi v698)]) (st := []) C (m_X2_open (a1 := v698) h699 e716) cal_X2_open cl_X2 kd_56 ln_56 q_954 dX2_readUnit_69 rfl rfl (Nat.le_of_ble_eq_true rfl) (Nat.le_of_ble_eq_true rfl) (Nat.le_of_ble_eq_true rfl) (Nat.le_of_ble_eq_true rfl) (Nat.le_of_ble_eq_true rfl) (fun h714 => ?_)
        refine r_iconst (v := 0) C dX2_readUnit_72 (by decide) ?_
        exact r_ireturn C hQ rfl dX2_readUnit_73 (fun e => by cases e; exact ⟨(IRd rfl), rfl, rfl, rfl, rfl, rfl⟩)
    · refine r_f c708 ?_
      refine r_aload_n (pc := 41) (j := 1) C dX2_readUnit_41 rfl rfl ?_
      refine r_getR (j := 0) (r := 53) C cl_X2 kd_56 ln_56 (by decide) rfl r0_56_0 (by decide) q_394 dX2_readUnit_42 ?_
      refine r_iconst (v := 2) C dX2_readUnit_45 (by decide) ?_
      refine r_jn (fun q730 e731 => ?_)
      refine r_cV0 (pc := 46) (k := 53) (As := [.int (zi 2)]) (st := []) C (m_X3_fail (a1 := 2) (IRd rfl) e731) cal_X3_fail cl_X3 kd_53 ln_53 q_947 dX2_readUnit_46 rfl rfl (Nat.le_of_ble_eq_true rfl) (Nat.le_of_ble_eq_true rfl) (Nat.le_of_ble_eq_true rfl) (Nat.le_of_ble_eq_true rfl) (Nat.le_of_ble_eq_true rfl) (fun h729 => ?_)
      refine r_iconst (v := 3) C dX2_readUnit_49 (by decide) ?_
      exact r_ireturn C hQ rfl dX2_readUnit_50 (fun e => by cases e; exact ⟨(IRd rfl), rfl, rfl, rfl, rfl, rfl⟩)
    · refine r_icmp_ge (tgt := 41) C h706 (IRd rfl) dX2_readUnit_31 (by decide) (fun c732 => ?_) (fun c732 => ?_)
      · exact k710 (fun w => c732 w.1)
      · refine r_iload_n (pc := 34) (j := 0) C dX2_readUnit_34 rfl rfl ?_
        refine r_cS1 (pc := 35) (As := [.int (zi v698)]) (st := []) C (m_X2_beginsUnit (a0 := v698) h699 rfl) cal_X2_beginsUnit q_958 dX2_readUnit_35 rfl rfl (Nat.le_of_ble_eq_true rfl) (Nat.le_of_ble_eq_true rfl) (Nat.le_of_ble_eq_true rfl) (Nat.le_of_ble_eq_true rfl) (Nat.le_of_ble_eq_true rfl) (fun h707 => ?_)
        refine r_if_ne (tgt := 51) C h707.ir dX2_readUnit_38 (by decide) (fun c733 => ?_) (fun c733 => ?_)
        · exact k709 ⟨c732, c733⟩
        · exact k710 (fun w => w.2 c733)
  · refine r_icmp_ne (tgt := 25) C h699 (IRd rfl) dX2_readUnit_11 (by decide) (fun c734 => ?_) (fun c734 => ?_)
    · exact k702 (fun w => c734 w.1)
    · refine r_iload_n (pc := 14) (j := 3) C dX2_readUnit_14 rfl rfl ?_
      refine r_if_ne (tgt := 25) C ha2 dX2_readUnit_15 (by decide) (fun c735 => ?_) (fun c735 => ?_)
      · exact k702 (fun w => c735 w.2)
      · exact k701 ⟨c734, c735⟩

def f_X2_readFormula (o1 : Nat) (S : Sst) : Option (Sst) :=
  jn (f_X1_clear o1 S) fun (q770 : Sst) =>
  jn (f_X6_clear 57 q770) fun (q773 : Sst) =>
  jn (upS q773 56 2 0) fun (S775 : Sst) =>
  Option.bind (lp (fun (s776 : Int × Int × Sst) =>
    if (1600 < s776.2.1 ∨ s776.1 = 3) then
      (some (Sum.inr (Sum.inr s776.2.2)))
    else
      (Option.bind (
        if s776.1 = 2 then
          (Option.bind (f_X2_readSign o1 s776.2.2) fun (q793 : Int × Sst) =>
          some (q793.1, q793.2))
        else
          (Option.bind (f_X2_readUnit o1 s776.1 s776.2.2) fun (q796 : Int × Sst) =>
          some (q796.1, q796.2))) fun (q787 : Int × Sst) =>
      if f_X3_failed q787.2 = 0 then
        (some (Sum.inl (q787.1, wr (s776.2.1 + 1), q787.2)))
      else
        (some (Sum.inr (Sum.inl q787.2))))) FU (0, 0, S775)) fun z806 => Sum.elim (fun (r802 : Sst) =>
    some r802) (fun (r804 : Sst) =>
    some r804) z806
set_option maxRecDepth 100000 in
set_option maxHeartbeats 4000000 in
theorem m_X2_readFormula {l : Launch} {E : EwT} {S : Sst} {O : Smo} {o1 : Nat} (ho1 : gFm n0 R0 o1) {q : Sst} (hq : f_X2_readFormula o1 S = some q) : MetG l E yX2_readFormula cX2_readFormula 4 none 9 239 0 0 n0 R0 S O [.ref (zad E 56), .ref (zad E o1)] (True) none n0 R0 q O := by
  refine ofG (L0 := [(0, .ref (zad E 56)), (1, .ref (zad E o1))]) hq (by decide +kernel) (Nat.le_of_ble_eq_true rfl) rfl (fun K _ C hQ => ?_)
  unfold f_X2_readFormula
  refine r_aload_n (pc := 0) (j := 1) C dX2_readFormula_0 rfl rfl ?_
  refine r_jn (fun q770 e771 => ?_)
  refine r_cV0 (pc := 1) (k := o1) (As := []) (st := []) C (m_X1_clear (p := o1) ho1 e771) cal_X1_clear cl_X1 (gFm_k ho1).1 (gFm_k ho1).2.1 q_918 dX2_readFormula_1 rfl rfl (Nat.le_of_ble_eq_true rfl) (Nat.le_of_ble_eq_true rfl) (Nat.le_of_ble_eq_true rfl) (Nat.le_of_ble_eq_true rfl) (Nat.le_of_ble_eq_true rfl) (fun h769 => ?_)
  refine r_aload_n (pc := 4) (j := 0) C dX2_readFormula_4 rfl rfl ?_
  refine r_getR (j := 1) (r := 57) C cl_X2 kd_56 ln_56 (by decide) rfl r0_56_1 (by decide) q_395 dX2_readFormula_5 ?_
  refine r_jn (fun q773 e774 => ?_)
  refine r_cV0 (pc := 8) (k := 57) (As := []) (st := []) C (m_X6_clear (p := 57) gw_57 e774) cal_X6_clear cl_X6 kd_57 ln_57 q_919 dX2_readFormula_8 rfl rfl (Nat.le_of_ble_eq_true rfl) (Nat.le_of_ble_eq_true rfl) (Nat.le_of_ble_eq_true rfl) (Nat.le_of_ble_eq_true rfl) (Nat.le_of_ble_eq_true rfl) (fun h772 => ?_)
  refine r_aload_n (pc := 11) (j := 0) C dX2_readFormula_11 rfl rfl ?_
  refine r_iconst (v := 0) C dX2_readFormula_12 (by decide) ?_
  refine r_putS C cl_X2 kd_56 ln_56 lc_56 (by decide) (by decide) rfl rfl rfl (IRd rfl) q_396 dX2_readFormula_13 (fun S775 => ?_)
  refine r_iconst (v := 0) C dX2_readFormula_16 (by decide) ?_
  refine r_istore_n (L' := [(2, .int (zi 0)), (0, .ref (zad E 56)), (1, .ref (zad E o1))]) C dX2_readFormula_17 rfl (by decide) rfl ?_
  refine r_iconst (v := 0) C dX2_readFormula_18 (by decide) ?_
  refine r_istore_n (L' := [(3, .int (zi 0)), (2, .int (zi 0)), (0, .ref (zad E 56)), (1, .ref (zad E o1))]) C dX2_readFormula_19 rfl (by decide) rfl ?_
  refine r_L (L' := [(0, .ref (zad E 56)), (1, .ref (zad E o1)), (2, .int (zi 0)), (3, .int (zi 0))]) [2, 3, 1, 0] rfl ?_
  refine r_loop2 (fun s776 : Int × Int × Sst => IR s776.1 ∧ IR s776.2.1) (fun s776 => s776.2.2) (fun s776 => O) (fun s776 => [(0, .ref (zad E 56)), (1, .ref (zad E o1)), (2, .int (zi s776.1)), (3, .int (zi s776.2.1))]) [] (fun r802 : Sst => True) (fun r802 => r802) (fun r802 => O) (fun r802 => []) 62 (fun r802 h803 => ?_) (fun r804 : Sst => True) (fun r804 => r804) (fun r804 => O) (fun r804 => []) 69 (fun r804 h805 => ?_) (fun k778 k780 k782 k779 k781 k783 s776 h777 => ?_) ⟨(IRd rfl), (IRd rfl)⟩
  · exact r_return C hQ dX2_readFormula_62 (fun e => by cases e; exact ⟨trivial, rfl, rfl, rfl, rfl, rfl⟩)
  · exact r_return C hQ dX2_readFormula_69 (fun e => by cases e; exact ⟨trivial, rfl, rfl, rfl, rfl, rfl⟩)
  · refine r_iload_n (pc := 20) (j := 3) C dX2_readFormula_20 rfl rfl ?_
    refine r_sipush (v := 1600) C dX2_readFormula_21 (by decide) ?_
    refine r_cut (1600 < s776.2.1 ∨ s776.1 = 3) 69 32 [] (fun c784 => ?_) (fun c784 => ?_) (fun k785 k786 => ?_)
    · refine r_bt c784 ?_
      refine r_L (L' := []) [] rfl ?_
      exact k783 s776.2.2 trivial
    · refine r_bf c784 ?_
      refine r_iload_n (pc := 32) (j := 2) C dX2_readFormula_32 rfl rfl ?_
      refine r_iconst (v := 2) C dX2_readFormula_33 (by decide) ?_
      refine r_bb ?_
      refine r_joinb (fun q787 : Int × Sst => IR q787.1) (fun q787 => q787.2) (fun q787 => O) (fun q787 => [(0, .ref (zad E 56)), (1, .ref (zad E o1)), (3, .int (zi s776.2.1))]) 51 (fun q787 => [.int (zi q787.1)]) (fun q787 h788 => ?_) (fun k789 k790 => ?_)
      · refine r_istore_n (L' := [(2, .int (zi q787.1)), (0, .ref (zad E 56)), (1, .ref (zad E o1)), (3, .int (zi s776.2.1))]) C dX2_readFormula_51 rfl (by decide) rfl ?_
        refine r_aload_n (pc := 52) (j := 1) C dX2_readFormula_52 rfl rfl ?_
        refine r_getR (j := 0) (r := 53) C cl_X2 kd_56 ln_56 (by decide) rfl r0_56_0 (by decide) q_394 dX2_readFormula_53 ?_
        refine r_cV1 (pc := 56) (k := 53) (As := []) (st := []) C (m_X3_failed  rfl) cal_X3_failed cl_X3 kd_53 ln_53 q_961 dX2_readFormula_56 rfl rfl (Nat.le_of_ble_eq_true rfl) (Nat.le_of_ble_eq_true rfl) (Nat.le_of_ble_eq_true rfl) (Nat.le_of_ble_eq_true rfl) (Nat.le_of_ble_eq_true rfl) (fun h798 => ?_)
        refine r_if_eq (tgt := 63) C h798.ir dX2_readFormula_59 (by decide) (fun c799 => ?_) (fun c799 => ?_)
        · refine r_bt c799 ?_
          refine r_iinc (j := 3) (L' := [(3, .int (zi (wr (s776.2.1 + 1)))), (2, .int (zi q787.1)), (0, .ref (zad E 56)), (1, .ref (zad E o1))]) C dX2_readFormula_63 rfl (by decide) rfl ?_
          refine r_goto (tgt := 20) C dX2_readFormula_66 (by decide) ?_
          refine r_L (L' := [(0, .ref (zad E 56)), (1, .ref (zad E o1)), (2, .int (zi q787.1)), (3, .int (zi (wr (s776.2.1 + 1))))]) [2, 3, 1, 0] rfl ?_
          exact k779 (q787.1, wr (s776.2.1 + 1), q787.2) ⟨h788, (IR_wr _)⟩
        · refine r_bf c799 ?_
          refine r_L (L' := []) [] rfl ?_
          exact k781 q787.2 trivial
      · refine r_icmp_ne (tgt := 45) C h777.1 (IRd rfl) dX2_readFormula_34 (by decide) (fun c791 => ?_) (fun c791 => ?_)
        · refine r_bf c791 ?_
          refine r_aload_n (pc := 45) (j := 0) C dX2_readFormula_45 rfl rfl ?_
          refine r_aload_n (pc := 46) (j := 1) C dX2_readFormula_46 rfl rfl ?_
          refine r_iload_n (pc := 47) (j := 2) C dX2_readFormula_47 rfl rfl ?_
          refine r_bb ?_
          refine r_bd (fun q796 e797 => ?_)
          refine r_cV1 (pc := 48) (k := 56) (As := [.ref (zad E o1), .int (zi s776.1)]) (st := []) C (m_X2_readUnit (o1 := o1) (a2 := s776.1) ho1 h777.1 e797) cal_X2_readUnit cl_X2 kd_56 ln_56 q_950 dX2_readFormula_48 rfl rfl (Nat.le_of_ble_eq_true rfl) (Nat.le_of_ble_eq_true rfl) (Nat.le_of_ble_eq_true rfl) (Nat.le_of_ble_eq_true rfl) (Nat.le_of_ble_eq_true rfl) (fun h795 => ?_)
          refine r_L (L' := [(0, .ref (zad E 56)), (1, .ref (zad E o1)), (3, .int (zi s776.2.1))]) [0, 1, 3] rfl ?_
          exact k790 (q796.1, q796.2) h795
        · refine r_bt c791 ?_
          refine r_aload_n (pc := 37) (j := 0) C dX2_readFormula_37 rfl rfl ?_
          refine r_aload_n (pc := 38) (j := 1) C dX2_readFormula_38 rfl rfl ?_
          refine r_bb ?_
          refine r_bd (fun q793 e794 => ?_)
          refine r_cV1 (pc := 39) (k := 56) (As := [.ref (zad E o1)]) (st := []) C (m_X2_readSign (o1 := o1) ho1 e794) cal_X2_readSign cl_X2 kd_56 ln_56 q_920 dX2_readFormula_39 rfl rfl (Nat.le_of_ble_eq_true rfl) (Nat.le_of_ble_eq_true rfl) (Nat.le_of_ble_eq_true rfl) (Nat.le_of_ble_eq_true rfl) (Nat.le_of_ble_eq_true rfl) (fun h792 => ?_)
          refine r_goto (tgt := 51) C dX2_readFormula_42 (by decide) ?_
          refine r_L (L' := [(0, .ref (zad E 56)), (1, .ref (zad E o1)), (3, .int (zi s776.2.1))]) [0, 1, 3] rfl ?_
          exact k790 (q793.1, q793.2) h792
    · refine r_icmp_gt (tgt := 69) C h777.2 (IRd rfl) dX2_readFormula_24 (by decide) (fun c800 => ?_) (fun c800 => ?_)
      · exact k785 (Or.inl c800)
      · refine r_iload_n (pc := 27) (j := 2) C dX2_readFormula_27 rfl rfl ?_
        refine r_iconst (v := 3) C dX2_readFormula_28 (by decide) ?_
        refine r_icmp_eq (tgt := 69) C h777.1 (IRd rfl) dX2_readFormula_29 (by decide) (fun c801 => ?_) (fun c801 => ?_)
        · exact k785 (Or.inr c801)
        · exact k786 (fun w => w.elim c800 c801)

def f_X5_readMap (S : Sst) : Option (Sst) :=
  jn (f_X4_clear 5 S) fun (q1363 : Sst) =>
  jn (upS q1363 55 3 0) fun (S1365 : Sst) =>
  jn (upS S1365 55 4 0) fun (S1366 : Sst) =>
  jn (upS S1366 55 5 0) fun (S1367 : Sst) =>
  Option.bind (f_X3_restart S1367) fun (q1369 : Sst) =>
  jn (
    if q1369.2 53 0 = 0 then
      (0)
    else
      (1)) fun (q1372 : Int) =>
  Option.bind (lp (fun (s1377 : Int × Int × Sst) =>
    if (1600 < s1377.2.1 ∨ s1377.1 = 0) then
      (some (Sum.inr s1377.2.2))
    else
      (Option.bind (
        if (s1377.2.2.2 53 0 = 100 ∧ f_X4_count 5 s1377.2.2 < 8) then
          (Option.bind (f_X5_readSegment s1377.2.2) fun (q1396 : Sst) =>
          some q1396)
        else
          (if (s1377.2.2.2 53 0 = 103 ∧ s1377.2.2.2 55 3 = 0) then
            (jn (upS s1377.2.2 55 3 1) fun (S1403 : Sst) =>
            Option.bind (f_X3_step S1403) fun (q1405 : Sst) =>
            Option.bind (f_X2_readFormula 24 q1405) fun (q1408 : Sst) =>
            some q1408)
          else
            (if (s1377.2.2.2 53 0 = 104 ∧ s1377.2.2.2 55 4 = 0) then
              (jn (upS s1377.2.2 55 4 1) fun (S1415 : Sst) =>
              Option.bind (f_X3_step S1415) fun (q1417 : Sst) =>
              jn (f_X5_number 1 6 q1417) fun (q1420 : Int × Sst) =>
              jn (upS q1420.2 5 11 q1420.1) fun (S1422 : Sst) =>
              Option.bind (f_X3_step S1422) fun (q1424 : Sst) =>
              some q1424)
            else
              (if (s1377.2.2.2 53 0 = 105 ∧ s1377.2.2.2 55 5 = 0) then
                (jn (upS s1377.2.2 55 5 1) fun (S1431 : Sst) =>
                Option.bind (f_X3_step S1431) fun (q1433 : Sst) =>
                jn (f_X5_number 0 999 q1433) fun (q1436 : Int × Sst) =>
                jn (upS q1436.2 5 12 q1436.1) fun (S1438 : Sst) =>
                Option.bind (f_X3_step S1438) fun (q1440 : Sst) =>
                some q1440)
              else
                (jn (f_X3_fail 2 s1377.2.2) fun (q1443 : Sst) =>
                some q1443))))) fun (q1388 : Sst) =>
      Option.bind (f_X5_expect 59 q1388) fun (q1454 : Sst) =>
      jn (
        if (f_X3_failed q1454 = 0 ∧ ¬ q1454.2 53 0 = 0) then
          (1)
        else
          (0)) fun (q1458 : Int) =>
      some (Sum.inl (q1458, wr (s1377.2.1 + 1), q1454)))) FU (q1372, 0, q1369)) fun (r1469 : Sst) =>
  if f_X3_failed r1469 = 0 then
    (Option.bind (f_X4_settle 5 r1469) fun (q1474 : Sst) =>
    some q1474)
  else
    (some r1469)
set_option maxRecDepth 100000 in
set_option maxHeartbeats 4000000 in
theorem m_X5_readMap {l : Launch} {E : EwT} {S : Sst} {O : Smo}  {q : Sst} (hq : f_X5_readMap S = some q) : MetG l E yX5_readMap cX5_readMap 3 none 10 262 0 0 n0 R0 S O [.ref (zad E 55)] (True) none n0 R0 q O := by
  refine ofG (L0 := [(0, .ref (zad E 55))]) hq (by decide +kernel) (Nat.le_of_ble_eq_true rfl) rfl (fun K _ C hQ => ?_)
  unfold f_X5_readMap
  refine r_aload_n (pc := 0) (j := 0) C dX5_readMap_0 rfl rfl ?_
  refine r_getR (j := 1) (r := 5) C cl_X5 kd_55 ln_55 (by decide) rfl r0_55_1 (by decide) q_405 dX5_readMap_1 ?_
  refine r_jn (fun q1363 e1364 => ?_)
  refine r_cV0 (pc := 4) (k := 5) (As := []) (st := []) C (m_X4_clear (p := 5) gp_5 e1364) cal_X4_clear cl_X4 kd_5 ln_5 q_758 dX5_readMap_4 rfl rfl (Nat.le_of_ble_eq_true rfl) (Nat.le_of_ble_eq_true rfl) (Nat.le_of_ble_eq_true rfl) (Nat.le_of_ble_eq_true rfl) (Nat.le_of_ble_eq_true rfl) (fun h1362 => ?_)
  refine r_aload_n (pc := 7) (j := 0) C dX5_readMap_7 rfl rfl ?_
  refine r_iconst (v := 0) C dX5_readMap_8 (by decide) ?_
  refine r_putSz C cl_X5 kd_55 ln_55 lc_55 (by decide) (by decide) rfl rfl rfl (BRd rfl) q_407 dX5_readMap_9 (fun S1365 => ?_)
  refine r_aload_n (pc := 12) (j := 0) C dX5_readMap_12 rfl rfl ?_
  refine r_iconst (v := 0) C dX5_readMap_13 (by decide) ?_
  refine r_putSz C cl_X5 kd_55 ln_55 lc_55 (by decide) (by decide) rfl rfl rfl (BRd rfl) q_408 dX5_readMap_14 (fun S1366 => ?_)
  refine r_aload_n (pc := 17) (j := 0) C dX5_readMap_17 rfl rfl ?_
  refine r_iconst (v := 0) C dX5_readMap_18 (by decide) ?_
  refine r_putSz C cl_X5 kd_55 ln_55 lc_55 (by decide) (by decide) rfl rfl rfl (BRd rfl) q_409 dX5_readMap_19 (fun S1367 => ?_)
  refine r_aload_n (pc := 22) (j := 0) C dX5_readMap_22 rfl rfl ?_
  refine r_getR (j := 0) (r := 53) C cl_X5 kd_55 ln_55 (by decide) rfl r0_55_0 (by decide) q_404 dX5_readMap_23 ?_
  refine r_bd (fun q1369 e1370 => ?_)
  refine r_cV0 (pc := 26) (k := 53) (As := []) (st := []) C (m_X3_restart  e1370) cal_X3_restart cl_X3 kd_53 ln_53 q_759 dX5_readMap_26 rfl rfl (Nat.le_of_ble_eq_true rfl) (Nat.le_of_ble_eq_true rfl) (Nat.le_of_ble_eq_true rfl) (Nat.le_of_ble_eq_true rfl) (Nat.le_of_ble_eq_true rfl) (fun h1368 => ?_)
  refine r_aload_n (pc := 29) (j := 0) C dX5_readMap_29 rfl rfl ?_
  refine r_getR (j := 0) (r := 53) C cl_X5 kd_55 ln_55 (by decide) rfl r0_55_0 (by decide) q_404 dX5_readMap_30 ?_
  refine r_getS (j := 0) C cl_X3 kd_53 ln_53 lc_53 (by decide) (by decide) rfl q_341 dX5_readMap_33 (fun h1371 => ?_)
  refine r_join (fun q1372 : Int => BR q1372) (fun q1372 => q1369) (fun q1372 => O) (fun q1372 => [(0, .ref (zad E 55))]) 44 (fun q1372 => [.int (zi q1372)]) (fun q1372 h1373 => ?_) (fun k1374 k1375 => ?_)
  · refine r_istore_n (L' := [(1, .int (zi q1372)), (0, .ref (zad E 55))]) C dX5_readMap_44 rfl (by decide) rfl ?_
    refine r_iconst (v := 0) C dX5_readMap_45 (by decide) ?_
    refine r_istore_n (L' := [(2, .int (zi 0)), (1, .int (zi q1372)), (0, .ref (zad E 55))]) C dX5_readMap_46 rfl (by decide) rfl ?_
    refine r_L (L' := [(0, .ref (zad E 55)), (1, .int (zi q1372)), (2, .int (zi 0))]) [2, 1, 0] rfl ?_
    refine r_loop1 (fun s1377 : Int × Int × Sst => BR s1377.1 ∧ IR s1377.2.1) (fun s1377 => s1377.2.2) (fun s1377 => O) (fun s1377 => [(0, .ref (zad E 55)), (1, .int (zi s1377.1)), (2, .int (zi s1377.2.1))]) [] (fun r1469 : Sst => True) (fun r1469 => r1469) (fun r1469 => O) (fun r1469 => [(0, .ref (zad E 55))]) 294 (fun r1469 h1470 => ?_) (fun k1379 k1381 k1380 k1382 s1377 h1378 => ?_) ⟨h1373, (IRd rfl)⟩
    · refine r_aload_n (pc := 294) (j := 0) C dX5_readMap_294 rfl rfl ?_
      refine r_getR (j := 0) (r := 53) C cl_X5 kd_55 ln_55 (by decide) rfl r0_55_0 (by decide) q_404 dX5_readMap_295 ?_
      refine r_cV1 (pc := 298) (k := 53) (As := []) (st := []) C (m_X3_failed  rfl) cal_X3_failed cl_X3 kd_53 ln_53 q_882 dX5_readMap_298 rfl rfl (Nat.le_of_ble_eq_true rfl) (Nat.le_of_ble_eq_true rfl) (Nat.le_of_ble_eq_true rfl) (Nat.le_of_ble_eq_true rfl) (Nat.le_of_ble_eq_true rfl) (fun h1471 => ?_)
      refine r_if_ne (tgt := 311) C h1471.ir dX5_readMap_301 (by decide) (fun c1472 => ?_) (fun c1472 => ?_)
      · refine r_f c1472 ?_
        exact r_return C hQ dX5_readMap_311 (fun e => by cases e; exact ⟨trivial, rfl, rfl, rfl, rfl, rfl⟩)
      · refine r_t c1472 ?_
        refine r_aload_n (pc := 304) (j := 0) C dX5_readMap_304 rfl rfl ?_
        refine r_getR (j := 1) (r := 5) C cl_X5 kd_55 ln_55 (by decide) rfl r0_55_1 (by decide) q_405 dX5_readMap_305 ?_
        refine r_bd (fun q1474 e1475 => ?_)
        refine r_cV0 (pc := 308) (k := 5) (As := []) (st := []) C (m_X4_settle (p := 5) gp_5 e1475) cal_X4_settle cl_X4 kd_5 ln_5 q_962 dX5_readMap_308 rfl rfl (Nat.le_of_ble_eq_true rfl) (Nat.le_of_ble_eq_true rfl) (Nat.le_of_ble_eq_true rfl) (Nat.le_of_ble_eq_true rfl) (Nat.le_of_ble_eq_true rfl) (fun h1473 => ?_)
        exact r_return C hQ dX5_readMap_311 (fun e => by cases e; exact ⟨trivial, rfl, rfl, rfl, rfl, rfl⟩)
    · refine r_iload_n (pc := 47) (j := 2) C dX5_readMap_47 rfl rfl ?_
      refine r_sipush (v := 1600) C dX5_readMap_48 (by decide) ?_
      refine r_cut (1600 < s1377.2.1 ∨ s1377.1 = 0) 294 58 [] (fun c1383 => ?_) (fun c1383 => ?_) (fun k1384 k1385 => ?_)
      · refine r_bt c1383 ?_
        refine r_L (L' := [(0, .ref (zad E 55))]) [0] rfl ?_
        exact k1382 s1377.2.2 trivial
      · refine r_bf c1383 ?_
        refine r_aload_n (pc := 58) (j := 0) C dX5_readMap_58 rfl rfl ?_
        refine r_getR (j := 0) (r := 53) C cl_X5 kd_55 ln_55 (by decide) rfl r0_55_0 (by decide) q_404 dX5_readMap_59 ?_
        refine r_getS (j := 0) C cl_X3 kd_53 ln_53 lc_53 (by decide) (by decide) rfl q_341 dX5_readMap_62 (fun h1386 => ?_)
        refine r_bipush (v := 100) C dX5_readMap_65 (by decide) ?_
        refine r_bb ?_
        refine r_joinb (fun q1388 : Sst => True) (fun q1388 => q1388) (fun q1388 => O) (fun q1388 => [(0, .ref (zad E 55)), (2, .int (zi s1377.2.1))]) 256 (fun q1388 => []) (fun q1388 h1389 => ?_) (fun k1390 k1391 => ?_)
        · refine r_aload_n (pc := 256) (j := 0) C dX5_readMap_256 rfl rfl ?_
          refine r_bipush (v := 59) C dX5_readMap_257 (by decide) ?_
          refine r_bb ?_
          refine r_bd (fun q1454 e1455 => ?_)
          refine r_cV0 (pc := 259) (k := 55) (As := [.int (zi 59)]) (st := []) C (m_X5_expect (a1 := 59) (IRd rfl) e1455) cal_X5_expect cl_X5 kd_55 ln_55 q_874 dX5_readMap_259 rfl rfl (Nat.le_of_ble_eq_true rfl) (Nat.le_of_ble_eq_true rfl) (Nat.le_of_ble_eq_true rfl) (Nat.le_of_ble_eq_true rfl) (Nat.le_of_ble_eq_true rfl) (fun h1453 => ?_)
          refine r_aload_n (pc := 262) (j := 0) C dX5_readMap_262 rfl rfl ?_
          refine r_getR (j := 0) (r := 53) C cl_X5 kd_55 ln_55 (by decide) rfl r0_55_0 (by decide) q_404 dX5_readMap_263 ?_
          refine r_cV1 (pc := 266) (k := 53) (As := []) (st := []) C (m_X3_failed  rfl) cal_X3_failed cl_X3 kd_53 ln_53 q_882 dX5_readMap_266 rfl rfl (Nat.le_of_ble_eq_true rfl) (Nat.le_of_ble_eq_true rfl) (Nat.le_of_ble_eq_true rfl) (Nat.le_of_ble_eq_true rfl) (Nat.le_of_ble_eq_true rfl) (fun h1456 => ?_)
          refine r_bj ?_
          refine r_join (fun q1458 : Int => BR q1458) (fun q1458 => q1454) (fun q1458 => O) (fun q1458 => [(0, .ref (zad E 55)), (2, .int (zi s1377.2.1))]) 287 (fun q1458 => [.int (zi q1458)]) (fun q1458 h1459 => ?_) (fun k1460 k1461 => ?_)
          · refine r_istore_n (L' := [(1, .int (zi q1458)), (0, .ref (zad E 55)), (2, .int (zi s1377.2.1))]) C dX5_readMap_287 rfl (by decide) rfl ?_
            refine r_iinc (j := 2) (L' := [(2, .int (zi (wr (s1377.2.1 + 1)))), (1, .int (zi q1458)), (0, .ref (zad E 55))]) C dX5_readMap_288 rfl (by decide) rfl ?_
            refine r_goto (tgt := 47) C dX5_readMap_291 (by decide) ?_
            refine r_L (L' := [(0, .ref (zad E 55)), (1, .int (zi q1458)), (2, .int (zi (wr (s1377.2.1 + 1))))]) [2, 1, 0] rfl ?_
            exact k1380 (q1458, wr (s1377.2.1 + 1), q1454) ⟨h1459, (IR_wr _)⟩
          · refine r_cut (f_X3_failed q1454 = 0 ∧ ¬ q1454.2 53 0 = 0) 282 286 [] (fun c1462 => ?_) (fun c1462 => ?_) (fun k1463 k1464 => ?_)
            · refine r_jt c1462 ?_
              refine r_iconst (v := 1) C dX5_readMap_282 (by decide) ?_
              refine r_goto (tgt := 287) C dX5_readMap_283 (by decide) ?_
              exact k1461 1 (BRd rfl)
            · refine r_jf c1462 ?_
              refine r_iconst (v := 0) C dX5_readMap_286 (by decide) ?_
              exact k1461 0 (BRd rfl)
            · refine r_if_ne (tgt := 286) C h1456.ir dX5_readMap_269 (by decide) (fun c1465 => ?_) (fun c1465 => ?_)
              · exact k1464 (fun w => c1465 w.1)
              · refine r_aload_n (pc := 272) (j := 0) C dX5_readMap_272 rfl rfl ?_
                refine r_getR (j := 0) (r := 53) C cl_X5 kd_55 ln_55 (by decide) rfl r0_55_0 (by decide) q_404 dX5_readMap_273 ?_
                refine r_getS (j := 0) C cl_X3 kd_53 ln_53 lc_53 (by decide) (by decide) rfl q_341 dX5_readMap_276 (fun h1457 => ?_)
                refine r_if_eq (tgt := 286) C h1457 dX5_readMap_279 (by decide) (fun c1466 => ?_) (fun c1466 => ?_)
                · exact k1464 (fun w => w.2 c1466)
                · exact k1463 ⟨c1465, c1466⟩
        · refine r_cut (s1377.2.2.2 53 0 = 100 ∧ f_X4_count 5 s1377.2.2 < 8) 82 89 [] (fun c1392 => ?_) (fun c1392 => ?_) (fun k1393 k1394 => ?_)
          · refine r_bt c1392 ?_
            refine r_aload_n (pc := 82) (j := 0) C dX5_readMap_82 rfl rfl ?_
            refine r_bb ?_
            refine r_bd (fun q1396 e1397 => ?_)
            refine r_cV0 (pc := 83) (k := 55) (As := []) (st := []) C (m_X5_readSegment  e1397) cal_X5_readSegment cl_X5 kd_55 ln_55 q_857 dX5_readMap_83 rfl rfl (Nat.le_of_ble_eq_true rfl) (Nat.le_of_ble_eq_true rfl) (Nat.le_of_ble_eq_true rfl) (Nat.le_of_ble_eq_true rfl) (Nat.le_of_ble_eq_true rfl) (fun h1395 => ?_)
            refine r_goto (tgt := 256) C dX5_readMap_86 (by decide) ?_
            refine r_L (L' := [(0, .ref (zad E 55)), (2, .int (zi s1377.2.1))]) [0, 2] rfl ?_
            exact k1391 q1396 trivial
          · refine r_bf c1392 ?_
            refine r_aload_n (pc := 89) (j := 0) C dX5_readMap_89 rfl rfl ?_
            refine r_getR (j := 0) (r := 53) C cl_X5 kd_55 ln_55 (by decide) rfl r0_55_0 (by decide) q_404 dX5_readMap_90 ?_
            refine r_getS (j := 0) C cl_X3 kd_53 ln_53 lc_53 (by decide) (by decide) rfl q_341 dX5_readMap_93 (fun h1398 => ?_)
            refine r_bipush (v := 103) C dX5_readMap_96 (by decide) ?_
            refine r_cut (s1377.2.2.2 53 0 = 103 ∧ s1377.2.2.2 55 3 = 0) 108 137 [] (fun c1400 => ?_) (fun c1400 => ?_) (fun k1401 k1402 => ?_)
            · refine r_bt c1400 ?_
              refine r_aload_n (pc := 108) (j := 0) C dX5_readMap_108 rfl rfl ?_
              refine r_iconst (v := 1) C dX5_readMap_109 (by decide) ?_
              refine r_bj ?_
              refine r_putSz C cl_X5 kd_55 ln_55 lc_55 (by decide) (by decide) rfl rfl rfl (BRd rfl) q_407 dX5_readMap_110 (fun S1403 => ?_)
              refine r_aload_n (pc := 113) (j := 0) C dX5_readMap_113 rfl rfl ?_
              refine r_getR (j := 0) (r := 53) C cl_X5 kd_55 ln_55 (by decide) rfl r0_55_0 (by decide) q_404 dX5_readMap_114 ?_
              refine r_bb ?_
              refine r_bd (fun q1405 e1406 => ?_)
              refine r_cV0 (pc := 117) (k := 53) (As := []) (st := []) C (m_X3_step  e1406) cal_X3_step cl_X3 kd_53 ln_53 q_861 dX5_readMap_117 rfl rfl (Nat.le_of_ble_eq_true rfl) (Nat.le_of_ble_eq_true rfl) (Nat.le_of_ble_eq_true rfl) (Nat.le_of_ble_eq_true rfl) (Nat.le_of_ble_eq_true rfl) (fun h1404 => ?_)
              refine r_aload_n (pc := 120) (j := 0) C dX5_readMap_120 rfl rfl ?_
              refine r_getR (j := 2) (r := 56) C cl_X5 kd_55 ln_55 (by decide) rfl r0_55_2 (by decide) q_406 dX5_readMap_121 ?_
              refine r_aload_n (pc := 124) (j := 0) C dX5_readMap_124 rfl rfl ?_
              refine r_getR (j := 1) (r := 5) C cl_X5 kd_55 ln_55 (by decide) rfl r0_55_1 (by decide) q_405 dX5_readMap_125 ?_
              refine r_getR (j := 9) (r := 24) C cl_X4 kd_5 ln_5 (by decide) rfl r0_5_9 (by decide) q_242 dX5_readMap_128 ?_
              refine r_bb ?_
              refine r_bd (fun q1408 e1409 => ?_)
              refine r_cV0 (pc := 131) (k := 56) (As := [.ref (zad E 24)]) (st := []) C (m_X2_readFormula (o1 := 24) gf_24 e1409) cal_X2_readFormula cl_X2 kd_56 ln_56 q_914 dX5_readMap_131 rfl rfl (Nat.le_of_ble_eq_true rfl) (Nat.le_of_ble_eq_true rfl) (Nat.le_of_ble_eq_true rfl) (Nat.le_of_ble_eq_true rfl) (Nat.le_of_ble_eq_true rfl) (fun h1407 => ?_)
              refine r_goto (tgt := 256) C dX5_readMap_134 (by decide) ?_
              refine r_L (L' := [(0, .ref (zad E 55)), (2, .int (zi s1377.2.1))]) [0, 2] rfl ?_
              exact k1391 q1408 trivial
            · refine r_bf c1400 ?_
              refine r_aload_n (pc := 137) (j := 0) C dX5_readMap_137 rfl rfl ?_
              refine r_getR (j := 0) (r := 53) C cl_X5 kd_55 ln_55 (by decide) rfl r0_55_0 (by decide) q_404 dX5_readMap_138 ?_
              refine r_getS (j := 0) C cl_X3 kd_53 ln_53 lc_53 (by decide) (by decide) rfl q_341 dX5_readMap_141 (fun h1410 => ?_)
              refine r_bipush (v := 104) C dX5_readMap_144 (by decide) ?_
              refine r_cut (s1377.2.2.2 53 0 = 104 ∧ s1377.2.2.2 55 4 = 0) 156 192 [] (fun c1412 => ?_) (fun c1412 => ?_) (fun k1413 k1414 => ?_)
              · refine r_bt c1412 ?_
                refine r_aload_n (pc := 156) (j := 0) C dX5_readMap_156 rfl rfl ?_
                refine r_iconst (v := 1) C dX5_readMap_157 (by decide) ?_
                refine r_bj ?_
                refine r_putSz C cl_X5 kd_55 ln_55 lc_55 (by decide) (by decide) rfl rfl rfl (BRd rfl) q_408 dX5_readMap_158 (fun S1415 => ?_)
                refine r_aload_n (pc := 161) (j := 0) C dX5_readMap_161 rfl rfl ?_
                refine r_getR (j := 0) (r := 53) C cl_X5 kd_55 ln_55 (by decide) rfl r0_55_0 (by decide) q_404 dX5_readMap_162 ?_
                refine r_bb ?_
                refine r_bd (fun q1417 e1418 => ?_)
                refine r_cV0 (pc := 165) (k := 53) (As := []) (st := []) C (m_X3_step  e1418) cal_X3_step cl_X3 kd_53 ln_53 q_861 dX5_readMap_165 rfl rfl (Nat.le_of_ble_eq_true rfl) (Nat.le_of_ble_eq_true rfl) (Nat.le_of_ble_eq_true rfl) (Nat.le_of_ble_eq_true rfl) (Nat.le_of_ble_eq_true rfl) (fun h1416 => ?_)
                refine r_aload_n (pc := 168) (j := 0) C dX5_readMap_168 rfl rfl ?_
                refine r_getR (j := 1) (r := 5) C cl_X5 kd_55 ln_55 (by decide) rfl r0_55_1 (by decide) q_405 dX5_readMap_169 ?_
                refine r_aload_n (pc := 172) (j := 0) C dX5_readMap_172 rfl rfl ?_
                refine r_iconst (v := 1) C dX5_readMap_173 (by decide) ?_
                refine r_bipush (v := 6) C dX5_readMap_174 (by decide) ?_
                refine r_bj ?_
                refine r_jn (fun q1420 e1421 => ?_)
                refine r_cV1 (pc := 176) (k := 55) (As := [.int (zi 1), .int (zi 6)]) (st := [.ref (zad E 5)]) C (m_X5_number (a1 := 1) (a2 := 6) (IRd rfl) (IRd rfl) e1421) cal_X5_number cl_X5 kd_55 ln_55 q_878 dX5_readMap_176 rfl rfl (Nat.le_of_ble_eq_true rfl) (Nat.le_of_ble_eq_true rfl) (Nat.le_of_ble_eq_true rfl) (Nat.le_of_ble_eq_true rfl) (Nat.le_of_ble_eq_true rfl) (fun h1419 => ?_)
                refine r_bj ?_
                refine r_putS C cl_X4 kd_5 ln_5 lc_5 (by decide) (by decide) rfl rfl rfl h1419 q_246 dX5_readMap_179 (fun S1422 => ?_)
                refine r_aload_n (pc := 182) (j := 0) C dX5_readMap_182 rfl rfl ?_
                refine r_getR (j := 0) (r := 53) C cl_X5 kd_55 ln_55 (by decide) rfl r0_55_0 (by decide) q_404 dX5_readMap_183 ?_
                refine r_bb ?_
                refine r_bd (fun q1424 e1425 => ?_)
                refine r_cV0 (pc := 186) (k := 53) (As := []) (st := []) C (m_X3_step  e1425) cal_X3_step cl_X3 kd_53 ln_53 q_861 dX5_readMap_186 rfl rfl (Nat.le_of_ble_eq_true rfl) (Nat.le_of_ble_eq_true rfl) (Nat.le_of_ble_eq_true rfl) (Nat.le_of_ble_eq_true rfl) (Nat.le_of_ble_eq_true rfl) (fun h1423 => ?_)
                refine r_goto (tgt := 256) C dX5_readMap_189 (by decide) ?_
                refine r_L (L' := [(0, .ref (zad E 55)), (2, .int (zi s1377.2.1))]) [0, 2] rfl ?_
                exact k1391 q1424 trivial
              · refine r_bf c1412 ?_
                refine r_aload_n (pc := 192) (j := 0) C dX5_readMap_192 rfl rfl ?_
                refine r_getR (j := 0) (r := 53) C cl_X5 kd_55 ln_55 (by decide) rfl r0_55_0 (by decide) q_404 dX5_readMap_193 ?_
                refine r_getS (j := 0) C cl_X3 kd_53 ln_53 lc_53 (by decide) (by decide) rfl q_341 dX5_readMap_196 (fun h1426 => ?_)
                refine r_bipush (v := 105) C dX5_readMap_199 (by decide) ?_
                refine r_cut (s1377.2.2.2 53 0 = 105 ∧ s1377.2.2.2 55 5 = 0) 211 248 [] (fun c1428 => ?_) (fun c1428 => ?_) (fun k1429 k1430 => ?_)
                · refine r_bt c1428 ?_
                  refine r_aload_n (pc := 211) (j := 0) C dX5_readMap_211 rfl rfl ?_
                  refine r_iconst (v := 1) C dX5_readMap_212 (by decide) ?_
                  refine r_bj ?_
                  refine r_putSz C cl_X5 kd_55 ln_55 lc_55 (by decide) (by decide) rfl rfl rfl (BRd rfl) q_409 dX5_readMap_213 (fun S1431 => ?_)
                  refine r_aload_n (pc := 216) (j := 0) C dX5_readMap_216 rfl rfl ?_
                  refine r_getR (j := 0) (r := 53) C cl_X5 kd_55 ln_55 (by decide) rfl r0_55_0 (by decide) q_404 dX5_readMap_217 ?_
                  refine r_bb ?_
                  refine r_bd (fun q1433 e1434 => ?_)
                  refine r_cV0 (pc := 220) (k := 53) (As := []) (st := []) C (m_X3_step  e1434) cal_X3_step cl_X3 kd_53 ln_53 q_861 dX5_readMap_220 rfl rfl (Nat.le_of_ble_eq_true rfl) (Nat.le_of_ble_eq_true rfl) (Nat.le_of_ble_eq_true rfl) (Nat.le_of_ble_eq_true rfl) (Nat.le_of_ble_eq_true rfl) (fun h1432 => ?_)
                  refine r_aload_n (pc := 223) (j := 0) C dX5_readMap_223 rfl rfl ?_
                  refine r_getR (j := 1) (r := 5) C cl_X5 kd_55 ln_55 (by decide) rfl r0_55_1 (by decide) q_405 dX5_readMap_224 ?_
                  refine r_aload_n (pc := 227) (j := 0) C dX5_readMap_227 rfl rfl ?_
                  refine r_iconst (v := 0) C dX5_readMap_228 (by decide) ?_
                  refine r_sipush (v := 999) C dX5_readMap_229 (by decide) ?_
                  refine r_bj ?_
                  refine r_jn (fun q1436 e1437 => ?_)
                  refine r_cV1 (pc := 232) (k := 55) (As := [.int (zi 0), .int (zi 999)]) (st := [.ref (zad E 5)]) C (m_X5_number (a1 := 0) (a2 := 999) (IRd rfl) (IRd rfl) e1437) cal_X5_number cl_X5 kd_55 ln_55 q_878 dX5_readMap_232 rfl rfl (Nat.le_of_ble_eq_true rfl) (Nat.le_of_ble_eq_true rfl) (Nat.le_of_ble_eq_true rfl) (Nat.le_of_ble_eq_true rfl) (Nat.le_of_ble_eq_true rfl) (fun h1435 => ?_)
                  refine r_bj ?_
                  refine r_putS C cl_X4 kd_5 ln_5 lc_5 (by decide) (by decide) rfl rfl rfl h1435 q_250 dX5_readMap_235 (fun S1438 => ?_)
                  refine r_aload_n (pc := 238) (j := 0) C dX5_readMap_238 rfl rfl ?_
                  refine r_getR (j := 0) (r := 53) C cl_X5 kd_55 ln_55 (by decide) rfl r0_55_0 (by decide) q_404 dX5_readMap_239 ?_
                  refine r_bb ?_
                  refine r_bd (fun q1440 e1441 => ?_)
                  refine r_cV0 (pc := 242) (k := 53) (As := []) (st := []) C (m_X3_step  e1441) cal_X3_step cl_X3 kd_53 ln_53 q_861 dX5_readMap_242 rfl rfl (Nat.le_of_ble_eq_true rfl) (Nat.le_of_ble_eq_true rfl) (Nat.le_of_ble_eq_true rfl) (Nat.le_of_ble_eq_true rfl) (Nat.le_of_ble_eq_true rfl) (fun h1439 => ?_)
                  refine r_goto (tgt := 256) C dX5_readMap_245 (by decide) ?_
                  refine r_L (L' := [(0, .ref (zad E 55)), (2, .int (zi s1377.2.1))]) [0, 2] rfl ?_
                  exact k1391 q1440 trivial
                · refine r_bf c1428 ?_
                  refine r_aload_n (pc := 248) (j := 0) C dX5_readMap_248 rfl rfl ?_
                  refine r_getR (j := 0) (r := 53) C cl_X5 kd_55 ln_55 (by decide) rfl r0_55_0 (by decide) q_404 dX5_readMap_249 ?_
                  refine r_iconst (v := 2) C dX5_readMap_252 (by decide) ?_
                  refine r_bj ?_
                  refine r_jn (fun q1443 e1444 => ?_)
                  refine r_cV0 (pc := 253) (k := 53) (As := [.int (zi 2)]) (st := []) C (m_X3_fail (a1 := 2) (IRd rfl) e1444) cal_X3_fail cl_X3 kd_53 ln_53 q_866 dX5_readMap_253 rfl rfl (Nat.le_of_ble_eq_true rfl) (Nat.le_of_ble_eq_true rfl) (Nat.le_of_ble_eq_true rfl) (Nat.le_of_ble_eq_true rfl) (Nat.le_of_ble_eq_true rfl) (fun h1442 => ?_)
                  refine r_L (L' := [(0, .ref (zad E 55)), (2, .int (zi s1377.2.1))]) [0, 2] rfl ?_
                  exact k1391 q1443 trivial
                · refine r_icmp_ne (tgt := 248) C h1426 (IRd rfl) dX5_readMap_201 (by decide) (fun c1445 => ?_) (fun c1445 => ?_)
                  · exact k1430 (fun w => c1445 w.1)
                  · refine r_aload_n (pc := 204) (j := 0) C dX5_readMap_204 rfl rfl ?_
                    refine r_getSz (j := 5) C cl_X5 kd_55 ln_55 lc_55 (by decide) (by decide) rfl q_409 dX5_readMap_205 (fun h1427 => ?_)
                    refine r_if_ne (tgt := 248) C h1427.ir dX5_readMap_208 (by decide) (fun c1446 => ?_) (fun c1446 => ?_)
                    · exact k1430 (fun w => c1446 w.2)
                    · exact k1429 ⟨c1445, c1446⟩
              · refine r_icmp_ne (tgt := 192) C h1410 (IRd rfl) dX5_readMap_146 (by decide) (fun c1447 => ?_) (fun c1447 => ?_)
                · exact k1414 (fun w => c1447 w.1)
                · refine r_aload_n (pc := 149) (j := 0) C dX5_readMap_149 rfl rfl ?_
                  refine r_getSz (j := 4) C cl_X5 kd_55 ln_55 lc_55 (by decide) (by decide) rfl q_408 dX5_readMap_150 (fun h1411 => ?_)
                  refine r_if_ne (tgt := 192) C h1411.ir dX5_readMap_153 (by decide) (fun c1448 => ?_) (fun c1448 => ?_)
                  · exact k1414 (fun w => c1448 w.2)
                  · exact k1413 ⟨c1447, c1448⟩
            · refine r_icmp_ne (tgt := 137) C h1398 (IRd rfl) dX5_readMap_98 (by decide) (fun c1449 => ?_) (fun c1449 => ?_)
              · exact k1402 (fun w => c1449 w.1)
              · refine r_aload_n (pc := 101) (j := 0) C dX5_readMap_101 rfl rfl ?_
                refine r_getSz (j := 3) C cl_X5 kd_55 ln_55 lc_55 (by decide) (by decide) rfl q_407 dX5_readMap_102 (fun h1399 => ?_)
                refine r_if_ne (tgt := 137) C h1399.ir dX5_readMap_105 (by decide) (fun c1450 => ?_) (fun c1450 => ?_)
                · exact k1402 (fun w => c1450 w.2)
                · exact k1401 ⟨c1449, c1450⟩
          · refine r_icmp_ne (tgt := 89) C h1386 (IRd rfl) dX5_readMap_67 (by decide) (fun c1451 => ?_) (fun c1451 => ?_)
            · exact k1394 (fun w => c1451 w.1)
            · refine r_aload_n (pc := 70) (j := 0) C dX5_readMap_70 rfl rfl ?_
              refine r_getR (j := 1) (r := 5) C cl_X5 kd_55 ln_55 (by decide) rfl r0_55_1 (by decide) q_405 dX5_readMap_71 ?_
              refine r_cV1 (pc := 74) (k := 5) (As := []) (st := []) C (m_X4_count (p := 5) gp_5 rfl) cal_X4_count cl_X4 kd_5 ln_5 q_852 dX5_readMap_74 rfl rfl (Nat.le_of_ble_eq_true rfl) (Nat.le_of_ble_eq_true rfl) (Nat.le_of_ble_eq_true rfl) (Nat.le_of_ble_eq_true rfl) (Nat.le_of_ble_eq_true rfl) (fun h1387 => ?_)
              refine r_bipush (v := 8) C dX5_readMap_77 (by decide) ?_
              refine r_icmp_ge (tgt := 89) C h1387 (IRd rfl) dX5_readMap_79 (by decide) (fun c1452 => ?_) (fun c1452 => ?_)
              · exact k1394 (fun w => c1452 w.2)
              · exact k1393 ⟨c1451, c1452⟩
      · refine r_icmp_gt (tgt := 294) C h1378.2 (IRd rfl) dX5_readMap_51 (by decide) (fun c1467 => ?_) (fun c1467 => ?_)
        · exact k1384 (Or.inl c1467)
        · refine r_iload_n (pc := 54) (j := 1) C dX5_readMap_54 rfl rfl ?_
          refine r_if_eq (tgt := 294) C h1378.1.ir dX5_readMap_55 (by decide) (fun c1468 => ?_) (fun c1468 => ?_)
          · exact k1384 (Or.inr c1468)
          · exact k1385 (fun w => w.elim c1467 c1468)
  · refine r_if_eq (tgt := 43) C h1371 dX5_readMap_36 (by decide) (fun c1376 => ?_) (fun c1376 => ?_)
    · refine r_jt c1376 ?_
      refine r_iconst (v := 0) C dX5_readMap_43 (by decide) ?_
      exact k1375 0 (BRd rfl)
    · refine r_jf c1376 ?_
      refine r_iconst (v := 1) C dX5_readMap_39 (by decide) ?_
      refine r_goto (tgt := 44) C dX5_readMap_40 (by decide) ?_
      exact k1375 1 (BRd rfl)

def f_X0_forget (S : Sst) : Sst :=
  jn (f_X6_clear 240 S) fun (q1583 : Sst) =>
  jn (upS q1583 239 1 0) fun (S1585 : Sst) =>
  S1585
set_option maxRecDepth 100000 in
set_option maxHeartbeats 4000000 in
theorem m_X0_forget {l : Launch} {E : EwT} {S : Sst} {O : Smo}  {q : Sst} (hq : f_X0_forget S = q) : MetG l E yX0_forget cX0_forget 1 none 1 20 0 0 n0 R0 S O [.ref (zad E 239)] (True) none n0 R0 q O := by
  refine ofG (L0 := [(0, .ref (zad E 239))]) hq (by decide +kernel) (Nat.le_of_ble_eq_true rfl) rfl (fun K _ C hQ => ?_)
  unfold f_X0_forget
  refine r_aload_n (pc := 0) (j := 0) C dX0_forget_0 rfl rfl ?_
  refine r_getR (j := 0) (r := 240) C cl_X0 kd_239 ln_239 (by decide) rfl r0_239_0 (by decide) q_588 dX0_forget_1 ?_
  refine r_jn (fun q1583 e1584 => ?_)
  refine r_cV0 (pc := 4) (k := 240) (As := []) (st := []) C (m_X6_clear (p := 240) gw_240 e1584) cal_X6_clear cl_X6 kd_240 ln_240 q_1020 dX0_forget_4 rfl rfl (Nat.le_of_ble_eq_true rfl) (Nat.le_of_ble_eq_true rfl) (Nat.le_of_ble_eq_true rfl) (Nat.le_of_ble_eq_true rfl) (Nat.le_of_ble_eq_true rfl) (fun h1582 => ?_)
  refine r_aload_n (pc := 7) (j := 0) C dX0_forget_7 rfl rfl ?_
  refine r_iconst (v := 0) C dX0_forget_8 (by decide) ?_
  refine r_putS C cl_X0 kd_239 ln_239 lc_239 (by decide) (by decide) rfl rfl rfl (IRd rfl) q_590 dX0_forget_9 (fun S1585 => ?_)
  exact r_return C hQ dX0_forget_12 (fun e => by subst e; exact ⟨trivial, rfl, rfl, rfl, rfl, rfl⟩)

def f_X0_canSweep (S : Sst) : Int :=
  if f_X6_at 81 (f_X7_newest 74 S) S < f_X6_size 46 S then
    (1)
  else
    (0)
set_option maxRecDepth 100000 in
set_option maxHeartbeats 4000000 in
theorem m_X0_canSweep {l : Launch} {E : EwT} {S : Sst} {O : Smo}  {q : Int} (hq : f_X0_canSweep S = q) : MetG l E yX0_canSweep cX0_canSweep 1 (some .boolean) 2 40 0 0 n0 R0 S O [.ref (zad E 239)] (BR q) (some (.int (zi q))) n0 R0 S O := by
  refine ofG (L0 := [(0, .ref (zad E 239))]) hq (by decide +kernel) (Nat.le_of_ble_eq_true rfl) rfl (fun K _ C hQ => ?_)
  unfold f_X0_canSweep
  refine r_aload_n (pc := 0) (j := 0) C dX0_canSweep_0 rfl rfl ?_
  refine r_getR (j := 4) (r := 74) C cl_X0 kd_239 ln_239 (by decide) rfl r0_239_4 (by decide) q_594 dX0_canSweep_1 ?_
  refine r_getR (j := 3) (r := 81) C cl_X7 kd_74 ln_74 (by decide) rfl r0_74_3 (by decide) q_519 dX0_canSweep_4 ?_
  refine r_aload_n (pc := 7) (j := 0) C dX0_canSweep_7 rfl rfl ?_
  refine r_getR (j := 4) (r := 74) C cl_X0 kd_239 ln_239 (by decide) rfl r0_239_4 (by decide) q_594 dX0_canSweep_8 ?_
  refine r_cV1 (pc := 11) (k := 74) (As := []) (st := [.ref (zad E 81)]) C (m_X7_newest (p := 74) gs_74 rfl) cal_X7_newest cl_X7 kd_74 ln_74 q_1082 dX0_canSweep_11 rfl rfl (Nat.le_of_ble_eq_true rfl) (Nat.le_of_ble_eq_true rfl) (Nat.le_of_ble_eq_true rfl) (Nat.le_of_ble_eq_true rfl) (Nat.le_of_ble_eq_true rfl) (fun h1682 => ?_)
  refine r_cV1 (pc := 14) (k := 81) (As := [.int (zi (f_X7_newest 74 S))]) (st := []) C (m_X6_at (p := 81) (a1 := f_X7_newest 74 S) gw_81 h1682 rfl) cal_X6_at cl_X6 kd_81 ln_81 q_1083 dX0_canSweep_14 rfl rfl (Nat.le_of_ble_eq_true rfl) (Nat.le_of_ble_eq_true rfl) (Nat.le_of_ble_eq_true rfl) (Nat.le_of_ble_eq_true rfl) (Nat.le_of_ble_eq_true rfl) (fun h1683 => ?_)
  refine r_aload_n (pc := 17) (j := 0) C dX0_canSweep_17 rfl rfl ?_
  refine r_getR (j := 2) (r := 29) C cl_X0 kd_239 ln_239 (by decide) rfl r0_239_2 (by decide) q_592 dX0_canSweep_18 ?_
  refine r_getR (j := 8) (r := 46) C cl_X4 kd_29 ln_29 (by decide) rfl r0_29_8 (by decide) q_239 dX0_canSweep_21 ?_
  refine r_cV1 (pc := 24) (k := 46) (As := []) (st := [.int (zi (f_X6_at 81 (f_X7_newest 74 S) S))]) C (m_X6_size (p := 46) gw_46 rfl) cal_X6_size cl_X6 kd_46 ln_46 q_1084 dX0_canSweep_24 rfl rfl (Nat.le_of_ble_eq_true rfl) (Nat.le_of_ble_eq_true rfl) (Nat.le_of_ble_eq_true rfl) (Nat.le_of_ble_eq_true rfl) (Nat.le_of_ble_eq_true rfl) (fun h1684 => ?_)
  refine r_icmp_ge (tgt := 34) C h1683 h1684 dX0_canSweep_27 (by decide) (fun c1685 => ?_) (fun c1685 => ?_)
  · refine r_f c1685 ?_
    refine r_iconst (v := 0) C dX0_canSweep_34 (by decide) ?_
    exact r_ireturn C hQ (nar_z (BRd rfl)) dX0_canSweep_35 (fun e => by subst e; exact ⟨(BRd rfl), rfl, rfl, rfl, rfl, rfl⟩)
  · refine r_t c1685 ?_
    refine r_iconst (v := 1) C dX0_canSweep_30 (by decide) ?_
    refine r_goto (tgt := 35) C dX0_canSweep_31 (by decide) ?_
    exact r_ireturn C hQ (nar_z (BRd rfl)) dX0_canSweep_35 (fun e => by subst e; exact ⟨(BRd rfl), rfl, rfl, rfl, rfl, rfl⟩)

def f_X0_perform (a1 : Int) (S : Sst) : Option (Sst) :=
  jn (f_X7_newest 74 S) fun (v2376 : Int) =>
  jn (f_X6_at 75 v2376 S) fun (v2379 : Int) =>
  jn (f_X6_at 77 v2376 S) fun (v2382 : Int) =>
  jn (f_X6_at 79 v2376 S) fun (v2385 : Int) =>
  jn (f_X6_at 81 v2376 S) fun (v2388 : Int) =>
  jn (zshl 1 (zrem a1 16)) fun (v2390 : Int) =>
  Option.bind (
    if a1 < 32 then
      (if a1 < 16 then
        (jn (f_X6_at 46 v2388 S) fun (v2399 : Int) =>
        Option.bind (f_X4_inBehind 29 v2382 v2399 S) fun (q2402 : Int) =>
        some (v2399, q2402, v2385, wr (v2388 + 1)))
      else
        (jn (zand v2382 (zxor v2390 (-1))) fun (v2404 : Int) =>
        jn (zor v2385 v2390) fun (v2406 : Int) =>
        some (v2379, v2404, v2406, v2388)))
    else
      (jn (zor v2382 v2390) fun (v2408 : Int) =>
      jn (zand v2385 (zxor v2390 (-1))) fun (v2410 : Int) =>
      some (v2379, v2408, v2410, v2388))) fun (q2392 : Int × Int × Int × Int) =>
  Option.bind (f_X10_build q2392.2.1 S) fun (q2413 : Sst) =>
  Option.bind (f_X7_grow 74 q2392.1 q2392.2.1 q2392.2.2.1 q2392.2.2.2 (q2413.2 29 11) q2413) fun (q2417 : Sst) =>
  jn (upS q2417 239 1 (wr ((q2417.2 239 1) + 1))) fun (S2420 : Sst) =>
  some S2420
set_option maxRecDepth 100000 in
set_option maxHeartbeats 4000000 in
theorem m_X0_perform {l : Launch} {E : EwT} {S : Sst} {O : Smo} {a1 : Int} (ha1 : IR a1) {q : Sst} (hq : f_X0_perform a1 S = some q) : MetG l E yX0_perform cX0_perform 8 none 5 125 0 0 n0 R0 S O [.ref (zad E 239), .int (zi a1)] (True) none n0 R0 q O := by
  refine ofG (L0 := [(0, .ref (zad E 239)), (1, .int (zi a1))]) hq (by decide +kernel) (Nat.le_of_ble_eq_true rfl) rfl (fun K _ C hQ => ?_)
  unfold f_X0_perform
  refine r_aload_n (pc := 0) (j := 0) C dX0_perform_0 rfl rfl ?_
  refine r_getR (j := 4) (r := 74) C cl_X0 kd_239 ln_239 (by decide) rfl r0_239_4 (by decide) q_594 dX0_perform_1 ?_
  refine r_cV1 (pc := 4) (k := 74) (As := []) (st := []) C (m_X7_newest (p := 74) gs_74 rfl) cal_X7_newest cl_X7 kd_74 ln_74 q_1082 dX0_perform_4 rfl rfl (Nat.le_of_ble_eq_true rfl) (Nat.le_of_ble_eq_true rfl) (Nat.le_of_ble_eq_true rfl) (Nat.le_of_ble_eq_true rfl) (Nat.le_of_ble_eq_true rfl) (fun h2375 => ?_)
  refine r_jv h2375 (fun v2376 h2377 => ?_)
  refine r_istore_n (L' := [(2, .int (zi v2376)), (0, .ref (zad E 239)), (1, .int (zi a1))]) C dX0_perform_7 rfl (by decide) rfl ?_
  refine r_aload_n (pc := 8) (j := 1) C dX0_perform_8 rfl rfl ?_
  refine r_getR (j := 4) (r := 74) C cl_X0 kd_239 ln_239 (by decide) rfl r0_239_4 (by decide) q_594 dX0_perform_9 ?_
  refine r_getR (j := 0) (r := 75) C cl_X7 kd_74 ln_74 (by decide) rfl r0_74_0 (by decide) q_509 dX0_perform_12 ?_
  refine r_iload_n (pc := 15) (j := 0) C dX0_perform_15 rfl rfl ?_
  refine r_cV1 (pc := 16) (k := 75) (As := [.int (zi v2376)]) (st := []) C (m_X6_at (p := 75) (a1 := v2376) gw_75 h2377 rfl) cal_X6_at cl_X6 kd_75 ln_75 q_1083 dX0_perform_16 rfl rfl (Nat.le_of_ble_eq_true rfl) (Nat.le_of_ble_eq_true rfl) (Nat.le_of_ble_eq_true rfl) (Nat.le_of_ble_eq_true rfl) (Nat.le_of_ble_eq_true rfl) (fun h2378 => ?_)
  refine r_jv h2378 (fun v2379 h2380 => ?_)
  refine r_istore_n (L' := [(3, .int (zi v2379)), (2, .int (zi v2376)), (0, .ref (zad E 239)), (1, .int (zi a1))]) C dX0_perform_19 rfl (by decide) rfl ?_
  refine r_aload_n (pc := 20) (j := 2) C dX0_perform_20 rfl rfl ?_
  refine r_getR (j := 4) (r := 74) C cl_X0 kd_239 ln_239 (by decide) rfl r0_239_4 (by decide) q_594 dX0_perform_21 ?_
  refine r_getR (j := 1) (r := 77) C cl_X7 kd_74 ln_74 (by decide) rfl r0_74_1 (by decide) q_513 dX0_perform_24 ?_
  refine r_iload_n (pc := 27) (j := 1) C dX0_perform_27 rfl rfl ?_
  refine r_cV1 (pc := 28) (k := 77) (As := [.int (zi v2376)]) (st := []) C (m_X6_at (p := 77) (a1 := v2376) gw_77 h2377 rfl) cal_X6_at cl_X6 kd_77 ln_77 q_1083 dX0_perform_28 rfl rfl (Nat.le_of_ble_eq_true rfl) (Nat.le_of_ble_eq_true rfl) (Nat.le_of_ble_eq_true rfl) (Nat.le_of_ble_eq_true rfl) (Nat.le_of_ble_eq_true rfl) (fun h2381 => ?_)
  refine r_jv h2381 (fun v2382 h2383 => ?_)
  refine r_istore (L' := [(4, .int (zi v2382)), (3, .int (zi v2379)), (2, .int (zi v2376)), (0, .ref (zad E 239)), (1, .int (zi a1))]) C dX0_perform_31 (by decide) rfl ?_
  refine r_aload_n (pc := 33) (j := 3) C dX0_perform_33 rfl rfl ?_
  refine r_getR (j := 4) (r := 74) C cl_X0 kd_239 ln_239 (by decide) rfl r0_239_4 (by decide) q_594 dX0_perform_34 ?_
  refine r_getR (j := 2) (r := 79) C cl_X7 kd_74 ln_74 (by decide) rfl r0_74_2 (by decide) q_516 dX0_perform_37 ?_
  refine r_iload_n (pc := 40) (j := 2) C dX0_perform_40 rfl rfl ?_
  refine r_cV1 (pc := 41) (k := 79) (As := [.int (zi v2376)]) (st := []) C (m_X6_at (p := 79) (a1 := v2376) gw_79 h2377 rfl) cal_X6_at cl_X6 kd_79 ln_79 q_1083 dX0_perform_41 rfl rfl (Nat.le_of_ble_eq_true rfl) (Nat.le_of_ble_eq_true rfl) (Nat.le_of_ble_eq_true rfl) (Nat.le_of_ble_eq_true rfl) (Nat.le_of_ble_eq_true rfl) (fun h2384 => ?_)
  refine r_jv h2384 (fun v2385 h2386 => ?_)
  refine r_istore (L' := [(5, .int (zi v2385)), (4, .int (zi v2382)), (3, .int (zi v2379)), (2, .int (zi v2376)), (0, .ref (zad E 239)), (1, .int (zi a1))]) C dX0_perform_44 (by decide) rfl ?_
  refine r_aload_n (pc := 46) (j := 4) C dX0_perform_46 rfl rfl ?_
  refine r_getR (j := 4) (r := 74) C cl_X0 kd_239 ln_239 (by decide) rfl r0_239_4 (by decide) q_594 dX0_perform_47 ?_
  refine r_getR (j := 3) (r := 81) C cl_X7 kd_74 ln_74 (by decide) rfl r0_74_3 (by decide) q_519 dX0_perform_50 ?_
  refine r_iload_n (pc := 53) (j := 3) C dX0_perform_53 rfl rfl ?_
  refine r_cV1 (pc := 54) (k := 81) (As := [.int (zi v2376)]) (st := []) C (m_X6_at (p := 81) (a1 := v2376) gw_81 h2377 rfl) cal_X6_at cl_X6 kd_81 ln_81 q_1083 dX0_perform_54 rfl rfl (Nat.le_of_ble_eq_true rfl) (Nat.le_of_ble_eq_true rfl) (Nat.le_of_ble_eq_true rfl) (Nat.le_of_ble_eq_true rfl) (Nat.le_of_ble_eq_true rfl) (fun h2387 => ?_)
  refine r_jv h2387 (fun v2388 h2389 => ?_)
  refine r_istore (L' := [(6, .int (zi v2388)), (5, .int (zi v2385)), (4, .int (zi v2382)), (3, .int (zi v2379)), (2, .int (zi v2376)), (0, .ref (zad E 239)), (1, .int (zi a1))]) C dX0_perform_57 (by decide) rfl ?_
  refine r_iconst (v := 1) C dX0_perform_59 (by decide) ?_
  refine r_iload_n (pc := 60) (j := 6) C dX0_perform_60 rfl rfl ?_
  refine r_bipush (v := 16) C dX0_perform_61 (by decide) ?_
  refine r_iremk C (IRd rfl) (by decide) dX0_perform_63 ?_
  refine r_ishl C dX0_perform_64 ?_
  refine r_jv (i32_IR _) (fun v2390 h2391 => ?_)
  refine r_istore (L' := [(7, .int (zi v2390)), (6, .int (zi v2388)), (5, .int (zi v2385)), (4, .int (zi v2382)), (3, .int (zi v2379)), (2, .int (zi v2376)), (0, .ref (zad E 239)), (1, .int (zi a1))]) C dX0_perform_65 (by decide) rfl ?_
  refine r_iload_n (pc := 67) (j := 7) C dX0_perform_67 rfl rfl ?_
  refine r_bipush (v := 32) C dX0_perform_68 (by decide) ?_
  refine r_joinb (fun q2392 : Int × Int × Int × Int => IR q2392.1 ∧ IR q2392.2.1 ∧ IR q2392.2.2.1 ∧ IR q2392.2.2.2) (fun q2392 => S) (fun q2392 => O) (fun q2392 => [(0, .ref (zad E 239)), (3, .int (zi q2392.1)), (4, .int (zi q2392.2.1)), (5, .int (zi q2392.2.2.1)), (6, .int (zi q2392.2.2.2))]) 145 (fun q2392 => []) (fun q2392 h2393 => ?_) (fun k2394 k2395 => ?_)
  · refine r_aload_n (pc := 145) (j := 0) C dX0_perform_145 rfl rfl ?_
    refine r_getR (j := 3) (r := 59) C cl_X0 kd_239 ln_239 (by decide) rfl r0_239_3 (by decide) q_593 dX0_perform_146 ?_
    refine r_iload (pc := 149) (j := 2) C dX0_perform_149 rfl ?_
    refine r_bd (fun q2413 e2414 => ?_)
    refine r_cV0 (pc := 151) (k := 59) (As := [.int (zi q2392.2.1)]) (st := []) C (m_X10_build (a1 := q2392.2.1) h2393.2.1 e2414) cal_X10_build cl_X10 kd_59 ln_59 q_1099 dX0_perform_151 rfl rfl (Nat.le_of_ble_eq_true rfl) (Nat.le_of_ble_eq_true rfl) (Nat.le_of_ble_eq_true rfl) (Nat.le_of_ble_eq_true rfl) (Nat.le_of_ble_eq_true rfl) (fun h2412 => ?_)
    refine r_aload_n (pc := 154) (j := 0) C dX0_perform_154 rfl rfl ?_
    refine r_getR (j := 4) (r := 74) C cl_X0 kd_239 ln_239 (by decide) rfl r0_239_4 (by decide) q_594 dX0_perform_155 ?_
    refine r_aload_n (pc := 158) (j := 0) C dX0_perform_158 rfl rfl ?_
    refine r_getR (j := 3) (r := 59) C cl_X0 kd_239 ln_239 (by decide) rfl r0_239_3 (by decide) q_593 dX0_perform_159 ?_
    refine r_iload_n (pc := 162) (j := 1) C dX0_perform_162 rfl rfl ?_
    refine r_iload (pc := 163) (j := 2) C dX0_perform_163 rfl ?_
    refine r_iload (pc := 165) (j := 3) C dX0_perform_165 rfl ?_
    refine r_iload (pc := 167) (j := 4) C dX0_perform_167 rfl ?_
    refine r_aload_n (pc := 169) (j := 0) C dX0_perform_169 rfl rfl ?_
    refine r_getR (j := 2) (r := 29) C cl_X0 kd_239 ln_239 (by decide) rfl r0_239_2 (by decide) q_592 dX0_perform_170 ?_
    refine r_getS (j := 11) C cl_X4 kd_29 ln_29 lc_29 (by decide) (by decide) rfl q_247 dX0_perform_173 (fun h2415 => ?_)
    refine r_bd (fun q2417 e2418 => ?_)
    refine r_cV0 (pc := 176) (k := 74) (As := [.ref (zad E 59), .int (zi q2392.1), .int (zi q2392.2.1), .int (zi q2392.2.2.1), .int (zi q2392.2.2.2), .int (zi (q2413.2 29 11))]) (st := []) C (m_X7_grow (p := 74) (a2 := q2392.1) (a3 := q2392.2.1) (a4 := q2392.2.2.1) (a5 := q2392.2.2.2) (a6 := q2413.2 29 11) gs_74 h2393.1 h2393.2.1 h2393.2.2.1 h2393.2.2.2 h2415 e2418) cal_X7_grow cl_X7 kd_74 ln_74 q_1145 dX0_perform_176 rfl rfl (Nat.le_of_ble_eq_true rfl) (Nat.le_of_ble_eq_true rfl) (Nat.le_of_ble_eq_true rfl) (Nat.le_of_ble_eq_true rfl) (Nat.le_of_ble_eq_true rfl) (fun h2416 => ?_)
    refine r_aload_n (pc := 179) (j := 0) C dX0_perform_179 rfl rfl ?_
    refine r_dup C dX0_perform_180 rfl ?_
    refine r_getS (j := 1) C cl_X0 kd_239 ln_239 lc_239 (by decide) (by decide) rfl q_590 dX0_perform_181 (fun h2419 => ?_)
    refine r_iconst (v := 1) C dX0_perform_184 (by decide) ?_
    refine r_iadd C dX0_perform_185 ?_
    refine r_putS C cl_X0 kd_239 ln_239 lc_239 (by decide) (by decide) rfl rfl rfl (IR_wr _) q_590 dX0_perform_186 (fun S2420 => ?_)
    exact r_return C hQ dX0_perform_189 (fun e => by cases e; exact ⟨trivial, rfl, rfl, rfl, rfl, rfl⟩)
  · refine r_icmp_lt (tgt := 92) C ha1 (IRd rfl) dX0_perform_70 (by decide) (fun c2396 => ?_) (fun c2396 => ?_)
    · refine r_bt c2396 ?_
      refine r_iload_n (pc := 92) (j := 7) C dX0_perform_92 rfl rfl ?_
      refine r_bipush (v := 16) C dX0_perform_93 (by decide) ?_
      refine r_icmp_lt (tgt := 117) C ha1 (IRd rfl) dX0_perform_95 (by decide) (fun c2397 => ?_) (fun c2397 => ?_)
      · refine r_bt c2397 ?_
        refine r_aload_n (pc := 117) (j := 6) C dX0_perform_117 rfl rfl ?_
        refine r_getR (j := 2) (r := 29) C cl_X0 kd_239 ln_239 (by decide) rfl r0_239_2 (by decide) q_592 dX0_perform_118 ?_
        refine r_getR (j := 8) (r := 46) C cl_X4 kd_29 ln_29 (by decide) rfl r0_29_8 (by decide) q_239 dX0_perform_121 ?_
        refine r_iload (pc := 124) (j := 1) C dX0_perform_124 rfl ?_
        refine r_cV1 (pc := 126) (k := 46) (As := [.int (zi v2388)]) (st := []) C (m_X6_at (p := 46) (a1 := v2388) gw_46 h2389 rfl) cal_X6_at cl_X6 kd_46 ln_46 q_1083 dX0_perform_126 rfl rfl (Nat.le_of_ble_eq_true rfl) (Nat.le_of_ble_eq_true rfl) (Nat.le_of_ble_eq_true rfl) (Nat.le_of_ble_eq_true rfl) (Nat.le_of_ble_eq_true rfl) (fun h2398 => ?_)
        refine r_bj ?_
        refine r_jv h2398 (fun v2399 h2400 => ?_)
        refine r_istore_n (L' := [(3, .int (zi v2399)), (7, .int (zi v2390)), (6, .int (zi v2388)), (5, .int (zi v2385)), (4, .int (zi v2382)), (2, .int (zi v2376)), (0, .ref (zad E 239)), (1, .int (zi a1))]) C dX0_perform_129 rfl (by decide) rfl ?_
        refine r_aload_n (pc := 130) (j := 6) C dX0_perform_130 rfl rfl ?_
        refine r_getR (j := 2) (r := 29) C cl_X0 kd_239 ln_239 (by decide) rfl r0_239_2 (by decide) q_592 dX0_perform_131 ?_
        refine r_iload (pc := 134) (j := 4) C dX0_perform_134 rfl ?_
        refine r_iload_n (pc := 136) (j := 0) C dX0_perform_136 rfl rfl ?_
        refine r_bb ?_
        refine r_bd (fun q2402 e2403 => ?_)
        refine r_cV1 (pc := 137) (k := 29) (As := [.int (zi v2382), .int (zi v2399)]) (st := []) C (m_X4_inBehind (p := 29) (a1 := v2382) (a2 := v2399) gp_29 h2383 h2400 e2403) cal_X4_inBehind cl_X4 kd_29 ln_29 q_1095 dX0_perform_137 rfl rfl (Nat.le_of_ble_eq_true rfl) (Nat.le_of_ble_eq_true rfl) (Nat.le_of_ble_eq_true rfl) (Nat.le_of_ble_eq_true rfl) (Nat.le_of_ble_eq_true rfl) (fun h2401 => ?_)
        refine r_istore (L' := [(4, .int (zi q2402)), (3, .int (zi v2399)), (7, .int (zi v2390)), (6, .int (zi v2388)), (5, .int (zi v2385)), (2, .int (zi v2376)), (0, .ref (zad E 239)), (1, .int (zi a1))]) C dX0_perform_140 (by decide) rfl ?_
        refine r_iinc (j := 3) (L' := [(6, .int (zi (wr (v2388 + 1)))), (4, .int (zi q2402)), (3, .int (zi v2399)), (7, .int (zi v2390)), (5, .int (zi v2385)), (2, .int (zi v2376)), (0, .ref (zad E 239)), (1, .int (zi a1))]) C dX0_perform_142 rfl (by decide) rfl ?_
        refine r_L (L' := [(0, .ref (zad E 239)), (3, .int (zi v2399)), (4, .int (zi q2402)), (5, .int (zi v2385)), (6, .int (zi (wr (v2388 + 1))))]) [6, 2, 1, 4, 0] rfl ?_
        exact k2395 (v2399, q2402, v2385, wr (v2388 + 1)) ⟨h2400, h2401, h2386, (IR_wr _)⟩
      · refine r_bf c2397 ?_
        refine r_iload (pc := 98) (j := 3) C dX0_perform_98 rfl ?_
        refine r_iload (pc := 100) (j := 0) C dX0_perform_100 rfl ?_
        refine r_iconst (v := (-1)) C dX0_perform_102 (by decide) ?_
        refine r_ixor C dX0_perform_103 ?_
        refine r_iand C dX0_perform_104 ?_
        refine r_bj ?_
        refine r_jv (i32_IR _) (fun v2404 h2405 => ?_)
        refine r_istore (L' := [(4, .int (zi v2404)), (7, .int (zi v2390)), (6, .int (zi v2388)), (5, .int (zi v2385)), (3, .int (zi v2379)), (2, .int (zi v2376)), (0, .ref (zad E 239)), (1, .int (zi a1))]) C dX0_perform_105 (by decide) rfl ?_
        refine r_iload (pc := 107) (j := 3) C dX0_perform_107 rfl ?_
        refine r_iload (pc := 109) (j := 1) C dX0_perform_109 rfl ?_
        refine r_ior C dX0_perform_111 ?_
        refine r_bj ?_
        refine r_jv (i32_IR _) (fun v2406 h2407 => ?_)
        refine r_istore (L' := [(5, .int (zi v2406)), (4, .int (zi v2404)), (7, .int (zi v2390)), (6, .int (zi v2388)), (3, .int (zi v2379)), (2, .int (zi v2376)), (0, .ref (zad E 239)), (1, .int (zi a1))]) C dX0_perform_112 (by decide) rfl ?_
        refine r_goto (tgt := 145) C dX0_perform_114 (by decide) ?_
        refine r_L (L' := [(0, .ref (zad E 239)), (3, .int (zi v2379)), (4, .int (zi v2404)), (5, .int (zi v2406)), (6, .int (zi v2388))]) [6, 4, 1, 0, 3] rfl ?_
        exact k2395 (v2379, v2404, v2406, v2388) ⟨h2380, h2405, h2407, h2389⟩
    · refine r_bf c2396 ?_
      refine r_iload (pc := 73) (j := 3) C dX0_perform_73 rfl ?_
      refine r_iload (pc := 75) (j := 0) C dX0_perform_75 rfl ?_
      refine r_ior C dX0_perform_77 ?_
      refine r_bj ?_
      refine r_jv (i32_IR _) (fun v2408 h2409 => ?_)
      refine r_istore (L' := [(4, .int (zi v2408)), (7, .int (zi v2390)), (6, .int (zi v2388)), (5, .int (zi v2385)), (3, .int (zi v2379)), (2, .int (zi v2376)), (0, .ref (zad E 239)), (1, .int (zi a1))]) C dX0_perform_78 (by decide) rfl ?_
      refine r_iload (pc := 80) (j := 3) C dX0_perform_80 rfl ?_
      refine r_iload (pc := 82) (j := 1) C dX0_perform_82 rfl ?_
      refine r_iconst (v := (-1)) C dX0_perform_84 (by decide) ?_
      refine r_ixor C dX0_perform_85 ?_
      refine r_iand C dX0_perform_86 ?_
      refine r_bj ?_
      refine r_jv (i32_IR _) (fun v2410 h2411 => ?_)
      refine r_istore (L' := [(5, .int (zi v2410)), (4, .int (zi v2408)), (7, .int (zi v2390)), (6, .int (zi v2388)), (3, .int (zi v2379)), (2, .int (zi v2376)), (0, .ref (zad E 239)), (1, .int (zi a1))]) C dX0_perform_87 (by decide) rfl ?_
      refine r_goto (tgt := 145) C dX0_perform_89 (by decide) ?_
      refine r_L (L' := [(0, .ref (zad E 239)), (3, .int (zi v2379)), (4, .int (zi v2408)), (5, .int (zi v2410)), (6, .int (zi v2388))]) [6, 4, 1, 0, 3] rfl ?_
      exact k2395 (v2379, v2408, v2410, v2388) ⟨h2380, h2409, h2411, h2389⟩

def f_X0_doNew (a1 : Int) (S : Sst) : Option (Int × Sst) :=
  if f_X7_newest 74 S < 40 then
    (jn (f_X6_keep 240 (S.2 239 1) S) fun (q2425 : Sst) =>
    jn (f_X6_add 240 a1 q2425) fun (q2428 : Sst) =>
    Option.bind (f_X0_perform a1 q2428) fun (q2431 : Sst) =>
    some (1, q2431))
  else
    (some (0, S))
set_option maxRecDepth 100000 in
set_option maxHeartbeats 4000000 in
theorem m_X0_doNew {l : Launch} {E : EwT} {S : Sst} {O : Smo} {a1 : Int} (ha1 : IR a1) {q : Int × Sst} (hq : f_X0_doNew a1 S = some q) : MetG l E yX0_doNew cX0_doNew 2 (some .boolean) 6 152 0 0 n0 R0 S O [.ref (zad E 239), .int (zi a1)] (BR q.1) (some (.int (zi q.1))) n0 R0 q.2 O := by
  refine ofG (L0 := [(0, .ref (zad E 239)), (1, .int (zi a1))]) hq (by decide +kernel) (Nat.le_of_ble_eq_true rfl) rfl (fun K _ C hQ => ?_)
  unfold f_X0_doNew
  refine r_aload_n (pc := 0) (j := 0) C dX0_doNew_0 rfl rfl ?_
  refine r_getR (j := 4) (r := 74) C cl_X0 kd_239 ln_239 (by decide) rfl r0_239_4 (by decide) q_594 dX0_doNew_1 ?_
  refine r_cV1 (pc := 4) (k := 74) (As := []) (st := []) C (m_X7_newest (p := 74) gs_74 rfl) cal_X7_newest cl_X7 kd_74 ln_74 q_1082 dX0_doNew_4 rfl rfl (Nat.le_of_ble_eq_true rfl) (Nat.le_of_ble_eq_true rfl) (Nat.le_of_ble_eq_true rfl) (Nat.le_of_ble_eq_true rfl) (Nat.le_of_ble_eq_true rfl) (fun h2421 => ?_)
  refine r_bipush (v := 40) C dX0_doNew_7 (by decide) ?_
  refine r_icmp_lt (tgt := 14) C h2421 (IRd rfl) dX0_doNew_9 (by decide) (fun c2422 => ?_) (fun c2422 => ?_)
  · refine r_t c2422 ?_
    refine r_aload_n (pc := 14) (j := 0) C dX0_doNew_14 rfl rfl ?_
    refine r_getR (j := 0) (r := 240) C cl_X0 kd_239 ln_239 (by decide) rfl r0_239_0 (by decide) q_588 dX0_doNew_15 ?_
    refine r_aload_n (pc := 18) (j := 0) C dX0_doNew_18 rfl rfl ?_
    refine r_getS (j := 1) C cl_X0 kd_239 ln_239 lc_239 (by decide) (by decide) rfl q_590 dX0_doNew_19 (fun h2423 => ?_)
    refine r_jn (fun q2425 e2426 => ?_)
    refine r_cV0 (pc := 22) (k := 240) (As := [.int (zi (S.2 239 1))]) (st := []) C (m_X6_keep (p := 240) (a1 := S.2 239 1) gw_240 h2423 e2426) cal_X6_keep cl_X6 kd_240 ln_240 q_1089 dX0_doNew_22 rfl rfl (Nat.le_of_ble_eq_true rfl) (Nat.le_of_ble_eq_true rfl) (Nat.le_of_ble_eq_true rfl) (Nat.le_of_ble_eq_true rfl) (Nat.le_of_ble_eq_true rfl) (fun h2424 => ?_)
    refine r_aload_n (pc := 25) (j := 0) C dX0_doNew_25 rfl rfl ?_
    refine r_getR (j := 0) (r := 240) C cl_X0 kd_239 ln_239 (by decide) rfl r0_239_0 (by decide) q_588 dX0_doNew_26 ?_
    refine r_iload_n (pc := 29) (j := 1) C dX0_doNew_29 rfl rfl ?_
    refine r_jn (fun q2428 e2429 => ?_)
    refine r_cV0 (pc := 30) (k := 240) (As := [.int (zi a1)]) (st := []) C (m_X6_add (p := 240) (a1 := a1) gw_240 ha1 e2429) cal_X6_add cl_X6 kd_240 ln_240 q_1090 dX0_doNew_30 rfl rfl (Nat.le_of_ble_eq_true rfl) (Nat.le_of_ble_eq_true rfl) (Nat.le_of_ble_eq_true rfl) (Nat.le_of_ble_eq_true rfl) (Nat.le_of_ble_eq_true rfl) (fun h2427 => ?_)
    refine r_aload_n (pc := 33) (j := 0) C dX0_doNew_33 rfl rfl ?_
    refine r_iload_n (pc := 34) (j := 1) C dX0_doNew_34 rfl rfl ?_
    refine r_bd (fun q2431 e2432 => ?_)
    refine r_cV0 (pc := 35) (k := 239) (As := [.int (zi a1)]) (st := []) C (m_X0_perform (a1 := a1) ha1 e2432) cal_X0_perform cl_X0 kd_239 ln_239 q_1091 dX0_doNew_35 rfl rfl (Nat.le_of_ble_eq_true rfl) (Nat.le_of_ble_eq_true rfl) (Nat.le_of_ble_eq_true rfl) (Nat.le_of_ble_eq_true rfl) (Nat.le_of_ble_eq_true rfl) (fun h2430 => ?_)
    refine r_iconst (v := 1) C dX0_doNew_38 (by decide) ?_
    exact r_ireturn C hQ (nar_z (BRd rfl)) dX0_doNew_39 (fun e => by cases e; exact ⟨(BRd rfl), rfl, rfl, rfl, rfl, rfl⟩)
  · refine r_f c2422 ?_
    refine r_iconst (v := 0) C dX0_doNew_12 (by decide) ?_
    exact r_ireturn C hQ (nar_z (BRd rfl)) dX0_doNew_13 (fun e => by cases e; exact ⟨(BRd rfl), rfl, rfl, rfl, rfl, rfl⟩)

def f_X0_canCut (a1 : Int) (S : Sst) : Int :=
  if (f_X4_has 29 a1 S = 0 ∨ f_X7_isIn 74 (f_X7_newest 74 S) a1 S = 0) then
    (0)
  else
    (1)
set_option maxRecDepth 100000 in
set_option maxHeartbeats 4000000 in
theorem m_X0_canCut {l : Launch} {E : EwT} {S : Sst} {O : Smo} {a1 : Int} (ha1 : IR a1) {q : Int} (hq : f_X0_canCut a1 S = q) : MetG l E yX0_canCut cX0_canCut 2 (some .boolean) 2 43 0 0 n0 R0 S O [.ref (zad E 239), .int (zi a1)] (BR q) (some (.int (zi q))) n0 R0 S O := by
  refine ofG (L0 := [(0, .ref (zad E 239)), (1, .int (zi a1))]) hq (by decide +kernel) (Nat.le_of_ble_eq_true rfl) rfl (fun K _ C hQ => ?_)
  unfold f_X0_canCut
  refine r_aload_n (pc := 0) (j := 0) C dX0_canCut_0 rfl rfl ?_
  refine r_getR (j := 2) (r := 29) C cl_X0 kd_239 ln_239 (by decide) rfl r0_239_2 (by decide) q_592 dX0_canCut_1 ?_
  refine r_iload_n (pc := 4) (j := 1) C dX0_canCut_4 rfl rfl ?_
  refine r_cV1 (pc := 5) (k := 29) (As := [.int (zi a1)]) (st := []) C (m_X4_has (p := 29) (a1 := a1) gp_29 ha1 rfl) cal_X4_has cl_X4 kd_29 ln_29 q_1181 dX0_canCut_5 rfl rfl (Nat.le_of_ble_eq_true rfl) (Nat.le_of_ble_eq_true rfl) (Nat.le_of_ble_eq_true rfl) (Nat.le_of_ble_eq_true rfl) (Nat.le_of_ble_eq_true rfl) (fun h2447 => ?_)
  refine r_cut (f_X4_has 29 a1 S = 0 ∨ f_X7_isIn 74 (f_X7_newest 74 S) a1 S = 0) 33 29 [] (fun c2450 => ?_) (fun c2450 => ?_) (fun k2451 k2452 => ?_)
  · refine r_t c2450 ?_
    refine r_iconst (v := 0) C dX0_canCut_33 (by decide) ?_
    exact r_ireturn C hQ (nar_z (BRd rfl)) dX0_canCut_34 (fun e => by subst e; exact ⟨(BRd rfl), rfl, rfl, rfl, rfl, rfl⟩)
  · refine r_f c2450 ?_
    refine r_iconst (v := 1) C dX0_canCut_29 (by decide) ?_
    refine r_goto (tgt := 34) C dX0_canCut_30 (by decide) ?_
    exact r_ireturn C hQ (nar_z (BRd rfl)) dX0_canCut_34 (fun e => by subst e; exact ⟨(BRd rfl), rfl, rfl, rfl, rfl, rfl⟩)
  · refine r_if_eq (tgt := 33) C h2447.ir dX0_canCut_8 (by decide) (fun c2453 => ?_) (fun c2453 => ?_)
    · exact k2451 (Or.inl c2453)
    · refine r_aload_n (pc := 11) (j := 0) C dX0_canCut_11 rfl rfl ?_
      refine r_getR (j := 4) (r := 74) C cl_X0 kd_239 ln_239 (by decide) rfl r0_239_4 (by decide) q_594 dX0_canCut_12 ?_
      refine r_aload_n (pc := 15) (j := 0) C dX0_canCut_15 rfl rfl ?_
      refine r_getR (j := 4) (r := 74) C cl_X0 kd_239 ln_239 (by decide) rfl r0_239_4 (by decide) q_594 dX0_canCut_16 ?_
      refine r_cV1 (pc := 19) (k := 74) (As := []) (st := [.ref (zad E 74)]) C (m_X7_newest (p := 74) gs_74 rfl) cal_X7_newest cl_X7 kd_74 ln_74 q_1082 dX0_canCut_19 rfl rfl (Nat.le_of_ble_eq_true rfl) (Nat.le_of_ble_eq_true rfl) (Nat.le_of_ble_eq_true rfl) (Nat.le_of_ble_eq_true rfl) (Nat.le_of_ble_eq_true rfl) (fun h2448 => ?_)
      refine r_iload_n (pc := 22) (j := 1) C dX0_canCut_22 rfl rfl ?_
      refine r_cV1 (pc := 23) (k := 74) (As := [.int (zi (f_X7_newest 74 S)), .int (zi a1)]) (st := []) C (m_X7_isIn (p := 74) (a1 := f_X7_newest 74 S) (a2 := a1) gs_74 h2448 ha1 rfl) cal_X7_isIn cl_X7 kd_74 ln_74 q_1182 dX0_canCut_23 rfl rfl (Nat.le_of_ble_eq_true rfl) (Nat.le_of_ble_eq_true rfl) (Nat.le_of_ble_eq_true rfl) (Nat.le_of_ble_eq_true rfl) (Nat.le_of_ble_eq_true rfl) (fun h2449 => ?_)
      refine r_if_eq (tgt := 33) C h2449.ir dX0_canCut_26 (by decide) (fun c2454 => ?_) (fun c2454 => ?_)
      · exact k2451 (Or.inr c2454)
      · exact k2452 (fun w => w.elim c2453 c2454)

def f_X0_canRaise (a1 : Int) (S : Sst) : Int :=
  jn (f_X7_newest 74 S) fun (v2467 : Int) =>
  jn (f_X4_isOver 29 a1 (f_X6_at 75 v2467 S) S) fun (v2471 : Int) =>
  if (v2471 = 0 ∨ zand (zshr (f_X6_at 79 v2467 S) a1) 1 = 0) then
    (0)
  else
    (1)
set_option maxRecDepth 100000 in
set_option maxHeartbeats 4000000 in
theorem m_X0_canRaise {l : Launch} {E : EwT} {S : Sst} {O : Smo} {a1 : Int} (ha1 : IR a1) {q : Int} (hq : f_X0_canRaise a1 S = q) : MetG l E yX0_canRaise cX0_canRaise 4 (some .boolean) 3 63 0 0 n0 R0 S O [.ref (zad E 239), .int (zi a1)] (BR q) (some (.int (zi q))) n0 R0 S O := by
  refine ofG (L0 := [(0, .ref (zad E 239)), (1, .int (zi a1))]) hq (by decide +kernel) (Nat.le_of_ble_eq_true rfl) rfl (fun K _ C hQ => ?_)
  unfold f_X0_canRaise
  refine r_aload_n (pc := 0) (j := 0) C dX0_canRaise_0 rfl rfl ?_
  refine r_getR (j := 4) (r := 74) C cl_X0 kd_239 ln_239 (by decide) rfl r0_239_4 (by decide) q_594 dX0_canRaise_1 ?_
  refine r_cV1 (pc := 4) (k := 74) (As := []) (st := []) C (m_X7_newest (p := 74) gs_74 rfl) cal_X7_newest cl_X7 kd_74 ln_74 q_1082 dX0_canRaise_4 rfl rfl (Nat.le_of_ble_eq_true rfl) (Nat.le_of_ble_eq_true rfl) (Nat.le_of_ble_eq_true rfl) (Nat.le_of_ble_eq_true rfl) (Nat.le_of_ble_eq_true rfl) (fun h2466 => ?_)
  refine r_jv h2466 (fun v2467 h2468 => ?_)
  refine r_istore_n (L' := [(2, .int (zi v2467)), (0, .ref (zad E 239)), (1, .int (zi a1))]) C dX0_canRaise_7 rfl (by decide) rfl ?_
  refine r_aload_n (pc := 8) (j := 1) C dX0_canRaise_8 rfl rfl ?_
  refine r_getR (j := 2) (r := 29) C cl_X0 kd_239 ln_239 (by decide) rfl r0_239_2 (by decide) q_592 dX0_canRaise_9 ?_
  refine r_iload_n (pc := 12) (j := 2) C dX0_canRaise_12 rfl rfl ?_
  refine r_aload_n (pc := 13) (j := 1) C dX0_canRaise_13 rfl rfl ?_
  refine r_getR (j := 4) (r := 74) C cl_X0 kd_239 ln_239 (by decide) rfl r0_239_4 (by decide) q_594 dX0_canRaise_14 ?_
  refine r_getR (j := 0) (r := 75) C cl_X7 kd_74 ln_74 (by decide) rfl r0_74_0 (by decide) q_509 dX0_canRaise_17 ?_
  refine r_iload_n (pc := 20) (j := 0) C dX0_canRaise_20 rfl rfl ?_
  refine r_cV1 (pc := 21) (k := 75) (As := [.int (zi v2467)]) (st := [.int (zi a1), .ref (zad E 29)]) C (m_X6_at (p := 75) (a1 := v2467) gw_75 h2468 rfl) cal_X6_at cl_X6 kd_75 ln_75 q_1083 dX0_canRaise_21 rfl rfl (Nat.le_of_ble_eq_true rfl) (Nat.le_of_ble_eq_true rfl) (Nat.le_of_ble_eq_true rfl) (Nat.le_of_ble_eq_true rfl) (Nat.le_of_ble_eq_true rfl) (fun h2469 => ?_)
  refine r_cV1 (pc := 24) (k := 29) (As := [.int (zi a1), .int (zi (f_X6_at 75 v2467 S))]) (st := []) C (m_X4_isOver (p := 29) (a1 := a1) (a2 := f_X6_at 75 v2467 S) gp_29 ha1 h2469 rfl) cal_X4_isOver cl_X4 kd_29 ln_29 q_1191 dX0_canRaise_24 rfl rfl (Nat.le_of_ble_eq_true rfl) (Nat.le_of_ble_eq_true rfl) (Nat.le_of_ble_eq_true rfl) (Nat.le_of_ble_eq_true rfl) (Nat.le_of_ble_eq_true rfl) (fun h2470 => ?_)
  refine r_jvz h2470 (fun v2471 h2472 => ?_)
  refine r_istore_n (L' := [(3, .int (zi v2471)), (2, .int (zi v2467)), (0, .ref (zad E 239)), (1, .int (zi a1))]) C dX0_canRaise_27 rfl (by decide) rfl ?_
  refine r_iload_n (pc := 28) (j := 0) C dX0_canRaise_28 rfl rfl ?_
  refine r_cut (v2471 = 0 ∨ zand (zshr (f_X6_at 79 v2467 S) a1) 1 = 0) 54 50 [] (fun c2474 => ?_) (fun c2474 => ?_) (fun k2475 k2476 => ?_)
  · refine r_t c2474 ?_
    refine r_iconst (v := 0) C dX0_canRaise_54 (by decide) ?_
    exact r_ireturn C hQ (nar_z (BRd rfl)) dX0_canRaise_55 (fun e => by subst e; exact ⟨(BRd rfl), rfl, rfl, rfl, rfl, rfl⟩)
  · refine r_f c2474 ?_
    refine r_iconst (v := 1) C dX0_canRaise_50 (by decide) ?_
    refine r_goto (tgt := 55) C dX0_canRaise_51 (by decide) ?_
    exact r_ireturn C hQ (nar_z (BRd rfl)) dX0_canRaise_55 (fun e => by subst e; exact ⟨(BRd rfl), rfl, rfl, rfl, rfl, rfl⟩)
  · refine r_if_eq (tgt := 54) C h2472.ir dX0_canRaise_29 (by decide) (fun c2477 => ?_) (fun c2477 => ?_)
    · exact k2475 (Or.inl c2477)
    · refine r_aload_n (pc := 32) (j := 2) C dX0_canRaise_32 rfl rfl ?_
      refine r_getR (j := 4) (r := 74) C cl_X0 kd_239 ln_239 (by decide) rfl r0_239_4 (by decide) q_594 dX0_canRaise_33 ?_
      refine r_getR (j := 2) (r := 79) C cl_X7 kd_74 ln_74 (by decide) rfl r0_74_2 (by decide) q_516 dX0_canRaise_36 ?_
      refine r_iload_n (pc := 39) (j := 1) C dX0_canRaise_39 rfl rfl ?_
      refine r_cV1 (pc := 40) (k := 79) (As := [.int (zi v2467)]) (st := []) C (m_X6_at (p := 79) (a1 := v2467) gw_79 h2468 rfl) cal_X6_at cl_X6 kd_79 ln_79 q_1083 dX0_canRaise_40 rfl rfl (Nat.le_of_ble_eq_true rfl) (Nat.le_of_ble_eq_true rfl) (Nat.le_of_ble_eq_true rfl) (Nat.le_of_ble_eq_true rfl) (Nat.le_of_ble_eq_true rfl) (fun h2473 => ?_)
      refine r_iload_n (pc := 43) (j := 3) C dX0_canRaise_43 rfl rfl ?_
      refine r_ishr C dX0_canRaise_44 ?_
      refine r_iconst (v := 1) C dX0_canRaise_45 (by decide) ?_
      refine r_iand C dX0_canRaise_46 ?_
      refine r_if_eq (tgt := 54) C (i32_IR _) dX0_canRaise_47 (by decide) (fun c2478 => ?_) (fun c2478 => ?_)
      · exact k2475 (Or.inr c2478)
      · exact k2476 (fun w => w.elim c2477 c2478)

def f_X0_takeBack (S : Sst) : Option (Int × Sst) :=
  if S.2 239 1 < 1 then
    (some (0, S))
  else
    (Option.bind (f_X7_shrink 74 S) fun (q2707 : Sst) =>
    jn (upS q2707 239 1 (wr ((q2707.2 239 1) - 1))) fun (S2710 : Sst) =>
    some (1, S2710))
set_option maxRecDepth 100000 in
set_option maxHeartbeats 4000000 in
theorem m_X0_takeBack {l : Launch} {E : EwT} {S : Sst} {O : Smo}  {q : Int × Sst} (hq : f_X0_takeBack S = some q) : MetG l E yX0_takeBack cX0_takeBack 1 (some .boolean) 4 89 0 0 n0 R0 S O [.ref (zad E 239)] (BR q.1) (some (.int (zi q.1))) n0 R0 q.2 O := by
  refine ofG (L0 := [(0, .ref (zad E 239))]) hq (by decide +kernel) (Nat.le_of_ble_eq_true rfl) rfl (fun K _ C hQ => ?_)
  unfold f_X0_takeBack
  refine r_aload_n (pc := 0) (j := 0) C dX0_takeBack_0 rfl rfl ?_
  refine r_getS (j := 1) C cl_X0 kd_239 ln_239 lc_239 (by decide) (by decide) rfl q_590 dX0_takeBack_1 (fun h2704 => ?_)
  refine r_iconst (v := 1) C dX0_takeBack_4 (by decide) ?_
  refine r_icmp_ge (tgt := 10) C h2704 (IRd rfl) dX0_takeBack_5 (by decide) (fun c2705 => ?_) (fun c2705 => ?_)
  · refine r_f c2705 ?_
    refine r_aload_n (pc := 10) (j := 0) C dX0_takeBack_10 rfl rfl ?_
    refine r_getR (j := 4) (r := 74) C cl_X0 kd_239 ln_239 (by decide) rfl r0_239_4 (by decide) q_594 dX0_takeBack_11 ?_
    refine r_bd (fun q2707 e2708 => ?_)
    refine r_cV0 (pc := 14) (k := 74) (As := []) (st := []) C (m_X7_shrink (p := 74) gs_74 e2708) cal_X7_shrink cl_X7 kd_74 ln_74 q_1200 dX0_takeBack_14 rfl rfl (Nat.le_of_ble_eq_true rfl) (Nat.le_of_ble_eq_true rfl) (Nat.le_of_ble_eq_true rfl) (Nat.le_of_ble_eq_true rfl) (Nat.le_of_ble_eq_true rfl) (fun h2706 => ?_)
    refine r_aload_n (pc := 17) (j := 0) C dX0_takeBack_17 rfl rfl ?_
    refine r_dup C dX0_takeBack_18 rfl ?_
    refine r_getS (j := 1) C cl_X0 kd_239 ln_239 lc_239 (by decide) (by decide) rfl q_590 dX0_takeBack_19 (fun h2709 => ?_)
    refine r_iconst (v := 1) C dX0_takeBack_22 (by decide) ?_
    refine r_isub C dX0_takeBack_23 ?_
    refine r_putS C cl_X0 kd_239 ln_239 lc_239 (by decide) (by decide) rfl rfl rfl (IR_wr _) q_590 dX0_takeBack_24 (fun S2710 => ?_)
    refine r_iconst (v := 1) C dX0_takeBack_27 (by decide) ?_
    exact r_ireturn C hQ (nar_z (BRd rfl)) dX0_takeBack_28 (fun e => by cases e; exact ⟨(BRd rfl), rfl, rfl, rfl, rfl, rfl⟩)
  · refine r_t c2705 ?_
    refine r_iconst (v := 0) C dX0_takeBack_8 (by decide) ?_
    exact r_ireturn C hQ (nar_z (BRd rfl)) dX0_takeBack_9 (fun e => by cases e; exact ⟨(BRd rfl), rfl, rfl, rfl, rfl, rfl⟩)

def f_X0_doAgain (S : Sst) : Option (Int × Sst) :=
  if S.2 239 1 < f_X6_size 240 S then
    (Option.bind (f_X0_perform (f_X6_at 240 (S.2 239 1) S) S) fun (q2720 : Sst) =>
    some (1, q2720))
  else
    (some (0, S))
set_option maxRecDepth 100000 in
set_option maxHeartbeats 4000000 in
theorem m_X0_doAgain {l : Launch} {E : EwT} {S : Sst} {O : Smo}  {q : Int × Sst} (hq : f_X0_doAgain S = some q) : MetG l E yX0_doAgain cX0_doAgain 1 (some .boolean) 6 152 0 0 n0 R0 S O [.ref (zad E 239)] (BR q.1) (some (.int (zi q.1))) n0 R0 q.2 O := by
  refine ofG (L0 := [(0, .ref (zad E 239))]) hq (by decide +kernel) (Nat.le_of_ble_eq_true rfl) rfl (fun K _ C hQ => ?_)
  unfold f_X0_doAgain
  refine r_aload_n (pc := 0) (j := 0) C dX0_doAgain_0 rfl rfl ?_
  refine r_getS (j := 1) C cl_X0 kd_239 ln_239 lc_239 (by decide) (by decide) rfl q_590 dX0_doAgain_1 (fun h2714 => ?_)
  refine r_aload_n (pc := 4) (j := 0) C dX0_doAgain_4 rfl rfl ?_
  refine r_getR (j := 0) (r := 240) C cl_X0 kd_239 ln_239 (by decide) rfl r0_239_0 (by decide) q_588 dX0_doAgain_5 ?_
  refine r_cV1 (pc := 8) (k := 240) (As := []) (st := [.int (zi (S.2 239 1))]) C (m_X6_size (p := 240) gw_240 rfl) cal_X6_size cl_X6 kd_240 ln_240 q_1084 dX0_doAgain_8 rfl rfl (Nat.le_of_ble_eq_true rfl) (Nat.le_of_ble_eq_true rfl) (Nat.le_of_ble_eq_true rfl) (Nat.le_of_ble_eq_true rfl) (Nat.le_of_ble_eq_true rfl) (fun h2715 => ?_)
  refine r_icmp_lt (tgt := 16) C h2714 h2715 dX0_doAgain_11 (by decide) (fun c2716 => ?_) (fun c2716 => ?_)
  · refine r_t c2716 ?_
    refine r_aload_n (pc := 16) (j := 0) C dX0_doAgain_16 rfl rfl ?_
    refine r_aload_n (pc := 17) (j := 0) C dX0_doAgain_17 rfl rfl ?_
    refine r_getR (j := 0) (r := 240) C cl_X0 kd_239 ln_239 (by decide) rfl r0_239_0 (by decide) q_588 dX0_doAgain_18 ?_
    refine r_aload_n (pc := 21) (j := 0) C dX0_doAgain_21 rfl rfl ?_
    refine r_getS (j := 1) C cl_X0 kd_239 ln_239 lc_239 (by decide) (by decide) rfl q_590 dX0_doAgain_22 (fun h2717 => ?_)
    refine r_cV1 (pc := 25) (k := 240) (As := [.int (zi (S.2 239 1))]) (st := [.ref (zad E 239)]) C (m_X6_at (p := 240) (a1 := S.2 239 1) gw_240 h2717 rfl) cal_X6_at cl_X6 kd_240 ln_240 q_1083 dX0_doAgain_25 rfl rfl (Nat.le_of_ble_eq_true rfl) (Nat.le_of_ble_eq_true rfl) (Nat.le_of_ble_eq_true rfl) (Nat.le_of_ble_eq_true rfl) (Nat.le_of_ble_eq_true rfl) (fun h2718 => ?_)
    refine r_bd (fun q2720 e2721 => ?_)
    refine r_cV0 (pc := 28) (k := 239) (As := [.int (zi (f_X6_at 240 (S.2 239 1) S))]) (st := []) C (m_X0_perform (a1 := f_X6_at 240 (S.2 239 1) S) h2718 e2721) cal_X0_perform cl_X0 kd_239 ln_239 q_1091 dX0_doAgain_28 rfl rfl (Nat.le_of_ble_eq_true rfl) (Nat.le_of_ble_eq_true rfl) (Nat.le_of_ble_eq_true rfl) (Nat.le_of_ble_eq_true rfl) (Nat.le_of_ble_eq_true rfl) (fun h2719 => ?_)
    refine r_iconst (v := 1) C dX0_doAgain_31 (by decide) ?_
    exact r_ireturn C hQ (nar_z (BRd rfl)) dX0_doAgain_32 (fun e => by cases e; exact ⟨(BRd rfl), rfl, rfl, rfl, rfl, rfl⟩)
  · refine r_f c2716 ?_
    refine r_iconst (v := 0) C dX0_doAgain_14 (by decide) ?_
    exact r_ireturn C hQ (nar_z (BRd rfl)) dX0_doAgain_15 (fun e => by cases e; exact ⟨(BRd rfl), rfl, rfl, rfl, rfl, rfl⟩)
