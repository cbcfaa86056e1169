/-! m_ref2: the methods as functions, and their walks (written by program) -/
def f_X12_higher (a1 : Int) (a2 : Int) (a3 : Int) (O : Smo) : Option (Int) :=
  jk (fun (q6991 : Unit) =>
    some (-1)) fun k6993 =>
  if ((f_X12_isSegment a1 O = 0 ∨ f_X12_isSegment a2 O = 0) ∨ a1 = a2) then
    (k6993 ())
  else
    (Option.bind (f_X12_isOver a1 a3 O) fun (q6999 : Int) =>
    if q6999 = 0 then
      (k6993 ())
    else
      (Option.bind (f_X12_isOver a2 a3 O) fun (q7003 : Int) =>
      if q7003 = 0 then
        (k6993 ())
      else
        (Option.bind (f_X12_isHigher a1 a2 a3 O) fun (q7007 : Int) =>
        some (f_X12_truth q7007))))
set_option maxRecDepth 100000 in
set_option maxHeartbeats 4000000 in
theorem m_X12_higher {l : Launch} {E : EwT} {S : Sst} {O : Smo} {a1 : Int} (ha1 : IR a1) {a2 : Int} (ha2 : IR a2) {a3 : Int} (ha3 : IR a3) {q : Int} (hq : f_X12_higher a1 a2 a3 O = some q) : MetG l E yX12_higher cX12_higher 4 (some .int) 2 50 0 0 n0 R0 S O [.ref (zad E 262), .int (zi a1), .int (zi a2), .int (zi a3)] (IR q) (some (.int (zi q))) n0 R0 S O := by
  refine ofG (L0 := [(0, .ref (zad E 262)), (1, .int (zi a1)), (2, .int (zi a2)), (3, .int (zi a3))]) hq (by decide +kernel) (Nat.le_of_ble_eq_true rfl) rfl (fun K _ C hQ => ?_)
  unfold f_X12_higher
  refine r_aload_n (pc := 0) (j := 0) C dX12_higher_0 rfl rfl ?_
  refine r_iload_n (pc := 1) (j := 1) C dX12_higher_1 rfl rfl ?_
  refine r_cV1 (pc := 2) (k := 262) (As := [.int (zi a1)]) (st := []) C (m_X12_isSegment (a1 := a1) ha1 rfl) cal_X12_isSegment cl_X12 kd_262 ln_262 q_1977 dX12_higher_2 rfl rfl (Nat.le_of_ble_eq_true rfl) (Nat.le_of_ble_eq_true rfl) (Nat.le_of_ble_eq_true rfl) (Nat.le_of_ble_eq_true rfl) (Nat.le_of_ble_eq_true rfl) (fun h6989 => ?_)
  refine r_jk (fun q6991 : Unit => True) (fun q6991 => S) (fun q6991 => O) (fun q6991 => []) 52 (fun q6991 => []) (fun q6991 h6992 => ?_) (fun k6993 k6994 => ?_)
  · refine r_iconst (v := (-1)) C dX12_higher_52 (by decide) ?_
    exact r_ireturn C hQ rfl dX12_higher_53 (fun e => by cases e; exact ⟨(IRd rfl), rfl, rfl, rfl, rfl, rfl⟩)
  · refine r_cut ((f_X12_isSegment a1 O = 0 ∨ f_X12_isSegment a2 O = 0) ∨ a1 = a2) 52 21 [] (fun c6995 => ?_) (fun c6995 => ?_) (fun k6996 k6997 => ?_)
    · refine r_t c6995 ?_
      refine r_L (L' := []) [] rfl ?_
      exact k6994 () trivial
    · refine r_f c6995 ?_
      refine r_aload_n (pc := 21) (j := 0) C dX12_higher_21 rfl rfl ?_
      refine r_iload_n (pc := 22) (j := 1) C dX12_higher_22 rfl rfl ?_
      refine r_iload_n (pc := 23) (j := 3) C dX12_higher_23 rfl rfl ?_
      refine r_bd (fun q6999 e7000 => ?_)
      refine r_cV1 (pc := 24) (k := 262) (As := [.int (zi a1), .int (zi a3)]) (st := []) C (m_X12_isOver (a1 := a1) (a2 := a3) ha1 ha3 e7000) cal_X12_isOver cl_X12 kd_262 ln_262 q_1984 dX12_higher_24 rfl rfl (Nat.le_of_ble_eq_true rfl) (Nat.le_of_ble_eq_true rfl) (Nat.le_of_ble_eq_true rfl) (Nat.le_of_ble_eq_true rfl) (Nat.le_of_ble_eq_true rfl) (fun h6998 => ?_)
      refine r_if_eq (tgt := 52) C h6998.ir dX12_higher_27 (by decide) (fun c7001 => ?_) (fun c7001 => ?_)
      · refine r_t c7001 ?_
        refine r_L (L' := []) [] rfl ?_
        exact k6994 () trivial
      · refine r_f c7001 ?_
        refine r_aload_n (pc := 30) (j := 0) C dX12_higher_30 rfl rfl ?_
        refine r_iload_n (pc := 31) (j := 2) C dX12_higher_31 rfl rfl ?_
        refine r_iload_n (pc := 32) (j := 3) C dX12_higher_32 rfl rfl ?_
        refine r_bd (fun q7003 e7004 => ?_)
        refine r_cV1 (pc := 33) (k := 262) (As := [.int (zi a2), .int (zi a3)]) (st := []) C (m_X12_isOver (a1 := a2) (a2 := a3) ha2 ha3 e7004) cal_X12_isOver cl_X12 kd_262 ln_262 q_1984 dX12_higher_33 rfl rfl (Nat.le_of_ble_eq_true rfl) (Nat.le_of_ble_eq_true rfl) (Nat.le_of_ble_eq_true rfl) (Nat.le_of_ble_eq_true rfl) (Nat.le_of_ble_eq_true rfl) (fun h7002 => ?_)
        refine r_if_eq (tgt := 52) C h7002.ir dX12_higher_36 (by decide) (fun c7005 => ?_) (fun c7005 => ?_)
        · refine r_t c7005 ?_
          refine r_L (L' := []) [] rfl ?_
          exact k6994 () trivial
        · refine r_f c7005 ?_
          refine r_aload_n (pc := 39) (j := 0) C dX12_higher_39 rfl rfl ?_
          refine r_iload_n (pc := 40) (j := 1) C dX12_higher_40 rfl rfl ?_
          refine r_iload_n (pc := 41) (j := 2) C dX12_higher_41 rfl rfl ?_
          refine r_iload_n (pc := 42) (j := 3) C dX12_higher_42 rfl rfl ?_
          refine r_bd (fun q7007 e7008 => ?_)
          refine r_cV1 (pc := 43) (k := 262) (As := [.int (zi a1), .int (zi a2), .int (zi a3)]) (st := []) C (m_X12_isHigher (a1 := a1) (a2 := a2) (a3 := a3) ha1 ha2 ha3 e7008) cal_X12_isHigher cl_X12 kd_262 ln_262 q_1988 dX12_higher_43 rfl rfl (Nat.le_of_ble_eq_true rfl) (Nat.le_of_ble_eq_true rfl) (Nat.le_of_ble_eq_true rfl) (Nat.le_of_ble_eq_true rfl) (Nat.le_of_ble_eq_true rfl) (fun h7006 => ?_)
          refine r_cS1 (pc := 46) (As := [.int (zi q7007)]) (st := []) C (m_X12_truth (a0 := q7007) h7006 rfl) cal_X12_truth q_1959 dX12_higher_46 rfl rfl (Nat.le_of_ble_eq_true rfl) (Nat.le_of_ble_eq_true rfl) (Nat.le_of_ble_eq_true rfl) (Nat.le_of_ble_eq_true rfl) (Nat.le_of_ble_eq_true rfl) (fun h7009 => ?_)
          refine r_goto (tgt := 53) C dX12_higher_49 (by decide) ?_
          exact r_ireturn C hQ rfl dX12_higher_53 (fun e => by cases e; exact ⟨h7009, rfl, rfl, rfl, rfl, rfl⟩)
    · refine r_if_eq (tgt := 52) C h6989.ir dX12_higher_5 (by decide) (fun c7010 => ?_) (fun c7010 => ?_)
      · exact k6996 (Or.inl (Or.inl c7010))
      · refine r_aload_n (pc := 8) (j := 0) C dX12_higher_8 rfl rfl ?_
        refine r_iload_n (pc := 9) (j := 2) C dX12_higher_9 rfl rfl ?_
        refine r_cV1 (pc := 10) (k := 262) (As := [.int (zi a2)]) (st := []) C (m_X12_isSegment (a1 := a2) ha2 rfl) cal_X12_isSegment cl_X12 kd_262 ln_262 q_1977 dX12_higher_10 rfl rfl (Nat.le_of_ble_eq_true rfl) (Nat.le_of_ble_eq_true rfl) (Nat.le_of_ble_eq_true rfl) (Nat.le_of_ble_eq_true rfl) (Nat.le_of_ble_eq_true rfl) (fun h6990 => ?_)
        refine r_if_eq (tgt := 52) C h6990.ir dX12_higher_13 (by decide) (fun c7011 => ?_) (fun c7011 => ?_)
        · exact k6996 (Or.inl (Or.inr c7011))
        · refine r_iload_n (pc := 16) (j := 1) C dX12_higher_16 rfl rfl ?_
          refine r_iload_n (pc := 17) (j := 2) C dX12_higher_17 rfl rfl ?_
          refine r_icmp_eq (tgt := 52) C ha1 ha2 dX12_higher_18 (by decide) (fun c7012 => ?_) (fun c7012 => ?_)
          · exact k6996 (Or.inr c7012)
          · exact k6997 (fun w => w.elim (fun w => w.elim c7010 c7011) c7012)

def f_X12_weight (a1 : Int) (O : Smo) : Option (Int) :=
  if f_X12_isSegment a1 O = 0 then
    (some 0)
  else
    (Option.bind (aget (O 280) (Ln 280) a1) fun (v7015 : Int) =>
    some v7015)
set_option maxRecDepth 100000 in
set_option maxHeartbeats 4000000 in
theorem m_X12_weight {l : Launch} {E : EwT} {S : Sst} {O : Smo} {a1 : Int} (ha1 : IR a1) {q : Int} (hq : f_X12_weight a1 O = some q) : MetG l E yX12_weight cX12_weight 2 (some .int) 2 43 0 0 n0 R0 S O [.ref (zad E 262), .int (zi a1)] (IR q) (some (.int (zi q))) n0 R0 S O := by
  refine ofG (L0 := [(0, .ref (zad E 262)), (1, .int (zi a1))]) hq (by decide +kernel) (Nat.le_of_ble_eq_true rfl) rfl (fun K _ C hQ => ?_)
  unfold f_X12_weight
  refine r_aload_n (pc := 0) (j := 0) C dX12_weight_0 rfl rfl ?_
  refine r_iload_n (pc := 1) (j := 1) C dX12_weight_1 rfl rfl ?_
  refine r_cV1 (pc := 2) (k := 262) (As := [.int (zi a1)]) (st := []) C (m_X12_isSegment (a1 := a1) ha1 rfl) cal_X12_isSegment cl_X12 kd_262 ln_262 q_1977 dX12_weight_2 rfl rfl (Nat.le_of_ble_eq_true rfl) (Nat.le_of_ble_eq_true rfl) (Nat.le_of_ble_eq_true rfl) (Nat.le_of_ble_eq_true rfl) (Nat.le_of_ble_eq_true rfl) (fun h7013 => ?_)
  refine r_if_eq (tgt := 17) C h7013.ir dX12_weight_5 (by decide) (fun c7014 => ?_) (fun c7014 => ?_)
  · refine r_t c7014 ?_
    refine r_iconst (v := 0) C dX12_weight_17 (by decide) ?_
    exact r_ireturn C hQ rfl dX12_weight_18 (fun e => by cases e; exact ⟨(IRd rfl), rfl, rfl, rfl, rfl, rfl⟩)
  · refine r_f c7014 ?_
    refine r_aload_n (pc := 8) (j := 0) C dX12_weight_8 rfl rfl ?_
    refine r_getR (j := 35) (r := 280) C cl_X12 kd_262 ln_262 (by decide) rfl r0_262_35 (by decide) q_1588 dX12_weight_9 ?_
    refine r_iload_n (pc := 12) (j := 1) C dX12_weight_12 rfl rfl ?_
    refine r_iald C kd_280 ln_280 gc_280 ha1 dX12_weight_13 (fun v7015 h7016 => ?_)
    refine r_goto (tgt := 18) C dX12_weight_14 (by decide) ?_
    exact r_ireturn C hQ rfl dX12_weight_18 (fun e => by cases e; exact ⟨h7016, rfl, rfl, rfl, rfl, rfl⟩)

def f_X12_placeOf (a1 : Int) (O : Smo) : Option (Int) :=
  Option.bind (aget (O 282) (Ln 282) (wr (0 + a1))) fun (v7017 : Int) =>
  some v7017
set_option maxRecDepth 100000 in
set_option maxHeartbeats 4000000 in
theorem m_X12_placeOf {l : Launch} {E : EwT} {S : Sst} {O : Smo} {a1 : Int} (ha1 : IR a1) {q : Int} (hq : f_X12_placeOf a1 O = some q) : MetG l E yX12_placeOf cX12_placeOf 2 (some .int) 0 0 0 0 n0 R0 S O [.ref (zad E 262), .int (zi a1)] (IR q) (some (.int (zi q))) n0 R0 S O := by
  refine ofG (L0 := [(0, .ref (zad E 262)), (1, .int (zi a1))]) hq (by decide +kernel) (Nat.le_of_ble_eq_true rfl) rfl (fun K _ C hQ => ?_)
  unfold f_X12_placeOf
  refine r_aload_n (pc := 0) (j := 0) C dX12_placeOf_0 rfl rfl ?_
  refine r_getR (j := 46) (r := 282) C cl_X12 kd_262 ln_262 (by decide) rfl r0_262_46 (by decide) q_1599 dX12_placeOf_1 ?_
  refine r_iconst (v := 0) C dX12_placeOf_4 (by decide) ?_
  refine r_iload_n (pc := 5) (j := 1) C dX12_placeOf_5 rfl rfl ?_
  refine r_iadd C dX12_placeOf_6 ?_
  refine r_iald C kd_282 ln_282 gc_282 (IR_wr _) dX12_placeOf_7 (fun v7017 h7018 => ?_)
  exact r_ireturn C hQ rfl dX12_placeOf_8 (fun e => by cases e; exact ⟨h7018, rfl, rfl, rfl, rfl, rfl⟩)

def f_X12_setOf (a1 : Int) (O : Smo) : Option (Int) :=
  Option.bind (aget (O 282) (Ln 282) (wr (41 + a1))) fun (v7019 : Int) =>
  some v7019
set_option maxRecDepth 100000 in
set_option maxHeartbeats 4000000 in
theorem m_X12_setOf {l : Launch} {E : EwT} {S : Sst} {O : Smo} {a1 : Int} (ha1 : IR a1) {q : Int} (hq : f_X12_setOf a1 O = some q) : MetG l E yX12_setOf cX12_setOf 2 (some .int) 0 0 0 0 n0 R0 S O [.ref (zad E 262), .int (zi a1)] (IR q) (some (.int (zi q))) n0 R0 S O := by
  refine ofG (L0 := [(0, .ref (zad E 262)), (1, .int (zi a1))]) hq (by decide +kernel) (Nat.le_of_ble_eq_true rfl) rfl (fun K _ C hQ => ?_)
  unfold f_X12_setOf
  refine r_aload_n (pc := 0) (j := 0) C dX12_setOf_0 rfl rfl ?_
  refine r_getR (j := 46) (r := 282) C cl_X12 kd_262 ln_262 (by decide) rfl r0_262_46 (by decide) q_1599 dX12_setOf_1 ?_
  refine r_bipush (v := 41) C dX12_setOf_4 (by decide) ?_
  refine r_iload_n (pc := 6) (j := 1) C dX12_setOf_6 rfl rfl ?_
  refine r_iadd C dX12_setOf_7 ?_
  refine r_iald C kd_282 ln_282 gc_282 (IR_wr _) dX12_setOf_8 (fun v7019 h7020 => ?_)
  exact r_ireturn C hQ rfl dX12_setOf_9 (fun e => by cases e; exact ⟨h7020, rfl, rfl, rfl, rfl, rfl⟩)

def f_X12_nodeMany (O : Smo) : Option (Int) :=
  Option.bind (aget (O 282) (Ln 282) (wr (164 + (O 262 47)))) fun (v7022 : Int) =>
  some v7022
set_option maxRecDepth 100000 in
set_option maxHeartbeats 4000000 in
theorem m_X12_nodeMany {l : Launch} {E : EwT} {S : Sst} {O : Smo}  {q : Int} (hq : f_X12_nodeMany O = some q) : MetG l E yX12_nodeMany cX12_nodeMany 1 (some .int) 0 0 0 0 n0 R0 S O [.ref (zad E 262)] (IR q) (some (.int (zi q))) n0 R0 S O := by
  refine ofG (L0 := [(0, .ref (zad E 262))]) hq (by decide +kernel) (Nat.le_of_ble_eq_true rfl) rfl (fun K _ C hQ => ?_)
  unfold f_X12_nodeMany
  refine r_aload_n (pc := 0) (j := 0) C dX12_nodeMany_0 rfl rfl ?_
  refine r_getR (j := 46) (r := 282) C cl_X12 kd_262 ln_262 (by decide) rfl r0_262_46 (by decide) q_1599 dX12_nodeMany_1 ?_
  refine r_sipush (v := 164) C dX12_nodeMany_4 (by decide) ?_
  refine r_aload_n (pc := 7) (j := 0) C dX12_nodeMany_7 rfl rfl ?_
  refine r_getO (j := 47) C cl_X12 kd_262 ln_262 gc_262 (by decide) (by decide) rfl q_1600 dX12_nodeMany_8 (fun h7021 => ?_)
  refine r_iadd C dX12_nodeMany_11 ?_
  refine r_iald C kd_282 ln_282 gc_282 (IR_wr _) dX12_nodeMany_12 (fun v7022 h7023 => ?_)
  exact r_ireturn C hQ rfl dX12_nodeMany_13 (fun e => by cases e; exact ⟨h7023, rfl, rfl, rfl, rfl, rfl⟩)

def f_X12_usedUpTo (a1 : Int) (a2 : Int) (O : Smo) : Option (Int) :=
  Option.bind (lp (fun (s7043 : Int × Int) =>
    Option.bind (aget (O 282) (Ln 282) (wr (1485 + a1))) fun (v7049 : Int) =>
    if s7043.2 < v7049 then
      (Option.bind (aget (O 282) (Ln 282) (wr ((wr (1805 + (wr (6 * a1)))) + s7043.2))) fun (v7052 : Int) =>
      jn (
        if a2 < v7052 then
          (0)
        else
          (1)) fun (q7054 : Int) =>
      jn (wr (s7043.1 + (f_X12_truth q7054))) fun (v7060 : Int) =>
      some (Sum.inl (v7060, wr (s7043.2 + 1))))
    else
      (some (Sum.inr s7043.1))) FU (0, 0)) fun (r7062 : Int) =>
  some r7062
set_option maxRecDepth 100000 in
set_option maxHeartbeats 4000000 in
theorem m_X12_usedUpTo {l : Launch} {E : EwT} {S : Sst} {O : Smo} {a1 : Int} (ha1 : IR a1) {a2 : Int} (ha2 : IR a2) {q : Int} (hq : f_X12_usedUpTo a1 a2 O = some q) : MetG l E yX12_usedUpTo cX12_usedUpTo 5 (some .int) 1 20 0 0 n0 R0 S O [.ref (zad E 262), .int (zi a1), .int (zi a2)] (IR q) (some (.int (zi q))) n0 R0 S O := by
  refine ofG (L0 := [(0, .ref (zad E 262)), (1, .int (zi a1)), (2, .int (zi a2))]) hq (by decide +kernel) (Nat.le_of_ble_eq_true rfl) rfl (fun K _ C hQ => ?_)
  unfold f_X12_usedUpTo
  refine r_iconst (v := 0) C dX12_usedUpTo_0 (by decide) ?_
  refine r_istore_n (L' := [(3, .int (zi 0)), (0, .ref (zad E 262)), (1, .int (zi a1)), (2, .int (zi a2))]) C dX12_usedUpTo_1 rfl (by decide) rfl ?_
  refine r_iconst (v := 0) C dX12_usedUpTo_2 (by decide) ?_
  refine r_istore (L' := [(4, .int (zi 0)), (3, .int (zi 0)), (0, .ref (zad E 262)), (1, .int (zi a1)), (2, .int (zi a2))]) C dX12_usedUpTo_3 (by decide) rfl ?_
  refine r_L (L' := [(0, .ref (zad E 262)), (1, .int (zi a1)), (2, .int (zi a2)), (3, .int (zi 0)), (4, .int (zi 0))]) [2, 3, 4, 1, 0] rfl ?_
  refine r_loop1 (fun s7043 : Int × Int => IR s7043.1 ∧ IR s7043.2) (fun s7043 => S) (fun s7043 => O) (fun s7043 => [(0, .ref (zad E 262)), (1, .int (zi a1)), (2, .int (zi a2)), (3, .int (zi s7043.1)), (4, .int (zi s7043.2))]) [] (fun r7062 : Int => IR r7062) (fun r7062 => S) (fun r7062 => O) (fun r7062 => [(3, .int (zi r7062))]) 57 (fun r7062 h7063 => ?_) (fun k7045 k7047 k7046 k7048 s7043 h7044 => ?_) ⟨(IRd rfl), (IRd rfl)⟩
  · refine r_iload_n (pc := 57) (j := 0) C dX12_usedUpTo_57 rfl rfl ?_
    exact r_ireturn C hQ rfl dX12_usedUpTo_58 (fun e => by cases e; exact ⟨h7063, rfl, rfl, rfl, rfl, rfl⟩)
  · refine r_iload (pc := 5) (j := 4) C dX12_usedUpTo_5 rfl ?_
    refine r_aload_n (pc := 7) (j := 0) C dX12_usedUpTo_7 rfl rfl ?_
    refine r_getR (j := 46) (r := 282) C cl_X12 kd_262 ln_262 (by decide) rfl r0_262_46 (by decide) q_1599 dX12_usedUpTo_8 ?_
    refine r_sipush (v := 1485) C dX12_usedUpTo_11 (by decide) ?_
    refine r_iload_n (pc := 14) (j := 1) C dX12_usedUpTo_14 rfl rfl ?_
    refine r_iadd C dX12_usedUpTo_15 ?_
    refine r_bb ?_
    refine r_iald C kd_282 ln_282 gc_282 (IR_wr _) dX12_usedUpTo_16 (fun v7049 h7050 => ?_)
    refine r_icmp_ge (tgt := 57) C h7044.2 h7050 dX12_usedUpTo_17 (by decide) (fun c7051 => ?_) (fun c7051 => ?_)
    · refine r_bf c7051 ?_
      refine r_L (L' := [(3, .int (zi s7043.1))]) [3] rfl ?_
      exact k7048 s7043.1 h7044.1
    · refine r_bt c7051 ?_
      refine r_iload_n (pc := 20) (j := 3) C dX12_usedUpTo_20 rfl rfl ?_
      refine r_aload_n (pc := 21) (j := 0) C dX12_usedUpTo_21 rfl rfl ?_
      refine r_getR (j := 46) (r := 282) C cl_X12 kd_262 ln_262 (by decide) rfl r0_262_46 (by decide) q_1599 dX12_usedUpTo_22 ?_
      refine r_sipush (v := 1805) C dX12_usedUpTo_25 (by decide) ?_
      refine r_bipush (v := 6) C dX12_usedUpTo_28 (by decide) ?_
      refine r_iload_n (pc := 30) (j := 1) C dX12_usedUpTo_30 rfl rfl ?_
      refine r_imul C dX12_usedUpTo_31 ?_
      refine r_iadd C dX12_usedUpTo_32 ?_
      refine r_iload (pc := 33) (j := 4) C dX12_usedUpTo_33 rfl ?_
      refine r_iadd C dX12_usedUpTo_35 ?_
      refine r_bb ?_
      refine r_iald C kd_282 ln_282 gc_282 (IR_wr _) dX12_usedUpTo_36 (fun v7052 h7053 => ?_)
      refine r_iload_n (pc := 37) (j := 2) C dX12_usedUpTo_37 rfl rfl ?_
      refine r_bj ?_
      refine r_join (fun q7054 : Int => BR q7054) (fun q7054 => S) (fun q7054 => O) (fun q7054 => [(0, .ref (zad E 262)), (1, .int (zi a1)), (2, .int (zi a2)), (4, .int (zi s7043.2))]) 46 (fun q7054 => [.int (zi q7054), .int (zi s7043.1)]) (fun q7054 h7055 => ?_) (fun k7056 k7057 => ?_)
      · refine r_cS1 (pc := 46) (As := [.int (zi q7054)]) (st := [.int (zi s7043.1)]) C (m_X12_truth (a0 := q7054) h7055 rfl) cal_X12_truth q_1959 dX12_usedUpTo_46 rfl rfl (Nat.le_of_ble_eq_true rfl) (Nat.le_of_ble_eq_true rfl) (Nat.le_of_ble_eq_true rfl) (Nat.le_of_ble_eq_true rfl) (Nat.le_of_ble_eq_true rfl) (fun h7059 => ?_)
        refine r_iadd C dX12_usedUpTo_49 ?_
        refine r_bj ?_
        refine r_jv (IR_wr _) (fun v7060 h7061 => ?_)
        refine r_istore_n (L' := [(3, .int (zi v7060)), (0, .ref (zad E 262)), (1, .int (zi a1)), (2, .int (zi a2)), (4, .int (zi s7043.2))]) C dX12_usedUpTo_50 rfl (by decide) rfl ?_
        refine r_iinc (j := 4) (L' := [(4, .int (zi (wr (s7043.2 + 1)))), (3, .int (zi v7060)), (0, .ref (zad E 262)), (1, .int (zi a1)), (2, .int (zi a2))]) C dX12_usedUpTo_51 rfl (by decide) rfl ?_
        refine r_goto (tgt := 5) C dX12_usedUpTo_54 (by decide) ?_
        refine r_L (L' := [(0, .ref (zad E 262)), (1, .int (zi a1)), (2, .int (zi a2)), (3, .int (zi v7060)), (4, .int (zi (wr (s7043.2 + 1))))]) [2, 3, 4, 1, 0] rfl ?_
        exact k7046 (v7060, wr (s7043.2 + 1)) ⟨h7061, (IR_wr _)⟩
      · refine r_icmp_gt (tgt := 45) C h7053 ha2 dX12_usedUpTo_38 (by decide) (fun c7058 => ?_) (fun c7058 => ?_)
        · refine r_jt c7058 ?_
          refine r_iconst (v := 0) C dX12_usedUpTo_45 (by decide) ?_
          refine r_L (L' := [(0, .ref (zad E 262)), (1, .int (zi a1)), (2, .int (zi a2)), (4, .int (zi s7043.2))]) [0, 1, 2, 4] rfl ?_
          exact k7057 0 (BRd rfl)
        · refine r_jf c7058 ?_
          refine r_iconst (v := 1) C dX12_usedUpTo_41 (by decide) ?_
          refine r_goto (tgt := 46) C dX12_usedUpTo_42 (by decide) ?_
          refine r_L (L' := [(0, .ref (zad E 262)), (1, .int (zi a1)), (2, .int (zi a2)), (4, .int (zi s7043.2))]) [0, 1, 2, 4] rfl ?_
          exact k7057 1 (BRd rfl)

def f_X12_readAt (a1 : Int) (a2 : Int) (a3 : Int) (O : Smo) : Option (Int) :=
  jn (
    if a2 = 0 then
      (845)
    else
      (1165)) fun (q7090 : Int) =>
  Option.bind (aget (O 282) (Ln 282) (wr (q7090 + a1))) fun (v7095 : Int) =>
  Option.bind (lp (fun (s7097 : Int × Int) =>
    Option.bind (f_X12_usedUpTo a1 a3 O) fun (q7104 : Int) =>
    if s7097.2 < q7104 then
      (Option.bind (aget (O 282) (Ln 282) (wr ((wr (3725 + (wr (6 * a1)))) + s7097.2))) fun (v7107 : Int) =>
      Option.bind (
        if v7107 = a2 then
          (Option.bind (aget (O 282) (Ln 282) (wr ((wr (5645 + (wr (6 * a1)))) + s7097.2))) fun (v7114 : Int) =>
          some v7114)
        else
          (some s7097.1)) fun (q7109 : Int) =>
      some (Sum.inl (q7109, wr (s7097.2 + 1))))
    else
      (some (Sum.inr s7097.1))) FU (v7095, 0)) fun (r7116 : Int) =>
  some r7116
set_option maxRecDepth 100000 in
set_option maxHeartbeats 4000000 in
theorem m_X12_readAt {l : Launch} {E : EwT} {S : Sst} {O : Smo} {a1 : Int} (ha1 : IR a1) {a2 : Int} (ha2 : IR a2) {a3 : Int} (ha3 : IR a3) {q : Int} (hq : f_X12_readAt a1 a2 a3 O = some q) : MetG l E yX12_readAt cX12_readAt 6 (some .int) 2 44 0 0 n0 R0 S O [.ref (zad E 262), .int (zi a1), .int (zi a2), .int (zi a3)] (IR q) (some (.int (zi q))) n0 R0 S O := by
  refine ofG (L0 := [(0, .ref (zad E 262)), (1, .int (zi a1)), (2, .int (zi a2)), (3, .int (zi a3))]) hq (by decide +kernel) (Nat.le_of_ble_eq_true rfl) rfl (fun K _ C hQ => ?_)
  unfold f_X12_readAt
  refine r_aload_n (pc := 0) (j := 0) C dX12_readAt_0 rfl rfl ?_
  refine r_getR (j := 46) (r := 282) C cl_X12 kd_262 ln_262 (by decide) rfl r0_262_46 (by decide) q_1599 dX12_readAt_1 ?_
  refine r_iload_n (pc := 4) (j := 2) C dX12_readAt_4 rfl rfl ?_
  refine r_join (fun q7090 : Int => IR q7090) (fun q7090 => S) (fun q7090 => O) (fun q7090 => [(0, .ref (zad E 262)), (1, .int (zi a1)), (2, .int (zi a2)), (3, .int (zi a3))]) 17 (fun q7090 => [.int (zi q7090), .ref (zad E 282)]) (fun q7090 h7091 => ?_) (fun k7092 k7093 => ?_)
  · refine r_iload_n (pc := 17) (j := 1) C dX12_readAt_17 rfl rfl ?_
    refine r_iadd C dX12_readAt_18 ?_
    refine r_iald C kd_282 ln_282 gc_282 (IR_wr _) dX12_readAt_19 (fun v7095 h7096 => ?_)
    refine r_istore (L' := [(4, .int (zi v7095)), (0, .ref (zad E 262)), (1, .int (zi a1)), (2, .int (zi a2)), (3, .int (zi a3))]) C dX12_readAt_20 (by decide) rfl ?_
    refine r_iconst (v := 0) C dX12_readAt_22 (by decide) ?_
    refine r_istore (L' := [(5, .int (zi 0)), (4, .int (zi v7095)), (0, .ref (zad E 262)), (1, .int (zi a1)), (2, .int (zi a2)), (3, .int (zi a3))]) C dX12_readAt_23 (by decide) rfl ?_
    refine r_L (L' := [(0, .ref (zad E 262)), (1, .int (zi a1)), (2, .int (zi a2)), (3, .int (zi a3)), (4, .int (zi v7095)), (5, .int (zi 0))]) [2, 3, 4, 5, 1, 0] rfl ?_
    refine r_loop1 (fun s7097 : Int × Int => IR s7097.1 ∧ IR s7097.2) (fun s7097 => S) (fun s7097 => O) (fun s7097 => [(0, .ref (zad E 262)), (1, .int (zi a1)), (2, .int (zi a2)), (3, .int (zi a3)), (4, .int (zi s7097.1)), (5, .int (zi s7097.2))]) [] (fun r7116 : Int => IR r7116) (fun r7116 => S) (fun r7116 => O) (fun r7116 => [(4, .int (zi r7116))]) 85 (fun r7116 h7117 => ?_) (fun k7099 k7101 k7100 k7102 s7097 h7098 => ?_) ⟨h7096, (IRd rfl)⟩
    · refine r_iload (pc := 85) (j := 0) C dX12_readAt_85 rfl ?_
      exact r_ireturn C hQ rfl dX12_readAt_87 (fun e => by cases e; exact ⟨h7117, rfl, rfl, rfl, rfl, rfl⟩)
    · refine r_iload (pc := 25) (j := 5) C dX12_readAt_25 rfl ?_
      refine r_aload_n (pc := 27) (j := 0) C dX12_readAt_27 rfl rfl ?_
      refine r_iload_n (pc := 28) (j := 1) C dX12_readAt_28 rfl rfl ?_
      refine r_iload_n (pc := 29) (j := 3) C dX12_readAt_29 rfl rfl ?_
      refine r_bb ?_
      refine r_bd (fun q7104 e7105 => ?_)
      refine r_cV1 (pc := 30) (k := 262) (As := [.int (zi a1), .int (zi a3)]) (st := [.int (zi s7097.2)]) C (m_X12_usedUpTo (a1 := a1) (a2 := a3) ha1 ha3 e7105) cal_X12_usedUpTo cl_X12 kd_262 ln_262 q_2024 dX12_readAt_30 rfl rfl (Nat.le_of_ble_eq_true rfl) (Nat.le_of_ble_eq_true rfl) (Nat.le_of_ble_eq_true rfl) (Nat.le_of_ble_eq_true rfl) (Nat.le_of_ble_eq_true rfl) (fun h7103 => ?_)
      refine r_icmp_ge (tgt := 85) C h7098.2 h7103 dX12_readAt_33 (by decide) (fun c7106 => ?_) (fun c7106 => ?_)
      · refine r_bf c7106 ?_
        refine r_L (L' := [(4, .int (zi s7097.1))]) [4] rfl ?_
        exact k7102 s7097.1 h7098.1
      · refine r_bt c7106 ?_
        refine r_aload_n (pc := 36) (j := 0) C dX12_readAt_36 rfl rfl ?_
        refine r_getR (j := 46) (r := 282) C cl_X12 kd_262 ln_262 (by decide) rfl r0_262_46 (by decide) q_1599 dX12_readAt_37 ?_
        refine r_sipush (v := 3725) C dX12_readAt_40 (by decide) ?_
        refine r_bipush (v := 6) C dX12_readAt_43 (by decide) ?_
        refine r_iload_n (pc := 45) (j := 1) C dX12_readAt_45 rfl rfl ?_
        refine r_imul C dX12_readAt_46 ?_
        refine r_iadd C dX12_readAt_47 ?_
        refine r_iload (pc := 48) (j := 5) C dX12_readAt_48 rfl ?_
        refine r_iadd C dX12_readAt_50 ?_
        refine r_bb ?_
        refine r_iald C kd_282 ln_282 gc_282 (IR_wr _) dX12_readAt_51 (fun v7107 h7108 => ?_)
        refine r_iload_n (pc := 52) (j := 2) C dX12_readAt_52 rfl rfl ?_
        refine r_bb ?_
        refine r_joinb (fun q7109 : Int => IR q7109) (fun q7109 => S) (fun q7109 => O) (fun q7109 => [(0, .ref (zad E 262)), (1, .int (zi a1)), (2, .int (zi a2)), (3, .int (zi a3)), (5, .int (zi s7097.2))]) 77 (fun q7109 => [.int (zi q7109)]) (fun q7109 h7110 => ?_) (fun k7111 k7112 => ?_)
        · refine r_istore (L' := [(4, .int (zi q7109)), (0, .ref (zad E 262)), (1, .int (zi a1)), (2, .int (zi a2)), (3, .int (zi a3)), (5, .int (zi s7097.2))]) C dX12_readAt_77 (by decide) rfl ?_
          refine r_iinc (j := 5) (L' := [(5, .int (zi (wr (s7097.2 + 1)))), (4, .int (zi q7109)), (0, .ref (zad E 262)), (1, .int (zi a1)), (2, .int (zi a2)), (3, .int (zi a3))]) C dX12_readAt_79 rfl (by decide) rfl ?_
          refine r_goto (tgt := 25) C dX12_readAt_82 (by decide) ?_
          refine r_L (L' := [(0, .ref (zad E 262)), (1, .int (zi a1)), (2, .int (zi a2)), (3, .int (zi a3)), (4, .int (zi q7109)), (5, .int (zi (wr (s7097.2 + 1))))]) [2, 3, 4, 5, 1, 0] rfl ?_
          exact k7100 (q7109, wr (s7097.2 + 1)) ⟨h7110, (IR_wr _)⟩
        · refine r_icmp_ne (tgt := 75) C h7108 ha2 dX12_readAt_53 (by decide) (fun c7113 => ?_) (fun c7113 => ?_)
          · refine r_bf c7113 ?_
            refine r_iload (pc := 75) (j := 4) C dX12_readAt_75 rfl ?_
            refine r_L (L' := [(0, .ref (zad E 262)), (1, .int (zi a1)), (2, .int (zi a2)), (3, .int (zi a3)), (5, .int (zi s7097.2))]) [0, 1, 2, 3, 5] rfl ?_
            exact k7112 s7097.1 h7098.1
          · refine r_bt c7113 ?_
            refine r_aload_n (pc := 56) (j := 0) C dX12_readAt_56 rfl rfl ?_
            refine r_getR (j := 46) (r := 282) C cl_X12 kd_262 ln_262 (by decide) rfl r0_262_46 (by decide) q_1599 dX12_readAt_57 ?_
            refine r_sipush (v := 5645) C dX12_readAt_60 (by decide) ?_
            refine r_bipush (v := 6) C dX12_readAt_63 (by decide) ?_
            refine r_iload_n (pc := 65) (j := 1) C dX12_readAt_65 rfl rfl ?_
            refine r_imul C dX12_readAt_66 ?_
            refine r_iadd C dX12_readAt_67 ?_
            refine r_iload (pc := 68) (j := 5) C dX12_readAt_68 rfl ?_
            refine r_iadd C dX12_readAt_70 ?_
            refine r_bb ?_
            refine r_iald C kd_282 ln_282 gc_282 (IR_wr _) dX12_readAt_71 (fun v7114 h7115 => ?_)
            refine r_goto (tgt := 77) C dX12_readAt_72 (by decide) ?_
            refine r_L (L' := [(0, .ref (zad E 262)), (1, .int (zi a1)), (2, .int (zi a2)), (3, .int (zi a3)), (5, .int (zi s7097.2))]) [0, 1, 2, 3, 5] rfl ?_
            exact k7112 v7114 h7115
  · refine r_if_ne (tgt := 14) C ha2 dX12_readAt_5 (by decide) (fun c7094 => ?_) (fun c7094 => ?_)
    · refine r_jf c7094 ?_
      refine r_sipush (v := 1165) C dX12_readAt_14 (by decide) ?_
      exact k7093 1165 (IRd rfl)
    · refine r_jt c7094 ?_
      refine r_sipush (v := 845) C dX12_readAt_8 (by decide) ?_
      refine r_goto (tgt := 17) C dX12_readAt_11 (by decide) ?_
      exact k7093 845 (IRd rfl)

def f_X12_nodeOf (a1 : Int) (a2 : Int) (O : Smo) : Option (Int) :=
  jk (fun (q7144 : Unit) =>
    some (-1)) fun k7146 =>
  if a1 < 0 then
    (k7146 ())
  else
    (Option.bind (f_X12_setOf a2 O) fun (q7150 : Int) =>
    if f_X12_has q7150 a1 = 0 then
      (k7146 ())
    else
      (Option.bind (lp (fun (s7154 : Int × Int) =>
        Option.bind (aget (O 282) (Ln 282) (wr (164 + a2))) fun (v7160 : Int) =>
        if s7154.2 < v7160 then
          (Option.bind (aget (O 282) (Ln 282) (wr (205 + s7154.2))) fun (v7163 : Int) =>
          jn (
            if v7163 = a1 then
              (s7154.2)
            else
              (s7154.1)) fun (q7165 : Int) =>
          some (Sum.inl (q7165, wr (s7154.2 + 1))))
        else
          (some (Sum.inr s7154.1))) FU ((-1), 0)) fun (r7170 : Int) =>
      some r7170))
set_option maxRecDepth 100000 in
set_option maxHeartbeats 4000000 in
theorem m_X12_nodeOf {l : Launch} {E : EwT} {S : Sst} {O : Smo} {a1 : Int} (ha1 : IR a1) {a2 : Int} (ha2 : IR a2) {q : Int} (hq : f_X12_nodeOf a1 a2 O = some q) : MetG l E yX12_nodeOf cX12_nodeOf 5 (some .int) 1 21 0 0 n0 R0 S O [.ref (zad E 262), .int (zi a1), .int (zi a2)] (IR q) (some (.int (zi q))) n0 R0 S O := by
  refine ofG (L0 := [(0, .ref (zad E 262)), (1, .int (zi a1)), (2, .int (zi a2))]) hq (by decide +kernel) (Nat.le_of_ble_eq_true rfl) rfl (fun K _ C hQ => ?_)
  unfold f_X12_nodeOf
  refine r_iload_n (pc := 0) (j := 1) C dX12_nodeOf_0 rfl rfl ?_
  refine r_jk (fun q7144 : Unit => True) (fun q7144 => S) (fun q7144 => O) (fun q7144 => []) 16 (fun q7144 => []) (fun q7144 h7145 => ?_) (fun k7146 k7147 => ?_)
  · refine r_iconst (v := (-1)) C dX12_nodeOf_16 (by decide) ?_
    exact r_ireturn C hQ rfl dX12_nodeOf_17 (fun e => by cases e; exact ⟨(IRd rfl), rfl, rfl, rfl, rfl, rfl⟩)
  · refine r_if_lt (tgt := 16) C ha1 dX12_nodeOf_1 (by decide) (fun c7148 => ?_) (fun c7148 => ?_)
    · refine r_t c7148 ?_
      refine r_L (L' := []) [] rfl ?_
      exact k7147 () trivial
    · refine r_f c7148 ?_
      refine r_aload_n (pc := 4) (j := 0) C dX12_nodeOf_4 rfl rfl ?_
      refine r_iload_n (pc := 5) (j := 2) C dX12_nodeOf_5 rfl rfl ?_
      refine r_bd (fun q7150 e7151 => ?_)
      refine r_cV1 (pc := 6) (k := 262) (As := [.int (zi a2)]) (st := []) C (m_X12_setOf (a1 := a2) ha2 e7151) cal_X12_setOf cl_X12 kd_262 ln_262 q_2008 dX12_nodeOf_6 rfl rfl (Nat.le_of_ble_eq_true rfl) (Nat.le_of_ble_eq_true rfl) (Nat.le_of_ble_eq_true rfl) (Nat.le_of_ble_eq_true rfl) (Nat.le_of_ble_eq_true rfl) (fun h7149 => ?_)
      refine r_iload_n (pc := 9) (j := 1) C dX12_nodeOf_9 rfl rfl ?_
      refine r_cS1 (pc := 10) (As := [.int (zi q7150), .int (zi a1)]) (st := []) C (m_X12_has (a0 := q7150) (a1 := a1) h7149 ha1 rfl) cal_X12_has q_2040 dX12_nodeOf_10 rfl rfl (Nat.le_of_ble_eq_true rfl) (Nat.le_of_ble_eq_true rfl) (Nat.le_of_ble_eq_true rfl) (Nat.le_of_ble_eq_true rfl) (Nat.le_of_ble_eq_true rfl) (fun h7152 => ?_)
      refine r_if_ne (tgt := 18) C h7152.ir dX12_nodeOf_13 (by decide) (fun c7153 => ?_) (fun c7153 => ?_)
      · refine r_f c7153 ?_
        refine r_iconst (v := (-1)) C dX12_nodeOf_18 (by decide) ?_
        refine r_istore_n (L' := [(3, .int (zi (-1))), (0, .ref (zad E 262)), (1, .int (zi a1)), (2, .int (zi a2))]) C dX12_nodeOf_19 rfl (by decide) rfl ?_
        refine r_iconst (v := 0) C dX12_nodeOf_20 (by decide) ?_
        refine r_istore (L' := [(4, .int (zi 0)), (3, .int (zi (-1))), (0, .ref (zad E 262)), (1, .int (zi a1)), (2, .int (zi a2))]) C dX12_nodeOf_21 (by decide) rfl ?_
        refine r_L (L' := [(0, .ref (zad E 262)), (1, .int (zi a1)), (2, .int (zi a2)), (3, .int (zi (-1))), (4, .int (zi 0))]) [2, 3, 4, 1, 0] rfl ?_
        refine r_loop1 (fun s7154 : Int × Int => IR s7154.1 ∧ IR s7154.2) (fun s7154 => S) (fun s7154 => O) (fun s7154 => [(0, .ref (zad E 262)), (1, .int (zi a1)), (2, .int (zi a2)), (3, .int (zi s7154.1)), (4, .int (zi s7154.2))]) [] (fun r7170 : Int => IR r7170) (fun r7170 => S) (fun r7170 => O) (fun r7170 => [(3, .int (zi r7170))]) 66 (fun r7170 h7171 => ?_) (fun k7156 k7158 k7157 k7159 s7154 h7155 => ?_) ⟨(IRd rfl), (IRd rfl)⟩
        · refine r_iload_n (pc := 66) (j := 0) C dX12_nodeOf_66 rfl rfl ?_
          exact r_ireturn C hQ rfl dX12_nodeOf_67 (fun e => by cases e; exact ⟨h7171, rfl, rfl, rfl, rfl, rfl⟩)
        · refine r_iload (pc := 23) (j := 4) C dX12_nodeOf_23 rfl ?_
          refine r_aload_n (pc := 25) (j := 0) C dX12_nodeOf_25 rfl rfl ?_
          refine r_getR (j := 46) (r := 282) C cl_X12 kd_262 ln_262 (by decide) rfl r0_262_46 (by decide) q_1599 dX12_nodeOf_26 ?_
          refine r_sipush (v := 164) C dX12_nodeOf_29 (by decide) ?_
          refine r_iload_n (pc := 32) (j := 2) C dX12_nodeOf_32 rfl rfl ?_
          refine r_iadd C dX12_nodeOf_33 ?_
          refine r_bb ?_
          refine r_iald C kd_282 ln_282 gc_282 (IR_wr _) dX12_nodeOf_34 (fun v7160 h7161 => ?_)
          refine r_icmp_ge (tgt := 66) C h7155.2 h7161 dX12_nodeOf_35 (by decide) (fun c7162 => ?_) (fun c7162 => ?_)
          · refine r_bf c7162 ?_
            refine r_L (L' := [(3, .int (zi s7154.1))]) [3] rfl ?_
            exact k7159 s7154.1 h7155.1
          · refine r_bt c7162 ?_
            refine r_aload_n (pc := 38) (j := 0) C dX12_nodeOf_38 rfl rfl ?_
            refine r_getR (j := 46) (r := 282) C cl_X12 kd_262 ln_262 (by decide) rfl r0_262_46 (by decide) q_1599 dX12_nodeOf_39 ?_
            refine r_sipush (v := 205) C dX12_nodeOf_42 (by decide) ?_
            refine r_iload (pc := 45) (j := 4) C dX12_nodeOf_45 rfl ?_
            refine r_iadd C dX12_nodeOf_47 ?_
            refine r_bb ?_
            refine r_iald C kd_282 ln_282 gc_282 (IR_wr _) dX12_nodeOf_48 (fun v7163 h7164 => ?_)
            refine r_iload_n (pc := 49) (j := 1) C dX12_nodeOf_49 rfl rfl ?_
            refine r_bj ?_
            refine r_join (fun q7165 : Int => IR q7165) (fun q7165 => S) (fun q7165 => O) (fun q7165 => [(0, .ref (zad E 262)), (1, .int (zi a1)), (2, .int (zi a2)), (4, .int (zi s7154.2))]) 59 (fun q7165 => [.int (zi q7165)]) (fun q7165 h7166 => ?_) (fun k7167 k7168 => ?_)
            · refine r_istore_n (L' := [(3, .int (zi q7165)), (0, .ref (zad E 262)), (1, .int (zi a1)), (2, .int (zi a2)), (4, .int (zi s7154.2))]) C dX12_nodeOf_59 rfl (by decide) rfl ?_
              refine r_iinc (j := 4) (L' := [(4, .int (zi (wr (s7154.2 + 1)))), (3, .int (zi q7165)), (0, .ref (zad E 262)), (1, .int (zi a1)), (2, .int (zi a2))]) C dX12_nodeOf_60 rfl (by decide) rfl ?_
              refine r_goto (tgt := 23) C dX12_nodeOf_63 (by decide) ?_
              refine r_L (L' := [(0, .ref (zad E 262)), (1, .int (zi a1)), (2, .int (zi a2)), (3, .int (zi q7165)), (4, .int (zi (wr (s7154.2 + 1))))]) [2, 3, 4, 1, 0] rfl ?_
              exact k7157 (q7165, wr (s7154.2 + 1)) ⟨h7166, (IR_wr _)⟩
            · refine r_icmp_ne (tgt := 58) C h7164 ha1 dX12_nodeOf_50 (by decide) (fun c7169 => ?_) (fun c7169 => ?_)
              · refine r_jf c7169 ?_
                refine r_iload_n (pc := 58) (j := 3) C dX12_nodeOf_58 rfl rfl ?_
                refine r_L (L' := [(0, .ref (zad E 262)), (1, .int (zi a1)), (2, .int (zi a2)), (4, .int (zi s7154.2))]) [0, 1, 2, 4] rfl ?_
                exact k7168 s7154.1 h7155.1
              · refine r_jt c7169 ?_
                refine r_iload (pc := 53) (j := 4) C dX12_nodeOf_53 rfl ?_
                refine r_goto (tgt := 59) C dX12_nodeOf_55 (by decide) ?_
                refine r_L (L' := [(0, .ref (zad E 262)), (1, .int (zi a1)), (2, .int (zi a2)), (4, .int (zi s7154.2))]) [0, 1, 2, 4] rfl ?_
                exact k7168 s7154.2 h7155.2
      · refine r_t c7153 ?_
        refine r_L (L' := []) [] rfl ?_
        exact k7147 () trivial

def f_X12_isHeavier (a1 : Int) (a2 : Int) (O : Smo) : Option (Int) :=
  Option.bind (aget (O 280) (Ln 280) a1) fun (v7172 : Int) =>
  Option.bind (aget (O 280) (Ln 280) a2) fun (v7174 : Int) =>
  jk (fun (q7176 : Unit) =>
    some 1) fun k7178 =>
  if v7174 < v7172 then
    (k7178 ())
  else
    (Option.bind (aget (O 280) (Ln 280) a1) fun (v7181 : Int) =>
    Option.bind (aget (O 280) (Ln 280) a2) fun (v7183 : Int) =>
    if (v7181 = v7183 ∧ a1 < a2) then
      (k7178 ())
    else
      (some 0))
set_option maxRecDepth 100000 in
set_option maxHeartbeats 4000000 in
theorem m_X12_isHeavier {l : Launch} {E : EwT} {S : Sst} {O : Smo} {a1 : Int} (ha1 : IR a1) {a2 : Int} (ha2 : IR a2) {q : Int} (hq : f_X12_isHeavier a1 a2 O = some q) : MetG l E yX12_isHeavier cX12_isHeavier 3 (some .boolean) 0 0 0 0 n0 R0 S O [.ref (zad E 262), .int (zi a1), .int (zi a2)] (BR q) (some (.int (zi q))) n0 R0 S O := by
  refine ofG (L0 := [(0, .ref (zad E 262)), (1, .int (zi a1)), (2, .int (zi a2))]) hq (by decide +kernel) (Nat.le_of_ble_eq_true rfl) rfl (fun K _ C hQ => ?_)
  unfold f_X12_isHeavier
  refine r_aload_n (pc := 0) (j := 0) C dX12_isHeavier_0 rfl rfl ?_
  refine r_getR (j := 35) (r := 280) C cl_X12 kd_262 ln_262 (by decide) rfl r0_262_35 (by decide) q_1588 dX12_isHeavier_1 ?_
  refine r_iload_n (pc := 4) (j := 1) C dX12_isHeavier_4 rfl rfl ?_
  refine r_iald C kd_280 ln_280 gc_280 ha1 dX12_isHeavier_5 (fun v7172 h7173 => ?_)
  refine r_aload_n (pc := 6) (j := 0) C dX12_isHeavier_6 rfl rfl ?_
  refine r_getR (j := 35) (r := 280) C cl_X12 kd_262 ln_262 (by decide) rfl r0_262_35 (by decide) q_1588 dX12_isHeavier_7 ?_
  refine r_iload_n (pc := 10) (j := 2) C dX12_isHeavier_10 rfl rfl ?_
  refine r_iald C kd_280 ln_280 gc_280 ha2 dX12_isHeavier_11 (fun v7174 h7175 => ?_)
  refine r_jk (fun q7176 : Unit => True) (fun q7176 => S) (fun q7176 => O) (fun q7176 => []) 35 (fun q7176 => []) (fun q7176 h7177 => ?_) (fun k7178 k7179 => ?_)
  · refine r_iconst (v := 1) C dX12_isHeavier_35 (by decide) ?_
    refine r_goto (tgt := 40) C dX12_isHeavier_36 (by decide) ?_
    exact r_ireturn C hQ (nar_z (BRd rfl)) dX12_isHeavier_40 (fun e => by cases e; exact ⟨(BRd rfl), rfl, rfl, rfl, rfl, rfl⟩)
  · refine r_icmp_gt (tgt := 35) C h7173 h7175 dX12_isHeavier_12 (by decide) (fun c7180 => ?_) (fun c7180 => ?_)
    · refine r_t c7180 ?_
      refine r_L (L' := []) [] rfl ?_
      exact k7179 () trivial
    · refine r_f c7180 ?_
      refine r_aload_n (pc := 15) (j := 0) C dX12_isHeavier_15 rfl rfl ?_
      refine r_getR (j := 35) (r := 280) C cl_X12 kd_262 ln_262 (by decide) rfl r0_262_35 (by decide) q_1588 dX12_isHeavier_16 ?_
      refine r_iload_n (pc := 19) (j := 1) C dX12_isHeavier_19 rfl rfl ?_
      refine r_iald C kd_280 ln_280 gc_280 ha1 dX12_isHeavier_20 (fun v7181 h7182 => ?_)
      refine r_aload_n (pc := 21) (j := 0) C dX12_isHeavier_21 rfl rfl ?_
      refine r_getR (j := 35) (r := 280) C cl_X12 kd_262 ln_262 (by decide) rfl r0_262_35 (by decide) q_1588 dX12_isHeavier_22 ?_
      refine r_iload_n (pc := 25) (j := 2) C dX12_isHeavier_25 rfl rfl ?_
      refine r_iald C kd_280 ln_280 gc_280 ha2 dX12_isHeavier_26 (fun v7183 h7184 => ?_)
      refine r_cut (v7181 = v7183 ∧ a1 < a2) 35 39 [] (fun c7185 => ?_) (fun c7185 => ?_) (fun k7186 k7187 => ?_)
      · refine r_t c7185 ?_
        refine r_L (L' := []) [] rfl ?_
        exact k7179 () trivial
      · refine r_f c7185 ?_
        refine r_iconst (v := 0) C dX12_isHeavier_39 (by decide) ?_
        exact r_ireturn C hQ (nar_z (BRd rfl)) dX12_isHeavier_40 (fun e => by cases e; exact ⟨(BRd rfl), rfl, rfl, rfl, rfl, rfl⟩)
      · refine r_icmp_ne (tgt := 39) C h7182 h7184 dX12_isHeavier_27 (by decide) (fun c7188 => ?_) (fun c7188 => ?_)
        · exact k7187 (fun w => c7188 w.1)
        · refine r_iload_n (pc := 30) (j := 1) C dX12_isHeavier_30 rfl rfl ?_
          refine r_iload_n (pc := 31) (j := 2) C dX12_isHeavier_31 rfl rfl ?_
          refine r_icmp_ge (tgt := 39) C ha1 ha2 dX12_isHeavier_32 (by decide) (fun c7189 => ?_) (fun c7189 => ?_)
          · exact k7187 (fun w => c7189 w.2)
          · exact k7186 ⟨c7188, c7189⟩

def f_X12_layRow (a1 : Int) (a2 : Int) (O : Smo) : Option (Smo) :=
  jn (up2 O 262 58 0) fun (O7229 : Smo) =>
  Option.bind (lp (fun (s7230 : Int × Smo) =>
    if s7230.1 < s7230.2 262 39 then
      (Option.bind (
        if f_X12_has a1 s7230.1 = 0 then
          (some s7230.2)
        else
          (jn (s7230.2 262 58) fun (v7245 : Int) =>
          Option.bind (lp (fun (s7247 : Int × Smo) =>
            if 0 < s7247.1 then
              (Option.bind (aget (s7247.2 283) (Ln 283) (wr (s7247.1 - 1))) fun (v7254 : Int) =>
              Option.bind (f_X12_isHigher v7254 s7230.1 a2 s7247.2) fun (q7257 : Int) =>
              if q7257 = 0 then
                (some (Sum.inr (s7247.1, s7247.2)))
              else
                (Option.bind (aget (s7247.2 283) (Ln 283) (wr (s7247.1 - 1))) fun (v7260 : Int) =>
                Option.bind (asetO s7247.2 283 (Ln 283) s7247.1 v7260) fun (O7262 : Smo) =>
                some (Sum.inl (wr (s7247.1 + (-1)), O7262))))
            else
              (some (Sum.inr (s7247.1, s7247.2)))) FU (v7245, s7230.2)) fun (r7263 : Int × Smo) =>
          Option.bind (asetO r7263.2 283 (Ln 283) r7263.1 s7230.1) fun (O7265 : Smo) =>
          jn (up2 O7265 262 58 (wr ((O7265 262 58) + 1))) fun (O7267 : Smo) =>
          some O7267)) fun (q7239 : Smo) =>
      some (Sum.inl (wr (s7230.1 + 1), q7239)))
    else
      (some (Sum.inr s7230.2))) FU (0, O7229)) fun (r7268 : Smo) =>
  some r7268
set_option maxRecDepth 100000 in
set_option maxHeartbeats 4000000 in
theorem m_X12_layRow {l : Launch} {E : EwT} {S : Sst} {O : Smo} {a1 : Int} (ha1 : IR a1) {a2 : Int} (ha2 : IR a2) {q : Smo} (hq : f_X12_layRow a1 a2 O = some q) : MetG l E yX12_layRow cX12_layRow 5 none 2 50 0 0 n0 R0 S O [.ref (zad E 262), .int (zi a1), .int (zi a2)] (True) none n0 R0 S q := by
  refine ofG (L0 := [(0, .ref (zad E 262)), (1, .int (zi a1)), (2, .int (zi a2))]) hq (by decide +kernel) (Nat.le_of_ble_eq_true rfl) rfl (fun K _ C hQ => ?_)
  unfold f_X12_layRow
  refine r_aload_n (pc := 0) (j := 0) C dX12_layRow_0 rfl rfl ?_
  refine r_iconst (v := 0) C dX12_layRow_1 (by decide) ?_
  refine r_putO C cl_X12 kd_262 ln_262 gc_262 (by decide) (by decide) rfl rfl rfl (IRd rfl) q_1611 dX12_layRow_2 (fun O7229 => ?_)
  refine r_iconst (v := 0) C dX12_layRow_5 (by decide) ?_
  refine r_istore_n (L' := [(3, .int (zi 0)), (0, .ref (zad E 262)), (1, .int (zi a1)), (2, .int (zi a2))]) C dX12_layRow_6 rfl (by decide) rfl ?_
  refine r_L (L' := [(0, .ref (zad E 262)), (1, .int (zi a1)), (2, .int (zi a2)), (3, .int (zi 0))]) [1, 2, 3, 0] rfl ?_
  refine r_loop1 (fun s7230 : Int × Smo => IR s7230.1) (fun s7230 => S) (fun s7230 => s7230.2) (fun s7230 => [(0, .ref (zad E 262)), (1, .int (zi a1)), (2, .int (zi a2)), (3, .int (zi s7230.1))]) [] (fun r7268 : Smo => True) (fun r7268 => S) (fun r7268 => r7268) (fun r7268 => []) 101 (fun r7268 h7269 => ?_) (fun k7232 k7234 k7233 k7235 s7230 h7231 => ?_) (IRd rfl)
  · exact r_return C hQ dX12_layRow_101 (fun e => by cases e; exact ⟨trivial, rfl, rfl, rfl, rfl, rfl⟩)
  · refine r_iload_n (pc := 7) (j := 3) C dX12_layRow_7 rfl rfl ?_
    refine r_aload_n (pc := 8) (j := 0) C dX12_layRow_8 rfl rfl ?_
    refine r_getO (j := 39) C cl_X12 kd_262 ln_262 gc_262 (by decide) (by decide) rfl q_1592 dX12_layRow_9 (fun h7236 => ?_)
    refine r_icmp_ge (tgt := 101) C h7231 h7236 dX12_layRow_12 (by decide) (fun c7237 => ?_) (fun c7237 => ?_)
    · refine r_bf c7237 ?_
      refine r_L (L' := []) [] rfl ?_
      exact k7235 s7230.2 trivial
    · refine r_bt c7237 ?_
      refine r_iload_n (pc := 15) (j := 1) C dX12_layRow_15 rfl rfl ?_
      refine r_iload_n (pc := 16) (j := 3) C dX12_layRow_16 rfl rfl ?_
      refine r_cS1 (pc := 17) (As := [.int (zi a1), .int (zi s7230.1)]) (st := []) C (m_X12_has (a0 := a1) (a1 := s7230.1) ha1 h7231 rfl) cal_X12_has q_2040 dX12_layRow_17 rfl rfl (Nat.le_of_ble_eq_true rfl) (Nat.le_of_ble_eq_true rfl) (Nat.le_of_ble_eq_true rfl) (Nat.le_of_ble_eq_true rfl) (Nat.le_of_ble_eq_true rfl) (fun h7238 => ?_)
      refine r_bb ?_
      refine r_joinb (fun q7239 : Smo => True) (fun q7239 => S) (fun q7239 => q7239) (fun q7239 => [(0, .ref (zad E 262)), (1, .int (zi a1)), (2, .int (zi a2)), (3, .int (zi s7230.1))]) 95 (fun q7239 => []) (fun q7239 h7240 => ?_) (fun k7241 k7242 => ?_)
      · refine r_iinc (j := 3) (L' := [(3, .int (zi (wr (s7230.1 + 1)))), (0, .ref (zad E 262)), (1, .int (zi a1)), (2, .int (zi a2))]) C dX12_layRow_95 rfl (by decide) rfl ?_
        refine r_goto (tgt := 7) C dX12_layRow_98 (by decide) ?_
        refine r_L (L' := [(0, .ref (zad E 262)), (1, .int (zi a1)), (2, .int (zi a2)), (3, .int (zi (wr (s7230.1 + 1))))]) [1, 2, 3, 0] rfl ?_
        exact k7233 (wr (s7230.1 + 1), q7239) (IR_wr _)
      · refine r_if_ne (tgt := 26) C h7238.ir dX12_layRow_20 (by decide) (fun c7243 => ?_) (fun c7243 => ?_)
        · refine r_bf c7243 ?_
          refine r_aload_n (pc := 26) (j := 0) C dX12_layRow_26 rfl rfl ?_
          refine r_getO (j := 58) C cl_X12 kd_262 ln_262 gc_262 (by decide) (by decide) rfl q_1611 dX12_layRow_27 (fun h7244 => ?_)
          refine r_bj ?_
          refine r_jv h7244 (fun v7245 h7246 => ?_)
          refine r_istore (L' := [(4, .int (zi v7245)), (0, .ref (zad E 262)), (1, .int (zi a1)), (2, .int (zi a2)), (3, .int (zi s7230.1))]) C dX12_layRow_30 (by decide) rfl ?_
          refine r_L (L' := [(0, .ref (zad E 262)), (1, .int (zi a1)), (2, .int (zi a2)), (3, .int (zi s7230.1)), (4, .int (zi v7245))]) [1, 2, 3, 4, 0] rfl ?_
          refine r_bb ?_
          refine r_loop1 (fun s7247 : Int × Smo => IR s7247.1) (fun s7247 => S) (fun s7247 => s7247.2) (fun s7247 => [(0, .ref (zad E 262)), (1, .int (zi a1)), (2, .int (zi a2)), (3, .int (zi s7230.1)), (4, .int (zi s7247.1))]) [] (fun r7263 : Int × Smo => IR r7263.1) (fun r7263 => S) (fun r7263 => r7263.2) (fun r7263 => [(0, .ref (zad E 262)), (1, .int (zi a1)), (2, .int (zi a2)), (3, .int (zi s7230.1)), (4, .int (zi r7263.1))]) 77 (fun r7263 h7264 => ?_) (fun k7249 k7251 k7250 k7252 s7247 h7248 => ?_) h7246
          · refine r_aload_n (pc := 77) (j := 0) C dX12_layRow_77 rfl rfl ?_
            refine r_getR (j := 50) (r := 283) C cl_X12 kd_262 ln_262 (by decide) rfl r0_262_50 (by decide) q_1603 dX12_layRow_78 ?_
            refine r_iload (pc := 81) (j := 4) C dX12_layRow_81 rfl ?_
            refine r_iload_n (pc := 83) (j := 3) C dX12_layRow_83 rfl rfl ?_
            refine r_bb ?_
            refine r_iast C kd_283 ln_283 gc_283 h7264 h7231 dX12_layRow_84 (fun O7265 => ?_)
            refine r_aload_n (pc := 85) (j := 0) C dX12_layRow_85 rfl rfl ?_
            refine r_dup C dX12_layRow_86 rfl ?_
            refine r_getO (j := 58) C cl_X12 kd_262 ln_262 gc_262 (by decide) (by decide) rfl q_1611 dX12_layRow_87 (fun h7266 => ?_)
            refine r_iconst (v := 1) C dX12_layRow_90 (by decide) ?_
            refine r_iadd C dX12_layRow_91 ?_
            refine r_bj ?_
            refine r_putO C cl_X12 kd_262 ln_262 gc_262 (by decide) (by decide) rfl rfl rfl (IR_wr _) q_1611 dX12_layRow_92 (fun O7267 => ?_)
            refine r_L (L' := [(0, .ref (zad E 262)), (1, .int (zi a1)), (2, .int (zi a2)), (3, .int (zi s7230.1))]) [0, 1, 2, 3] rfl ?_
            exact k7242 O7267 trivial
          · refine r_iload (pc := 32) (j := 4) C dX12_layRow_32 rfl ?_
            refine r_if_le (tgt := 77) C h7248 dX12_layRow_34 (by decide) (fun c7253 => ?_) (fun c7253 => ?_)
            · refine r_bf c7253 ?_
              exact k7252 (s7247.1, s7247.2) h7248
            · refine r_bt c7253 ?_
              refine r_aload_n (pc := 37) (j := 0) C dX12_layRow_37 rfl rfl ?_
              refine r_aload_n (pc := 38) (j := 0) C dX12_layRow_38 rfl rfl ?_
              refine r_getR (j := 50) (r := 283) C cl_X12 kd_262 ln_262 (by decide) rfl r0_262_50 (by decide) q_1603 dX12_layRow_39 ?_
              refine r_iload (pc := 42) (j := 4) C dX12_layRow_42 rfl ?_
              refine r_iconst (v := 1) C dX12_layRow_44 (by decide) ?_
              refine r_isub C dX12_layRow_45 ?_
              refine r_bb ?_
              refine r_iald C kd_283 ln_283 gc_283 (IR_wr _) dX12_layRow_46 (fun v7254 h7255 => ?_)
              refine r_iload_n (pc := 47) (j := 3) C dX12_layRow_47 rfl rfl ?_
              refine r_iload_n (pc := 48) (j := 2) C dX12_layRow_48 rfl rfl ?_
              refine r_bb ?_
              refine r_bd (fun q7257 e7258 => ?_)
              refine r_cV1 (pc := 49) (k := 262) (As := [.int (zi v7254), .int (zi s7230.1), .int (zi a2)]) (st := []) C (m_X12_isHigher (a1 := v7254) (a2 := s7230.1) (a3 := a2) h7255 h7231 ha2 e7258) cal_X12_isHigher cl_X12 kd_262 ln_262 q_1988 dX12_layRow_49 rfl rfl (Nat.le_of_ble_eq_true rfl) (Nat.le_of_ble_eq_true rfl) (Nat.le_of_ble_eq_true rfl) (Nat.le_of_ble_eq_true rfl) (Nat.le_of_ble_eq_true rfl) (fun h7256 => ?_)
              refine r_if_eq (tgt := 77) C h7256.ir dX12_layRow_52 (by decide) (fun c7259 => ?_) (fun c7259 => ?_)
              · refine r_bt c7259 ?_
                exact k7252 (s7247.1, s7247.2) h7248
              · refine r_bf c7259 ?_
                refine r_aload_n (pc := 55) (j := 0) C dX12_layRow_55 rfl rfl ?_
                refine r_getR (j := 50) (r := 283) C cl_X12 kd_262 ln_262 (by decide) rfl r0_262_50 (by decide) q_1603 dX12_layRow_56 ?_
                refine r_iload (pc := 59) (j := 4) C dX12_layRow_59 rfl ?_
                refine r_aload_n (pc := 61) (j := 0) C dX12_layRow_61 rfl rfl ?_
                refine r_getR (j := 50) (r := 283) C cl_X12 kd_262 ln_262 (by decide) rfl r0_262_50 (by decide) q_1603 dX12_layRow_62 ?_
                refine r_iload (pc := 65) (j := 4) C dX12_layRow_65 rfl ?_
                refine r_iconst (v := 1) C dX12_layRow_67 (by decide) ?_
                refine r_isub C dX12_layRow_68 ?_
                refine r_bb ?_
                refine r_iald C kd_283 ln_283 gc_283 (IR_wr _) dX12_layRow_69 (fun v7260 h7261 => ?_)
                refine r_bb ?_
                refine r_iast C kd_283 ln_283 gc_283 h7248 h7261 dX12_layRow_70 (fun O7262 => ?_)
                refine r_iinc (j := 4) (L' := [(4, .int (zi (wr (s7247.1 + (-1))))), (0, .ref (zad E 262)), (1, .int (zi a1)), (2, .int (zi a2)), (3, .int (zi s7230.1))]) C dX12_layRow_71 rfl (by decide) rfl ?_
                refine r_goto (tgt := 32) C dX12_layRow_74 (by decide) ?_
                refine r_L (L' := [(0, .ref (zad E 262)), (1, .int (zi a1)), (2, .int (zi a2)), (3, .int (zi s7230.1)), (4, .int (zi (wr (s7247.1 + (-1)))))]) [1, 2, 3, 4, 0] rfl ?_
                exact k7250 (wr (s7247.1 + (-1)), O7262) (IR_wr _)
        · refine r_bt c7243 ?_
          refine r_goto (tgt := 95) C dX12_layRow_23 (by decide) ?_
          exact k7242 s7230.2 trivial

def f_X12_push (a1 : Int) (a2 : Int) (O : Smo) : Option (Int × Smo) :=
  if a2 < 0 then
    (some (a1, O))
  else
    (Option.bind (asetO O 287 (Ln 287) a1 a2) fun (O7271 : Smo) =>
    some (wr (a1 + 1), O7271))
set_option maxRecDepth 100000 in
set_option maxHeartbeats 4000000 in
theorem m_X12_push {l : Launch} {E : EwT} {S : Sst} {O : Smo} {a1 : Int} (ha1 : IR a1) {a2 : Int} (ha2 : IR a2) {q : Int × Smo} (hq : f_X12_push a1 a2 O = some q) : MetG l E yX12_push cX12_push 3 (some .int) 0 0 0 0 n0 R0 S O [.ref (zad E 262), .int (zi a1), .int (zi a2)] (IR q.1) (some (.int (zi q.1))) n0 R0 S q.2 := by
  refine ofG (L0 := [(0, .ref (zad E 262)), (1, .int (zi a1)), (2, .int (zi a2))]) hq (by decide +kernel) (Nat.le_of_ble_eq_true rfl) rfl (fun K _ C hQ => ?_)
  unfold f_X12_push
  refine r_iload_n (pc := 0) (j := 2) C dX12_push_0 rfl rfl ?_
  refine r_if_ge (tgt := 6) C ha2 dX12_push_1 (by decide) (fun c7270 => ?_) (fun c7270 => ?_)
  · refine r_f c7270 ?_
    refine r_aload_n (pc := 6) (j := 0) C dX12_push_6 rfl rfl ?_
    refine r_getR (j := 54) (r := 287) C cl_X12 kd_262 ln_262 (by decide) rfl r0_262_54 (by decide) q_1607 dX12_push_7 ?_
    refine r_iload_n (pc := 10) (j := 1) C dX12_push_10 rfl rfl ?_
    refine r_iload_n (pc := 11) (j := 2) C dX12_push_11 rfl rfl ?_
    refine r_iast C kd_287 ln_287 gc_287 ha1 ha2 dX12_push_12 (fun O7271 => ?_)
    refine r_iload_n (pc := 13) (j := 1) C dX12_push_13 rfl rfl ?_
    refine r_iconst (v := 1) C dX12_push_14 (by decide) ?_
    refine r_iadd C dX12_push_15 ?_
    exact r_ireturn C hQ rfl dX12_push_16 (fun e => by cases e; exact ⟨(IR_wr _), rfl, rfl, rfl, rfl, rfl⟩)
  · refine r_t c7270 ?_
    refine r_iload_n (pc := 4) (j := 1) C dX12_push_4 rfl rfl ?_
    exact r_ireturn C hQ rfl dX12_push_5 (fun e => by cases e; exact ⟨ha1, rfl, rfl, rfl, rfl, rfl⟩)

def f_X12_highBy (a1 : Int) (O : Smo) : Option (Int) :=
  if a1 < 0 then
    (some 0)
  else
    (Option.bind (aget (O 290) (Ln 290) a1) fun (v7273 : Int) =>
    some v7273)
set_option maxRecDepth 100000 in
set_option maxHeartbeats 4000000 in
theorem m_X12_highBy {l : Launch} {E : EwT} {S : Sst} {O : Smo} {a1 : Int} (ha1 : IR a1) {q : Int} (hq : f_X12_highBy a1 O = some q) : MetG l E yX12_highBy cX12_highBy 2 (some .int) 0 0 0 0 n0 R0 S O [.ref (zad E 262), .int (zi a1)] (IR q) (some (.int (zi q))) n0 R0 S O := by
  refine ofG (L0 := [(0, .ref (zad E 262)), (1, .int (zi a1))]) hq (by decide +kernel) (Nat.le_of_ble_eq_true rfl) rfl (fun K _ C hQ => ?_)
  unfold f_X12_highBy
  refine r_iload_n (pc := 0) (j := 1) C dX12_highBy_0 rfl rfl ?_
  refine r_if_ge (tgt := 8) C ha1 dX12_highBy_1 (by decide) (fun c7272 => ?_) (fun c7272 => ?_)
  · refine r_f c7272 ?_
    refine r_aload_n (pc := 8) (j := 0) C dX12_highBy_8 rfl rfl ?_
    refine r_getR (j := 57) (r := 290) C cl_X12 kd_262 ln_262 (by decide) rfl r0_262_57 (by decide) q_1610 dX12_highBy_9 ?_
    refine r_iload_n (pc := 12) (j := 1) C dX12_highBy_12 rfl rfl ?_
    refine r_iald C kd_290 ln_290 gc_290 ha1 dX12_highBy_13 (fun v7273 h7274 => ?_)
    exact r_ireturn C hQ rfl dX12_highBy_14 (fun e => by cases e; exact ⟨h7274, rfl, rfl, rfl, rfl, rfl⟩)
  · refine r_t c7272 ?_
    refine r_iconst (v := 0) C dX12_highBy_4 (by decide) ?_
    refine r_goto (tgt := 14) C dX12_highBy_5 (by decide) ?_
    exact r_ireturn C hQ rfl dX12_highBy_14 (fun e => by cases e; exact ⟨(IRd rfl), rfl, rfl, rfl, rfl, rfl⟩)

def f_X12_layOrders (O : Smo) : Option (Smo) :=
  Option.bind (f_X12_push 0 (O 262 59) O) fun (q7399 : Int × Smo) =>
  Option.bind (lp (fun (s7401 : Int × Int × Smo) =>
    if 0 < s7401.1 then
      (Option.bind (aget (s7401.2.2 287) (Ln 287) (wr (s7401.1 + (-1)))) fun (v7408 : Int) =>
      Option.bind (asetO s7401.2.2 289 (Ln 289) s7401.2.1 v7408) fun (O7410 : Smo) =>
      Option.bind (aget (O7410 285) (Ln 285) v7408) fun (v7411 : Int) =>
      Option.bind (f_X12_push (wr (s7401.1 + (-1))) v7411 O7410) fun (q7414 : Int × Smo) =>
      Option.bind (aget (q7414.2 284) (Ln 284) v7408) fun (v7416 : Int) =>
      Option.bind (f_X12_push q7414.1 v7416 q7414.2) fun (q7419 : Int × Smo) =>
      some (Sum.inl (q7419.1, wr (s7401.2.1 + 1), q7419.2)))
    else
      (some (Sum.inr s7401.2.2))) FU (q7399.1, 0, q7399.2)) fun (r7421 : Smo) =>
  Option.bind (f_X12_push 0 (r7421 262 59) r7421) fun (q7425 : Int × Smo) =>
  jn (q7425.2 262 58) fun (v7428 : Int) =>
  Option.bind (lp (fun (s7430 : Int × Int × Smo) =>
    if 0 < s7430.1 then
      (Option.bind (aget (s7430.2.2 287) (Ln 287) (wr (s7430.1 + (-1)))) fun (v7437 : Int) =>
      Option.bind (asetO s7430.2.2 288 (Ln 288) (wr (s7430.2.1 + (-1))) v7437) fun (O7439 : Smo) =>
      Option.bind (aget (O7439 284) (Ln 284) v7437) fun (v7440 : Int) =>
      Option.bind (f_X12_push (wr (s7430.1 + (-1))) v7440 O7439) fun (q7443 : Int × Smo) =>
      Option.bind (aget (q7443.2 285) (Ln 285) v7437) fun (v7445 : Int) =>
      Option.bind (f_X12_push q7443.1 v7445 q7443.2) fun (q7448 : Int × Smo) =>
      some (Sum.inl (q7448.1, wr (s7430.2.1 + (-1)), q7448.2)))
    else
      (some (Sum.inr s7430.2.2))) FU (q7425.1, v7428, q7425.2)) fun (r7450 : Smo) =>
  Option.bind (lp (fun (s7452 : Int × Smo) =>
    if s7452.1 < s7452.2 262 58 then
      (Option.bind (aget (s7452.2 288) (Ln 288) s7452.1) fun (v7460 : Int) =>
      Option.bind (asetO s7452.2 286 (Ln 286) v7460 (-1)) fun (O7462 : Smo) =>
      Option.bind (aget (O7462 284) (Ln 284) v7460) fun (v7463 : Int) =>
      Option.bind (f_X12_highBy v7463 O7462) fun (q7466 : Int) =>
      Option.bind (aget (O7462 285) (Ln 285) v7460) fun (v7468 : Int) =>
      Option.bind (f_X12_highBy v7468 O7462) fun (q7471 : Int) =>
      Option.bind (asetO O7462 290 (Ln 290) v7460 (wr (1 + (f_X12_greater q7466 q7471)))) fun (O7474 : Smo) =>
      Option.bind (aget (O7474 284) (Ln 284) v7460) fun (v7475 : Int) =>
      Option.bind (
        if v7475 < 0 then
          (some O7474)
        else
          (Option.bind (aget (O7474 284) (Ln 284) v7460) fun (v7482 : Int) =>
          Option.bind (asetO O7474 286 (Ln 286) v7482 v7460) fun (O7484 : Smo) =>
          some O7484)) fun (q7477 : Smo) =>
      Option.bind (aget (q7477 285) (Ln 285) v7460) fun (v7485 : Int) =>
      Option.bind (
        if v7485 < 0 then
          (some q7477)
        else
          (Option.bind (aget (q7477 285) (Ln 285) v7460) fun (v7492 : Int) =>
          Option.bind (asetO q7477 286 (Ln 286) v7492 v7460) fun (O7494 : Smo) =>
          some O7494)) fun (q7487 : Smo) =>
      some (Sum.inl (wr (s7452.1 + 1), q7487)))
    else
      (some (Sum.inr s7452.2))) FU (0, r7450)) fun (r7495 : Smo) =>
  some r7495
set_option maxRecDepth 100000 in
set_option maxHeartbeats 4000000 in
theorem m_X12_layOrders {l : Launch} {E : EwT} {S : Sst} {O : Smo}  {q : Smo} (hq : f_X12_layOrders O = some q) : MetG l E yX12_layOrders cX12_layOrders 5 none 1 22 0 0 n0 R0 S O [.ref (zad E 262)] (True) none n0 R0 S q := by
  refine ofG (L0 := [(0, .ref (zad E 262))]) hq (by decide +kernel) (Nat.le_of_ble_eq_true rfl) rfl (fun K _ C hQ => ?_)
  unfold f_X12_layOrders
  refine r_aload_n (pc := 0) (j := 0) C dX12_layOrders_0 rfl rfl ?_
  refine r_iconst (v := 0) C dX12_layOrders_1 (by decide) ?_
  refine r_aload_n (pc := 2) (j := 0) C dX12_layOrders_2 rfl rfl ?_
  refine r_getO (j := 59) C cl_X12 kd_262 ln_262 gc_262 (by decide) (by decide) rfl q_1612 dX12_layOrders_3 (fun h7397 => ?_)
  refine r_bd (fun q7399 e7400 => ?_)
  refine r_cV1 (pc := 6) (k := 262) (As := [.int (zi 0), .int (zi (O 262 59))]) (st := []) C (m_X12_push (a1 := 0) (a2 := O 262 59) (IRd rfl) h7397 e7400) cal_X12_push cl_X12 kd_262 ln_262 q_2051 dX12_layOrders_6 rfl rfl (Nat.le_of_ble_eq_true rfl) (Nat.le_of_ble_eq_true rfl) (Nat.le_of_ble_eq_true rfl) (Nat.le_of_ble_eq_true rfl) (Nat.le_of_ble_eq_true rfl) (fun h7398 => ?_)
  refine r_istore_n (L' := [(1, .int (zi q7399.1)), (0, .ref (zad E 262))]) C dX12_layOrders_9 rfl (by decide) rfl ?_
  refine r_iconst (v := 0) C dX12_layOrders_10 (by decide) ?_
  refine r_istore_n (L' := [(2, .int (zi 0)), (1, .int (zi q7399.1)), (0, .ref (zad E 262))]) C dX12_layOrders_11 rfl (by decide) rfl ?_
  refine r_L (L' := [(0, .ref (zad E 262)), (1, .int (zi q7399.1)), (2, .int (zi 0))]) [2, 1, 0] rfl ?_
  refine r_loop1 (fun s7401 : Int × Int × Smo => IR s7401.1 ∧ IR s7401.2.1) (fun s7401 => S) (fun s7401 => s7401.2.2) (fun s7401 => [(0, .ref (zad E 262)), (1, .int (zi s7401.1)), (2, .int (zi s7401.2.1))]) [] (fun r7421 : Smo => True) (fun r7421 => S) (fun r7421 => r7421) (fun r7421 => [(0, .ref (zad E 262))]) 63 (fun r7421 h7422 => ?_) (fun k7403 k7405 k7404 k7406 s7401 h7402 => ?_) ⟨h7398, (IRd rfl)⟩
  · refine r_aload_n (pc := 63) (j := 0) C dX12_layOrders_63 rfl rfl ?_
    refine r_iconst (v := 0) C dX12_layOrders_64 (by decide) ?_
    refine r_aload_n (pc := 65) (j := 0) C dX12_layOrders_65 rfl rfl ?_
    refine r_getO (j := 59) C cl_X12 kd_262 ln_262 gc_262 (by decide) (by decide) rfl q_1612 dX12_layOrders_66 (fun h7423 => ?_)
    refine r_bd (fun q7425 e7426 => ?_)
    refine r_cV1 (pc := 69) (k := 262) (As := [.int (zi 0), .int (zi (r7421 262 59))]) (st := []) C (m_X12_push (a1 := 0) (a2 := r7421 262 59) (IRd rfl) h7423 e7426) cal_X12_push cl_X12 kd_262 ln_262 q_2051 dX12_layOrders_69 rfl rfl (Nat.le_of_ble_eq_true rfl) (Nat.le_of_ble_eq_true rfl) (Nat.le_of_ble_eq_true rfl) (Nat.le_of_ble_eq_true rfl) (Nat.le_of_ble_eq_true rfl) (fun h7424 => ?_)
    refine r_istore_n (L' := [(1, .int (zi q7425.1)), (0, .ref (zad E 262))]) C dX12_layOrders_72 rfl (by decide) rfl ?_
    refine r_aload_n (pc := 73) (j := 1) C dX12_layOrders_73 rfl rfl ?_
    refine r_getO (j := 58) C cl_X12 kd_262 ln_262 gc_262 (by decide) (by decide) rfl q_1611 dX12_layOrders_74 (fun h7427 => ?_)
    refine r_jv h7427 (fun v7428 h7429 => ?_)
    refine r_istore_n (L' := [(2, .int (zi v7428)), (1, .int (zi q7425.1)), (0, .ref (zad E 262))]) C dX12_layOrders_77 rfl (by decide) rfl ?_
    refine r_L (L' := [(0, .ref (zad E 262)), (1, .int (zi q7425.1)), (2, .int (zi v7428))]) [2, 1, 0] rfl ?_
    refine r_loop1 (fun s7430 : Int × Int × Smo => IR s7430.1 ∧ IR s7430.2.1) (fun s7430 => S) (fun s7430 => s7430.2.2) (fun s7430 => [(0, .ref (zad E 262)), (1, .int (zi s7430.1)), (2, .int (zi s7430.2.1))]) [] (fun r7450 : Smo => True) (fun r7450 => S) (fun r7450 => r7450) (fun r7450 => [(0, .ref (zad E 262))]) 129 (fun r7450 h7451 => ?_) (fun k7432 k7434 k7433 k7435 s7430 h7431 => ?_) ⟨h7424, h7429⟩
    · refine r_iconst (v := 0) C dX12_layOrders_129 (by decide) ?_
      refine r_istore_n (L' := [(3, .int (zi 0)), (0, .ref (zad E 262))]) C dX12_layOrders_130 rfl (by decide) rfl ?_
      refine r_L (L' := [(0, .ref (zad E 262)), (3, .int (zi 0))]) [1, 0] rfl ?_
      refine r_loop1 (fun s7452 : Int × Smo => IR s7452.1) (fun s7452 => S) (fun s7452 => s7452.2) (fun s7452 => [(0, .ref (zad E 262)), (3, .int (zi s7452.1))]) [] (fun r7495 : Smo => True) (fun r7495 => S) (fun r7495 => r7495) (fun r7495 => []) 243 (fun r7495 h7496 => ?_) (fun k7454 k7456 k7455 k7457 s7452 h7453 => ?_) (IRd rfl)
      · exact r_return C hQ dX12_layOrders_243 (fun e => by cases e; exact ⟨trivial, rfl, rfl, rfl, rfl, rfl⟩)
      · refine r_iload_n (pc := 131) (j := 1) C dX12_layOrders_131 rfl rfl ?_
        refine r_aload_n (pc := 132) (j := 0) C dX12_layOrders_132 rfl rfl ?_
        refine r_getO (j := 58) C cl_X12 kd_262 ln_262 gc_262 (by decide) (by decide) rfl q_1611 dX12_layOrders_133 (fun h7458 => ?_)
        refine r_icmp_ge (tgt := 243) C h7453 h7458 dX12_layOrders_136 (by decide) (fun c7459 => ?_) (fun c7459 => ?_)
        · refine r_bf c7459 ?_
          refine r_L (L' := []) [] rfl ?_
          exact k7457 s7452.2 trivial
        · refine r_bt c7459 ?_
          refine r_aload_n (pc := 139) (j := 0) C dX12_layOrders_139 rfl rfl ?_
          refine r_getR (j := 55) (r := 288) C cl_X12 kd_262 ln_262 (by decide) rfl r0_262_55 (by decide) q_1608 dX12_layOrders_140 ?_
          refine r_iload_n (pc := 143) (j := 1) C dX12_layOrders_143 rfl rfl ?_
          refine r_bb ?_
          refine r_iald C kd_288 ln_288 gc_288 h7453 dX12_layOrders_144 (fun v7460 h7461 => ?_)
          refine r_istore (L' := [(4, .int (zi v7460)), (0, .ref (zad E 262)), (3, .int (zi s7452.1))]) C dX12_layOrders_145 (by decide) rfl ?_
          refine r_aload_n (pc := 147) (j := 1) C dX12_layOrders_147 rfl rfl ?_
          refine r_getR (j := 53) (r := 286) C cl_X12 kd_262 ln_262 (by decide) rfl r0_262_53 (by decide) q_1606 dX12_layOrders_148 ?_
          refine r_iload (pc := 151) (j := 0) C dX12_layOrders_151 rfl ?_
          refine r_iconst (v := (-1)) C dX12_layOrders_153 (by decide) ?_
          refine r_bb ?_
          refine r_iast C kd_286 ln_286 gc_286 h7461 (IRd rfl) dX12_layOrders_154 (fun O7462 => ?_)
          refine r_aload_n (pc := 155) (j := 1) C dX12_layOrders_155 rfl rfl ?_
          refine r_getR (j := 57) (r := 290) C cl_X12 kd_262 ln_262 (by decide) rfl r0_262_57 (by decide) q_1610 dX12_layOrders_156 ?_
          refine r_iload (pc := 159) (j := 0) C dX12_layOrders_159 rfl ?_
          refine r_iconst (v := 1) C dX12_layOrders_161 (by decide) ?_
          refine r_aload_n (pc := 162) (j := 1) C dX12_layOrders_162 rfl rfl ?_
          refine r_aload_n (pc := 163) (j := 1) C dX12_layOrders_163 rfl rfl ?_
          refine r_getR (j := 51) (r := 284) C cl_X12 kd_262 ln_262 (by decide) rfl r0_262_51 (by decide) q_1604 dX12_layOrders_164 ?_
          refine r_iload (pc := 167) (j := 0) C dX12_layOrders_167 rfl ?_
          refine r_bb ?_
          refine r_iald C kd_284 ln_284 gc_284 h7461 dX12_layOrders_169 (fun v7463 h7464 => ?_)
          refine r_bb ?_
          refine r_bd (fun q7466 e7467 => ?_)
          refine r_cV1 (pc := 170) (k := 262) (As := [.int (zi v7463)]) (st := [.int (zi 1), .int (zi v7460), .ref (zad E 290)]) C (m_X12_highBy (a1 := v7463) h7464 e7467) cal_X12_highBy cl_X12 kd_262 ln_262 q_2055 dX12_layOrders_170 rfl rfl (Nat.le_of_ble_eq_true rfl) (Nat.le_of_ble_eq_true rfl) (Nat.le_of_ble_eq_true rfl) (Nat.le_of_ble_eq_true rfl) (Nat.le_of_ble_eq_true rfl) (fun h7465 => ?_)
          refine r_aload_n (pc := 173) (j := 1) C dX12_layOrders_173 rfl rfl ?_
          refine r_aload_n (pc := 174) (j := 1) C dX12_layOrders_174 rfl rfl ?_
          refine r_getR (j := 52) (r := 285) C cl_X12 kd_262 ln_262 (by decide) rfl r0_262_52 (by decide) q_1605 dX12_layOrders_175 ?_
          refine r_iload (pc := 178) (j := 0) C dX12_layOrders_178 rfl ?_
          refine r_bb ?_
          refine r_iald C kd_285 ln_285 gc_285 h7461 dX12_layOrders_180 (fun v7468 h7469 => ?_)
          refine r_bb ?_
          refine r_bd (fun q7471 e7472 => ?_)
          refine r_cV1 (pc := 181) (k := 262) (As := [.int (zi v7468)]) (st := [.int (zi q7466), .int (zi 1), .int (zi v7460), .ref (zad E 290)]) C (m_X12_highBy (a1 := v7468) h7469 e7472) cal_X12_highBy cl_X12 kd_262 ln_262 q_2055 dX12_layOrders_181 rfl rfl (Nat.le_of_ble_eq_true rfl) (Nat.le_of_ble_eq_true rfl) (Nat.le_of_ble_eq_true rfl) (Nat.le_of_ble_eq_true rfl) (Nat.le_of_ble_eq_true rfl) (fun h7470 => ?_)
          refine r_cS1 (pc := 184) (As := [.int (zi q7466), .int (zi q7471)]) (st := [.int (zi 1), .int (zi v7460), .ref (zad E 290)]) C (m_X12_greater (a0 := q7466) (a1 := q7471) h7465 h7470 rfl) cal_X12_greater q_1894 dX12_layOrders_184 rfl rfl (Nat.le_of_ble_eq_true rfl) (Nat.le_of_ble_eq_true rfl) (Nat.le_of_ble_eq_true rfl) (Nat.le_of_ble_eq_true rfl) (Nat.le_of_ble_eq_true rfl) (fun h7473 => ?_)
          refine r_iadd C dX12_layOrders_187 ?_
          refine r_bb ?_
          refine r_iast C kd_290 ln_290 gc_290 h7461 (IR_wr _) dX12_layOrders_188 (fun O7474 => ?_)
          refine r_aload_n (pc := 189) (j := 1) C dX12_layOrders_189 rfl rfl ?_
          refine r_getR (j := 51) (r := 284) C cl_X12 kd_262 ln_262 (by decide) rfl r0_262_51 (by decide) q_1604 dX12_layOrders_190 ?_
          refine r_iload (pc := 193) (j := 0) C dX12_layOrders_193 rfl ?_
          refine r_bb ?_
          refine r_iald C kd_284 ln_284 gc_284 h7461 dX12_layOrders_195 (fun v7475 h7476 => ?_)
          refine r_bb ?_
          refine r_joinb (fun q7477 : Smo => True) (fun q7477 => S) (fun q7477 => q7477) (fun q7477 => [(0, .ref (zad E 262)), (3, .int (zi s7452.1)), (4, .int (zi v7460))]) 213 (fun q7477 => []) (fun q7477 h7478 => ?_) (fun k7479 k7480 => ?_)
          · refine r_aload_n (pc := 213) (j := 0) C dX12_layOrders_213 rfl rfl ?_
            refine r_getR (j := 52) (r := 285) C cl_X12 kd_262 ln_262 (by decide) rfl r0_262_52 (by decide) q_1605 dX12_layOrders_214 ?_
            refine r_iload (pc := 217) (j := 2) C dX12_layOrders_217 rfl ?_
            refine r_bb ?_
            refine r_iald C kd_285 ln_285 gc_285 h7461 dX12_layOrders_219 (fun v7485 h7486 => ?_)
            refine r_bb ?_
            refine r_joinb (fun q7487 : Smo => True) (fun q7487 => S) (fun q7487 => q7487) (fun q7487 => [(0, .ref (zad E 262)), (3, .int (zi s7452.1))]) 237 (fun q7487 => []) (fun q7487 h7488 => ?_) (fun k7489 k7490 => ?_)
            · refine r_iinc (j := 1) (L' := [(3, .int (zi (wr (s7452.1 + 1)))), (0, .ref (zad E 262))]) C dX12_layOrders_237 rfl (by decide) rfl ?_
              refine r_goto (tgt := 131) C dX12_layOrders_240 (by decide) ?_
              refine r_L (L' := [(0, .ref (zad E 262)), (3, .int (zi (wr (s7452.1 + 1))))]) [1, 0] rfl ?_
              exact k7455 (wr (s7452.1 + 1), q7487) (IR_wr _)
            · refine r_if_lt (tgt := 237) C h7486 dX12_layOrders_220 (by decide) (fun c7491 => ?_) (fun c7491 => ?_)
              · refine r_bt c7491 ?_
                refine r_L (L' := [(0, .ref (zad E 262)), (3, .int (zi s7452.1))]) [0, 1] rfl ?_
                exact k7490 q7477 trivial
              · refine r_bf c7491 ?_
                refine r_aload_n (pc := 223) (j := 0) C dX12_layOrders_223 rfl rfl ?_
                refine r_getR (j := 53) (r := 286) C cl_X12 kd_262 ln_262 (by decide) rfl r0_262_53 (by decide) q_1606 dX12_layOrders_224 ?_
                refine r_aload_n (pc := 227) (j := 0) C dX12_layOrders_227 rfl rfl ?_
                refine r_getR (j := 52) (r := 285) C cl_X12 kd_262 ln_262 (by decide) rfl r0_262_52 (by decide) q_1605 dX12_layOrders_228 ?_
                refine r_iload (pc := 231) (j := 2) C dX12_layOrders_231 rfl ?_
                refine r_bb ?_
                refine r_iald C kd_285 ln_285 gc_285 h7461 dX12_layOrders_233 (fun v7492 h7493 => ?_)
                refine r_iload (pc := 234) (j := 2) C dX12_layOrders_234 rfl ?_
                refine r_bb ?_
                refine r_iast C kd_286 ln_286 gc_286 h7493 h7461 dX12_layOrders_236 (fun O7494 => ?_)
                refine r_L (L' := [(0, .ref (zad E 262)), (3, .int (zi s7452.1))]) [0, 1] rfl ?_
                exact k7490 O7494 trivial
          · refine r_if_lt (tgt := 213) C h7476 dX12_layOrders_196 (by decide) (fun c7481 => ?_) (fun c7481 => ?_)
            · refine r_bt c7481 ?_
              refine r_L (L' := [(0, .ref (zad E 262)), (3, .int (zi s7452.1)), (4, .int (zi v7460))]) [1, 2, 0] rfl ?_
              exact k7480 O7474 trivial
            · refine r_bf c7481 ?_
              refine r_aload_n (pc := 199) (j := 1) C dX12_layOrders_199 rfl rfl ?_
              refine r_getR (j := 53) (r := 286) C cl_X12 kd_262 ln_262 (by decide) rfl r0_262_53 (by decide) q_1606 dX12_layOrders_200 ?_
              refine r_aload_n (pc := 203) (j := 1) C dX12_layOrders_203 rfl rfl ?_
              refine r_getR (j := 51) (r := 284) C cl_X12 kd_262 ln_262 (by decide) rfl r0_262_51 (by decide) q_1604 dX12_layOrders_204 ?_
              refine r_iload (pc := 207) (j := 0) C dX12_layOrders_207 rfl ?_
              refine r_bb ?_
              refine r_iald C kd_284 ln_284 gc_284 h7461 dX12_layOrders_209 (fun v7482 h7483 => ?_)
              refine r_iload (pc := 210) (j := 0) C dX12_layOrders_210 rfl ?_
              refine r_bb ?_
              refine r_iast C kd_286 ln_286 gc_286 h7483 h7461 dX12_layOrders_212 (fun O7484 => ?_)
              refine r_L (L' := [(0, .ref (zad E 262)), (3, .int (zi s7452.1)), (4, .int (zi v7460))]) [1, 2, 0] rfl ?_
              exact k7480 O7484 trivial
    · refine r_iload_n (pc := 78) (j := 1) C dX12_layOrders_78 rfl rfl ?_
      refine r_if_le (tgt := 129) C h7431.1 dX12_layOrders_79 (by decide) (fun c7436 => ?_) (fun c7436 => ?_)
      · refine r_bf c7436 ?_
        refine r_L (L' := [(0, .ref (zad E 262))]) [0] rfl ?_
        exact k7435 s7430.2.2 trivial
      · refine r_bt c7436 ?_
        refine r_iinc (j := 1) (L' := [(1, .int (zi (wr (s7430.1 + (-1))))), (0, .ref (zad E 262)), (2, .int (zi s7430.2.1))]) C dX12_layOrders_82 rfl (by decide) rfl ?_
        refine r_aload_n (pc := 85) (j := 1) C dX12_layOrders_85 rfl rfl ?_
        refine r_getR (j := 54) (r := 287) C cl_X12 kd_262 ln_262 (by decide) rfl r0_262_54 (by decide) q_1607 dX12_layOrders_86 ?_
        refine r_iload_n (pc := 89) (j := 0) C dX12_layOrders_89 rfl rfl ?_
        refine r_bb ?_
        refine r_iald C kd_287 ln_287 gc_287 (IR_wr _) dX12_layOrders_90 (fun v7437 h7438 => ?_)
        refine r_istore_n (L' := [(3, .int (zi v7437)), (1, .int (zi (wr (s7430.1 + (-1))))), (0, .ref (zad E 262)), (2, .int (zi s7430.2.1))]) C dX12_layOrders_91 rfl (by decide) rfl ?_
        refine r_iinc (j := 3) (L' := [(2, .int (zi (wr (s7430.2.1 + (-1))))), (3, .int (zi v7437)), (1, .int (zi (wr (s7430.1 + (-1))))), (0, .ref (zad E 262))]) C dX12_layOrders_92 rfl (by decide) rfl ?_
        refine r_aload_n (pc := 95) (j := 3) C dX12_layOrders_95 rfl rfl ?_
        refine r_getR (j := 55) (r := 288) C cl_X12 kd_262 ln_262 (by decide) rfl r0_262_55 (by decide) q_1608 dX12_layOrders_96 ?_
        refine r_iload_n (pc := 99) (j := 0) C dX12_layOrders_99 rfl rfl ?_
        refine r_iload_n (pc := 100) (j := 1) C dX12_layOrders_100 rfl rfl ?_
        refine r_bb ?_
        refine r_iast C kd_288 ln_288 gc_288 (IR_wr _) h7438 dX12_layOrders_101 (fun O7439 => ?_)
        refine r_aload_n (pc := 102) (j := 3) C dX12_layOrders_102 rfl rfl ?_
        refine r_iload_n (pc := 103) (j := 2) C dX12_layOrders_103 rfl rfl ?_
        refine r_aload_n (pc := 104) (j := 3) C dX12_layOrders_104 rfl rfl ?_
        refine r_getR (j := 51) (r := 284) C cl_X12 kd_262 ln_262 (by decide) rfl r0_262_51 (by decide) q_1604 dX12_layOrders_105 ?_
        refine r_iload_n (pc := 108) (j := 1) C dX12_layOrders_108 rfl rfl ?_
        refine r_bb ?_
        refine r_iald C kd_284 ln_284 gc_284 h7438 dX12_layOrders_109 (fun v7440 h7441 => ?_)
        refine r_bb ?_
        refine r_bd (fun q7443 e7444 => ?_)
        refine r_cV1 (pc := 110) (k := 262) (As := [.int (zi (wr (s7430.1 + (-1)))), .int (zi v7440)]) (st := []) C (m_X12_push (a1 := wr (s7430.1 + (-1))) (a2 := v7440) (IR_wr _) h7441 e7444) cal_X12_push cl_X12 kd_262 ln_262 q_2051 dX12_layOrders_110 rfl rfl (Nat.le_of_ble_eq_true rfl) (Nat.le_of_ble_eq_true rfl) (Nat.le_of_ble_eq_true rfl) (Nat.le_of_ble_eq_true rfl) (Nat.le_of_ble_eq_true rfl) (fun h7442 => ?_)
        refine r_istore_n (L' := [(1, .int (zi q7443.1)), (2, .int (zi (wr (s7430.2.1 + (-1))))), (3, .int (zi v7437)), (0, .ref (zad E 262))]) C dX12_layOrders_113 rfl (by decide) rfl ?_
        refine r_aload_n (pc := 114) (j := 3) C dX12_layOrders_114 rfl rfl ?_
        refine r_iload_n (pc := 115) (j := 0) C dX12_layOrders_115 rfl rfl ?_
        refine r_aload_n (pc := 116) (j := 3) C dX12_layOrders_116 rfl rfl ?_
        refine r_getR (j := 52) (r := 285) C cl_X12 kd_262 ln_262 (by decide) rfl r0_262_52 (by decide) q_1605 dX12_layOrders_117 ?_
        refine r_iload_n (pc := 120) (j := 2) C dX12_layOrders_120 rfl rfl ?_
        refine r_bb ?_
        refine r_iald C kd_285 ln_285 gc_285 h7438 dX12_layOrders_121 (fun v7445 h7446 => ?_)
        refine r_bb ?_
        refine r_bd (fun q7448 e7449 => ?_)
        refine r_cV1 (pc := 122) (k := 262) (As := [.int (zi q7443.1), .int (zi v7445)]) (st := []) C (m_X12_push (a1 := q7443.1) (a2 := v7445) h7442 h7446 e7449) cal_X12_push cl_X12 kd_262 ln_262 q_2051 dX12_layOrders_122 rfl rfl (Nat.le_of_ble_eq_true rfl) (Nat.le_of_ble_eq_true rfl) (Nat.le_of_ble_eq_true rfl) (Nat.le_of_ble_eq_true rfl) (Nat.le_of_ble_eq_true rfl) (fun h7447 => ?_)
        refine r_istore_n (L' := [(1, .int (zi q7448.1)), (2, .int (zi (wr (s7430.2.1 + (-1))))), (3, .int (zi v7437)), (0, .ref (zad E 262))]) C dX12_layOrders_125 rfl (by decide) rfl ?_
        refine r_goto (tgt := 78) C dX12_layOrders_126 (by decide) ?_
        refine r_L (L' := [(0, .ref (zad E 262)), (1, .int (zi q7448.1)), (2, .int (zi (wr (s7430.2.1 + (-1)))))]) [3, 0, 1] rfl ?_
        exact k7433 (q7448.1, wr (s7430.2.1 + (-1)), q7448.2) ⟨h7447, (IR_wr _)⟩
  · refine r_iload_n (pc := 12) (j := 1) C dX12_layOrders_12 rfl rfl ?_
    refine r_if_le (tgt := 63) C h7402.1 dX12_layOrders_13 (by decide) (fun c7407 => ?_) (fun c7407 => ?_)
    · refine r_bf c7407 ?_
      refine r_L (L' := [(0, .ref (zad E 262))]) [0] rfl ?_
      exact k7406 s7401.2.2 trivial
    · refine r_bt c7407 ?_
      refine r_iinc (j := 1) (L' := [(1, .int (zi (wr (s7401.1 + (-1))))), (0, .ref (zad E 262)), (2, .int (zi s7401.2.1))]) C dX12_layOrders_16 rfl (by decide) rfl ?_
      refine r_aload_n (pc := 19) (j := 1) C dX12_layOrders_19 rfl rfl ?_
      refine r_getR (j := 54) (r := 287) C cl_X12 kd_262 ln_262 (by decide) rfl r0_262_54 (by decide) q_1607 dX12_layOrders_20 ?_
      refine r_iload_n (pc := 23) (j := 0) C dX12_layOrders_23 rfl rfl ?_
      refine r_bb ?_
      refine r_iald C kd_287 ln_287 gc_287 (IR_wr _) dX12_layOrders_24 (fun v7408 h7409 => ?_)
      refine r_istore_n (L' := [(3, .int (zi v7408)), (1, .int (zi (wr (s7401.1 + (-1))))), (0, .ref (zad E 262)), (2, .int (zi s7401.2.1))]) C dX12_layOrders_25 rfl (by decide) rfl ?_
      refine r_aload_n (pc := 26) (j := 2) C dX12_layOrders_26 rfl rfl ?_
      refine r_getR (j := 56) (r := 289) C cl_X12 kd_262 ln_262 (by decide) rfl r0_262_56 (by decide) q_1609 dX12_layOrders_27 ?_
      refine r_iload_n (pc := 30) (j := 3) C dX12_layOrders_30 rfl rfl ?_
      refine r_iload_n (pc := 31) (j := 0) C dX12_layOrders_31 rfl rfl ?_
      refine r_bb ?_
      refine r_iast C kd_289 ln_289 gc_289 h7402.2 h7409 dX12_layOrders_32 (fun O7410 => ?_)
      refine r_iinc (j := 3) (L' := [(2, .int (zi (wr (s7401.2.1 + 1)))), (3, .int (zi v7408)), (1, .int (zi (wr (s7401.1 + (-1))))), (0, .ref (zad E 262))]) C dX12_layOrders_33 rfl (by decide) rfl ?_
      refine r_aload_n (pc := 36) (j := 3) C dX12_layOrders_36 rfl rfl ?_
      refine r_iload_n (pc := 37) (j := 2) C dX12_layOrders_37 rfl rfl ?_
      refine r_aload_n (pc := 38) (j := 3) C dX12_layOrders_38 rfl rfl ?_
      refine r_getR (j := 52) (r := 285) C cl_X12 kd_262 ln_262 (by decide) rfl r0_262_52 (by decide) q_1605 dX12_layOrders_39 ?_
      refine r_iload_n (pc := 42) (j := 1) C dX12_layOrders_42 rfl rfl ?_
      refine r_bb ?_
      refine r_iald C kd_285 ln_285 gc_285 h7409 dX12_layOrders_43 (fun v7411 h7412 => ?_)
      refine r_bb ?_
      refine r_bd (fun q7414 e7415 => ?_)
      refine r_cV1 (pc := 44) (k := 262) (As := [.int (zi (wr (s7401.1 + (-1)))), .int (zi v7411)]) (st := []) C (m_X12_push (a1 := wr (s7401.1 + (-1))) (a2 := v7411) (IR_wr _) h7412 e7415) cal_X12_push cl_X12 kd_262 ln_262 q_2051 dX12_layOrders_44 rfl rfl (Nat.le_of_ble_eq_true rfl) (Nat.le_of_ble_eq_true rfl) (Nat.le_of_ble_eq_true rfl) (Nat.le_of_ble_eq_true rfl) (Nat.le_of_ble_eq_true rfl) (fun h7413 => ?_)
      refine r_istore_n (L' := [(1, .int (zi q7414.1)), (2, .int (zi (wr (s7401.2.1 + 1)))), (3, .int (zi v7408)), (0, .ref (zad E 262))]) C dX12_layOrders_47 rfl (by decide) rfl ?_
      refine r_aload_n (pc := 48) (j := 3) C dX12_layOrders_48 rfl rfl ?_
      refine r_iload_n (pc := 49) (j := 0) C dX12_layOrders_49 rfl rfl ?_
      refine r_aload_n (pc := 50) (j := 3) C dX12_layOrders_50 rfl rfl ?_
      refine r_getR (j := 51) (r := 284) C cl_X12 kd_262 ln_262 (by decide) rfl r0_262_51 (by decide) q_1604 dX12_layOrders_51 ?_
      refine r_iload_n (pc := 54) (j := 2) C dX12_layOrders_54 rfl rfl ?_
      refine r_bb ?_
      refine r_iald C kd_284 ln_284 gc_284 h7409 dX12_layOrders_55 (fun v7416 h7417 => ?_)
      refine r_bb ?_
      refine r_bd (fun q7419 e7420 => ?_)
      refine r_cV1 (pc := 56) (k := 262) (As := [.int (zi q7414.1), .int (zi v7416)]) (st := []) C (m_X12_push (a1 := q7414.1) (a2 := v7416) h7413 h7417 e7420) cal_X12_push cl_X12 kd_262 ln_262 q_2051 dX12_layOrders_56 rfl rfl (Nat.le_of_ble_eq_true rfl) (Nat.le_of_ble_eq_true rfl) (Nat.le_of_ble_eq_true rfl) (Nat.le_of_ble_eq_true rfl) (Nat.le_of_ble_eq_true rfl) (fun h7418 => ?_)
      refine r_istore_n (L' := [(1, .int (zi q7419.1)), (2, .int (zi (wr (s7401.2.1 + 1)))), (3, .int (zi v7408)), (0, .ref (zad E 262))]) C dX12_layOrders_59 rfl (by decide) rfl ?_
      refine r_goto (tgt := 12) C dX12_layOrders_60 (by decide) ?_
      refine r_L (L' := [(0, .ref (zad E 262)), (1, .int (zi q7419.1)), (2, .int (zi (wr (s7401.2.1 + 1))))]) [3, 0, 1] rfl ?_
      exact k7404 (q7419.1, wr (s7401.2.1 + 1), q7419.2) ⟨h7418, (IR_wr _)⟩

def f_X12_layTree (a1 : Int) (O : Smo) : Option (Smo) :=
  Option.bind (f_X12_setOf a1 O) fun (q7583 : Int) =>
  Option.bind (f_X12_placeOf a1 O) fun (q7586 : Int) =>
  Option.bind (f_X12_layRow q7583 q7586 O) fun (q7589 : Smo) =>
  Option.bind (lp (fun (s7591 : Int × Int × Smo) =>
    if s7591.2.1 < s7591.2.2 262 58 then
      (Option.bind (aget (s7591.2.2 283) (Ln 283) s7591.2.1) fun (v7599 : Int) =>
      Option.bind (asetO s7591.2.2 284 (Ln 284) v7599 (-1)) fun (O7601 : Smo) =>
      Option.bind (asetO O7601 285 (Ln 285) v7599 (-1)) fun (O7602 : Smo) =>
      Option.bind (lp (fun (s7603 : Int × Smo) =>
        if 0 < s7603.1 then
          (Option.bind (aget (s7603.2 287) (Ln 287) (wr (s7603.1 - 1))) fun (v7610 : Int) =>
          Option.bind (f_X12_isHeavier v7599 v7610 s7603.2) fun (q7613 : Int) =>
          if q7613 = 0 then
            (some (Sum.inr (s7603.1, s7603.2)))
          else
            (Option.bind (aget (s7603.2 287) (Ln 287) (wr (s7603.1 + (-1)))) fun (v7616 : Int) =>
            Option.bind (asetO s7603.2 284 (Ln 284) v7599 v7616) fun (O7618 : Smo) =>
            some (Sum.inl (wr (s7603.1 + (-1)), O7618))))
        else
          (some (Sum.inr (s7603.1, s7603.2)))) FU (s7591.1, O7602)) fun (r7619 : Int × Smo) =>
      Option.bind (
        if 0 < r7619.1 then
          (Option.bind (aget (r7619.2 287) (Ln 287) (wr (r7619.1 - 1))) fun (v7626 : Int) =>
          Option.bind (asetO r7619.2 285 (Ln 285) v7626 v7599) fun (O7628 : Smo) =>
          some O7628)
        else
          (some r7619.2)) fun (q7621 : Smo) =>
      Option.bind (asetO q7621 287 (Ln 287) r7619.1 v7599) fun (O7629 : Smo) =>
      some (Sum.inl (wr (r7619.1 + 1), wr (s7591.2.1 + 1), O7629)))
    else
      (some (Sum.inr s7591.2.2))) FU (0, 0, q7589)) fun (r7630 : Smo) =>
  Option.bind (
    if r7630 262 58 = 0 then
      (some (-1))
    else
      (Option.bind (aget (r7630 287) (Ln 287) 0) fun (v7638 : Int) =>
      some v7638)) fun (q7633 : Int) =>
  jn (up2 r7630 262 59 q7633) fun (O7640 : Smo) =>
  Option.bind (f_X12_layOrders O7640) fun (q7642 : Smo) =>
  some q7642
set_option maxRecDepth 100000 in
set_option maxHeartbeats 4000000 in
theorem m_X12_layTree {l : Launch} {E : EwT} {S : Sst} {O : Smo} {a1 : Int} (ha1 : IR a1) {q : Smo} (hq : f_X12_layTree a1 O = some q) : MetG l E yX12_layTree cX12_layTree 5 none 3 74 0 0 n0 R0 S O [.ref (zad E 262), .int (zi a1)] (True) none n0 R0 S q := by
  refine ofG (L0 := [(0, .ref (zad E 262)), (1, .int (zi a1))]) hq (by decide +kernel) (Nat.le_of_ble_eq_true rfl) rfl (fun K _ C hQ => ?_)
  unfold f_X12_layTree
  refine r_aload_n (pc := 0) (j := 0) C dX12_layTree_0 rfl rfl ?_
  refine r_aload_n (pc := 1) (j := 0) C dX12_layTree_1 rfl rfl ?_
  refine r_iload_n (pc := 2) (j := 1) C dX12_layTree_2 rfl rfl ?_
  refine r_bd (fun q7583 e7584 => ?_)
  refine r_cV1 (pc := 3) (k := 262) (As := [.int (zi a1)]) (st := [.ref (zad E 262)]) C (m_X12_setOf (a1 := a1) ha1 e7584) cal_X12_setOf cl_X12 kd_262 ln_262 q_2008 dX12_layTree_3 rfl rfl (Nat.le_of_ble_eq_true rfl) (Nat.le_of_ble_eq_true rfl) (Nat.le_of_ble_eq_true rfl) (Nat.le_of_ble_eq_true rfl) (Nat.le_of_ble_eq_true rfl) (fun h7582 => ?_)
  refine r_aload_n (pc := 6) (j := 0) C dX12_layTree_6 rfl rfl ?_
  refine r_iload_n (pc := 7) (j := 1) C dX12_layTree_7 rfl rfl ?_
  refine r_bd (fun q7586 e7587 => ?_)
  refine r_cV1 (pc := 8) (k := 262) (As := [.int (zi a1)]) (st := [.int (zi q7583), .ref (zad E 262)]) C (m_X12_placeOf (a1 := a1) ha1 e7587) cal_X12_placeOf cl_X12 kd_262 ln_262 q_2032 dX12_layTree_8 rfl rfl (Nat.le_of_ble_eq_true rfl) (Nat.le_of_ble_eq_true rfl) (Nat.le_of_ble_eq_true rfl) (Nat.le_of_ble_eq_true rfl) (Nat.le_of_ble_eq_true rfl) (fun h7585 => ?_)
  refine r_bd (fun q7589 e7590 => ?_)
  refine r_cV0 (pc := 11) (k := 262) (As := [.int (zi q7583), .int (zi q7586)]) (st := []) C (m_X12_layRow (a1 := q7583) (a2 := q7586) h7582 h7585 e7590) cal_X12_layRow cl_X12 kd_262 ln_262 q_2036 dX12_layTree_11 rfl rfl (Nat.le_of_ble_eq_true rfl) (Nat.le_of_ble_eq_true rfl) (Nat.le_of_ble_eq_true rfl) (Nat.le_of_ble_eq_true rfl) (Nat.le_of_ble_eq_true rfl) (fun h7588 => ?_)
  refine r_iconst (v := 0) C dX12_layTree_14 (by decide) ?_
  refine r_istore_n (L' := [(2, .int (zi 0)), (0, .ref (zad E 262)), (1, .int (zi a1))]) C dX12_layTree_15 rfl (by decide) rfl ?_
  refine r_iconst (v := 0) C dX12_layTree_16 (by decide) ?_
  refine r_istore_n (L' := [(3, .int (zi 0)), (2, .int (zi 0)), (0, .ref (zad E 262)), (1, .int (zi a1))]) C dX12_layTree_17 rfl (by decide) rfl ?_
  refine r_L (L' := [(0, .ref (zad E 262)), (2, .int (zi 0)), (3, .int (zi 0))]) [2, 1, 0] rfl ?_
  refine r_loop1 (fun s7591 : Int × Int × Smo => IR s7591.1 ∧ IR s7591.2.1) (fun s7591 => S) (fun s7591 => s7591.2.2) (fun s7591 => [(0, .ref (zad E 262)), (2, .int (zi s7591.1)), (3, .int (zi s7591.2.1))]) [] (fun r7630 : Smo => True) (fun r7630 => S) (fun r7630 => r7630) (fun r7630 => [(0, .ref (zad E 262))]) 126 (fun r7630 h7631 => ?_) (fun k7593 k7595 k7594 k7596 s7591 h7592 => ?_) ⟨(IRd rfl), (IRd rfl)⟩
  · refine r_aload_n (pc := 126) (j := 0) C dX12_layTree_126 rfl rfl ?_
    refine r_aload_n (pc := 127) (j := 0) C dX12_layTree_127 rfl rfl ?_
    refine r_getO (j := 58) C cl_X12 kd_262 ln_262 gc_262 (by decide) (by decide) rfl q_1611 dX12_layTree_128 (fun h7632 => ?_)
    refine r_joinb (fun q7633 : Int => IR q7633) (fun q7633 => S) (fun q7633 => r7630) (fun q7633 => [(0, .ref (zad E 262))]) 144 (fun q7633 => [.int (zi q7633), .ref (zad E 262)]) (fun q7633 h7634 => ?_) (fun k7635 k7636 => ?_)
    · refine r_putO C cl_X12 kd_262 ln_262 gc_262 (by decide) (by decide) rfl rfl rfl h7634 q_1612 dX12_layTree_144 (fun O7640 => ?_)
      refine r_aload_n (pc := 147) (j := 0) C dX12_layTree_147 rfl rfl ?_
      refine r_bd (fun q7642 e7643 => ?_)
      refine r_cV0 (pc := 148) (k := 262) (As := []) (st := []) C (m_X12_layOrders  e7643) cal_X12_layOrders cl_X12 kd_262 ln_262 q_2047 dX12_layTree_148 rfl rfl (Nat.le_of_ble_eq_true rfl) (Nat.le_of_ble_eq_true rfl) (Nat.le_of_ble_eq_true rfl) (Nat.le_of_ble_eq_true rfl) (Nat.le_of_ble_eq_true rfl) (fun h7641 => ?_)
      exact r_return C hQ dX12_layTree_151 (fun e => by cases e; exact ⟨trivial, rfl, rfl, rfl, rfl, rfl⟩)
    · refine r_if_ne (tgt := 138) C h7632 dX12_layTree_131 (by decide) (fun c7637 => ?_) (fun c7637 => ?_)
      · refine r_bf c7637 ?_
        refine r_aload_n (pc := 138) (j := 0) C dX12_layTree_138 rfl rfl ?_
        refine r_getR (j := 54) (r := 287) C cl_X12 kd_262 ln_262 (by decide) rfl r0_262_54 (by decide) q_1607 dX12_layTree_139 ?_
        refine r_iconst (v := 0) C dX12_layTree_142 (by decide) ?_
        refine r_bb ?_
        refine r_iald C kd_287 ln_287 gc_287 (IRd rfl) dX12_layTree_143 (fun v7638 h7639 => ?_)
        exact k7636 v7638 h7639
      · refine r_bt c7637 ?_
        refine r_iconst (v := (-1)) C dX12_layTree_134 (by decide) ?_
        refine r_goto (tgt := 144) C dX12_layTree_135 (by decide) ?_
        exact k7636 (-1) (IRd rfl)
  · refine r_iload_n (pc := 18) (j := 2) C dX12_layTree_18 rfl rfl ?_
    refine r_aload_n (pc := 19) (j := 0) C dX12_layTree_19 rfl rfl ?_
    refine r_getO (j := 58) C cl_X12 kd_262 ln_262 gc_262 (by decide) (by decide) rfl q_1611 dX12_layTree_20 (fun h7597 => ?_)
    refine r_icmp_ge (tgt := 126) C h7592.2 h7597 dX12_layTree_23 (by decide) (fun c7598 => ?_) (fun c7598 => ?_)
    · refine r_bf c7598 ?_
      refine r_L (L' := [(0, .ref (zad E 262))]) [0] rfl ?_
      exact k7596 s7591.2.2 trivial
    · refine r_bt c7598 ?_
      refine r_aload_n (pc := 26) (j := 0) C dX12_layTree_26 rfl rfl ?_
      refine r_getR (j := 50) (r := 283) C cl_X12 kd_262 ln_262 (by decide) rfl r0_262_50 (by decide) q_1603 dX12_layTree_27 ?_
      refine r_iload_n (pc := 30) (j := 2) C dX12_layTree_30 rfl rfl ?_
      refine r_bb ?_
      refine r_iald C kd_283 ln_283 gc_283 h7592.2 dX12_layTree_31 (fun v7599 h7600 => ?_)
      refine r_istore (L' := [(4, .int (zi v7599)), (0, .ref (zad E 262)), (2, .int (zi s7591.1)), (3, .int (zi s7591.2.1))]) C dX12_layTree_32 (by decide) rfl ?_
      refine r_aload_n (pc := 34) (j := 1) C dX12_layTree_34 rfl rfl ?_
      refine r_getR (j := 51) (r := 284) C cl_X12 kd_262 ln_262 (by decide) rfl r0_262_51 (by decide) q_1604 dX12_layTree_35 ?_
      refine r_iload (pc := 38) (j := 0) C dX12_layTree_38 rfl ?_
      refine r_iconst (v := (-1)) C dX12_layTree_40 (by decide) ?_
      refine r_bb ?_
      refine r_iast C kd_284 ln_284 gc_284 h7600 (IRd rfl) dX12_layTree_41 (fun O7601 => ?_)
      refine r_aload_n (pc := 42) (j := 1) C dX12_layTree_42 rfl rfl ?_
      refine r_getR (j := 52) (r := 285) C cl_X12 kd_262 ln_262 (by decide) rfl r0_262_52 (by decide) q_1605 dX12_layTree_43 ?_
      refine r_iload (pc := 46) (j := 0) C dX12_layTree_46 rfl ?_
      refine r_iconst (v := (-1)) C dX12_layTree_48 (by decide) ?_
      refine r_bb ?_
      refine r_iast C kd_285 ln_285 gc_285 h7600 (IRd rfl) dX12_layTree_49 (fun O7602 => ?_)
      refine r_L (L' := [(0, .ref (zad E 262)), (2, .int (zi s7591.1)), (3, .int (zi s7591.2.1)), (4, .int (zi v7599))]) [1, 2, 3, 0] rfl ?_
      refine r_bb ?_
      refine r_loop1 (fun s7603 : Int × Smo => IR s7603.1) (fun s7603 => S) (fun s7603 => s7603.2) (fun s7603 => [(0, .ref (zad E 262)), (2, .int (zi s7603.1)), (3, .int (zi s7591.2.1)), (4, .int (zi v7599))]) [] (fun r7619 : Int × Smo => IR r7619.1) (fun r7619 => S) (fun r7619 => r7619.2) (fun r7619 => [(0, .ref (zad E 262)), (2, .int (zi r7619.1)), (3, .int (zi s7591.2.1)), (4, .int (zi v7599))]) 90 (fun r7619 h7620 => ?_) (fun k7605 k7607 k7606 k7608 s7603 h7604 => ?_) h7592.1
      · refine r_iload_n (pc := 90) (j := 1) C dX12_layTree_90 rfl rfl ?_
        refine r_bb ?_
        refine r_joinb (fun q7621 : Smo => True) (fun q7621 => S) (fun q7621 => q7621) (fun q7621 => [(0, .ref (zad E 262)), (2, .int (zi r7619.1)), (3, .int (zi s7591.2.1)), (4, .int (zi v7599))]) 109 (fun q7621 => []) (fun q7621 h7622 => ?_) (fun k7623 k7624 => ?_)
        · refine r_aload_n (pc := 109) (j := 0) C dX12_layTree_109 rfl rfl ?_
          refine r_getR (j := 54) (r := 287) C cl_X12 kd_262 ln_262 (by decide) rfl r0_262_54 (by decide) q_1607 dX12_layTree_110 ?_
          refine r_iload_n (pc := 113) (j := 1) C dX12_layTree_113 rfl rfl ?_
          refine r_iload (pc := 114) (j := 3) C dX12_layTree_114 rfl ?_
          refine r_bb ?_
          refine r_iast C kd_287 ln_287 gc_287 h7620 h7600 dX12_layTree_116 (fun O7629 => ?_)
          refine r_iinc (j := 1) (L' := [(2, .int (zi (wr (r7619.1 + 1)))), (0, .ref (zad E 262)), (3, .int (zi s7591.2.1)), (4, .int (zi v7599))]) C dX12_layTree_117 rfl (by decide) rfl ?_
          refine r_iinc (j := 2) (L' := [(3, .int (zi (wr (s7591.2.1 + 1)))), (2, .int (zi (wr (r7619.1 + 1)))), (0, .ref (zad E 262)), (4, .int (zi v7599))]) C dX12_layTree_120 rfl (by decide) rfl ?_
          refine r_goto (tgt := 18) C dX12_layTree_123 (by decide) ?_
          refine r_L (L' := [(0, .ref (zad E 262)), (2, .int (zi (wr (r7619.1 + 1)))), (3, .int (zi (wr (s7591.2.1 + 1))))]) [2, 1, 0] rfl ?_
          exact k7594 (wr (r7619.1 + 1), wr (s7591.2.1 + 1), O7629) ⟨(IR_wr _), (IR_wr _)⟩
        · refine r_if_le (tgt := 109) C h7620 dX12_layTree_91 (by decide) (fun c7625 => ?_) (fun c7625 => ?_)
          · refine r_bf c7625 ?_
            exact k7624 r7619.2 trivial
          · refine r_bt c7625 ?_
            refine r_aload_n (pc := 94) (j := 0) C dX12_layTree_94 rfl rfl ?_
            refine r_getR (j := 52) (r := 285) C cl_X12 kd_262 ln_262 (by decide) rfl r0_262_52 (by decide) q_1605 dX12_layTree_95 ?_
            refine r_aload_n (pc := 98) (j := 0) C dX12_layTree_98 rfl rfl ?_
            refine r_getR (j := 54) (r := 287) C cl_X12 kd_262 ln_262 (by decide) rfl r0_262_54 (by decide) q_1607 dX12_layTree_99 ?_
            refine r_iload_n (pc := 102) (j := 1) C dX12_layTree_102 rfl rfl ?_
            refine r_iconst (v := 1) C dX12_layTree_103 (by decide) ?_
            refine r_isub C dX12_layTree_104 ?_
            refine r_bb ?_
            refine r_iald C kd_287 ln_287 gc_287 (IR_wr _) dX12_layTree_105 (fun v7626 h7627 => ?_)
            refine r_iload (pc := 106) (j := 3) C dX12_layTree_106 rfl ?_
            refine r_bb ?_
            refine r_iast C kd_285 ln_285 gc_285 h7627 h7600 dX12_layTree_108 (fun O7628 => ?_)
            exact k7624 O7628 trivial
      · refine r_iload_n (pc := 50) (j := 1) C dX12_layTree_50 rfl rfl ?_
        refine r_if_le (tgt := 90) C h7604 dX12_layTree_51 (by decide) (fun c7609 => ?_) (fun c7609 => ?_)
        · refine r_bf c7609 ?_
          exact k7608 (s7603.1, s7603.2) h7604
        · refine r_bt c7609 ?_
          refine r_aload_n (pc := 54) (j := 0) C dX12_layTree_54 rfl rfl ?_
          refine r_iload (pc := 55) (j := 3) C dX12_layTree_55 rfl ?_
          refine r_aload_n (pc := 57) (j := 0) C dX12_layTree_57 rfl rfl ?_
          refine r_getR (j := 54) (r := 287) C cl_X12 kd_262 ln_262 (by decide) rfl r0_262_54 (by decide) q_1607 dX12_layTree_58 ?_
          refine r_iload_n (pc := 61) (j := 1) C dX12_layTree_61 rfl rfl ?_
          refine r_iconst (v := 1) C dX12_layTree_62 (by decide) ?_
          refine r_isub C dX12_layTree_63 ?_
          refine r_bb ?_
          refine r_iald C kd_287 ln_287 gc_287 (IR_wr _) dX12_layTree_64 (fun v7610 h7611 => ?_)
          refine r_bb ?_
          refine r_bd (fun q7613 e7614 => ?_)
          refine r_cV1 (pc := 65) (k := 262) (As := [.int (zi v7599), .int (zi v7610)]) (st := []) C (m_X12_isHeavier (a1 := v7599) (a2 := v7610) h7600 h7611 e7614) cal_X12_isHeavier cl_X12 kd_262 ln_262 q_2043 dX12_layTree_65 rfl rfl (Nat.le_of_ble_eq_true rfl) (Nat.le_of_ble_eq_true rfl) (Nat.le_of_ble_eq_true rfl) (Nat.le_of_ble_eq_true rfl) (Nat.le_of_ble_eq_true rfl) (fun h7612 => ?_)
          refine r_if_eq (tgt := 90) C h7612.ir dX12_layTree_68 (by decide) (fun c7615 => ?_) (fun c7615 => ?_)
          · refine r_bt c7615 ?_
            exact k7608 (s7603.1, s7603.2) h7604
          · refine r_bf c7615 ?_
            refine r_iinc (j := 1) (L' := [(2, .int (zi (wr (s7603.1 + (-1))))), (0, .ref (zad E 262)), (3, .int (zi s7591.2.1)), (4, .int (zi v7599))]) C dX12_layTree_71 rfl (by decide) rfl ?_
            refine r_aload_n (pc := 74) (j := 1) C dX12_layTree_74 rfl rfl ?_
            refine r_getR (j := 51) (r := 284) C cl_X12 kd_262 ln_262 (by decide) rfl r0_262_51 (by decide) q_1604 dX12_layTree_75 ?_
            refine r_iload (pc := 78) (j := 3) C dX12_layTree_78 rfl ?_
            refine r_aload_n (pc := 80) (j := 1) C dX12_layTree_80 rfl rfl ?_
            refine r_getR (j := 54) (r := 287) C cl_X12 kd_262 ln_262 (by decide) rfl r0_262_54 (by decide) q_1607 dX12_layTree_81 ?_
            refine r_iload_n (pc := 84) (j := 0) C dX12_layTree_84 rfl rfl ?_
            refine r_bb ?_
            refine r_iald C kd_287 ln_287 gc_287 (IR_wr _) dX12_layTree_85 (fun v7616 h7617 => ?_)
            refine r_bb ?_
            refine r_iast C kd_284 ln_284 gc_284 h7600 h7617 dX12_layTree_86 (fun O7618 => ?_)
            refine r_goto (tgt := 50) C dX12_layTree_87 (by decide) ?_
            refine r_L (L' := [(0, .ref (zad E 262)), (2, .int (zi (wr (s7603.1 + (-1))))), (3, .int (zi s7591.2.1)), (4, .int (zi v7599))]) [1, 0, 2, 3] rfl ?_
            exact k7606 (wr (s7603.1 + (-1)), O7618) (IR_wr _)

def f_X12_highAt (a1 : Int) (O : Smo) : Option (Int × Smo) :=
  Option.bind (f_X12_layTree a1 O) fun (q7645 : Smo) =>
  Option.bind (f_X12_highBy (q7645 262 59) q7645) fun (q7649 : Int) =>
  some (q7649, q7645)
set_option maxRecDepth 100000 in
set_option maxHeartbeats 4000000 in
theorem m_X12_highAt {l : Launch} {E : EwT} {S : Sst} {O : Smo} {a1 : Int} (ha1 : IR a1) {q : Int × Smo} (hq : f_X12_highAt a1 O = some q) : MetG l E yX12_highAt cX12_highAt 2 (some .int) 4 98 0 0 n0 R0 S O [.ref (zad E 262), .int (zi a1)] (IR q.1) (some (.int (zi q.1))) n0 R0 S q.2 := by
  refine ofG (L0 := [(0, .ref (zad E 262)), (1, .int (zi a1))]) hq (by decide +kernel) (Nat.le_of_ble_eq_true rfl) rfl (fun K _ C hQ => ?_)
  unfold f_X12_highAt
  refine r_aload_n (pc := 0) (j := 0) C dX12_highAt_0 rfl rfl ?_
  refine r_iload_n (pc := 1) (j := 1) C dX12_highAt_1 rfl rfl ?_
  refine r_bd (fun q7645 e7646 => ?_)
  refine r_cV0 (pc := 2) (k := 262) (As := [.int (zi a1)]) (st := []) C (m_X12_layTree (a1 := a1) ha1 e7646) cal_X12_layTree cl_X12 kd_262 ln_262 q_2028 dX12_highAt_2 rfl rfl (Nat.le_of_ble_eq_true rfl) (Nat.le_of_ble_eq_true rfl) (Nat.le_of_ble_eq_true rfl) (Nat.le_of_ble_eq_true rfl) (Nat.le_of_ble_eq_true rfl) (fun h7644 => ?_)
  refine r_aload_n (pc := 5) (j := 0) C dX12_highAt_5 rfl rfl ?_
  refine r_aload_n (pc := 6) (j := 0) C dX12_highAt_6 rfl rfl ?_
  refine r_getO (j := 59) C cl_X12 kd_262 ln_262 gc_262 (by decide) (by decide) rfl q_1612 dX12_highAt_7 (fun h7647 => ?_)
  refine r_bd (fun q7649 e7650 => ?_)
  refine r_cV1 (pc := 10) (k := 262) (As := [.int (zi (q7645 262 59))]) (st := []) C (m_X12_highBy (a1 := q7645 262 59) h7647 e7650) cal_X12_highBy cl_X12 kd_262 ln_262 q_2055 dX12_highAt_10 rfl rfl (Nat.le_of_ble_eq_true rfl) (Nat.le_of_ble_eq_true rfl) (Nat.le_of_ble_eq_true rfl) (Nat.le_of_ble_eq_true rfl) (Nat.le_of_ble_eq_true rfl) (fun h7648 => ?_)
  exact r_ireturn C hQ rfl dX12_highAt_13 (fun e => by cases e; exact ⟨h7648, rfl, rfl, rfl, rfl, rfl⟩)

def f_X12_nodeNowOf (a1 : Int) (O : Smo) : Option (Int) :=
  if a1 < 0 then
    (some (-1))
  else
    (Option.bind (aget (O 291) (Ln 291) a1) fun (v7652 : Int) =>
    some v7652)
set_option maxRecDepth 100000 in
set_option maxHeartbeats 4000000 in
theorem m_X12_nodeNowOf {l : Launch} {E : EwT} {S : Sst} {O : Smo} {a1 : Int} (ha1 : IR a1) {q : Int} (hq : f_X12_nodeNowOf a1 O = some q) : MetG l E yX12_nodeNowOf cX12_nodeNowOf 2 (some .int) 0 0 0 0 n0 R0 S O [.ref (zad E 262), .int (zi a1)] (IR q) (some (.int (zi q))) n0 R0 S O := by
  refine ofG (L0 := [(0, .ref (zad E 262)), (1, .int (zi a1))]) hq (by decide +kernel) (Nat.le_of_ble_eq_true rfl) rfl (fun K _ C hQ => ?_)
  unfold f_X12_nodeNowOf
  refine r_iload_n (pc := 0) (j := 1) C dX12_nodeNowOf_0 rfl rfl ?_
  refine r_if_ge (tgt := 8) C ha1 dX12_nodeNowOf_1 (by decide) (fun c7651 => ?_) (fun c7651 => ?_)
  · refine r_f c7651 ?_
    refine r_aload_n (pc := 8) (j := 0) C dX12_nodeNowOf_8 rfl rfl ?_
    refine r_getR (j := 60) (r := 291) C cl_X12 kd_262 ln_262 (by decide) rfl r0_262_60 (by decide) q_1613 dX12_nodeNowOf_9 ?_
    refine r_iload_n (pc := 12) (j := 1) C dX12_nodeNowOf_12 rfl rfl ?_
    refine r_iald C kd_291 ln_291 gc_291 ha1 dX12_nodeNowOf_13 (fun v7652 h7653 => ?_)
    exact r_ireturn C hQ rfl dX12_nodeNowOf_14 (fun e => by cases e; exact ⟨h7653, rfl, rfl, rfl, rfl, rfl⟩)
  · refine r_t c7651 ?_
    refine r_iconst (v := (-1)) C dX12_nodeNowOf_4 (by decide) ?_
    refine r_goto (tgt := 14) C dX12_nodeNowOf_5 (by decide) ?_
    exact r_ireturn C hQ rfl dX12_nodeNowOf_14 (fun e => by cases e; exact ⟨(IRd rfl), rfl, rfl, rfl, rfl, rfl⟩)

def f_X12_makeNode (a1 : Int) (a2 : Int) (a3 : Int) (a4 : Int) (O : Smo) : Option (Smo) :=
  Option.bind (aget (O 282) (Ln 282) (wr (164 + a2))) fun (v7654 : Int) =>
  Option.bind (aget (O 282) (Ln 282) (wr (164 + a2))) fun (v7656 : Int) =>
  Option.bind (asetO O 282 (Ln 282) (wr (164 + a2)) (wr (v7656 + 1))) fun (O7658 : Smo) =>
  Option.bind (asetO O7658 282 (Ln 282) (wr (205 + v7654)) a1) fun (O7659 : Smo) =>
  Option.bind (asetO O7659 282 (Ln 282) (wr (525 + v7654)) a2) fun (O7660 : Smo) =>
  Option.bind (asetO O7660 282 (Ln 282) (wr (845 + v7654)) a3) fun (O7661 : Smo) =>
  Option.bind (asetO O7661 282 (Ln 282) (wr (1165 + v7654)) a4) fun (O7662 : Smo) =>
  Option.bind (asetO O7662 282 (Ln 282) (wr (1485 + v7654)) 0) fun (O7663 : Smo) =>
  Option.bind (asetO O7663 291 (Ln 291) a1 v7654) fun (O7664 : Smo) =>
  some O7664
set_option maxRecDepth 100000 in
set_option maxHeartbeats 4000000 in
theorem m_X12_makeNode {l : Launch} {E : EwT} {S : Sst} {O : Smo} {a1 : Int} (ha1 : IR a1) {a2 : Int} (ha2 : IR a2) {a3 : Int} (ha3 : IR a3) {a4 : Int} (ha4 : IR a4) {q : Smo} (hq : f_X12_makeNode a1 a2 a3 a4 O = some q) : MetG l E yX12_makeNode cX12_makeNode 6 none 0 0 0 0 n0 R0 S O [.ref (zad E 262), .int (zi a1), .int (zi a2), .int (zi a3), .int (zi a4)] (True) none n0 R0 S q := by
  refine ofG (L0 := [(0, .ref (zad E 262)), (1, .int (zi a1)), (2, .int (zi a2)), (3, .int (zi a3)), (4, .int (zi a4))]) hq (by decide +kernel) (Nat.le_of_ble_eq_true rfl) rfl (fun K _ C hQ => ?_)
  unfold f_X12_makeNode
  refine r_aload_n (pc := 0) (j := 0) C dX12_makeNode_0 rfl rfl ?_
  refine r_getR (j := 46) (r := 282) C cl_X12 kd_262 ln_262 (by decide) rfl r0_262_46 (by decide) q_1599 dX12_makeNode_1 ?_
  refine r_sipush (v := 164) C dX12_makeNode_4 (by decide) ?_
  refine r_iload_n (pc := 7) (j := 2) C dX12_makeNode_7 rfl rfl ?_
  refine r_iadd C dX12_makeNode_8 ?_
  refine r_iald C kd_282 ln_282 gc_282 (IR_wr _) dX12_makeNode_9 (fun v7654 h7655 => ?_)
  refine r_istore (L' := [(5, .int (zi v7654)), (0, .ref (zad E 262)), (1, .int (zi a1)), (2, .int (zi a2)), (3, .int (zi a3)), (4, .int (zi a4))]) C dX12_makeNode_10 (by decide) rfl ?_
  refine r_aload_n (pc := 12) (j := 1) C dX12_makeNode_12 rfl rfl ?_
  refine r_getR (j := 46) (r := 282) C cl_X12 kd_262 ln_262 (by decide) rfl r0_262_46 (by decide) q_1599 dX12_makeNode_13 ?_
  refine r_sipush (v := 164) C dX12_makeNode_16 (by decide) ?_
  refine r_iload_n (pc := 19) (j := 3) C dX12_makeNode_19 rfl rfl ?_
  refine r_iadd C dX12_makeNode_20 ?_
  refine r_dup2 C dX12_makeNode_21 rfl rfl ?_
  refine r_iald C kd_282 ln_282 gc_282 (IR_wr _) dX12_makeNode_22 (fun v7656 h7657 => ?_)
  refine r_iconst (v := 1) C dX12_makeNode_23 (by decide) ?_
  refine r_iadd C dX12_makeNode_24 ?_
  refine r_iast C kd_282 ln_282 gc_282 (IR_wr _) (IR_wr _) dX12_makeNode_25 (fun O7658 => ?_)
  refine r_aload_n (pc := 26) (j := 1) C dX12_makeNode_26 rfl rfl ?_
  refine r_getR (j := 46) (r := 282) C cl_X12 kd_262 ln_262 (by decide) rfl r0_262_46 (by decide) q_1599 dX12_makeNode_27 ?_
  refine r_sipush (v := 205) C dX12_makeNode_30 (by decide) ?_
  refine r_iload (pc := 33) (j := 0) C dX12_makeNode_33 rfl ?_
  refine r_iadd C dX12_makeNode_35 ?_
  refine r_iload_n (pc := 36) (j := 2) C dX12_makeNode_36 rfl rfl ?_
  refine r_iast C kd_282 ln_282 gc_282 (IR_wr _) ha1 dX12_makeNode_37 (fun O7659 => ?_)
  refine r_aload_n (pc := 38) (j := 1) C dX12_makeNode_38 rfl rfl ?_
  refine r_getR (j := 46) (r := 282) C cl_X12 kd_262 ln_262 (by decide) rfl r0_262_46 (by decide) q_1599 dX12_makeNode_39 ?_
  refine r_sipush (v := 525) C dX12_makeNode_42 (by decide) ?_
  refine r_iload (pc := 45) (j := 0) C dX12_makeNode_45 rfl ?_
  refine r_iadd C dX12_makeNode_47 ?_
  refine r_iload_n (pc := 48) (j := 3) C dX12_makeNode_48 rfl rfl ?_
  refine r_iast C kd_282 ln_282 gc_282 (IR_wr _) ha2 dX12_makeNode_49 (fun O7660 => ?_)
  refine r_aload_n (pc := 50) (j := 1) C dX12_makeNode_50 rfl rfl ?_
  refine r_getR (j := 46) (r := 282) C cl_X12 kd_262 ln_262 (by decide) rfl r0_262_46 (by decide) q_1599 dX12_makeNode_51 ?_
  refine r_sipush (v := 845) C dX12_makeNode_54 (by decide) ?_
  refine r_iload (pc := 57) (j := 0) C dX12_makeNode_57 rfl ?_
  refine r_iadd C dX12_makeNode_59 ?_
  refine r_iload_n (pc := 60) (j := 4) C dX12_makeNode_60 rfl rfl ?_
  refine r_iast C kd_282 ln_282 gc_282 (IR_wr _) ha3 dX12_makeNode_61 (fun O7661 => ?_)
  refine r_aload_n (pc := 62) (j := 1) C dX12_makeNode_62 rfl rfl ?_
  refine r_getR (j := 46) (r := 282) C cl_X12 kd_262 ln_262 (by decide) rfl r0_262_46 (by decide) q_1599 dX12_makeNode_63 ?_
  refine r_sipush (v := 1165) C dX12_makeNode_66 (by decide) ?_
  refine r_iload (pc := 69) (j := 0) C dX12_makeNode_69 rfl ?_
  refine r_iadd C dX12_makeNode_71 ?_
  refine r_iload (pc := 72) (j := 5) C dX12_makeNode_72 rfl ?_
  refine r_iast C kd_282 ln_282 gc_282 (IR_wr _) ha4 dX12_makeNode_74 (fun O7662 => ?_)
  refine r_aload_n (pc := 75) (j := 1) C dX12_makeNode_75 rfl rfl ?_
  refine r_getR (j := 46) (r := 282) C cl_X12 kd_262 ln_262 (by decide) rfl r0_262_46 (by decide) q_1599 dX12_makeNode_76 ?_
  refine r_sipush (v := 1485) C dX12_makeNode_79 (by decide) ?_
  refine r_iload (pc := 82) (j := 0) C dX12_makeNode_82 rfl ?_
  refine r_iadd C dX12_makeNode_84 ?_
  refine r_iconst (v := 0) C dX12_makeNode_85 (by decide) ?_
  refine r_iast C kd_282 ln_282 gc_282 (IR_wr _) (IRd rfl) dX12_makeNode_86 (fun O7663 => ?_)
  refine r_aload_n (pc := 87) (j := 1) C dX12_makeNode_87 rfl rfl ?_
  refine r_getR (j := 60) (r := 291) C cl_X12 kd_262 ln_262 (by decide) rfl r0_262_60 (by decide) q_1613 dX12_makeNode_88 ?_
  refine r_iload_n (pc := 91) (j := 2) C dX12_makeNode_91 rfl rfl ?_
  refine r_iload (pc := 92) (j := 0) C dX12_makeNode_92 rfl ?_
  refine r_iast C kd_291 ln_291 gc_291 ha1 h7655 dX12_makeNode_94 (fun O7664 => ?_)
  exact r_return C hQ dX12_makeNode_95 (fun e => by cases e; exact ⟨trivial, rfl, rfl, rfl, rfl, rfl⟩)

def f_X12_writeSlot (a1 : Int) (a2 : Int) (a3 : Int) (a4 : Int) (O : Smo) : Option (Smo) :=
  Option.bind (aget (O 282) (Ln 282) (wr (1485 + a1))) fun (v7665 : Int) =>
  jn (wr ((wr (6 * a1)) + v7665)) fun (v7667 : Int) =>
  Option.bind (asetO O 282 (Ln 282) (wr (1805 + v7667)) a2) fun (O7669 : Smo) =>
  Option.bind (asetO O7669 282 (Ln 282) (wr (3725 + v7667)) a3) fun (O7670 : Smo) =>
  Option.bind (asetO O7670 282 (Ln 282) (wr (5645 + v7667)) a4) fun (O7671 : Smo) =>
  Option.bind (aget (O7671 282) (Ln 282) (wr (1485 + a1))) fun (v7672 : Int) =>
  Option.bind (asetO O7671 282 (Ln 282) (wr (1485 + a1)) (wr (v7672 + 1))) fun (O7674 : Smo) =>
  some O7674
set_option maxRecDepth 100000 in
set_option maxHeartbeats 4000000 in
theorem m_X12_writeSlot {l : Launch} {E : EwT} {S : Sst} {O : Smo} {a1 : Int} (ha1 : IR a1) {a2 : Int} (ha2 : IR a2) {a3 : Int} (ha3 : IR a3) {a4 : Int} (ha4 : IR a4) {q : Smo} (hq : f_X12_writeSlot a1 a2 a3 a4 O = some q) : MetG l E yX12_writeSlot cX12_writeSlot 6 none 0 0 0 0 n0 R0 S O [.ref (zad E 262), .int (zi a1), .int (zi a2), .int (zi a3), .int (zi a4)] (True) none n0 R0 S q := by
  refine ofG (L0 := [(0, .ref (zad E 262)), (1, .int (zi a1)), (2, .int (zi a2)), (3, .int (zi a3)), (4, .int (zi a4))]) hq (by decide +kernel) (Nat.le_of_ble_eq_true rfl) rfl (fun K _ C hQ => ?_)
  unfold f_X12_writeSlot
  refine r_bipush (v := 6) C dX12_writeSlot_0 (by decide) ?_
  refine r_iload_n (pc := 2) (j := 1) C dX12_writeSlot_2 rfl rfl ?_
  refine r_imul C dX12_writeSlot_3 ?_
  refine r_aload_n (pc := 4) (j := 0) C dX12_writeSlot_4 rfl rfl ?_
  refine r_getR (j := 46) (r := 282) C cl_X12 kd_262 ln_262 (by decide) rfl r0_262_46 (by decide) q_1599 dX12_writeSlot_5 ?_
  refine r_sipush (v := 1485) C dX12_writeSlot_8 (by decide) ?_
  refine r_iload_n (pc := 11) (j := 1) C dX12_writeSlot_11 rfl rfl ?_
  refine r_iadd C dX12_writeSlot_12 ?_
  refine r_iald C kd_282 ln_282 gc_282 (IR_wr _) dX12_writeSlot_13 (fun v7665 h7666 => ?_)
  refine r_iadd C dX12_writeSlot_14 ?_
  refine r_jv (IR_wr _) (fun v7667 h7668 => ?_)
  refine r_istore (L' := [(5, .int (zi v7667)), (0, .ref (zad E 262)), (1, .int (zi a1)), (2, .int (zi a2)), (3, .int (zi a3)), (4, .int (zi a4))]) C dX12_writeSlot_15 (by decide) rfl ?_
  refine r_aload_n (pc := 17) (j := 1) C dX12_writeSlot_17 rfl rfl ?_
  refine r_getR (j := 46) (r := 282) C cl_X12 kd_262 ln_262 (by decide) rfl r0_262_46 (by decide) q_1599 dX12_writeSlot_18 ?_
  refine r_sipush (v := 1805) C dX12_writeSlot_21 (by decide) ?_
  refine r_iload (pc := 24) (j := 0) C dX12_writeSlot_24 rfl ?_
  refine r_iadd C dX12_writeSlot_26 ?_
  refine r_iload_n (pc := 27) (j := 3) C dX12_writeSlot_27 rfl rfl ?_
  refine r_iast C kd_282 ln_282 gc_282 (IR_wr _) ha2 dX12_writeSlot_28 (fun O7669 => ?_)
  refine r_aload_n (pc := 29) (j := 1) C dX12_writeSlot_29 rfl rfl ?_
  refine r_getR (j := 46) (r := 282) C cl_X12 kd_262 ln_262 (by decide) rfl r0_262_46 (by decide) q_1599 dX12_writeSlot_30 ?_
  refine r_sipush (v := 3725) C dX12_writeSlot_33 (by decide) ?_
  refine r_iload (pc := 36) (j := 0) C dX12_writeSlot_36 rfl ?_
  refine r_iadd C dX12_writeSlot_38 ?_
  refine r_iload_n (pc := 39) (j := 4) C dX12_writeSlot_39 rfl rfl ?_
  refine r_iast C kd_282 ln_282 gc_282 (IR_wr _) ha3 dX12_writeSlot_40 (fun O7670 => ?_)
  refine r_aload_n (pc := 41) (j := 1) C dX12_writeSlot_41 rfl rfl ?_
  refine r_getR (j := 46) (r := 282) C cl_X12 kd_262 ln_262 (by decide) rfl r0_262_46 (by decide) q_1599 dX12_writeSlot_42 ?_
  refine r_sipush (v := 5645) C dX12_writeSlot_45 (by decide) ?_
  refine r_iload (pc := 48) (j := 0) C dX12_writeSlot_48 rfl ?_
  refine r_iadd C dX12_writeSlot_50 ?_
  refine r_iload (pc := 51) (j := 5) C dX12_writeSlot_51 rfl ?_
  refine r_iast C kd_282 ln_282 gc_282 (IR_wr _) ha4 dX12_writeSlot_53 (fun O7671 => ?_)
  refine r_aload_n (pc := 54) (j := 1) C dX12_writeSlot_54 rfl rfl ?_
  refine r_getR (j := 46) (r := 282) C cl_X12 kd_262 ln_262 (by decide) rfl r0_262_46 (by decide) q_1599 dX12_writeSlot_55 ?_
  refine r_sipush (v := 1485) C dX12_writeSlot_58 (by decide) ?_
  refine r_iload_n (pc := 61) (j := 2) C dX12_writeSlot_61 rfl rfl ?_
  refine r_iadd C dX12_writeSlot_62 ?_
  refine r_dup2 C dX12_writeSlot_63 rfl rfl ?_
  refine r_iald C kd_282 ln_282 gc_282 (IR_wr _) dX12_writeSlot_64 (fun v7672 h7673 => ?_)
  refine r_iconst (v := 1) C dX12_writeSlot_65 (by decide) ?_
  refine r_iadd C dX12_writeSlot_66 ?_
  refine r_iast C kd_282 ln_282 gc_282 (IR_wr _) (IR_wr _) dX12_writeSlot_67 (fun O7674 => ?_)
  exact r_return C hQ dX12_writeSlot_68 (fun e => by cases e; exact ⟨trivial, rfl, rfl, rfl, rfl, rfl⟩)

def f_X12_layNode (a1 : Int) (a2 : Int) (O : Smo) : Option (Smo) :=
  Option.bind (aget (O 284) (Ln 284) a1) fun (v7675 : Int) =>
  Option.bind (f_X12_nodeNowOf v7675 O) fun (q7678 : Int) =>
  Option.bind (aget (O 285) (Ln 285) a1) fun (v7680 : Int) =>
  Option.bind (f_X12_nodeNowOf v7680 O) fun (q7683 : Int) =>
  Option.bind (f_X12_nodeOf a1 (wr (a2 - 1)) O) fun (q7686 : Int) =>
  Option.bind (
    if q7686 < 0 then
      (some 0)
    else
      (Option.bind (f_X12_readAt q7686 0 a2 O) fun (q7694 : Int) =>
      if q7694 = q7678 then
        (some 0)
      else
        (some 1))) fun (q7688 : Int) =>
  Option.bind (
    if q7686 < 0 then
      (some 0)
    else
      (Option.bind (f_X12_readAt q7686 1 a2 O) fun (q7703 : Int) =>
      if q7703 = q7683 then
        (some 0)
      else
        (some 1))) fun (q7697 : Int) =>
  jk (fun (q7706 : Smo) =>
    Option.bind (f_X12_makeNode a1 a2 q7678 q7683 q7706) fun (q7731 : Smo) =>
    some q7731) fun k7708 =>
  if q7686 < 0 then
    (k7708 O)
  else
    (Option.bind (aget (O 282) (Ln 282) (wr (1485 + q7686))) fun (v7711 : Int) =>
    if O 262 40 < wr ((wr (v7711 + (f_X12_truth q7688))) + (f_X12_truth q7697)) then
      (k7708 O)
    else
      (Option.bind (asetO O 291 (Ln 291) a1 q7686) fun (O7717 : Smo) =>
      Option.bind (
        if q7688 = 0 then
          (some O7717)
        else
          (Option.bind (f_X12_writeSlot q7686 a2 0 q7678 O7717) fun (q7724 : Smo) =>
          some q7724)) fun (q7718 : Smo) =>
      if q7697 = 0 then
        (some q7718)
      else
        (Option.bind (f_X12_writeSlot q7686 a2 1 q7683 q7718) fun (q7728 : Smo) =>
        some q7728)))
set_option maxRecDepth 100000 in
set_option maxHeartbeats 4000000 in
theorem m_X12_layNode {l : Launch} {E : EwT} {S : Sst} {O : Smo} {a1 : Int} (ha1 : IR a1) {a2 : Int} (ha2 : IR a2) {q : Smo} (hq : f_X12_layNode a1 a2 O = some q) : MetG l E yX12_layNode cX12_layNode 8 none 3 69 0 0 n0 R0 S O [.ref (zad E 262), .int (zi a1), .int (zi a2)] (True) none n0 R0 S q := by
  refine ofG (L0 := [(0, .ref (zad E 262)), (1, .int (zi a1)), (2, .int (zi a2))]) hq (by decide +kernel) (Nat.le_of_ble_eq_true rfl) rfl (fun K _ C hQ => ?_)
  unfold f_X12_layNode
  refine r_aload_n (pc := 0) (j := 0) C dX12_layNode_0 rfl rfl ?_
  refine r_aload_n (pc := 1) (j := 0) C dX12_layNode_1 rfl rfl ?_
  refine r_getR (j := 51) (r := 284) C cl_X12 kd_262 ln_262 (by decide) rfl r0_262_51 (by decide) q_1604 dX12_layNode_2 ?_
  refine r_iload_n (pc := 5) (j := 1) C dX12_layNode_5 rfl rfl ?_
  refine r_iald C kd_284 ln_284 gc_284 ha1 dX12_layNode_6 (fun v7675 h7676 => ?_)
  refine r_bd (fun q7678 e7679 => ?_)
  refine r_cV1 (pc := 7) (k := 262) (As := [.int (zi v7675)]) (st := []) C (m_X12_nodeNowOf (a1 := v7675) h7676 e7679) cal_X12_nodeNowOf cl_X12 kd_262 ln_262 q_2063 dX12_layNode_7 rfl rfl (Nat.le_of_ble_eq_true rfl) (Nat.le_of_ble_eq_true rfl) (Nat.le_of_ble_eq_true rfl) (Nat.le_of_ble_eq_true rfl) (Nat.le_of_ble_eq_true rfl) (fun h7677 => ?_)
  refine r_istore_n (L' := [(3, .int (zi q7678)), (0, .ref (zad E 262)), (1, .int (zi a1)), (2, .int (zi a2))]) C dX12_layNode_10 rfl (by decide) rfl ?_
  refine r_aload_n (pc := 11) (j := 1) C dX12_layNode_11 rfl rfl ?_
  refine r_aload_n (pc := 12) (j := 1) C dX12_layNode_12 rfl rfl ?_
  refine r_getR (j := 52) (r := 285) C cl_X12 kd_262 ln_262 (by decide) rfl r0_262_52 (by decide) q_1605 dX12_layNode_13 ?_
  refine r_iload_n (pc := 16) (j := 2) C dX12_layNode_16 rfl rfl ?_
  refine r_iald C kd_285 ln_285 gc_285 ha1 dX12_layNode_17 (fun v7680 h7681 => ?_)
  refine r_bd (fun q7683 e7684 => ?_)
  refine r_cV1 (pc := 18) (k := 262) (As := [.int (zi v7680)]) (st := []) C (m_X12_nodeNowOf (a1 := v7680) h7681 e7684) cal_X12_nodeNowOf cl_X12 kd_262 ln_262 q_2063 dX12_layNode_18 rfl rfl (Nat.le_of_ble_eq_true rfl) (Nat.le_of_ble_eq_true rfl) (Nat.le_of_ble_eq_true rfl) (Nat.le_of_ble_eq_true rfl) (Nat.le_of_ble_eq_true rfl) (fun h7682 => ?_)
  refine r_istore (L' := [(4, .int (zi q7683)), (3, .int (zi q7678)), (0, .ref (zad E 262)), (1, .int (zi a1)), (2, .int (zi a2))]) C dX12_layNode_21 (by decide) rfl ?_
  refine r_aload_n (pc := 23) (j := 2) C dX12_layNode_23 rfl rfl ?_
  refine r_iload_n (pc := 24) (j := 3) C dX12_layNode_24 rfl rfl ?_
  refine r_iload_n (pc := 25) (j := 4) C dX12_layNode_25 rfl rfl ?_
  refine r_iconst (v := 1) C dX12_layNode_26 (by decide) ?_
  refine r_isub C dX12_layNode_27 ?_
  refine r_bd (fun q7686 e7687 => ?_)
  refine r_cV1 (pc := 28) (k := 262) (As := [.int (zi a1), .int (zi (wr (a2 - 1)))]) (st := []) C (m_X12_nodeOf (a1 := a1) (a2 := wr (a2 - 1)) ha1 (IR_wr _) e7687) cal_X12_nodeOf cl_X12 kd_262 ln_262 q_2067 dX12_layNode_28 rfl rfl (Nat.le_of_ble_eq_true rfl) (Nat.le_of_ble_eq_true rfl) (Nat.le_of_ble_eq_true rfl) (Nat.le_of_ble_eq_true rfl) (Nat.le_of_ble_eq_true rfl) (fun h7685 => ?_)
  refine r_istore (L' := [(5, .int (zi q7686)), (4, .int (zi q7683)), (3, .int (zi q7678)), (0, .ref (zad E 262)), (1, .int (zi a1)), (2, .int (zi a2))]) C dX12_layNode_31 (by decide) rfl ?_
  refine r_iload (pc := 33) (j := 0) C dX12_layNode_33 rfl ?_
  refine r_joinb (fun q7688 : Int => BR q7688) (fun q7688 => S) (fun q7688 => O) (fun q7688 => [(0, .ref (zad E 262)), (1, .int (zi a1)), (2, .int (zi a2)), (3, .int (zi q7678)), (4, .int (zi q7683)), (5, .int (zi q7686))]) 55 (fun q7688 => [.int (zi q7688)]) (fun q7688 h7689 => ?_) (fun k7690 k7691 => ?_)
  · refine r_istore (L' := [(6, .int (zi q7688)), (0, .ref (zad E 262)), (1, .int (zi a1)), (2, .int (zi a2)), (3, .int (zi q7678)), (4, .int (zi q7683)), (5, .int (zi q7686))]) C dX12_layNode_55 (by decide) rfl ?_
    refine r_iload (pc := 57) (j := 6) C dX12_layNode_57 rfl ?_
    refine r_joinb (fun q7697 : Int => BR q7697) (fun q7697 => S) (fun q7697 => O) (fun q7697 => [(0, .ref (zad E 262)), (1, .int (zi a1)), (2, .int (zi a2)), (3, .int (zi q7678)), (4, .int (zi q7683)), (5, .int (zi q7686)), (6, .int (zi q7688))]) 80 (fun q7697 => [.int (zi q7697)]) (fun q7697 h7698 => ?_) (fun k7699 k7700 => ?_)
    · refine r_istore (L' := [(7, .int (zi q7697)), (0, .ref (zad E 262)), (1, .int (zi a1)), (2, .int (zi a2)), (3, .int (zi q7678)), (4, .int (zi q7683)), (5, .int (zi q7686)), (6, .int (zi q7688))]) C dX12_layNode_80 (by decide) rfl ?_
      refine r_iload (pc := 82) (j := 6) C dX12_layNode_82 rfl ?_
      refine r_jk (fun q7706 : Smo => True) (fun q7706 => S) (fun q7706 => q7706) (fun q7706 => [(0, .ref (zad E 262)), (1, .int (zi a1)), (2, .int (zi a2)), (3, .int (zi q7678)), (4, .int (zi q7683))]) 117 (fun q7706 => []) (fun q7706 h7707 => ?_) (fun k7708 k7709 => ?_)
      · refine r_aload_n (pc := 117) (j := 0) C dX12_layNode_117 rfl rfl ?_
        refine r_iload_n (pc := 118) (j := 1) C dX12_layNode_118 rfl rfl ?_
        refine r_iload_n (pc := 119) (j := 2) C dX12_layNode_119 rfl rfl ?_
        refine r_iload_n (pc := 120) (j := 3) C dX12_layNode_120 rfl rfl ?_
        refine r_iload (pc := 121) (j := 4) C dX12_layNode_121 rfl ?_
        refine r_bd (fun q7731 e7732 => ?_)
        refine r_cV0 (pc := 123) (k := 262) (As := [.int (zi a1), .int (zi a2), .int (zi q7678), .int (zi q7683)]) (st := []) C (m_X12_makeNode (a1 := a1) (a2 := a2) (a3 := q7678) (a4 := q7683) ha1 ha2 h7677 h7682 e7732) cal_X12_makeNode cl_X12 kd_262 ln_262 q_2075 dX12_layNode_123 rfl rfl (Nat.le_of_ble_eq_true rfl) (Nat.le_of_ble_eq_true rfl) (Nat.le_of_ble_eq_true rfl) (Nat.le_of_ble_eq_true rfl) (Nat.le_of_ble_eq_true rfl) (fun h7730 => ?_)
        exact r_return C hQ dX12_layNode_126 (fun e => by cases e; exact ⟨trivial, rfl, rfl, rfl, rfl, rfl⟩)
      · refine r_if_lt (tgt := 117) C h7685 dX12_layNode_84 (by decide) (fun c7710 => ?_) (fun c7710 => ?_)
        · refine r_t c7710 ?_
          refine r_L (L' := [(0, .ref (zad E 262)), (1, .int (zi a1)), (2, .int (zi a2)), (3, .int (zi q7678)), (4, .int (zi q7683))]) [1, 2, 3, 4, 5] rfl ?_
          exact k7709 O trivial
        · refine r_f c7710 ?_
          refine r_aload_n (pc := 87) (j := 1) C dX12_layNode_87 rfl rfl ?_
          refine r_getR (j := 46) (r := 282) C cl_X12 kd_262 ln_262 (by decide) rfl r0_262_46 (by decide) q_1599 dX12_layNode_88 ?_
          refine r_sipush (v := 1485) C dX12_layNode_91 (by decide) ?_
          refine r_iload (pc := 94) (j := 6) C dX12_layNode_94 rfl ?_
          refine r_iadd C dX12_layNode_96 ?_
          refine r_iald C kd_282 ln_282 gc_282 (IR_wr _) dX12_layNode_97 (fun v7711 h7712 => ?_)
          refine r_iload (pc := 98) (j := 7) C dX12_layNode_98 rfl ?_
          refine r_cS1 (pc := 100) (As := [.int (zi q7688)]) (st := [.int (zi v7711)]) C (m_X12_truth (a0 := q7688) h7689 rfl) cal_X12_truth q_1959 dX12_layNode_100 rfl rfl (Nat.le_of_ble_eq_true rfl) (Nat.le_of_ble_eq_true rfl) (Nat.le_of_ble_eq_true rfl) (Nat.le_of_ble_eq_true rfl) (Nat.le_of_ble_eq_true rfl) (fun h7713 => ?_)
          refine r_iadd C dX12_layNode_103 ?_
          refine r_iload (pc := 104) (j := 0) C dX12_layNode_104 rfl ?_
          refine r_cS1 (pc := 106) (As := [.int (zi q7697)]) (st := [.int (zi (wr (v7711 + (f_X12_truth q7688))))]) C (m_X12_truth (a0 := q7697) h7698 rfl) cal_X12_truth q_1959 dX12_layNode_106 rfl rfl (Nat.le_of_ble_eq_true rfl) (Nat.le_of_ble_eq_true rfl) (Nat.le_of_ble_eq_true rfl) (Nat.le_of_ble_eq_true rfl) (Nat.le_of_ble_eq_true rfl) (fun h7714 => ?_)
          refine r_iadd C dX12_layNode_109 ?_
          refine r_aload_n (pc := 110) (j := 1) C dX12_layNode_110 rfl rfl ?_
          refine r_getO (j := 40) C cl_X12 kd_262 ln_262 gc_262 (by decide) (by decide) rfl q_1593 dX12_layNode_111 (fun h7715 => ?_)
          refine r_icmp_le (tgt := 127) C (IR_wr _) h7715 dX12_layNode_114 (by decide) (fun c7716 => ?_) (fun c7716 => ?_)
          · refine r_f c7716 ?_
            refine r_aload_n (pc := 127) (j := 1) C dX12_layNode_127 rfl rfl ?_
            refine r_getR (j := 60) (r := 291) C cl_X12 kd_262 ln_262 (by decide) rfl r0_262_60 (by decide) q_1613 dX12_layNode_128 ?_
            refine r_iload_n (pc := 131) (j := 2) C dX12_layNode_131 rfl rfl ?_
            refine r_iload (pc := 132) (j := 6) C dX12_layNode_132 rfl ?_
            refine r_iast C kd_291 ln_291 gc_291 ha1 h7685 dX12_layNode_134 (fun O7717 => ?_)
            refine r_iload (pc := 135) (j := 7) C dX12_layNode_135 rfl ?_
            refine r_joinb (fun q7718 : Smo => True) (fun q7718 => S) (fun q7718 => q7718) (fun q7718 => [(0, .ref (zad E 262)), (2, .int (zi a2)), (4, .int (zi q7683)), (5, .int (zi q7686)), (7, .int (zi q7697))]) 149 (fun q7718 => []) (fun q7718 h7719 => ?_) (fun k7720 k7721 => ?_)
            · refine r_iload (pc := 149) (j := 4) C dX12_layNode_149 rfl ?_
              refine r_if_eq (tgt := 164) C h7698.ir dX12_layNode_151 (by decide) (fun c7726 => ?_) (fun c7726 => ?_)
              · refine r_t c7726 ?_
                exact r_return C hQ dX12_layNode_164 (fun e => by cases e; exact ⟨trivial, rfl, rfl, rfl, rfl, rfl⟩)
              · refine r_f c7726 ?_
                refine r_aload_n (pc := 154) (j := 0) C dX12_layNode_154 rfl rfl ?_
                refine r_iload (pc := 155) (j := 3) C dX12_layNode_155 rfl ?_
                refine r_iload_n (pc := 157) (j := 1) C dX12_layNode_157 rfl rfl ?_
                refine r_iconst (v := 1) C dX12_layNode_158 (by decide) ?_
                refine r_iload (pc := 159) (j := 2) C dX12_layNode_159 rfl ?_
                refine r_bd (fun q7728 e7729 => ?_)
                refine r_cV0 (pc := 161) (k := 262) (As := [.int (zi q7686), .int (zi a2), .int (zi 1), .int (zi q7683)]) (st := []) C (m_X12_writeSlot (a1 := q7686) (a2 := a2) (a3 := 1) (a4 := q7683) h7685 ha2 (IRd rfl) h7682 e7729) cal_X12_writeSlot cl_X12 kd_262 ln_262 q_2079 dX12_layNode_161 rfl rfl (Nat.le_of_ble_eq_true rfl) (Nat.le_of_ble_eq_true rfl) (Nat.le_of_ble_eq_true rfl) (Nat.le_of_ble_eq_true rfl) (Nat.le_of_ble_eq_true rfl) (fun h7727 => ?_)
                exact r_return C hQ dX12_layNode_164 (fun e => by cases e; exact ⟨trivial, rfl, rfl, rfl, rfl, rfl⟩)
            · refine r_if_eq (tgt := 149) C h7689.ir dX12_layNode_137 (by decide) (fun c7722 => ?_) (fun c7722 => ?_)
              · refine r_bt c7722 ?_
                refine r_L (L' := [(0, .ref (zad E 262)), (2, .int (zi a2)), (4, .int (zi q7683)), (5, .int (zi q7686)), (7, .int (zi q7697))]) [1, 3, 5, 6, 0] rfl ?_
                exact k7721 O7717 trivial
              · refine r_bf c7722 ?_
                refine r_aload_n (pc := 140) (j := 1) C dX12_layNode_140 rfl rfl ?_
                refine r_iload (pc := 141) (j := 6) C dX12_layNode_141 rfl ?_
                refine r_iload_n (pc := 143) (j := 3) C dX12_layNode_143 rfl rfl ?_
                refine r_iconst (v := 0) C dX12_layNode_144 (by decide) ?_
                refine r_iload_n (pc := 145) (j := 4) C dX12_layNode_145 rfl rfl ?_
                refine r_bb ?_
                refine r_bd (fun q7724 e7725 => ?_)
                refine r_cV0 (pc := 146) (k := 262) (As := [.int (zi q7686), .int (zi a2), .int (zi 0), .int (zi q7678)]) (st := []) C (m_X12_writeSlot (a1 := q7686) (a2 := a2) (a3 := 0) (a4 := q7678) h7685 ha2 (IRd rfl) h7677 e7725) cal_X12_writeSlot cl_X12 kd_262 ln_262 q_2079 dX12_layNode_146 rfl rfl (Nat.le_of_ble_eq_true rfl) (Nat.le_of_ble_eq_true rfl) (Nat.le_of_ble_eq_true rfl) (Nat.le_of_ble_eq_true rfl) (Nat.le_of_ble_eq_true rfl) (fun h7723 => ?_)
                refine r_L (L' := [(0, .ref (zad E 262)), (2, .int (zi a2)), (4, .int (zi q7683)), (5, .int (zi q7686)), (7, .int (zi q7697))]) [1, 3, 5, 6, 0] rfl ?_
                exact k7721 q7724 trivial
          · refine r_t c7716 ?_
            refine r_L (L' := [(0, .ref (zad E 262)), (1, .int (zi a1)), (2, .int (zi a2)), (3, .int (zi q7678)), (4, .int (zi q7683))]) [1, 2, 3, 4, 5] rfl ?_
            exact k7709 O trivial
    · refine r_if_lt (tgt := 79) C h7685 dX12_layNode_59 (by decide) (fun c7701 => ?_) (fun c7701 => ?_)
      · refine r_bt c7701 ?_
        refine r_iconst (v := 0) C dX12_layNode_79 (by decide) ?_
        refine r_L (L' := [(0, .ref (zad E 262)), (1, .int (zi a1)), (2, .int (zi a2)), (3, .int (zi q7678)), (4, .int (zi q7683)), (5, .int (zi q7686)), (6, .int (zi q7688))]) [1, 2, 3, 4, 5, 6, 0] rfl ?_
        exact k7700 0 (BRd rfl)
      · refine r_bf c7701 ?_
        refine r_aload_n (pc := 62) (j := 1) C dX12_layNode_62 rfl rfl ?_
        refine r_iload (pc := 63) (j := 6) C dX12_layNode_63 rfl ?_
        refine r_iconst (v := 1) C dX12_layNode_65 (by decide) ?_
        refine r_iload_n (pc := 66) (j := 3) C dX12_layNode_66 rfl rfl ?_
        refine r_bb ?_
        refine r_bd (fun q7703 e7704 => ?_)
        refine r_cV1 (pc := 67) (k := 262) (As := [.int (zi q7686), .int (zi 1), .int (zi a2)]) (st := []) C (m_X12_readAt (a1 := q7686) (a2 := 1) (a3 := a2) h7685 (IRd rfl) ha2 e7704) cal_X12_readAt cl_X12 kd_262 ln_262 q_2071 dX12_layNode_67 rfl rfl (Nat.le_of_ble_eq_true rfl) (Nat.le_of_ble_eq_true rfl) (Nat.le_of_ble_eq_true rfl) (Nat.le_of_ble_eq_true rfl) (Nat.le_of_ble_eq_true rfl) (fun h7702 => ?_)
        refine r_iload (pc := 70) (j := 5) C dX12_layNode_70 rfl ?_
        refine r_icmp_eq (tgt := 79) C h7702 h7682 dX12_layNode_72 (by decide) (fun c7705 => ?_) (fun c7705 => ?_)
        · refine r_bt c7705 ?_
          refine r_iconst (v := 0) C dX12_layNode_79 (by decide) ?_
          refine r_L (L' := [(0, .ref (zad E 262)), (1, .int (zi a1)), (2, .int (zi a2)), (3, .int (zi q7678)), (4, .int (zi q7683)), (5, .int (zi q7686)), (6, .int (zi q7688))]) [1, 2, 3, 4, 5, 6, 0] rfl ?_
          exact k7700 0 (BRd rfl)
        · refine r_bf c7705 ?_
          refine r_iconst (v := 1) C dX12_layNode_75 (by decide) ?_
          refine r_goto (tgt := 80) C dX12_layNode_76 (by decide) ?_
          refine r_L (L' := [(0, .ref (zad E 262)), (1, .int (zi a1)), (2, .int (zi a2)), (3, .int (zi q7678)), (4, .int (zi q7683)), (5, .int (zi q7686)), (6, .int (zi q7688))]) [1, 2, 3, 4, 5, 6, 0] rfl ?_
          exact k7700 1 (BRd rfl)
  · refine r_if_lt (tgt := 54) C h7685 dX12_layNode_35 (by decide) (fun c7692 => ?_) (fun c7692 => ?_)
    · refine r_bt c7692 ?_
      refine r_iconst (v := 0) C dX12_layNode_54 (by decide) ?_
      refine r_L (L' := [(0, .ref (zad E 262)), (1, .int (zi a1)), (2, .int (zi a2)), (3, .int (zi q7678)), (4, .int (zi q7683)), (5, .int (zi q7686))]) [3, 4, 5, 2, 1, 0] rfl ?_
      exact k7691 0 (BRd rfl)
    · refine r_bf c7692 ?_
      refine r_aload_n (pc := 38) (j := 3) C dX12_layNode_38 rfl rfl ?_
      refine r_iload (pc := 39) (j := 0) C dX12_layNode_39 rfl ?_
      refine r_iconst (v := 0) C dX12_layNode_41 (by decide) ?_
      refine r_iload_n (pc := 42) (j := 5) C dX12_layNode_42 rfl rfl ?_
      refine r_bb ?_
      refine r_bd (fun q7694 e7695 => ?_)
      refine r_cV1 (pc := 43) (k := 262) (As := [.int (zi q7686), .int (zi 0), .int (zi a2)]) (st := []) C (m_X12_readAt (a1 := q7686) (a2 := 0) (a3 := a2) h7685 (IRd rfl) ha2 e7695) cal_X12_readAt cl_X12 kd_262 ln_262 q_2071 dX12_layNode_43 rfl rfl (Nat.le_of_ble_eq_true rfl) (Nat.le_of_ble_eq_true rfl) (Nat.le_of_ble_eq_true rfl) (Nat.le_of_ble_eq_true rfl) (Nat.le_of_ble_eq_true rfl) (fun h7693 => ?_)
      refine r_iload_n (pc := 46) (j := 2) C dX12_layNode_46 rfl rfl ?_
      refine r_icmp_eq (tgt := 54) C h7693 h7677 dX12_layNode_47 (by decide) (fun c7696 => ?_) (fun c7696 => ?_)
      · refine r_bt c7696 ?_
        refine r_iconst (v := 0) C dX12_layNode_54 (by decide) ?_
        refine r_L (L' := [(0, .ref (zad E 262)), (1, .int (zi a1)), (2, .int (zi a2)), (3, .int (zi q7678)), (4, .int (zi q7683)), (5, .int (zi q7686))]) [3, 4, 5, 2, 1, 0] rfl ?_
        exact k7691 0 (BRd rfl)
      · refine r_bf c7696 ?_
        refine r_iconst (v := 1) C dX12_layNode_50 (by decide) ?_
        refine r_goto (tgt := 55) C dX12_layNode_51 (by decide) ?_
        refine r_L (L' := [(0, .ref (zad E 262)), (1, .int (zi a1)), (2, .int (zi a2)), (3, .int (zi q7678)), (4, .int (zi q7683)), (5, .int (zi q7686))]) [3, 4, 5, 2, 1, 0] rfl ?_
        exact k7691 1 (BRd rfl)

def f_X12_goOn (a1 : Int) (a2 : Int) (a3 : Int) (a4 : Int) (O : Smo) : Option (Int × Smo) :=
  Option.bind (lp (fun (s7800 : Int × Smo) =>
    Option.bind (f_X12_nodeMany s7800.2) fun (q7807 : Int) =>
    if s7800.1 < q7807 then
      (Option.bind (f_X12_usedUpTo s7800.1 (s7800.2 262 47) s7800.2) fun (q7812 : Int) =>
      Option.bind (asetO s7800.2 282 (Ln 282) (wr (1485 + s7800.1)) q7812) fun (O7814 : Smo) =>
      some (Sum.inl (wr (s7800.1 + 1), O7814)))
    else
      (some (Sum.inr s7800.2))) FU (0, O)) fun (r7815 : Smo) =>
  jn (up2 r7815 262 47 (wr ((r7815 262 47) + 1))) fun (O7818 : Smo) =>
  jn (up2 O7818 262 48 (O7818 262 47)) fun (O7820 : Smo) =>
  Option.bind (asetO O7820 282 (Ln 282) (wr (0 + (O7820 262 47))) a1) fun (O7822 : Smo) =>
  Option.bind (asetO O7822 282 (Ln 282) (wr (41 + (O7822 262 47))) a2) fun (O7824 : Smo) =>
  Option.bind (asetO O7824 282 (Ln 282) (wr (82 + (O7824 262 47))) a3) fun (O7826 : Smo) =>
  Option.bind (asetO O7826 282 (Ln 282) (wr (123 + (O7826 262 47))) a4) fun (O7828 : Smo) =>
  Option.bind (aget (O7828 282) (Ln 282) (wr ((wr (164 + (O7828 262 47))) - 1))) fun (v7831 : Int) =>
  Option.bind (asetO O7828 282 (Ln 282) (wr (164 + (O7828 262 47))) v7831) fun (O7833 : Smo) =>
  Option.bind (f_X12_layTree (O7833 262 47) O7833) fun (q7836 : Smo) =>
  Option.bind (lp (fun (s7838 : Int × Smo) =>
    if s7838.1 < s7838.2 262 58 then
      (Option.bind (aget (s7838.2 288) (Ln 288) s7838.1) fun (v7846 : Int) =>
      Option.bind (f_X12_layNode v7846 (s7838.2 262 47) s7838.2) fun (q7850 : Smo) =>
      some (Sum.inl (wr (s7838.1 + 1), q7850)))
    else
      (some (Sum.inr s7838.2))) FU (0, q7836)) fun (r7852 : Smo) =>
  Option.bind (f_X12_members a2) fun (q7855 : Int) =>
  some (q7855, r7852)
set_option maxRecDepth 100000 in
set_option maxHeartbeats 4000000 in
theorem m_X12_goOn {l : Launch} {E : EwT} {S : Sst} {O : Smo} {a1 : Int} (ha1 : IR a1) {a2 : Int} (ha2 : IR a2) {a3 : Int} (ha3 : IR a3) {a4 : Int} (ha4 : IR a4) {q : Int × Smo} (hq : f_X12_goOn a1 a2 a3 a4 O = some q) : MetG l E yX12_goOn cX12_goOn 6 (some .int) 4 98 0 0 n0 R0 S O [.ref (zad E 262), .int (zi a1), .int (zi a2), .int (zi a3), .int (zi a4)] (IR q.1) (some (.int (zi q.1))) n0 R0 S q.2 := by
  refine ofG (L0 := [(0, .ref (zad E 262)), (1, .int (zi a1)), (2, .int (zi a2)), (3, .int (zi a3)), (4, .int (zi a4))]) hq (by decide +kernel) (Nat.le_of_ble_eq_true rfl) rfl (fun K _ C hQ => ?_)
  unfold f_X12_goOn
  refine r_iconst (v := 0) C dX12_goOn_0 (by decide) ?_
  refine r_istore (L' := [(5, .int (zi 0)), (0, .ref (zad E 262)), (1, .int (zi a1)), (2, .int (zi a2)), (3, .int (zi a3)), (4, .int (zi a4))]) C dX12_goOn_1 (by decide) rfl ?_
  refine r_L (L' := [(0, .ref (zad E 262)), (1, .int (zi a1)), (2, .int (zi a2)), (3, .int (zi a3)), (4, .int (zi a4)), (5, .int (zi 0))]) [1, 2, 3, 4, 5, 0] rfl ?_
  refine r_loop1 (fun s7800 : Int × Smo => IR s7800.1) (fun s7800 => S) (fun s7800 => s7800.2) (fun s7800 => [(0, .ref (zad E 262)), (1, .int (zi a1)), (2, .int (zi a2)), (3, .int (zi a3)), (4, .int (zi a4)), (5, .int (zi s7800.1))]) [] (fun r7815 : Smo => True) (fun r7815 => S) (fun r7815 => r7815) (fun r7815 => [(0, .ref (zad E 262)), (1, .int (zi a1)), (2, .int (zi a2)), (3, .int (zi a3)), (4, .int (zi a4))]) 39 (fun r7815 h7816 => ?_) (fun k7802 k7804 k7803 k7805 s7800 h7801 => ?_) (IRd rfl)
  · refine r_aload_n (pc := 39) (j := 0) C dX12_goOn_39 rfl rfl ?_
    refine r_dup C dX12_goOn_40 rfl ?_
    refine r_getO (j := 47) C cl_X12 kd_262 ln_262 gc_262 (by decide) (by decide) rfl q_1600 dX12_goOn_41 (fun h7817 => ?_)
    refine r_iconst (v := 1) C dX12_goOn_44 (by decide) ?_
    refine r_iadd C dX12_goOn_45 ?_
    refine r_putO C cl_X12 kd_262 ln_262 gc_262 (by decide) (by decide) rfl rfl rfl (IR_wr _) q_1600 dX12_goOn_46 (fun O7818 => ?_)
    refine r_aload_n (pc := 49) (j := 0) C dX12_goOn_49 rfl rfl ?_
    refine r_aload_n (pc := 50) (j := 0) C dX12_goOn_50 rfl rfl ?_
    refine r_getO (j := 47) C cl_X12 kd_262 ln_262 gc_262 (by decide) (by decide) rfl q_1600 dX12_goOn_51 (fun h7819 => ?_)
    refine r_putO C cl_X12 kd_262 ln_262 gc_262 (by decide) (by decide) rfl rfl rfl h7819 q_1601 dX12_goOn_54 (fun O7820 => ?_)
    refine r_aload_n (pc := 57) (j := 0) C dX12_goOn_57 rfl rfl ?_
    refine r_getR (j := 46) (r := 282) C cl_X12 kd_262 ln_262 (by decide) rfl r0_262_46 (by decide) q_1599 dX12_goOn_58 ?_
    refine r_iconst (v := 0) C dX12_goOn_61 (by decide) ?_
    refine r_aload_n (pc := 62) (j := 0) C dX12_goOn_62 rfl rfl ?_
    refine r_getO (j := 47) C cl_X12 kd_262 ln_262 gc_262 (by decide) (by decide) rfl q_1600 dX12_goOn_63 (fun h7821 => ?_)
    refine r_iadd C dX12_goOn_66 ?_
    refine r_iload_n (pc := 67) (j := 1) C dX12_goOn_67 rfl rfl ?_
    refine r_iast C kd_282 ln_282 gc_282 (IR_wr _) ha1 dX12_goOn_68 (fun O7822 => ?_)
    refine r_aload_n (pc := 69) (j := 0) C dX12_goOn_69 rfl rfl ?_
    refine r_getR (j := 46) (r := 282) C cl_X12 kd_262 ln_262 (by decide) rfl r0_262_46 (by decide) q_1599 dX12_goOn_70 ?_
    refine r_bipush (v := 41) C dX12_goOn_73 (by decide) ?_
    refine r_aload_n (pc := 75) (j := 0) C dX12_goOn_75 rfl rfl ?_
    refine r_getO (j := 47) C cl_X12 kd_262 ln_262 gc_262 (by decide) (by decide) rfl q_1600 dX12_goOn_76 (fun h7823 => ?_)
    refine r_iadd C dX12_goOn_79 ?_
    refine r_iload_n (pc := 80) (j := 2) C dX12_goOn_80 rfl rfl ?_
    refine r_iast C kd_282 ln_282 gc_282 (IR_wr _) ha2 dX12_goOn_81 (fun O7824 => ?_)
    refine r_aload_n (pc := 82) (j := 0) C dX12_goOn_82 rfl rfl ?_
    refine r_getR (j := 46) (r := 282) C cl_X12 kd_262 ln_262 (by decide) rfl r0_262_46 (by decide) q_1599 dX12_goOn_83 ?_
    refine r_bipush (v := 82) C dX12_goOn_86 (by decide) ?_
    refine r_aload_n (pc := 88) (j := 0) C dX12_goOn_88 rfl rfl ?_
    refine r_getO (j := 47) C cl_X12 kd_262 ln_262 gc_262 (by decide) (by decide) rfl q_1600 dX12_goOn_89 (fun h7825 => ?_)
    refine r_iadd C dX12_goOn_92 ?_
    refine r_iload_n (pc := 93) (j := 3) C dX12_goOn_93 rfl rfl ?_
    refine r_iast C kd_282 ln_282 gc_282 (IR_wr _) ha3 dX12_goOn_94 (fun O7826 => ?_)
    refine r_aload_n (pc := 95) (j := 0) C dX12_goOn_95 rfl rfl ?_
    refine r_getR (j := 46) (r := 282) C cl_X12 kd_262 ln_262 (by decide) rfl r0_262_46 (by decide) q_1599 dX12_goOn_96 ?_
    refine r_bipush (v := 123) C dX12_goOn_99 (by decide) ?_
    refine r_aload_n (pc := 101) (j := 0) C dX12_goOn_101 rfl rfl ?_
    refine r_getO (j := 47) C cl_X12 kd_262 ln_262 gc_262 (by decide) (by decide) rfl q_1600 dX12_goOn_102 (fun h7827 => ?_)
    refine r_iadd C dX12_goOn_105 ?_
    refine r_iload (pc := 106) (j := 4) C dX12_goOn_106 rfl ?_
    refine r_iast C kd_282 ln_282 gc_282 (IR_wr _) ha4 dX12_goOn_108 (fun O7828 => ?_)
    refine r_aload_n (pc := 109) (j := 0) C dX12_goOn_109 rfl rfl ?_
    refine r_getR (j := 46) (r := 282) C cl_X12 kd_262 ln_262 (by decide) rfl r0_262_46 (by decide) q_1599 dX12_goOn_110 ?_
    refine r_sipush (v := 164) C dX12_goOn_113 (by decide) ?_
    refine r_aload_n (pc := 116) (j := 0) C dX12_goOn_116 rfl rfl ?_
    refine r_getO (j := 47) C cl_X12 kd_262 ln_262 gc_262 (by decide) (by decide) rfl q_1600 dX12_goOn_117 (fun h7829 => ?_)
    refine r_iadd C dX12_goOn_120 ?_
    refine r_aload_n (pc := 121) (j := 0) C dX12_goOn_121 rfl rfl ?_
    refine r_getR (j := 46) (r := 282) C cl_X12 kd_262 ln_262 (by decide) rfl r0_262_46 (by decide) q_1599 dX12_goOn_122 ?_
    refine r_sipush (v := 164) C dX12_goOn_125 (by decide) ?_
    refine r_aload_n (pc := 128) (j := 0) C dX12_goOn_128 rfl rfl ?_
    refine r_getO (j := 47) C cl_X12 kd_262 ln_262 gc_262 (by decide) (by decide) rfl q_1600 dX12_goOn_129 (fun h7830 => ?_)
    refine r_iadd C dX12_goOn_132 ?_
    refine r_iconst (v := 1) C dX12_goOn_133 (by decide) ?_
    refine r_isub C dX12_goOn_134 ?_
    refine r_iald C kd_282 ln_282 gc_282 (IR_wr _) dX12_goOn_135 (fun v7831 h7832 => ?_)
    refine r_iast C kd_282 ln_282 gc_282 (IR_wr _) h7832 dX12_goOn_136 (fun O7833 => ?_)
    refine r_aload_n (pc := 137) (j := 0) C dX12_goOn_137 rfl rfl ?_
    refine r_aload_n (pc := 138) (j := 0) C dX12_goOn_138 rfl rfl ?_
    refine r_getO (j := 47) C cl_X12 kd_262 ln_262 gc_262 (by decide) (by decide) rfl q_1600 dX12_goOn_139 (fun h7834 => ?_)
    refine r_bd (fun q7836 e7837 => ?_)
    refine r_cV0 (pc := 142) (k := 262) (As := [.int (zi (O7833 262 47))]) (st := []) C (m_X12_layTree (a1 := O7833 262 47) h7834 e7837) cal_X12_layTree cl_X12 kd_262 ln_262 q_2028 dX12_goOn_142 rfl rfl (Nat.le_of_ble_eq_true rfl) (Nat.le_of_ble_eq_true rfl) (Nat.le_of_ble_eq_true rfl) (Nat.le_of_ble_eq_true rfl) (Nat.le_of_ble_eq_true rfl) (fun h7835 => ?_)
    refine r_iconst (v := 0) C dX12_goOn_145 (by decide) ?_
    refine r_istore (L' := [(5, .int (zi 0)), (0, .ref (zad E 262)), (1, .int (zi a1)), (2, .int (zi a2)), (3, .int (zi a3)), (4, .int (zi a4))]) C dX12_goOn_146 (by decide) rfl ?_
    refine r_L (L' := [(0, .ref (zad E 262)), (2, .int (zi a2)), (5, .int (zi 0))]) [1, 3, 0] rfl ?_
    refine r_loop1 (fun s7838 : Int × Smo => IR s7838.1) (fun s7838 => S) (fun s7838 => s7838.2) (fun s7838 => [(0, .ref (zad E 262)), (2, .int (zi a2)), (5, .int (zi s7838.1))]) [] (fun r7852 : Smo => True) (fun r7852 => S) (fun r7852 => r7852) (fun r7852 => [(2, .int (zi a2))]) 178 (fun r7852 h7853 => ?_) (fun k7840 k7842 k7841 k7843 s7838 h7839 => ?_) (IRd rfl)
    · refine r_iload_n (pc := 178) (j := 0) C dX12_goOn_178 rfl rfl ?_
      refine r_bd (fun q7855 e7856 => ?_)
      refine r_cS1 (pc := 179) (As := [.int (zi a2)]) (st := []) C (m_X12_members (a0 := a2) ha2 e7856) cal_X12_members q_2083 dX12_goOn_179 rfl rfl (Nat.le_of_ble_eq_true rfl) (Nat.le_of_ble_eq_true rfl) (Nat.le_of_ble_eq_true rfl) (Nat.le_of_ble_eq_true rfl) (Nat.le_of_ble_eq_true rfl) (fun h7854 => ?_)
      exact r_ireturn C hQ rfl dX12_goOn_182 (fun e => by cases e; exact ⟨h7854, rfl, rfl, rfl, rfl, rfl⟩)
    · refine r_iload (pc := 148) (j := 2) C dX12_goOn_148 rfl ?_
      refine r_aload_n (pc := 150) (j := 0) C dX12_goOn_150 rfl rfl ?_
      refine r_getO (j := 58) C cl_X12 kd_262 ln_262 gc_262 (by decide) (by decide) rfl q_1611 dX12_goOn_151 (fun h7844 => ?_)
      refine r_icmp_ge (tgt := 178) C h7839 h7844 dX12_goOn_154 (by decide) (fun c7845 => ?_) (fun c7845 => ?_)
      · refine r_bf c7845 ?_
        refine r_L (L' := [(2, .int (zi a2))]) [1] rfl ?_
        exact k7843 s7838.2 trivial
      · refine r_bt c7845 ?_
        refine r_aload_n (pc := 157) (j := 0) C dX12_goOn_157 rfl rfl ?_
        refine r_aload_n (pc := 158) (j := 0) C dX12_goOn_158 rfl rfl ?_
        refine r_getR (j := 55) (r := 288) C cl_X12 kd_262 ln_262 (by decide) rfl r0_262_55 (by decide) q_1608 dX12_goOn_159 ?_
        refine r_iload (pc := 162) (j := 2) C dX12_goOn_162 rfl ?_
        refine r_bb ?_
        refine r_iald C kd_288 ln_288 gc_288 h7839 dX12_goOn_164 (fun v7846 h7847 => ?_)
        refine r_aload_n (pc := 165) (j := 0) C dX12_goOn_165 rfl rfl ?_
        refine r_getO (j := 47) C cl_X12 kd_262 ln_262 gc_262 (by decide) (by decide) rfl q_1600 dX12_goOn_166 (fun h7848 => ?_)
        refine r_bb ?_
        refine r_bd (fun q7850 e7851 => ?_)
        refine r_cV0 (pc := 169) (k := 262) (As := [.int (zi v7846), .int (zi (s7838.2 262 47))]) (st := []) C (m_X12_layNode (a1 := v7846) (a2 := s7838.2 262 47) h7847 h7848 e7851) cal_X12_layNode cl_X12 kd_262 ln_262 q_2059 dX12_goOn_169 rfl rfl (Nat.le_of_ble_eq_true rfl) (Nat.le_of_ble_eq_true rfl) (Nat.le_of_ble_eq_true rfl) (Nat.le_of_ble_eq_true rfl) (Nat.le_of_ble_eq_true rfl) (fun h7849 => ?_)
        refine r_iinc (j := 2) (L' := [(5, .int (zi (wr (s7838.1 + 1)))), (0, .ref (zad E 262)), (2, .int (zi a2))]) C dX12_goOn_172 rfl (by decide) rfl ?_
        refine r_goto (tgt := 148) C dX12_goOn_175 (by decide) ?_
        refine r_L (L' := [(0, .ref (zad E 262)), (2, .int (zi a2)), (5, .int (zi (wr (s7838.1 + 1))))]) [1, 2, 0] rfl ?_
        exact k7841 (wr (s7838.1 + 1), q7850) (IR_wr _)
  · refine r_iload (pc := 3) (j := 5) C dX12_goOn_3 rfl ?_
    refine r_aload_n (pc := 5) (j := 0) C dX12_goOn_5 rfl rfl ?_
    refine r_bb ?_
    refine r_bd (fun q7807 e7808 => ?_)
    refine r_cV1 (pc := 6) (k := 262) (As := []) (st := [.int (zi s7800.1)]) C (m_X12_nodeMany  e7808) cal_X12_nodeMany cl_X12 kd_262 ln_262 q_2020 dX12_goOn_6 rfl rfl (Nat.le_of_ble_eq_true rfl) (Nat.le_of_ble_eq_true rfl) (Nat.le_of_ble_eq_true rfl) (Nat.le_of_ble_eq_true rfl) (Nat.le_of_ble_eq_true rfl) (fun h7806 => ?_)
    refine r_icmp_ge (tgt := 39) C h7801 h7806 dX12_goOn_9 (by decide) (fun c7809 => ?_) (fun c7809 => ?_)
    · refine r_bf c7809 ?_
      refine r_L (L' := [(0, .ref (zad E 262)), (1, .int (zi a1)), (2, .int (zi a2)), (3, .int (zi a3)), (4, .int (zi a4))]) [0, 1, 2, 3, 4] rfl ?_
      exact k7805 s7800.2 trivial
    · refine r_bt c7809 ?_
      refine r_aload_n (pc := 12) (j := 0) C dX12_goOn_12 rfl rfl ?_
      refine r_getR (j := 46) (r := 282) C cl_X12 kd_262 ln_262 (by decide) rfl r0_262_46 (by decide) q_1599 dX12_goOn_13 ?_
      refine r_sipush (v := 1485) C dX12_goOn_16 (by decide) ?_
      refine r_iload (pc := 19) (j := 5) C dX12_goOn_19 rfl ?_
      refine r_iadd C dX12_goOn_21 ?_
      refine r_aload_n (pc := 22) (j := 0) C dX12_goOn_22 rfl rfl ?_
      refine r_iload (pc := 23) (j := 5) C dX12_goOn_23 rfl ?_
      refine r_aload_n (pc := 25) (j := 0) C dX12_goOn_25 rfl rfl ?_
      refine r_getO (j := 47) C cl_X12 kd_262 ln_262 gc_262 (by decide) (by decide) rfl q_1600 dX12_goOn_26 (fun h7810 => ?_)
      refine r_bb ?_
      refine r_bd (fun q7812 e7813 => ?_)
      refine r_cV1 (pc := 29) (k := 262) (As := [.int (zi s7800.1), .int (zi (s7800.2 262 47))]) (st := [.int (zi (wr (1485 + s7800.1))), .ref (zad E 282)]) C (m_X12_usedUpTo (a1 := s7800.1) (a2 := s7800.2 262 47) h7801 h7810 e7813) cal_X12_usedUpTo cl_X12 kd_262 ln_262 q_2024 dX12_goOn_29 rfl rfl (Nat.le_of_ble_eq_true rfl) (Nat.le_of_ble_eq_true rfl) (Nat.le_of_ble_eq_true rfl) (Nat.le_of_ble_eq_true rfl) (Nat.le_of_ble_eq_true rfl) (fun h7811 => ?_)
      refine r_bb ?_
      refine r_iast C kd_282 ln_282 gc_282 (IR_wr _) h7811 dX12_goOn_32 (fun O7814 => ?_)
      refine r_iinc (j := 5) (L' := [(5, .int (zi (wr (s7800.1 + 1)))), (0, .ref (zad E 262)), (1, .int (zi a1)), (2, .int (zi a2)), (3, .int (zi a3)), (4, .int (zi a4))]) C dX12_goOn_33 rfl (by decide) rfl ?_
      refine r_goto (tgt := 3) C dX12_goOn_36 (by decide) ?_
      refine r_L (L' := [(0, .ref (zad E 262)), (1, .int (zi a1)), (2, .int (zi a2)), (3, .int (zi a3)), (4, .int (zi a4)), (5, .int (zi (wr (s7800.1 + 1))))]) [1, 2, 3, 4, 5, 0] rfl ?_
      exact k7803 (wr (s7800.1 + 1), O7814) (IR_wr _)

def f_X12_cutNow (O : Smo) : Option (Int) :=
  Option.bind (aget (O 282) (Ln 282) (wr (82 + (O 262 47)))) fun (v7858 : Int) =>
  some v7858
set_option maxRecDepth 100000 in
set_option maxHeartbeats 4000000 in
theorem m_X12_cutNow {l : Launch} {E : EwT} {S : Sst} {O : Smo}  {q : Int} (hq : f_X12_cutNow O = some q) : MetG l E yX12_cutNow cX12_cutNow 1 (some .int) 0 0 0 0 n0 R0 S O [.ref (zad E 262)] (IR q) (some (.int (zi q))) n0 R0 S O := by
  refine ofG (L0 := [(0, .ref (zad E 262))]) hq (by decide +kernel) (Nat.le_of_ble_eq_true rfl) rfl (fun K _ C hQ => ?_)
  unfold f_X12_cutNow
  refine r_aload_n (pc := 0) (j := 0) C dX12_cutNow_0 rfl rfl ?_
  refine r_getR (j := 46) (r := 282) C cl_X12 kd_262 ln_262 (by decide) rfl r0_262_46 (by decide) q_1599 dX12_cutNow_1 ?_
  refine r_bipush (v := 82) C dX12_cutNow_4 (by decide) ?_
  refine r_aload_n (pc := 6) (j := 0) C dX12_cutNow_6 rfl rfl ?_
  refine r_getO (j := 47) C cl_X12 kd_262 ln_262 gc_262 (by decide) (by decide) rfl q_1600 dX12_cutNow_7 (fun h7857 => ?_)
  refine r_iadd C dX12_cutNow_10 ?_
  refine r_iald C kd_282 ln_282 gc_282 (IR_wr _) dX12_cutNow_11 (fun v7858 h7859 => ?_)
  exact r_ireturn C hQ rfl dX12_cutNow_12 (fun e => by cases e; exact ⟨h7859, rfl, rfl, rfl, rfl, rfl⟩)

def f_X12_sweepsNow (O : Smo) : Option (Int) :=
  Option.bind (aget (O 282) (Ln 282) (wr (123 + (O 262 47)))) fun (v7861 : Int) =>
  some v7861
set_option maxRecDepth 100000 in
set_option maxHeartbeats 4000000 in
theorem m_X12_sweepsNow {l : Launch} {E : EwT} {S : Sst} {O : Smo}  {q : Int} (hq : f_X12_sweepsNow O = some q) : MetG l E yX12_sweepsNow cX12_sweepsNow 1 (some .int) 0 0 0 0 n0 R0 S O [.ref (zad E 262)] (IR q) (some (.int (zi q))) n0 R0 S O := by
  refine ofG (L0 := [(0, .ref (zad E 262))]) hq (by decide +kernel) (Nat.le_of_ble_eq_true rfl) rfl (fun K _ C hQ => ?_)
  unfold f_X12_sweepsNow
  refine r_aload_n (pc := 0) (j := 0) C dX12_sweepsNow_0 rfl rfl ?_
  refine r_getR (j := 46) (r := 282) C cl_X12 kd_262 ln_262 (by decide) rfl r0_262_46 (by decide) q_1599 dX12_sweepsNow_1 ?_
  refine r_bipush (v := 123) C dX12_sweepsNow_4 (by decide) ?_
  refine r_aload_n (pc := 6) (j := 0) C dX12_sweepsNow_6 rfl rfl ?_
  refine r_getO (j := 47) C cl_X12 kd_262 ln_262 gc_262 (by decide) (by decide) rfl q_1600 dX12_sweepsNow_7 (fun h7860 => ?_)
  refine r_iadd C dX12_sweepsNow_10 ?_
  refine r_iald C kd_282 ln_282 gc_282 (IR_wr _) dX12_sweepsNow_11 (fun v7861 h7862 => ?_)
  exact r_ireturn C hQ rfl dX12_sweepsNow_12 (fun e => by cases e; exact ⟨h7862, rfl, rfl, rfl, rfl, rfl⟩)

def f_X12_isNow (a1 : Int) (O : Smo) : Option (Int) :=
  jk (fun (q7864 : Unit) =>
    some 0) fun k7866 =>
  if f_X12_isSegment a1 O = 0 then
    (k7866 ())
  else
    (Option.bind (f_X12_setOf (O 262 47) O) fun (q7871 : Int) =>
    if f_X12_has q7871 a1 = 0 then
      (k7866 ())
    else
      (some 1))
set_option maxRecDepth 100000 in
set_option maxHeartbeats 4000000 in
theorem m_X12_isNow {l : Launch} {E : EwT} {S : Sst} {O : Smo} {a1 : Int} (ha1 : IR a1) {q : Int} (hq : f_X12_isNow a1 O = some q) : MetG l E yX12_isNow cX12_isNow 2 (some .boolean) 2 43 0 0 n0 R0 S O [.ref (zad E 262), .int (zi a1)] (BR q) (some (.int (zi q))) n0 R0 S O := by
  refine ofG (L0 := [(0, .ref (zad E 262)), (1, .int (zi a1))]) hq (by decide +kernel) (Nat.le_of_ble_eq_true rfl) rfl (fun K _ C hQ => ?_)
  unfold f_X12_isNow
  refine r_aload_n (pc := 0) (j := 0) C dX12_isNow_0 rfl rfl ?_
  refine r_iload_n (pc := 1) (j := 1) C dX12_isNow_1 rfl rfl ?_
  refine r_cV1 (pc := 2) (k := 262) (As := [.int (zi a1)]) (st := []) C (m_X12_isSegment (a1 := a1) ha1 rfl) cal_X12_isSegment cl_X12 kd_262 ln_262 q_1977 dX12_isNow_2 rfl rfl (Nat.le_of_ble_eq_true rfl) (Nat.le_of_ble_eq_true rfl) (Nat.le_of_ble_eq_true rfl) (Nat.le_of_ble_eq_true rfl) (Nat.le_of_ble_eq_true rfl) (fun h7863 => ?_)
  refine r_jk (fun q7864 : Unit => True) (fun q7864 => S) (fun q7864 => O) (fun q7864 => []) 27 (fun q7864 => []) (fun q7864 h7865 => ?_) (fun k7866 k7867 => ?_)
  · refine r_iconst (v := 0) C dX12_isNow_27 (by decide) ?_
    exact r_ireturn C hQ (nar_z (BRd rfl)) dX12_isNow_28 (fun e => by cases e; exact ⟨(BRd rfl), rfl, rfl, rfl, rfl, rfl⟩)
  · refine r_if_eq (tgt := 27) C h7863.ir dX12_isNow_5 (by decide) (fun c7868 => ?_) (fun c7868 => ?_)
    · refine r_t c7868 ?_
      refine r_L (L' := []) [] rfl ?_
      exact k7867 () trivial
    · refine r_f c7868 ?_
      refine r_aload_n (pc := 8) (j := 0) C dX12_isNow_8 rfl rfl ?_
      refine r_aload_n (pc := 9) (j := 0) C dX12_isNow_9 rfl rfl ?_
      refine r_getO (j := 47) C cl_X12 kd_262 ln_262 gc_262 (by decide) (by decide) rfl q_1600 dX12_isNow_10 (fun h7869 => ?_)
      refine r_bd (fun q7871 e7872 => ?_)
      refine r_cV1 (pc := 13) (k := 262) (As := [.int (zi (O 262 47))]) (st := []) C (m_X12_setOf (a1 := O 262 47) h7869 e7872) cal_X12_setOf cl_X12 kd_262 ln_262 q_2008 dX12_isNow_13 rfl rfl (Nat.le_of_ble_eq_true rfl) (Nat.le_of_ble_eq_true rfl) (Nat.le_of_ble_eq_true rfl) (Nat.le_of_ble_eq_true rfl) (Nat.le_of_ble_eq_true rfl) (fun h7870 => ?_)
      refine r_iload_n (pc := 16) (j := 1) C dX12_isNow_16 rfl rfl ?_
      refine r_cS1 (pc := 17) (As := [.int (zi q7871), .int (zi a1)]) (st := []) C (m_X12_has (a0 := q7871) (a1 := a1) h7870 ha1 rfl) cal_X12_has q_2040 dX12_isNow_17 rfl rfl (Nat.le_of_ble_eq_true rfl) (Nat.le_of_ble_eq_true rfl) (Nat.le_of_ble_eq_true rfl) (Nat.le_of_ble_eq_true rfl) (Nat.le_of_ble_eq_true rfl) (fun h7873 => ?_)
      refine r_if_eq (tgt := 27) C h7873.ir dX12_isNow_20 (by decide) (fun c7874 => ?_) (fun c7874 => ?_)
      · refine r_t c7874 ?_
        refine r_L (L' := []) [] rfl ?_
        exact k7867 () trivial
      · refine r_f c7874 ?_
        refine r_iconst (v := 1) C dX12_isNow_23 (by decide) ?_
        refine r_goto (tgt := 28) C dX12_isNow_24 (by decide) ?_
        exact r_ireturn C hQ (nar_z (BRd rfl)) dX12_isNow_28 (fun e => by cases e; exact ⟨(BRd rfl), rfl, rfl, rfl, rfl, rfl⟩)

def f_X12_sweep (O : Smo) : Option (Int × Smo) :=
  jk (fun (q7922 : Smo) =>
    some ((-1), q7922)) fun k7924 =>
  if O 262 47 = 40 then
    (k7924 O)
  else
    (Option.bind (f_X12_sweepsNow O) fun (q7928 : Int) =>
    if q7928 = O 262 45 then
      (k7924 O)
    else
      (Option.bind (f_X12_sweepsNow O) fun (q7933 : Int) =>
      Option.bind (aget (O 281) (Ln 281) q7933) fun (v7935 : Int) =>
      Option.bind (f_X12_setOf (O 262 47) O) fun (q7939 : Int) =>
      Option.bind (lp (fun (s7941 : Int × Int) =>
        if s7941.2 < O 262 39 then
          (Option.bind (aget (O 278) (Ln 278) s7941.2) fun (v7949 : Int) =>
          jn (
            if v7949 = v7935 then
              (jn (zand s7941.1 (zxor (zshl 1 s7941.2) (-1))) fun (v7956 : Int) =>
              v7956)
            else
              (s7941.1)) fun (q7951 : Int) =>
          Option.bind (aget (O 276) (Ln 276) s7941.2) fun (v7958 : Int) =>
          jn (
            if v7958 = v7935 then
              (jn (zor q7951 (zshl 1 s7941.2)) fun (v7965 : Int) =>
              v7965)
            else
              (q7951)) fun (q7960 : Int) =>
          some (Sum.inl (q7960, wr (s7941.2 + 1))))
        else
          (some (Sum.inr s7941.1))) FU (q7939, 0)) fun (r7967 : Int) =>
      Option.bind (f_X12_cutNow O) fun (q7970 : Int) =>
      Option.bind (f_X12_sweepsNow O) fun (q7973 : Int) =>
      Option.bind (f_X12_goOn v7935 r7967 q7970 (wr (q7973 + 1)) O) fun (q7976 : Int × Smo) =>
      some (q7976.1, q7976.2)))
set_option maxRecDepth 100000 in
set_option maxHeartbeats 4000000 in
theorem m_X12_sweep {l : Launch} {E : EwT} {S : Sst} {O : Smo}  {q : Int × Smo} (hq : f_X12_sweep O = some q) : MetG l E yX12_sweep cX12_sweep 4 (some .int) 5 123 0 0 n0 R0 S O [.ref (zad E 262)] (IR q.1) (some (.int (zi q.1))) n0 R0 S q.2 := by
  refine ofG (L0 := [(0, .ref (zad E 262))]) hq (by decide +kernel) (Nat.le_of_ble_eq_true rfl) rfl (fun K _ C hQ => ?_)
  unfold f_X12_sweep
  refine r_aload_n (pc := 0) (j := 0) C dX12_sweep_0 rfl rfl ?_
  refine r_getO (j := 47) C cl_X12 kd_262 ln_262 gc_262 (by decide) (by decide) rfl q_1600 dX12_sweep_1 (fun h7921 => ?_)
  refine r_bipush (v := 40) C dX12_sweep_4 (by decide) ?_
  refine r_jk (fun q7922 : Smo => True) (fun q7922 => S) (fun q7922 => q7922) (fun q7922 => []) 20 (fun q7922 => []) (fun q7922 h7923 => ?_) (fun k7924 k7925 => ?_)
  · refine r_iconst (v := (-1)) C dX12_sweep_20 (by decide) ?_
    exact r_ireturn C hQ rfl dX12_sweep_21 (fun e => by cases e; exact ⟨(IRd rfl), rfl, rfl, rfl, rfl, rfl⟩)
  · refine r_icmp_eq (tgt := 20) C h7921 (IRd rfl) dX12_sweep_6 (by decide) (fun c7926 => ?_) (fun c7926 => ?_)
    · refine r_t c7926 ?_
      refine r_L (L' := []) [] rfl ?_
      exact k7925 O trivial
    · refine r_f c7926 ?_
      refine r_aload_n (pc := 9) (j := 0) C dX12_sweep_9 rfl rfl ?_
      refine r_bd (fun q7928 e7929 => ?_)
      refine r_cV1 (pc := 10) (k := 262) (As := []) (st := []) C (m_X12_sweepsNow  e7929) cal_X12_sweepsNow cl_X12 kd_262 ln_262 q_2004 dX12_sweep_10 rfl rfl (Nat.le_of_ble_eq_true rfl) (Nat.le_of_ble_eq_true rfl) (Nat.le_of_ble_eq_true rfl) (Nat.le_of_ble_eq_true rfl) (Nat.le_of_ble_eq_true rfl) (fun h7927 => ?_)
      refine r_aload_n (pc := 13) (j := 0) C dX12_sweep_13 rfl rfl ?_
      refine r_getO (j := 45) C cl_X12 kd_262 ln_262 gc_262 (by decide) (by decide) rfl q_1598 dX12_sweep_14 (fun h7930 => ?_)
      refine r_icmp_ne (tgt := 22) C h7927 h7930 dX12_sweep_17 (by decide) (fun c7931 => ?_) (fun c7931 => ?_)
      · refine r_f c7931 ?_
        refine r_aload_n (pc := 22) (j := 0) C dX12_sweep_22 rfl rfl ?_
        refine r_getR (j := 44) (r := 281) C cl_X12 kd_262 ln_262 (by decide) rfl r0_262_44 (by decide) q_1597 dX12_sweep_23 ?_
        refine r_aload_n (pc := 26) (j := 0) C dX12_sweep_26 rfl rfl ?_
        refine r_bd (fun q7933 e7934 => ?_)
        refine r_cV1 (pc := 27) (k := 262) (As := []) (st := [.ref (zad E 281)]) C (m_X12_sweepsNow  e7934) cal_X12_sweepsNow cl_X12 kd_262 ln_262 q_2004 dX12_sweep_27 rfl rfl (Nat.le_of_ble_eq_true rfl) (Nat.le_of_ble_eq_true rfl) (Nat.le_of_ble_eq_true rfl) (Nat.le_of_ble_eq_true rfl) (Nat.le_of_ble_eq_true rfl) (fun h7932 => ?_)
        refine r_iald C kd_281 ln_281 gc_281 h7932 dX12_sweep_30 (fun v7935 h7936 => ?_)
        refine r_istore_n (L' := [(1, .int (zi v7935)), (0, .ref (zad E 262))]) C dX12_sweep_31 rfl (by decide) rfl ?_
        refine r_aload_n (pc := 32) (j := 1) C dX12_sweep_32 rfl rfl ?_
        refine r_aload_n (pc := 33) (j := 1) C dX12_sweep_33 rfl rfl ?_
        refine r_getO (j := 47) C cl_X12 kd_262 ln_262 gc_262 (by decide) (by decide) rfl q_1600 dX12_sweep_34 (fun h7937 => ?_)
        refine r_bd (fun q7939 e7940 => ?_)
        refine r_cV1 (pc := 37) (k := 262) (As := [.int (zi (O 262 47))]) (st := []) C (m_X12_setOf (a1 := O 262 47) h7937 e7940) cal_X12_setOf cl_X12 kd_262 ln_262 q_2008 dX12_sweep_37 rfl rfl (Nat.le_of_ble_eq_true rfl) (Nat.le_of_ble_eq_true rfl) (Nat.le_of_ble_eq_true rfl) (Nat.le_of_ble_eq_true rfl) (Nat.le_of_ble_eq_true rfl) (fun h7938 => ?_)
        refine r_istore_n (L' := [(2, .int (zi q7939)), (1, .int (zi v7935)), (0, .ref (zad E 262))]) C dX12_sweep_40 rfl (by decide) rfl ?_
        refine r_iconst (v := 0) C dX12_sweep_41 (by decide) ?_
        refine r_istore_n (L' := [(3, .int (zi 0)), (2, .int (zi q7939)), (1, .int (zi v7935)), (0, .ref (zad E 262))]) C dX12_sweep_42 rfl (by decide) rfl ?_
        refine r_L (L' := [(0, .ref (zad E 262)), (1, .int (zi v7935)), (2, .int (zi q7939)), (3, .int (zi 0))]) [3, 2, 1, 0] rfl ?_
        refine r_loop1 (fun s7941 : Int × Int => IR s7941.1 ∧ IR s7941.2) (fun s7941 => S) (fun s7941 => O) (fun s7941 => [(0, .ref (zad E 262)), (1, .int (zi v7935)), (2, .int (zi s7941.1)), (3, .int (zi s7941.2))]) [] (fun r7967 : Int => IR r7967) (fun r7967 => S) (fun r7967 => O) (fun r7967 => [(0, .ref (zad E 262)), (1, .int (zi v7935)), (2, .int (zi r7967))]) 91 (fun r7967 h7968 => ?_) (fun k7943 k7945 k7944 k7946 s7941 h7942 => ?_) ⟨h7938, (IRd rfl)⟩
        · refine r_aload_n (pc := 91) (j := 0) C dX12_sweep_91 rfl rfl ?_
          refine r_iload_n (pc := 92) (j := 1) C dX12_sweep_92 rfl rfl ?_
          refine r_iload_n (pc := 93) (j := 2) C dX12_sweep_93 rfl rfl ?_
          refine r_aload_n (pc := 94) (j := 0) C dX12_sweep_94 rfl rfl ?_
          refine r_bd (fun q7970 e7971 => ?_)
          refine r_cV1 (pc := 95) (k := 262) (As := []) (st := [.int (zi r7967), .int (zi v7935), .ref (zad E 262)]) C (m_X12_cutNow  e7971) cal_X12_cutNow cl_X12 kd_262 ln_262 q_2012 dX12_sweep_95 rfl rfl (Nat.le_of_ble_eq_true rfl) (Nat.le_of_ble_eq_true rfl) (Nat.le_of_ble_eq_true rfl) (Nat.le_of_ble_eq_true rfl) (Nat.le_of_ble_eq_true rfl) (fun h7969 => ?_)
          refine r_aload_n (pc := 98) (j := 0) C dX12_sweep_98 rfl rfl ?_
          refine r_bd (fun q7973 e7974 => ?_)
          refine r_cV1 (pc := 99) (k := 262) (As := []) (st := [.int (zi q7970), .int (zi r7967), .int (zi v7935), .ref (zad E 262)]) C (m_X12_sweepsNow  e7974) cal_X12_sweepsNow cl_X12 kd_262 ln_262 q_2004 dX12_sweep_99 rfl rfl (Nat.le_of_ble_eq_true rfl) (Nat.le_of_ble_eq_true rfl) (Nat.le_of_ble_eq_true rfl) (Nat.le_of_ble_eq_true rfl) (Nat.le_of_ble_eq_true rfl) (fun h7972 => ?_)
          refine r_iconst (v := 1) C dX12_sweep_102 (by decide) ?_
          refine r_iadd C dX12_sweep_103 ?_
          refine r_bd (fun q7976 e7977 => ?_)
          refine r_cV1 (pc := 104) (k := 262) (As := [.int (zi v7935), .int (zi r7967), .int (zi q7970), .int (zi (wr (q7973 + 1)))]) (st := []) C (m_X12_goOn (a1 := v7935) (a2 := r7967) (a3 := q7970) (a4 := wr (q7973 + 1)) h7936 h7968 h7969 (IR_wr _) e7977) cal_X12_goOn cl_X12 kd_262 ln_262 q_2016 dX12_sweep_104 rfl rfl (Nat.le_of_ble_eq_true rfl) (Nat.le_of_ble_eq_true rfl) (Nat.le_of_ble_eq_true rfl) (Nat.le_of_ble_eq_true rfl) (Nat.le_of_ble_eq_true rfl) (fun h7975 => ?_)
          exact r_ireturn C hQ rfl dX12_sweep_107 (fun e => by cases e; exact ⟨h7975, rfl, rfl, rfl, rfl, rfl⟩)
        · refine r_iload_n (pc := 43) (j := 3) C dX12_sweep_43 rfl rfl ?_
          refine r_aload_n (pc := 44) (j := 0) C dX12_sweep_44 rfl rfl ?_
          refine r_getO (j := 39) C cl_X12 kd_262 ln_262 gc_262 (by decide) (by decide) rfl q_1592 dX12_sweep_45 (fun h7947 => ?_)
          refine r_icmp_ge (tgt := 91) C h7942.2 h7947 dX12_sweep_48 (by decide) (fun c7948 => ?_) (fun c7948 => ?_)
          · refine r_bf c7948 ?_
            refine r_L (L' := [(0, .ref (zad E 262)), (1, .int (zi v7935)), (2, .int (zi s7941.1))]) [0, 1, 2] rfl ?_
            exact k7946 s7941.1 h7942.1
          · refine r_bt c7948 ?_
            refine r_aload_n (pc := 51) (j := 0) C dX12_sweep_51 rfl rfl ?_
            refine r_getR (j := 33) (r := 278) C cl_X12 kd_262 ln_262 (by decide) rfl r0_262_33 (by decide) q_1586 dX12_sweep_52 ?_
            refine r_iload_n (pc := 55) (j := 3) C dX12_sweep_55 rfl rfl ?_
            refine r_bb ?_
            refine r_iald C kd_278 ln_278 gc_278 h7942.2 dX12_sweep_56 (fun v7949 h7950 => ?_)
            refine r_iload_n (pc := 57) (j := 1) C dX12_sweep_57 rfl rfl ?_
            refine r_bj ?_
            refine r_join (fun q7951 : Int => IR q7951) (fun q7951 => S) (fun q7951 => O) (fun q7951 => [(0, .ref (zad E 262)), (1, .int (zi v7935)), (2, .int (zi q7951)), (3, .int (zi s7941.2))]) 69 (fun q7951 => []) (fun q7951 h7952 => ?_) (fun k7953 k7954 => ?_)
            · refine r_aload_n (pc := 69) (j := 0) C dX12_sweep_69 rfl rfl ?_
              refine r_getR (j := 31) (r := 276) C cl_X12 kd_262 ln_262 (by decide) rfl r0_262_31 (by decide) q_1584 dX12_sweep_70 ?_
              refine r_iload_n (pc := 73) (j := 3) C dX12_sweep_73 rfl rfl ?_
              refine r_bb ?_
              refine r_iald C kd_276 ln_276 gc_276 h7942.2 dX12_sweep_74 (fun v7958 h7959 => ?_)
              refine r_iload_n (pc := 75) (j := 1) C dX12_sweep_75 rfl rfl ?_
              refine r_bj ?_
              refine r_join (fun q7960 : Int => IR q7960) (fun q7960 => S) (fun q7960 => O) (fun q7960 => [(0, .ref (zad E 262)), (1, .int (zi v7935)), (2, .int (zi q7960)), (3, .int (zi s7941.2))]) 85 (fun q7960 => []) (fun q7960 h7961 => ?_) (fun k7962 k7963 => ?_)
              · refine r_iinc (j := 3) (L' := [(3, .int (zi (wr (s7941.2 + 1)))), (0, .ref (zad E 262)), (1, .int (zi v7935)), (2, .int (zi q7960))]) C dX12_sweep_85 rfl (by decide) rfl ?_
                refine r_goto (tgt := 43) C dX12_sweep_88 (by decide) ?_
                refine r_L (L' := [(0, .ref (zad E 262)), (1, .int (zi v7935)), (2, .int (zi q7960)), (3, .int (zi (wr (s7941.2 + 1))))]) [1, 2, 3, 0] rfl ?_
                exact k7944 (q7960, wr (s7941.2 + 1)) ⟨h7961, (IR_wr _)⟩
              · refine r_icmp_ne (tgt := 85) C h7959 h7936 dX12_sweep_76 (by decide) (fun c7964 => ?_) (fun c7964 => ?_)
                · refine r_jf c7964 ?_
                  exact k7963 q7951 h7952
                · refine r_jt c7964 ?_
                  refine r_iload_n (pc := 79) (j := 2) C dX12_sweep_79 rfl rfl ?_
                  refine r_iconst (v := 1) C dX12_sweep_80 (by decide) ?_
                  refine r_iload_n (pc := 81) (j := 3) C dX12_sweep_81 rfl rfl ?_
                  refine r_ishl C dX12_sweep_82 ?_
                  refine r_ior C dX12_sweep_83 ?_
                  refine r_jj ?_
                  refine r_jv (i32_IR _) (fun v7965 h7966 => ?_)
                  refine r_istore_n (L' := [(2, .int (zi v7965)), (0, .ref (zad E 262)), (1, .int (zi v7935)), (3, .int (zi s7941.2))]) C dX12_sweep_84 rfl (by decide) rfl ?_
                  refine r_L (L' := [(0, .ref (zad E 262)), (1, .int (zi v7935)), (2, .int (zi v7965)), (3, .int (zi s7941.2))]) [1, 2, 0, 3] rfl ?_
                  exact k7963 v7965 h7966
            · refine r_icmp_ne (tgt := 69) C h7950 h7936 dX12_sweep_58 (by decide) (fun c7955 => ?_) (fun c7955 => ?_)
              · refine r_jf c7955 ?_
                exact k7954 s7941.1 h7942.1
              · refine r_jt c7955 ?_
                refine r_iload_n (pc := 61) (j := 2) C dX12_sweep_61 rfl rfl ?_
                refine r_iconst (v := 1) C dX12_sweep_62 (by decide) ?_
                refine r_iload_n (pc := 63) (j := 3) C dX12_sweep_63 rfl rfl ?_
                refine r_ishl C dX12_sweep_64 ?_
                refine r_iconst (v := (-1)) C dX12_sweep_65 (by decide) ?_
                refine r_ixor C dX12_sweep_66 ?_
                refine r_iand C dX12_sweep_67 ?_
                refine r_jj ?_
                refine r_jv (i32_IR _) (fun v7956 h7957 => ?_)
                refine r_istore_n (L' := [(2, .int (zi v7956)), (0, .ref (zad E 262)), (1, .int (zi v7935)), (3, .int (zi s7941.2))]) C dX12_sweep_68 rfl (by decide) rfl ?_
                refine r_L (L' := [(0, .ref (zad E 262)), (1, .int (zi v7935)), (2, .int (zi v7956)), (3, .int (zi s7941.2))]) [1, 2, 0, 3] rfl ?_
                exact k7954 v7956 h7957
      · refine r_t c7931 ?_
        refine r_L (L' := []) [] rfl ?_
        exact k7925 O trivial

def f_X12_cut (a1 : Int) (O : Smo) : Option (Int × Smo) :=
  jk (fun (q7979 : Smo) =>
    some ((-1), q7979)) fun k7981 =>
  if O 262 47 < 40 then
    (Option.bind (f_X12_isNow a1 O) fun (q7985 : Int) =>
    if q7985 = 0 then
      (k7981 O)
    else
      (Option.bind (f_X12_placeOf (O 262 47) O) fun (q7990 : Int) =>
      Option.bind (f_X12_setOf (O 262 47) O) fun (q7994 : Int) =>
      Option.bind (f_X12_cutNow O) fun (q7997 : Int) =>
      Option.bind (f_X12_sweepsNow O) fun (q8000 : Int) =>
      Option.bind (f_X12_goOn q7990 (zand q7994 (zxor (zshl 1 a1) (-1))) (zor q7997 (zshl 1 a1)) q8000 O) fun (q8003 : Int × Smo) =>
      some (q8003.1, q8003.2)))
  else
    (k7981 O)
set_option maxRecDepth 100000 in
set_option maxHeartbeats 4000000 in
theorem m_X12_cut {l : Launch} {E : EwT} {S : Sst} {O : Smo} {a1 : Int} (ha1 : IR a1) {q : Int × Smo} (hq : f_X12_cut a1 O = some q) : MetG l E yX12_cut cX12_cut 2 (some .int) 5 123 0 0 n0 R0 S O [.ref (zad E 262), .int (zi a1)] (IR q.1) (some (.int (zi q.1))) n0 R0 S q.2 := by
  refine ofG (L0 := [(0, .ref (zad E 262)), (1, .int (zi a1))]) hq (by decide +kernel) (Nat.le_of_ble_eq_true rfl) rfl (fun K _ C hQ => ?_)
  unfold f_X12_cut
  refine r_aload_n (pc := 0) (j := 0) C dX12_cut_0 rfl rfl ?_
  refine r_getO (j := 47) C cl_X12 kd_262 ln_262 gc_262 (by decide) (by decide) rfl q_1600 dX12_cut_1 (fun h7978 => ?_)
  refine r_bipush (v := 40) C dX12_cut_4 (by decide) ?_
  refine r_jk (fun q7979 : Smo => True) (fun q7979 => S) (fun q7979 => q7979) (fun q7979 => []) 58 (fun q7979 => []) (fun q7979 h7980 => ?_) (fun k7981 k7982 => ?_)
  · refine r_iconst (v := (-1)) C dX12_cut_58 (by decide) ?_
    exact r_ireturn C hQ rfl dX12_cut_59 (fun e => by cases e; exact ⟨(IRd rfl), rfl, rfl, rfl, rfl, rfl⟩)
  · refine r_icmp_ge (tgt := 58) C h7978 (IRd rfl) dX12_cut_6 (by decide) (fun c7983 => ?_) (fun c7983 => ?_)
    · refine r_f c7983 ?_
      refine r_L (L' := []) [] rfl ?_
      exact k7982 O trivial
    · refine r_t c7983 ?_
      refine r_aload_n (pc := 9) (j := 0) C dX12_cut_9 rfl rfl ?_
      refine r_iload_n (pc := 10) (j := 1) C dX12_cut_10 rfl rfl ?_
      refine r_bd (fun q7985 e7986 => ?_)
      refine r_cV1 (pc := 11) (k := 262) (As := [.int (zi a1)]) (st := []) C (m_X12_isNow (a1 := a1) ha1 e7986) cal_X12_isNow cl_X12 kd_262 ln_262 q_2090 dX12_cut_11 rfl rfl (Nat.le_of_ble_eq_true rfl) (Nat.le_of_ble_eq_true rfl) (Nat.le_of_ble_eq_true rfl) (Nat.le_of_ble_eq_true rfl) (Nat.le_of_ble_eq_true rfl) (fun h7984 => ?_)
      refine r_if_eq (tgt := 58) C h7984.ir dX12_cut_14 (by decide) (fun c7987 => ?_) (fun c7987 => ?_)
      · refine r_t c7987 ?_
        refine r_L (L' := []) [] rfl ?_
        exact k7982 O trivial
      · refine r_f c7987 ?_
        refine r_aload_n (pc := 17) (j := 0) C dX12_cut_17 rfl rfl ?_
        refine r_aload_n (pc := 18) (j := 0) C dX12_cut_18 rfl rfl ?_
        refine r_aload_n (pc := 19) (j := 0) C dX12_cut_19 rfl rfl ?_
        refine r_getO (j := 47) C cl_X12 kd_262 ln_262 gc_262 (by decide) (by decide) rfl q_1600 dX12_cut_20 (fun h7988 => ?_)
        refine r_bd (fun q7990 e7991 => ?_)
        refine r_cV1 (pc := 23) (k := 262) (As := [.int (zi (O 262 47))]) (st := [.ref (zad E 262)]) C (m_X12_placeOf (a1 := O 262 47) h7988 e7991) cal_X12_placeOf cl_X12 kd_262 ln_262 q_2032 dX12_cut_23 rfl rfl (Nat.le_of_ble_eq_true rfl) (Nat.le_of_ble_eq_true rfl) (Nat.le_of_ble_eq_true rfl) (Nat.le_of_ble_eq_true rfl) (Nat.le_of_ble_eq_true rfl) (fun h7989 => ?_)
        refine r_aload_n (pc := 26) (j := 0) C dX12_cut_26 rfl rfl ?_
        refine r_aload_n (pc := 27) (j := 0) C dX12_cut_27 rfl rfl ?_
        refine r_getO (j := 47) C cl_X12 kd_262 ln_262 gc_262 (by decide) (by decide) rfl q_1600 dX12_cut_28 (fun h7992 => ?_)
        refine r_bd (fun q7994 e7995 => ?_)
        refine r_cV1 (pc := 31) (k := 262) (As := [.int (zi (O 262 47))]) (st := [.int (zi q7990), .ref (zad E 262)]) C (m_X12_setOf (a1 := O 262 47) h7992 e7995) cal_X12_setOf cl_X12 kd_262 ln_262 q_2008 dX12_cut_31 rfl rfl (Nat.le_of_ble_eq_true rfl) (Nat.le_of_ble_eq_true rfl) (Nat.le_of_ble_eq_true rfl) (Nat.le_of_ble_eq_true rfl) (Nat.le_of_ble_eq_true rfl) (fun h7993 => ?_)
        refine r_iconst (v := 1) C dX12_cut_34 (by decide) ?_
        refine r_iload_n (pc := 35) (j := 1) C dX12_cut_35 rfl rfl ?_
        refine r_ishl C dX12_cut_36 ?_
        refine r_iconst (v := (-1)) C dX12_cut_37 (by decide) ?_
        refine r_ixor C dX12_cut_38 ?_
        refine r_iand C dX12_cut_39 ?_
        refine r_aload_n (pc := 40) (j := 0) C dX12_cut_40 rfl rfl ?_
        refine r_bd (fun q7997 e7998 => ?_)
        refine r_cV1 (pc := 41) (k := 262) (As := []) (st := [.int (zi (zand q7994 (zxor (zshl 1 a1) (-1)))), .int (zi q7990), .ref (zad E 262)]) C (m_X12_cutNow  e7998) cal_X12_cutNow cl_X12 kd_262 ln_262 q_2012 dX12_cut_41 rfl rfl (Nat.le_of_ble_eq_true rfl) (Nat.le_of_ble_eq_true rfl) (Nat.le_of_ble_eq_true rfl) (Nat.le_of_ble_eq_true rfl) (Nat.le_of_ble_eq_true rfl) (fun h7996 => ?_)
        refine r_iconst (v := 1) C dX12_cut_44 (by decide) ?_
        refine r_iload_n (pc := 45) (j := 1) C dX12_cut_45 rfl rfl ?_
        refine r_ishl C dX12_cut_46 ?_
        refine r_ior C dX12_cut_47 ?_
        refine r_aload_n (pc := 48) (j := 0) C dX12_cut_48 rfl rfl ?_
        refine r_bd (fun q8000 e8001 => ?_)
        refine r_cV1 (pc := 49) (k := 262) (As := []) (st := [.int (zi (zor q7997 (zshl 1 a1))), .int (zi (zand q7994 (zxor (zshl 1 a1) (-1)))), .int (zi q7990), .ref (zad E 262)]) C (m_X12_sweepsNow  e8001) cal_X12_sweepsNow cl_X12 kd_262 ln_262 q_2004 dX12_cut_49 rfl rfl (Nat.le_of_ble_eq_true rfl) (Nat.le_of_ble_eq_true rfl) (Nat.le_of_ble_eq_true rfl) (Nat.le_of_ble_eq_true rfl) (Nat.le_of_ble_eq_true rfl) (fun h7999 => ?_)
        refine r_bd (fun q8003 e8004 => ?_)
        refine r_cV1 (pc := 52) (k := 262) (As := [.int (zi q7990), .int (zi (zand q7994 (zxor (zshl 1 a1) (-1)))), .int (zi (zor q7997 (zshl 1 a1))), .int (zi q8000)]) (st := []) C (m_X12_goOn (a1 := q7990) (a2 := zand q7994 (zxor (zshl 1 a1) (-1))) (a3 := zor q7997 (zshl 1 a1)) (a4 := q8000) h7989 (i32_IR _) (i32_IR _) h7999 e8004) cal_X12_goOn cl_X12 kd_262 ln_262 q_2016 dX12_cut_52 rfl rfl (Nat.le_of_ble_eq_true rfl) (Nat.le_of_ble_eq_true rfl) (Nat.le_of_ble_eq_true rfl) (Nat.le_of_ble_eq_true rfl) (Nat.le_of_ble_eq_true rfl) (fun h8002 => ?_)
        refine r_goto (tgt := 59) C dX12_cut_55 (by decide) ?_
        exact r_ireturn C hQ rfl dX12_cut_59 (fun e => by cases e; exact ⟨h8002, rfl, rfl, rfl, rfl, rfl⟩)

def f_X12_raise (a1 : Int) (O : Smo) : Option (Int × Smo) :=
  jk (fun (q8007 : Smo) =>
    some ((-1), q8007)) fun k8009 =>
  if (O 262 47 = 40 ∨ f_X12_isSegment a1 O = 0) then
    (k8009 O)
  else
    (Option.bind (f_X12_cutNow O) fun (q8015 : Int) =>
    if f_X12_has q8015 a1 = 0 then
      (k8009 O)
    else
      (Option.bind (f_X12_placeOf (O 262 47) O) fun (q8021 : Int) =>
      Option.bind (f_X12_isOver a1 q8021 O) fun (q8024 : Int) =>
      if q8024 = 0 then
        (k8009 O)
      else
        (Option.bind (f_X12_placeOf (O 262 47) O) fun (q8029 : Int) =>
        Option.bind (f_X12_setOf (O 262 47) O) fun (q8033 : Int) =>
        Option.bind (f_X12_cutNow O) fun (q8036 : Int) =>
        Option.bind (f_X12_sweepsNow O) fun (q8039 : Int) =>
        Option.bind (f_X12_goOn q8029 (zor q8033 (zshl 1 a1)) (zand q8036 (zxor (zshl 1 a1) (-1))) q8039 O) fun (q8042 : Int × Smo) =>
        some (q8042.1, q8042.2))))
set_option maxRecDepth 100000 in
set_option maxHeartbeats 4000000 in
theorem m_X12_raise {l : Launch} {E : EwT} {S : Sst} {O : Smo} {a1 : Int} (ha1 : IR a1) {q : Int × Smo} (hq : f_X12_raise a1 O = some q) : MetG l E yX12_raise cX12_raise 2 (some .int) 5 123 0 0 n0 R0 S O [.ref (zad E 262), .int (zi a1)] (IR q.1) (some (.int (zi q.1))) n0 R0 S q.2 := by
  refine ofG (L0 := [(0, .ref (zad E 262)), (1, .int (zi a1))]) hq (by decide +kernel) (Nat.le_of_ble_eq_true rfl) rfl (fun K _ C hQ => ?_)
  unfold f_X12_raise
  refine r_aload_n (pc := 0) (j := 0) C dX12_raise_0 rfl rfl ?_
  refine r_getO (j := 47) C cl_X12 kd_262 ln_262 gc_262 (by decide) (by decide) rfl q_1600 dX12_raise_1 (fun h8005 => ?_)
  refine r_bipush (v := 40) C dX12_raise_4 (by decide) ?_
  refine r_jk (fun q8007 : Smo => True) (fun q8007 => S) (fun q8007 => q8007) (fun q8007 => []) 44 (fun q8007 => []) (fun q8007 h8008 => ?_) (fun k8009 k8010 => ?_)
  · refine r_iconst (v := (-1)) C dX12_raise_44 (by decide) ?_
    exact r_ireturn C hQ rfl dX12_raise_45 (fun e => by cases e; exact ⟨(IRd rfl), rfl, rfl, rfl, rfl, rfl⟩)
  · refine r_cut (O 262 47 = 40 ∨ f_X12_isSegment a1 O = 0) 44 17 [] (fun c8011 => ?_) (fun c8011 => ?_) (fun k8012 k8013 => ?_)
    · refine r_t c8011 ?_
      refine r_L (L' := []) [] rfl ?_
      exact k8010 O trivial
    · refine r_f c8011 ?_
      refine r_aload_n (pc := 17) (j := 0) C dX12_raise_17 rfl rfl ?_
      refine r_bd (fun q8015 e8016 => ?_)
      refine r_cV1 (pc := 18) (k := 262) (As := []) (st := []) C (m_X12_cutNow  e8016) cal_X12_cutNow cl_X12 kd_262 ln_262 q_2012 dX12_raise_18 rfl rfl (Nat.le_of_ble_eq_true rfl) (Nat.le_of_ble_eq_true rfl) (Nat.le_of_ble_eq_true rfl) (Nat.le_of_ble_eq_true rfl) (Nat.le_of_ble_eq_true rfl) (fun h8014 => ?_)
      refine r_iload_n (pc := 21) (j := 1) C dX12_raise_21 rfl rfl ?_
      refine r_cS1 (pc := 22) (As := [.int (zi q8015), .int (zi a1)]) (st := []) C (m_X12_has (a0 := q8015) (a1 := a1) h8014 ha1 rfl) cal_X12_has q_2040 dX12_raise_22 rfl rfl (Nat.le_of_ble_eq_true rfl) (Nat.le_of_ble_eq_true rfl) (Nat.le_of_ble_eq_true rfl) (Nat.le_of_ble_eq_true rfl) (Nat.le_of_ble_eq_true rfl) (fun h8017 => ?_)
      refine r_if_eq (tgt := 44) C h8017.ir dX12_raise_25 (by decide) (fun c8018 => ?_) (fun c8018 => ?_)
      · refine r_t c8018 ?_
        refine r_L (L' := []) [] rfl ?_
        exact k8010 O trivial
      · refine r_f c8018 ?_
        refine r_aload_n (pc := 28) (j := 0) C dX12_raise_28 rfl rfl ?_
        refine r_iload_n (pc := 29) (j := 1) C dX12_raise_29 rfl rfl ?_
        refine r_aload_n (pc := 30) (j := 0) C dX12_raise_30 rfl rfl ?_
        refine r_aload_n (pc := 31) (j := 0) C dX12_raise_31 rfl rfl ?_
        refine r_getO (j := 47) C cl_X12 kd_262 ln_262 gc_262 (by decide) (by decide) rfl q_1600 dX12_raise_32 (fun h8019 => ?_)
        refine r_bd (fun q8021 e8022 => ?_)
        refine r_cV1 (pc := 35) (k := 262) (As := [.int (zi (O 262 47))]) (st := [.int (zi a1), .ref (zad E 262)]) C (m_X12_placeOf (a1 := O 262 47) h8019 e8022) cal_X12_placeOf cl_X12 kd_262 ln_262 q_2032 dX12_raise_35 rfl rfl (Nat.le_of_ble_eq_true rfl) (Nat.le_of_ble_eq_true rfl) (Nat.le_of_ble_eq_true rfl) (Nat.le_of_ble_eq_true rfl) (Nat.le_of_ble_eq_true rfl) (fun h8020 => ?_)
        refine r_bd (fun q8024 e8025 => ?_)
        refine r_cV1 (pc := 38) (k := 262) (As := [.int (zi a1), .int (zi q8021)]) (st := []) C (m_X12_isOver (a1 := a1) (a2 := q8021) ha1 h8020 e8025) cal_X12_isOver cl_X12 kd_262 ln_262 q_1984 dX12_raise_38 rfl rfl (Nat.le_of_ble_eq_true rfl) (Nat.le_of_ble_eq_true rfl) (Nat.le_of_ble_eq_true rfl) (Nat.le_of_ble_eq_true rfl) (Nat.le_of_ble_eq_true rfl) (fun h8023 => ?_)
        refine r_if_ne (tgt := 46) C h8023.ir dX12_raise_41 (by decide) (fun c8026 => ?_) (fun c8026 => ?_)
        · refine r_f c8026 ?_
          refine r_aload_n (pc := 46) (j := 0) C dX12_raise_46 rfl rfl ?_
          refine r_aload_n (pc := 47) (j := 0) C dX12_raise_47 rfl rfl ?_
          refine r_aload_n (pc := 48) (j := 0) C dX12_raise_48 rfl rfl ?_
          refine r_getO (j := 47) C cl_X12 kd_262 ln_262 gc_262 (by decide) (by decide) rfl q_1600 dX12_raise_49 (fun h8027 => ?_)
          refine r_bd (fun q8029 e8030 => ?_)
          refine r_cV1 (pc := 52) (k := 262) (As := [.int (zi (O 262 47))]) (st := [.ref (zad E 262)]) C (m_X12_placeOf (a1 := O 262 47) h8027 e8030) cal_X12_placeOf cl_X12 kd_262 ln_262 q_2032 dX12_raise_52 rfl rfl (Nat.le_of_ble_eq_true rfl) (Nat.le_of_ble_eq_true rfl) (Nat.le_of_ble_eq_true rfl) (Nat.le_of_ble_eq_true rfl) (Nat.le_of_ble_eq_true rfl) (fun h8028 => ?_)
          refine r_aload_n (pc := 55) (j := 0) C dX12_raise_55 rfl rfl ?_
          refine r_aload_n (pc := 56) (j := 0) C dX12_raise_56 rfl rfl ?_
          refine r_getO (j := 47) C cl_X12 kd_262 ln_262 gc_262 (by decide) (by decide) rfl q_1600 dX12_raise_57 (fun h8031 => ?_)
          refine r_bd (fun q8033 e8034 => ?_)
          refine r_cV1 (pc := 60) (k := 262) (As := [.int (zi (O 262 47))]) (st := [.int (zi q8029), .ref (zad E 262)]) C (m_X12_setOf (a1 := O 262 47) h8031 e8034) cal_X12_setOf cl_X12 kd_262 ln_262 q_2008 dX12_raise_60 rfl rfl (Nat.le_of_ble_eq_true rfl) (Nat.le_of_ble_eq_true rfl) (Nat.le_of_ble_eq_true rfl) (Nat.le_of_ble_eq_true rfl) (Nat.le_of_ble_eq_true rfl) (fun h8032 => ?_)
          refine r_iconst (v := 1) C dX12_raise_63 (by decide) ?_
          refine r_iload_n (pc := 64) (j := 1) C dX12_raise_64 rfl rfl ?_
          refine r_ishl C dX12_raise_65 ?_
          refine r_ior C dX12_raise_66 ?_
          refine r_aload_n (pc := 67) (j := 0) C dX12_raise_67 rfl rfl ?_
          refine r_bd (fun q8036 e8037 => ?_)
          refine r_cV1 (pc := 68) (k := 262) (As := []) (st := [.int (zi (zor q8033 (zshl 1 a1))), .int (zi q8029), .ref (zad E 262)]) C (m_X12_cutNow  e8037) cal_X12_cutNow cl_X12 kd_262 ln_262 q_2012 dX12_raise_68 rfl rfl (Nat.le_of_ble_eq_true rfl) (Nat.le_of_ble_eq_true rfl) (Nat.le_of_ble_eq_true rfl) (Nat.le_of_ble_eq_true rfl) (Nat.le_of_ble_eq_true rfl) (fun h8035 => ?_)
          refine r_iconst (v := 1) C dX12_raise_71 (by decide) ?_
          refine r_iload_n (pc := 72) (j := 1) C dX12_raise_72 rfl rfl ?_
          refine r_ishl C dX12_raise_73 ?_
          refine r_iconst (v := (-1)) C dX12_raise_74 (by decide) ?_
          refine r_ixor C dX12_raise_75 ?_
          refine r_iand C dX12_raise_76 ?_
          refine r_aload_n (pc := 77) (j := 0) C dX12_raise_77 rfl rfl ?_
          refine r_bd (fun q8039 e8040 => ?_)
          refine r_cV1 (pc := 78) (k := 262) (As := []) (st := [.int (zi (zand q8036 (zxor (zshl 1 a1) (-1)))), .int (zi (zor q8033 (zshl 1 a1))), .int (zi q8029), .ref (zad E 262)]) C (m_X12_sweepsNow  e8040) cal_X12_sweepsNow cl_X12 kd_262 ln_262 q_2004 dX12_raise_78 rfl rfl (Nat.le_of_ble_eq_true rfl) (Nat.le_of_ble_eq_true rfl) (Nat.le_of_ble_eq_true rfl) (Nat.le_of_ble_eq_true rfl) (Nat.le_of_ble_eq_true rfl) (fun h8038 => ?_)
          refine r_bd (fun q8042 e8043 => ?_)
          refine r_cV1 (pc := 81) (k := 262) (As := [.int (zi q8029), .int (zi (zor q8033 (zshl 1 a1))), .int (zi (zand q8036 (zxor (zshl 1 a1) (-1)))), .int (zi q8039)]) (st := []) C (m_X12_goOn (a1 := q8029) (a2 := zor q8033 (zshl 1 a1)) (a3 := zand q8036 (zxor (zshl 1 a1) (-1))) (a4 := q8039) h8028 (i32_IR _) (i32_IR _) h8038 e8043) cal_X12_goOn cl_X12 kd_262 ln_262 q_2016 dX12_raise_81 rfl rfl (Nat.le_of_ble_eq_true rfl) (Nat.le_of_ble_eq_true rfl) (Nat.le_of_ble_eq_true rfl) (Nat.le_of_ble_eq_true rfl) (Nat.le_of_ble_eq_true rfl) (fun h8041 => ?_)
          exact r_ireturn C hQ rfl dX12_raise_84 (fun e => by cases e; exact ⟨h8041, rfl, rfl, rfl, rfl, rfl⟩)
        · refine r_t c8026 ?_
          refine r_L (L' := []) [] rfl ?_
          exact k8010 O trivial
    · refine r_icmp_eq (tgt := 44) C h8005 (IRd rfl) dX12_raise_6 (by decide) (fun c8044 => ?_) (fun c8044 => ?_)
      · exact k8012 (Or.inl c8044)
      · refine r_aload_n (pc := 9) (j := 0) C dX12_raise_9 rfl rfl ?_
        refine r_iload_n (pc := 10) (j := 1) C dX12_raise_10 rfl rfl ?_
        refine r_cV1 (pc := 11) (k := 262) (As := [.int (zi a1)]) (st := []) C (m_X12_isSegment (a1 := a1) ha1 rfl) cal_X12_isSegment cl_X12 kd_262 ln_262 q_1977 dX12_raise_11 rfl rfl (Nat.le_of_ble_eq_true rfl) (Nat.le_of_ble_eq_true rfl) (Nat.le_of_ble_eq_true rfl) (Nat.le_of_ble_eq_true rfl) (Nat.le_of_ble_eq_true rfl) (fun h8006 => ?_)
        refine r_if_eq (tgt := 44) C h8006.ir dX12_raise_14 (by decide) (fun c8045 => ?_) (fun c8045 => ?_)
        · exact k8012 (Or.inr c8045)
        · exact k8013 (fun w => w.elim c8044 c8045)

def f_X12_undo (O : Smo) : Int × Smo :=
  if O 262 47 = O 262 49 then
    ((0, O))
  else
    (jn (up2 O 262 47 (wr ((O 262 47) - 1))) fun (O8050 : Smo) =>
    (1, O8050))
set_option maxRecDepth 100000 in
set_option maxHeartbeats 4000000 in
theorem m_X12_undo {l : Launch} {E : EwT} {S : Sst} {O : Smo}  {q : Int × Smo} (hq : f_X12_undo O = q) : MetG l E yX12_undo cX12_undo 1 (some .boolean) 0 0 0 0 n0 R0 S O [.ref (zad E 262)] (BR q.1) (some (.int (zi q.1))) n0 R0 S q.2 := by
  refine ofG (L0 := [(0, .ref (zad E 262))]) hq (by decide +kernel) (Nat.le_of_ble_eq_true rfl) rfl (fun K _ C hQ => ?_)
  unfold f_X12_undo
  refine r_aload_n (pc := 0) (j := 0) C dX12_undo_0 rfl rfl ?_
  refine r_getO (j := 47) C cl_X12 kd_262 ln_262 gc_262 (by decide) (by decide) rfl q_1600 dX12_undo_1 (fun h8046 => ?_)
  refine r_aload_n (pc := 4) (j := 0) C dX12_undo_4 rfl rfl ?_
  refine r_getO (j := 49) C cl_X12 kd_262 ln_262 gc_262 (by decide) (by decide) rfl q_1602 dX12_undo_5 (fun h8047 => ?_)
  refine r_icmp_ne (tgt := 13) C h8046 h8047 dX12_undo_8 (by decide) (fun c8048 => ?_) (fun c8048 => ?_)
  · refine r_f c8048 ?_
    refine r_aload_n (pc := 13) (j := 0) C dX12_undo_13 rfl rfl ?_
    refine r_dup C dX12_undo_14 rfl ?_
    refine r_getO (j := 47) C cl_X12 kd_262 ln_262 gc_262 (by decide) (by decide) rfl q_1600 dX12_undo_15 (fun h8049 => ?_)
    refine r_iconst (v := 1) C dX12_undo_18 (by decide) ?_
    refine r_isub C dX12_undo_19 ?_
    refine r_putO C cl_X12 kd_262 ln_262 gc_262 (by decide) (by decide) rfl rfl rfl (IR_wr _) q_1600 dX12_undo_20 (fun O8050 => ?_)
    refine r_iconst (v := 1) C dX12_undo_23 (by decide) ?_
    exact r_ireturn C hQ (nar_z (BRd rfl)) dX12_undo_24 (fun e => by subst e; exact ⟨(BRd rfl), rfl, rfl, rfl, rfl, rfl⟩)
  · refine r_t c8048 ?_
    refine r_iconst (v := 0) C dX12_undo_11 (by decide) ?_
    exact r_ireturn C hQ (nar_z (BRd rfl)) dX12_undo_12 (fun e => by subst e; exact ⟨(BRd rfl), rfl, rfl, rfl, rfl, rfl⟩)

def f_X12_redo (O : Smo) : Int × Smo :=
  if O 262 47 = O 262 48 then
    ((0, O))
  else
    (jn (up2 O 262 47 (wr ((O 262 47) + 1))) fun (O8055 : Smo) =>
    (1, O8055))
set_option maxRecDepth 100000 in
set_option maxHeartbeats 4000000 in
theorem m_X12_redo {l : Launch} {E : EwT} {S : Sst} {O : Smo}  {q : Int × Smo} (hq : f_X12_redo O = q) : MetG l E yX12_redo cX12_redo 1 (some .boolean) 0 0 0 0 n0 R0 S O [.ref (zad E 262)] (BR q.1) (some (.int (zi q.1))) n0 R0 S q.2 := by
  refine ofG (L0 := [(0, .ref (zad E 262))]) hq (by decide +kernel) (Nat.le_of_ble_eq_true rfl) rfl (fun K _ C hQ => ?_)
  unfold f_X12_redo
  refine r_aload_n (pc := 0) (j := 0) C dX12_redo_0 rfl rfl ?_
  refine r_getO (j := 47) C cl_X12 kd_262 ln_262 gc_262 (by decide) (by decide) rfl q_1600 dX12_redo_1 (fun h8051 => ?_)
  refine r_aload_n (pc := 4) (j := 0) C dX12_redo_4 rfl rfl ?_
  refine r_getO (j := 48) C cl_X12 kd_262 ln_262 gc_262 (by decide) (by decide) rfl q_1601 dX12_redo_5 (fun h8052 => ?_)
  refine r_icmp_ne (tgt := 13) C h8051 h8052 dX12_redo_8 (by decide) (fun c8053 => ?_) (fun c8053 => ?_)
  · refine r_f c8053 ?_
    refine r_aload_n (pc := 13) (j := 0) C dX12_redo_13 rfl rfl ?_
    refine r_dup C dX12_redo_14 rfl ?_
    refine r_getO (j := 47) C cl_X12 kd_262 ln_262 gc_262 (by decide) (by decide) rfl q_1600 dX12_redo_15 (fun h8054 => ?_)
    refine r_iconst (v := 1) C dX12_redo_18 (by decide) ?_
    refine r_iadd C dX12_redo_19 ?_
    refine r_putO C cl_X12 kd_262 ln_262 gc_262 (by decide) (by decide) rfl rfl rfl (IR_wr _) q_1600 dX12_redo_20 (fun O8055 => ?_)
    refine r_iconst (v := 1) C dX12_redo_23 (by decide) ?_
    exact r_ireturn C hQ (nar_z (BRd rfl)) dX12_redo_24 (fun e => by subst e; exact ⟨(BRd rfl), rfl, rfl, rfl, rfl, rfl⟩)
  · refine r_t c8053 ?_
    refine r_iconst (v := 0) C dX12_redo_11 (by decide) ?_
    exact r_ireturn C hQ (nar_z (BRd rfl)) dX12_redo_12 (fun e => by subst e; exact ⟨(BRd rfl), rfl, rfl, rfl, rfl, rfl⟩)

def f_X12_segment (a1 : Int) (a2 : Int) (O : Smo) : Option (Int) :=
  if f_X12_isSegment a1 O = 0 then
    (some (-2))
  else
    (if a2 = 0 then
      (Option.bind (aget (O 276) (Ln 276) a1) fun (v8059 : Int) =>
      some v8059)
    else
      (if a2 = 1 then
        (Option.bind (aget (O 277) (Ln 277) a1) fun (v8062 : Int) =>
        some v8062)
      else
        (if a2 = 2 then
          (Option.bind (aget (O 278) (Ln 278) a1) fun (v8065 : Int) =>
          some v8065)
        else
          (if a2 = 3 then
            (Option.bind (aget (O 279) (Ln 279) a1) fun (v8068 : Int) =>
            some v8068)
          else
            (if a2 = 4 then
              (Option.bind (f_X12_isNow a1 O) fun (q8072 : Int) =>
              some (f_X12_truth q8072))
            else
              (if a2 = 5 then
                (Option.bind (f_X12_cutNow O) fun (q8077 : Int) =>
                some (f_X12_truth (f_X12_has q8077 a1)))
              else
                (if a2 = 6 then
                  (Option.bind (f_X12_nodeOf a1 (O 262 47) O) fun (q8084 : Int) =>
                  some q8084)
                else
                  (some (-2)))))))))
set_option maxRecDepth 100000 in
set_option maxHeartbeats 4000000 in
theorem m_X12_segment {l : Launch} {E : EwT} {S : Sst} {O : Smo} {a1 : Int} (ha1 : IR a1) {a2 : Int} (ha2 : IR a2) {q : Int} (hq : f_X12_segment a1 a2 O = some q) : MetG l E yX12_segment cX12_segment 3 (some .int) 3 64 0 0 n0 R0 S O [.ref (zad E 262), .int (zi a1), .int (zi a2)] (IR q) (some (.int (zi q))) n0 R0 S O := by
  refine ofG (L0 := [(0, .ref (zad E 262)), (1, .int (zi a1)), (2, .int (zi a2))]) hq (by decide +kernel) (Nat.le_of_ble_eq_true rfl) rfl (fun K _ C hQ => ?_)
  unfold f_X12_segment
  refine r_aload_n (pc := 0) (j := 0) C dX12_segment_0 rfl rfl ?_
  refine r_iload_n (pc := 1) (j := 1) C dX12_segment_1 rfl rfl ?_
  refine r_cV1 (pc := 2) (k := 262) (As := [.int (zi a1)]) (st := []) C (m_X12_isSegment (a1 := a1) ha1 rfl) cal_X12_isSegment cl_X12 kd_262 ln_262 q_1977 dX12_segment_2 rfl rfl (Nat.le_of_ble_eq_true rfl) (Nat.le_of_ble_eq_true rfl) (Nat.le_of_ble_eq_true rfl) (Nat.le_of_ble_eq_true rfl) (Nat.le_of_ble_eq_true rfl) (fun h8056 => ?_)
  refine r_if_ne (tgt := 11) C h8056.ir dX12_segment_5 (by decide) (fun c8057 => ?_) (fun c8057 => ?_)
  · refine r_f c8057 ?_
    refine r_iload_n (pc := 11) (j := 2) C dX12_segment_11 rfl rfl ?_
    by_cases c8058 : (a2 = 0)
    · refine r_t c8058 ?_
      refine r_tswIn (kx := 0) (tgt := 56) C ha2 dX12_segment_12 c8058 (by decide) (by decide) rfl (by decide) ?_
      refine r_aload_n (pc := 56) (j := 0) C dX12_segment_56 rfl rfl ?_
      refine r_getR (j := 31) (r := 276) C cl_X12 kd_262 ln_262 (by decide) rfl r0_262_31 (by decide) q_1584 dX12_segment_57 ?_
      refine r_iload_n (pc := 60) (j := 1) C dX12_segment_60 rfl rfl ?_
      refine r_iald C kd_276 ln_276 gc_276 ha1 dX12_segment_61 (fun v8059 h8060 => ?_)
      exact r_ireturn C hQ rfl dX12_segment_62 (fun e => by cases e; exact ⟨h8060, rfl, rfl, rfl, rfl, rfl⟩)
    · refine r_f c8058 ?_
      by_cases c8061 : (a2 = 1)
      · refine r_t c8061 ?_
        refine r_tswIn (kx := 1) (tgt := 63) C ha2 dX12_segment_12 c8061 (by decide) (by decide) rfl (by decide) ?_
        refine r_aload_n (pc := 63) (j := 0) C dX12_segment_63 rfl rfl ?_
        refine r_getR (j := 32) (r := 277) C cl_X12 kd_262 ln_262 (by decide) rfl r0_262_32 (by decide) q_1585 dX12_segment_64 ?_
        refine r_iload_n (pc := 67) (j := 1) C dX12_segment_67 rfl rfl ?_
        refine r_iald C kd_277 ln_277 gc_277 ha1 dX12_segment_68 (fun v8062 h8063 => ?_)
        exact r_ireturn C hQ rfl dX12_segment_69 (fun e => by cases e; exact ⟨h8063, rfl, rfl, rfl, rfl, rfl⟩)
      · refine r_f c8061 ?_
        by_cases c8064 : (a2 = 2)
        · refine r_t c8064 ?_
          refine r_tswIn (kx := 2) (tgt := 70) C ha2 dX12_segment_12 c8064 (by decide) (by decide) rfl (by decide) ?_
          refine r_aload_n (pc := 70) (j := 0) C dX12_segment_70 rfl rfl ?_
          refine r_getR (j := 33) (r := 278) C cl_X12 kd_262 ln_262 (by decide) rfl r0_262_33 (by decide) q_1586 dX12_segment_71 ?_
          refine r_iload_n (pc := 74) (j := 1) C dX12_segment_74 rfl rfl ?_
          refine r_iald C kd_278 ln_278 gc_278 ha1 dX12_segment_75 (fun v8065 h8066 => ?_)
          exact r_ireturn C hQ rfl dX12_segment_76 (fun e => by cases e; exact ⟨h8066, rfl, rfl, rfl, rfl, rfl⟩)
        · refine r_f c8064 ?_
          by_cases c8067 : (a2 = 3)
          · refine r_t c8067 ?_
            refine r_tswIn (kx := 3) (tgt := 77) C ha2 dX12_segment_12 c8067 (by decide) (by decide) rfl (by decide) ?_
            refine r_aload_n (pc := 77) (j := 0) C dX12_segment_77 rfl rfl ?_
            refine r_getR (j := 34) (r := 279) C cl_X12 kd_262 ln_262 (by decide) rfl r0_262_34 (by decide) q_1587 dX12_segment_78 ?_
            refine r_iload_n (pc := 81) (j := 1) C dX12_segment_81 rfl rfl ?_
            refine r_iald C kd_279 ln_279 gc_279 ha1 dX12_segment_82 (fun v8068 h8069 => ?_)
            exact r_ireturn C hQ rfl dX12_segment_83 (fun e => by cases e; exact ⟨h8069, rfl, rfl, rfl, rfl, rfl⟩)
          · refine r_f c8067 ?_
            by_cases c8070 : (a2 = 4)
            · refine r_t c8070 ?_
              refine r_tswIn (kx := 4) (tgt := 84) C ha2 dX12_segment_12 c8070 (by decide) (by decide) rfl (by decide) ?_
              refine r_aload_n (pc := 84) (j := 0) C dX12_segment_84 rfl rfl ?_
              refine r_iload_n (pc := 85) (j := 1) C dX12_segment_85 rfl rfl ?_
              refine r_bd (fun q8072 e8073 => ?_)
              refine r_cV1 (pc := 86) (k := 262) (As := [.int (zi a1)]) (st := []) C (m_X12_isNow (a1 := a1) ha1 e8073) cal_X12_isNow cl_X12 kd_262 ln_262 q_2090 dX12_segment_86 rfl rfl (Nat.le_of_ble_eq_true rfl) (Nat.le_of_ble_eq_true rfl) (Nat.le_of_ble_eq_true rfl) (Nat.le_of_ble_eq_true rfl) (Nat.le_of_ble_eq_true rfl) (fun h8071 => ?_)
              refine r_cS1 (pc := 89) (As := [.int (zi q8072)]) (st := []) C (m_X12_truth (a0 := q8072) h8071 rfl) cal_X12_truth q_1959 dX12_segment_89 rfl rfl (Nat.le_of_ble_eq_true rfl) (Nat.le_of_ble_eq_true rfl) (Nat.le_of_ble_eq_true rfl) (Nat.le_of_ble_eq_true rfl) (Nat.le_of_ble_eq_true rfl) (fun h8074 => ?_)
              exact r_ireturn C hQ rfl dX12_segment_92 (fun e => by cases e; exact ⟨h8074, rfl, rfl, rfl, rfl, rfl⟩)
            · refine r_f c8070 ?_
              by_cases c8075 : (a2 = 5)
              · refine r_t c8075 ?_
                refine r_tswIn (kx := 5) (tgt := 93) C ha2 dX12_segment_12 c8075 (by decide) (by decide) rfl (by decide) ?_
                refine r_aload_n (pc := 93) (j := 0) C dX12_segment_93 rfl rfl ?_
                refine r_bd (fun q8077 e8078 => ?_)
                refine r_cV1 (pc := 94) (k := 262) (As := []) (st := []) C (m_X12_cutNow  e8078) cal_X12_cutNow cl_X12 kd_262 ln_262 q_2012 dX12_segment_94 rfl rfl (Nat.le_of_ble_eq_true rfl) (Nat.le_of_ble_eq_true rfl) (Nat.le_of_ble_eq_true rfl) (Nat.le_of_ble_eq_true rfl) (Nat.le_of_ble_eq_true rfl) (fun h8076 => ?_)
                refine r_iload_n (pc := 97) (j := 1) C dX12_segment_97 rfl rfl ?_
                refine r_cS1 (pc := 98) (As := [.int (zi q8077), .int (zi a1)]) (st := []) C (m_X12_has (a0 := q8077) (a1 := a1) h8076 ha1 rfl) cal_X12_has q_2040 dX12_segment_98 rfl rfl (Nat.le_of_ble_eq_true rfl) (Nat.le_of_ble_eq_true rfl) (Nat.le_of_ble_eq_true rfl) (Nat.le_of_ble_eq_true rfl) (Nat.le_of_ble_eq_true rfl) (fun h8079 => ?_)
                refine r_cS1 (pc := 101) (As := [.int (zi (f_X12_has q8077 a1))]) (st := []) C (m_X12_truth (a0 := f_X12_has q8077 a1) h8079 rfl) cal_X12_truth q_1959 dX12_segment_101 rfl rfl (Nat.le_of_ble_eq_true rfl) (Nat.le_of_ble_eq_true rfl) (Nat.le_of_ble_eq_true rfl) (Nat.le_of_ble_eq_true rfl) (Nat.le_of_ble_eq_true rfl) (fun h8080 => ?_)
                exact r_ireturn C hQ rfl dX12_segment_104 (fun e => by cases e; exact ⟨h8080, rfl, rfl, rfl, rfl, rfl⟩)
              · refine r_f c8075 ?_
                by_cases c8081 : (a2 = 6)
                · refine r_t c8081 ?_
                  refine r_tswIn (kx := 6) (tgt := 105) C ha2 dX12_segment_12 c8081 (by decide) (by decide) rfl (by decide) ?_
                  refine r_aload_n (pc := 105) (j := 0) C dX12_segment_105 rfl rfl ?_
                  refine r_iload_n (pc := 106) (j := 1) C dX12_segment_106 rfl rfl ?_
                  refine r_aload_n (pc := 107) (j := 0) C dX12_segment_107 rfl rfl ?_
                  refine r_getO (j := 47) C cl_X12 kd_262 ln_262 gc_262 (by decide) (by decide) rfl q_1600 dX12_segment_108 (fun h8082 => ?_)
                  refine r_bd (fun q8084 e8085 => ?_)
                  refine r_cV1 (pc := 111) (k := 262) (As := [.int (zi a1), .int (zi (O 262 47))]) (st := []) C (m_X12_nodeOf (a1 := a1) (a2 := O 262 47) ha1 h8082 e8085) cal_X12_nodeOf cl_X12 kd_262 ln_262 q_2067 dX12_segment_111 rfl rfl (Nat.le_of_ble_eq_true rfl) (Nat.le_of_ble_eq_true rfl) (Nat.le_of_ble_eq_true rfl) (Nat.le_of_ble_eq_true rfl) (Nat.le_of_ble_eq_true rfl) (fun h8083 => ?_)
                  exact r_ireturn C hQ rfl dX12_segment_114 (fun e => by cases e; exact ⟨h8083, rfl, rfl, rfl, rfl, rfl⟩)
                · refine r_f c8081 ?_
                  refine r_tswOut (tgt := 115) C ha2 dX12_segment_12 (by omega) (by decide) ?_
                  refine r_bipush (v := (-2)) C dX12_segment_115 (by decide) ?_
                  exact r_ireturn C hQ rfl dX12_segment_117 (fun e => by cases e; exact ⟨(IRd rfl), rfl, rfl, rfl, rfl, rfl⟩)
  · refine r_t c8057 ?_
    refine r_bipush (v := (-2)) C dX12_segment_8 (by decide) ?_
    exact r_ireturn C hQ rfl dX12_segment_10 (fun e => by cases e; exact ⟨(IRd rfl), rfl, rfl, rfl, rfl, rfl⟩)

def f_X12_isStamp (a1 : Int) (O : Smo) : Int :=
  f_X12_isIn a1 0 (O 262 47)
set_option maxRecDepth 100000 in
set_option maxHeartbeats 4000000 in
theorem m_X12_isStamp {l : Launch} {E : EwT} {S : Sst} {O : Smo} {a1 : Int} (ha1 : IR a1) {q : Int} (hq : f_X12_isStamp a1 O = q) : MetG l E yX12_isStamp cX12_isStamp 2 (some .boolean) 1 22 0 0 n0 R0 S O [.ref (zad E 262), .int (zi a1)] (BR q) (some (.int (zi q))) n0 R0 S O := by
  refine ofG (L0 := [(0, .ref (zad E 262)), (1, .int (zi a1))]) hq (by decide +kernel) (Nat.le_of_ble_eq_true rfl) rfl (fun K _ C hQ => ?_)
  unfold f_X12_isStamp
  refine r_iload_n (pc := 0) (j := 1) C dX12_isStamp_0 rfl rfl ?_
  refine r_iconst (v := 0) C dX12_isStamp_1 (by decide) ?_
  refine r_aload_n (pc := 2) (j := 0) C dX12_isStamp_2 rfl rfl ?_
  refine r_getO (j := 47) C cl_X12 kd_262 ln_262 gc_262 (by decide) (by decide) rfl q_1600 dX12_isStamp_3 (fun h8086 => ?_)
  refine r_cS1 (pc := 6) (As := [.int (zi a1), .int (zi 0), .int (zi (O 262 47))]) (st := []) C (m_X12_isIn (a0 := a1) (a1 := 0) (a2 := O 262 47) ha1 (IRd rfl) h8086 rfl) cal_X12_isIn q_1981 dX12_isStamp_6 rfl rfl (Nat.le_of_ble_eq_true rfl) (Nat.le_of_ble_eq_true rfl) (Nat.le_of_ble_eq_true rfl) (Nat.le_of_ble_eq_true rfl) (Nat.le_of_ble_eq_true rfl) (fun h8087 => ?_)
  exact r_ireturn C hQ (nar_z h8087) dX12_isStamp_9 (fun e => by subst e; exact ⟨h8087, rfl, rfl, rfl, rfl, rfl⟩)

def f_X12_isNode (a1 : Int) (O : Smo) : Option (Int) :=
  Option.bind (f_X12_nodeMany O) fun (q8089 : Int) =>
  some (f_X12_isIn a1 0 (wr (q8089 - 1)))
set_option maxRecDepth 100000 in
set_option maxHeartbeats 4000000 in
theorem m_X12_isNode {l : Launch} {E : EwT} {S : Sst} {O : Smo} {a1 : Int} (ha1 : IR a1) {q : Int} (hq : f_X12_isNode a1 O = some q) : MetG l E yX12_isNode cX12_isNode 2 (some .boolean) 1 22 0 0 n0 R0 S O [.ref (zad E 262), .int (zi a1)] (BR q) (some (.int (zi q))) n0 R0 S O := by
  refine ofG (L0 := [(0, .ref (zad E 262)), (1, .int (zi a1))]) hq (by decide +kernel) (Nat.le_of_ble_eq_true rfl) rfl (fun K _ C hQ => ?_)
  unfold f_X12_isNode
  refine r_iload_n (pc := 0) (j := 1) C dX12_isNode_0 rfl rfl ?_
  refine r_iconst (v := 0) C dX12_isNode_1 (by decide) ?_
  refine r_aload_n (pc := 2) (j := 0) C dX12_isNode_2 rfl rfl ?_
  refine r_bd (fun q8089 e8090 => ?_)
  refine r_cV1 (pc := 3) (k := 262) (As := []) (st := [.int (zi 0), .int (zi a1)]) C (m_X12_nodeMany  e8090) cal_X12_nodeMany cl_X12 kd_262 ln_262 q_2020 dX12_isNode_3 rfl rfl (Nat.le_of_ble_eq_true rfl) (Nat.le_of_ble_eq_true rfl) (Nat.le_of_ble_eq_true rfl) (Nat.le_of_ble_eq_true rfl) (Nat.le_of_ble_eq_true rfl) (fun h8088 => ?_)
  refine r_iconst (v := 1) C dX12_isNode_6 (by decide) ?_
  refine r_isub C dX12_isNode_7 ?_
  refine r_cS1 (pc := 8) (As := [.int (zi a1), .int (zi 0), .int (zi (wr (q8089 - 1)))]) (st := []) C (m_X12_isIn (a0 := a1) (a1 := 0) (a2 := wr (q8089 - 1)) ha1 (IRd rfl) (IR_wr _) rfl) cal_X12_isIn q_1981 dX12_isNode_8 rfl rfl (Nat.le_of_ble_eq_true rfl) (Nat.le_of_ble_eq_true rfl) (Nat.le_of_ble_eq_true rfl) (Nat.le_of_ble_eq_true rfl) (Nat.le_of_ble_eq_true rfl) (fun h8091 => ?_)
  exact r_ireturn C hQ (nar_z h8091) dX12_isNode_11 (fun e => by cases e; exact ⟨h8091, rfl, rfl, rfl, rfl, rfl⟩)

def f_X12_madeAt (a1 : Int) (O : Smo) : Option (Int) :=
  if a1 = 0 then
    (some 0)
  else
    (Option.bind (aget (O 282) (Ln 282) (wr (164 + a1))) fun (v8093 : Int) =>
    Option.bind (aget (O 282) (Ln 282) (wr ((wr (164 + a1)) - 1))) fun (v8095 : Int) =>
    some (wr (v8093 - v8095)))
set_option maxRecDepth 100000 in
set_option maxHeartbeats 4000000 in
theorem m_X12_madeAt {l : Launch} {E : EwT} {S : Sst} {O : Smo} {a1 : Int} (ha1 : IR a1) {q : Int} (hq : f_X12_madeAt a1 O = some q) : MetG l E yX12_madeAt cX12_madeAt 2 (some .int) 0 0 0 0 n0 R0 S O [.ref (zad E 262), .int (zi a1)] (IR q) (some (.int (zi q))) n0 R0 S O := by
  refine ofG (L0 := [(0, .ref (zad E 262)), (1, .int (zi a1))]) hq (by decide +kernel) (Nat.le_of_ble_eq_true rfl) rfl (fun K _ C hQ => ?_)
  unfold f_X12_madeAt
  refine r_iload_n (pc := 0) (j := 1) C dX12_madeAt_0 rfl rfl ?_
  refine r_if_ne (tgt := 8) C ha1 dX12_madeAt_1 (by decide) (fun c8092 => ?_) (fun c8092 => ?_)
  · refine r_f c8092 ?_
    refine r_aload_n (pc := 8) (j := 0) C dX12_madeAt_8 rfl rfl ?_
    refine r_getR (j := 46) (r := 282) C cl_X12 kd_262 ln_262 (by decide) rfl r0_262_46 (by decide) q_1599 dX12_madeAt_9 ?_
    refine r_sipush (v := 164) C dX12_madeAt_12 (by decide) ?_
    refine r_iload_n (pc := 15) (j := 1) C dX12_madeAt_15 rfl rfl ?_
    refine r_iadd C dX12_madeAt_16 ?_
    refine r_iald C kd_282 ln_282 gc_282 (IR_wr _) dX12_madeAt_17 (fun v8093 h8094 => ?_)
    refine r_aload_n (pc := 18) (j := 0) C dX12_madeAt_18 rfl rfl ?_
    refine r_getR (j := 46) (r := 282) C cl_X12 kd_262 ln_262 (by decide) rfl r0_262_46 (by decide) q_1599 dX12_madeAt_19 ?_
    refine r_sipush (v := 164) C dX12_madeAt_22 (by decide) ?_
    refine r_iload_n (pc := 25) (j := 1) C dX12_madeAt_25 rfl rfl ?_
    refine r_iadd C dX12_madeAt_26 ?_
    refine r_iconst (v := 1) C dX12_madeAt_27 (by decide) ?_
    refine r_isub C dX12_madeAt_28 ?_
    refine r_iald C kd_282 ln_282 gc_282 (IR_wr _) dX12_madeAt_29 (fun v8095 h8096 => ?_)
    refine r_isub C dX12_madeAt_30 ?_
    exact r_ireturn C hQ rfl dX12_madeAt_31 (fun e => by cases e; exact ⟨(IR_wr _), rfl, rfl, rfl, rfl, rfl⟩)
  · refine r_t c8092 ?_
    refine r_iconst (v := 0) C dX12_madeAt_4 (by decide) ?_
    refine r_goto (tgt := 31) C dX12_madeAt_5 (by decide) ?_
    exact r_ireturn C hQ rfl dX12_madeAt_31 (fun e => by cases e; exact ⟨(IRd rfl), rfl, rfl, rfl, rfl, rfl⟩)

def f_X12_writtenAt (a1 : Int) (O : Smo) : Option (Int) :=
  Option.bind (lp (fun (s8157 : Int × Int) =>
    Option.bind (f_X12_nodeMany O) fun (q8164 : Int) =>
    if s8157.2 < q8164 then
      (Option.bind (lp (fun (s8167 : Int × Int) =>
        Option.bind (aget (O 282) (Ln 282) (wr (1485 + s8157.2))) fun (v8173 : Int) =>
        if s8167.2 < v8173 then
          (Option.bind (aget (O 282) (Ln 282) (wr ((wr (1805 + (wr (6 * s8157.2)))) + s8167.2))) fun (v8176 : Int) =>
          jn (
            if v8176 = a1 then
              (1)
            else
              (0)) fun (q8178 : Int) =>
          jn (wr (s8167.1 + (f_X12_truth q8178))) fun (v8184 : Int) =>
          some (Sum.inl (v8184, wr (s8167.2 + 1))))
        else
          (some (Sum.inr s8167.1))) FU (s8157.1, 0)) fun (r8186 : Int) =>
      some (Sum.inl (r8186, wr (s8157.2 + 1))))
    else
      (some (Sum.inr s8157.1))) FU (0, 0)) fun (r8188 : Int) =>
  some r8188
set_option maxRecDepth 100000 in
set_option maxHeartbeats 4000000 in
theorem m_X12_writtenAt {l : Launch} {E : EwT} {S : Sst} {O : Smo} {a1 : Int} (ha1 : IR a1) {q : Int} (hq : f_X12_writtenAt a1 O = some q) : MetG l E yX12_writtenAt cX12_writtenAt 5 (some .int) 1 20 0 0 n0 R0 S O [.ref (zad E 262), .int (zi a1)] (IR q) (some (.int (zi q))) n0 R0 S O := by
  refine ofG (L0 := [(0, .ref (zad E 262)), (1, .int (zi a1))]) hq (by decide +kernel) (Nat.le_of_ble_eq_true rfl) rfl (fun K _ C hQ => ?_)
  unfold f_X12_writtenAt
  refine r_iconst (v := 0) C dX12_writtenAt_0 (by decide) ?_
  refine r_istore_n (L' := [(2, .int (zi 0)), (0, .ref (zad E 262)), (1, .int (zi a1))]) C dX12_writtenAt_1 rfl (by decide) rfl ?_
  refine r_iconst (v := 0) C dX12_writtenAt_2 (by decide) ?_
  refine r_istore_n (L' := [(3, .int (zi 0)), (2, .int (zi 0)), (0, .ref (zad E 262)), (1, .int (zi a1))]) C dX12_writtenAt_3 rfl (by decide) rfl ?_
  refine r_L (L' := [(0, .ref (zad E 262)), (1, .int (zi a1)), (2, .int (zi 0)), (3, .int (zi 0))]) [2, 3, 1, 0] rfl ?_
  refine r_loop1 (fun s8157 : Int × Int => IR s8157.1 ∧ IR s8157.2) (fun s8157 => S) (fun s8157 => O) (fun s8157 => [(0, .ref (zad E 262)), (1, .int (zi a1)), (2, .int (zi s8157.1)), (3, .int (zi s8157.2))]) [] (fun r8188 : Int => IR r8188) (fun r8188 => S) (fun r8188 => O) (fun r8188 => [(2, .int (zi r8188))]) 73 (fun r8188 h8189 => ?_) (fun k8159 k8161 k8160 k8162 s8157 h8158 => ?_) ⟨(IRd rfl), (IRd rfl)⟩
  · refine r_iload_n (pc := 73) (j := 0) C dX12_writtenAt_73 rfl rfl ?_
    exact r_ireturn C hQ rfl dX12_writtenAt_74 (fun e => by cases e; exact ⟨h8189, rfl, rfl, rfl, rfl, rfl⟩)
  · refine r_iload_n (pc := 4) (j := 3) C dX12_writtenAt_4 rfl rfl ?_
    refine r_aload_n (pc := 5) (j := 0) C dX12_writtenAt_5 rfl rfl ?_
    refine r_bb ?_
    refine r_bd (fun q8164 e8165 => ?_)
    refine r_cV1 (pc := 6) (k := 262) (As := []) (st := [.int (zi s8157.2)]) C (m_X12_nodeMany  e8165) cal_X12_nodeMany cl_X12 kd_262 ln_262 q_2020 dX12_writtenAt_6 rfl rfl (Nat.le_of_ble_eq_true rfl) (Nat.le_of_ble_eq_true rfl) (Nat.le_of_ble_eq_true rfl) (Nat.le_of_ble_eq_true rfl) (Nat.le_of_ble_eq_true rfl) (fun h8163 => ?_)
    refine r_icmp_ge (tgt := 73) C h8158.2 h8163 dX12_writtenAt_9 (by decide) (fun c8166 => ?_) (fun c8166 => ?_)
    · refine r_bf c8166 ?_
      refine r_L (L' := [(2, .int (zi s8157.1))]) [2] rfl ?_
      exact k8162 s8157.1 h8158.1
    · refine r_bt c8166 ?_
      refine r_iconst (v := 0) C dX12_writtenAt_12 (by decide) ?_
      refine r_istore (L' := [(4, .int (zi 0)), (0, .ref (zad E 262)), (1, .int (zi a1)), (2, .int (zi s8157.1)), (3, .int (zi s8157.2))]) C dX12_writtenAt_13 (by decide) rfl ?_
      refine r_L (L' := [(0, .ref (zad E 262)), (1, .int (zi a1)), (2, .int (zi s8157.1)), (3, .int (zi s8157.2)), (4, .int (zi 0))]) [1, 2, 3, 4, 0] rfl ?_
      refine r_bb ?_
      refine r_loop1 (fun s8167 : Int × Int => IR s8167.1 ∧ IR s8167.2) (fun s8167 => S) (fun s8167 => O) (fun s8167 => [(0, .ref (zad E 262)), (1, .int (zi a1)), (2, .int (zi s8167.1)), (3, .int (zi s8157.2)), (4, .int (zi s8167.2))]) [] (fun r8186 : Int => IR r8186) (fun r8186 => S) (fun r8186 => O) (fun r8186 => [(0, .ref (zad E 262)), (1, .int (zi a1)), (2, .int (zi r8186)), (3, .int (zi s8157.2))]) 67 (fun r8186 h8187 => ?_) (fun k8169 k8171 k8170 k8172 s8167 h8168 => ?_) ⟨h8158.1, (IRd rfl)⟩
      · refine r_iinc (j := 3) (L' := [(3, .int (zi (wr (s8157.2 + 1)))), (0, .ref (zad E 262)), (1, .int (zi a1)), (2, .int (zi r8186))]) C dX12_writtenAt_67 rfl (by decide) rfl ?_
        refine r_goto (tgt := 4) C dX12_writtenAt_70 (by decide) ?_
        refine r_L (L' := [(0, .ref (zad E 262)), (1, .int (zi a1)), (2, .int (zi r8186)), (3, .int (zi (wr (s8157.2 + 1))))]) [1, 2, 3, 0] rfl ?_
        exact k8160 (r8186, wr (s8157.2 + 1)) ⟨h8187, (IR_wr _)⟩
      · refine r_iload (pc := 15) (j := 4) C dX12_writtenAt_15 rfl ?_
        refine r_aload_n (pc := 17) (j := 0) C dX12_writtenAt_17 rfl rfl ?_
        refine r_getR (j := 46) (r := 282) C cl_X12 kd_262 ln_262 (by decide) rfl r0_262_46 (by decide) q_1599 dX12_writtenAt_18 ?_
        refine r_sipush (v := 1485) C dX12_writtenAt_21 (by decide) ?_
        refine r_iload_n (pc := 24) (j := 3) C dX12_writtenAt_24 rfl rfl ?_
        refine r_iadd C dX12_writtenAt_25 ?_
        refine r_bb ?_
        refine r_iald C kd_282 ln_282 gc_282 (IR_wr _) dX12_writtenAt_26 (fun v8173 h8174 => ?_)
        refine r_icmp_ge (tgt := 67) C h8168.2 h8174 dX12_writtenAt_27 (by decide) (fun c8175 => ?_) (fun c8175 => ?_)
        · refine r_bf c8175 ?_
          refine r_L (L' := [(0, .ref (zad E 262)), (1, .int (zi a1)), (2, .int (zi s8167.1)), (3, .int (zi s8157.2))]) [0, 1, 2, 3] rfl ?_
          exact k8172 s8167.1 h8168.1
        · refine r_bt c8175 ?_
          refine r_iload_n (pc := 30) (j := 2) C dX12_writtenAt_30 rfl rfl ?_
          refine r_aload_n (pc := 31) (j := 0) C dX12_writtenAt_31 rfl rfl ?_
          refine r_getR (j := 46) (r := 282) C cl_X12 kd_262 ln_262 (by decide) rfl r0_262_46 (by decide) q_1599 dX12_writtenAt_32 ?_
          refine r_sipush (v := 1805) C dX12_writtenAt_35 (by decide) ?_
          refine r_bipush (v := 6) C dX12_writtenAt_38 (by decide) ?_
          refine r_iload_n (pc := 40) (j := 3) C dX12_writtenAt_40 rfl rfl ?_
          refine r_imul C dX12_writtenAt_41 ?_
          refine r_iadd C dX12_writtenAt_42 ?_
          refine r_iload (pc := 43) (j := 4) C dX12_writtenAt_43 rfl ?_
          refine r_iadd C dX12_writtenAt_45 ?_
          refine r_bb ?_
          refine r_iald C kd_282 ln_282 gc_282 (IR_wr _) dX12_writtenAt_46 (fun v8176 h8177 => ?_)
          refine r_iload_n (pc := 47) (j := 1) C dX12_writtenAt_47 rfl rfl ?_
          refine r_bj ?_
          refine r_join (fun q8178 : Int => BR q8178) (fun q8178 => S) (fun q8178 => O) (fun q8178 => [(0, .ref (zad E 262)), (1, .int (zi a1)), (3, .int (zi s8157.2)), (4, .int (zi s8167.2))]) 56 (fun q8178 => [.int (zi q8178), .int (zi s8167.1)]) (fun q8178 h8179 => ?_) (fun k8180 k8181 => ?_)
          · refine r_cS1 (pc := 56) (As := [.int (zi q8178)]) (st := [.int (zi s8167.1)]) C (m_X12_truth (a0 := q8178) h8179 rfl) cal_X12_truth q_1959 dX12_writtenAt_56 rfl rfl (Nat.le_of_ble_eq_true rfl) (Nat.le_of_ble_eq_true rfl) (Nat.le_of_ble_eq_true rfl) (Nat.le_of_ble_eq_true rfl) (Nat.le_of_ble_eq_true rfl) (fun h8183 => ?_)
            refine r_iadd C dX12_writtenAt_59 ?_
            refine r_bj ?_
            refine r_jv (IR_wr _) (fun v8184 h8185 => ?_)
            refine r_istore_n (L' := [(2, .int (zi v8184)), (0, .ref (zad E 262)), (1, .int (zi a1)), (3, .int (zi s8157.2)), (4, .int (zi s8167.2))]) C dX12_writtenAt_60 rfl (by decide) rfl ?_
            refine r_iinc (j := 4) (L' := [(4, .int (zi (wr (s8167.2 + 1)))), (2, .int (zi v8184)), (0, .ref (zad E 262)), (1, .int (zi a1)), (3, .int (zi s8157.2))]) C dX12_writtenAt_61 rfl (by decide) rfl ?_
            refine r_goto (tgt := 15) C dX12_writtenAt_64 (by decide) ?_
            refine r_L (L' := [(0, .ref (zad E 262)), (1, .int (zi a1)), (2, .int (zi v8184)), (3, .int (zi s8157.2)), (4, .int (zi (wr (s8167.2 + 1))))]) [2, 3, 1, 4, 0] rfl ?_
            exact k8170 (v8184, wr (s8167.2 + 1)) ⟨h8185, (IR_wr _)⟩
          · refine r_icmp_ne (tgt := 55) C h8177 ha1 dX12_writtenAt_48 (by decide) (fun c8182 => ?_) (fun c8182 => ?_)
            · refine r_jf c8182 ?_
              refine r_iconst (v := 0) C dX12_writtenAt_55 (by decide) ?_
              refine r_L (L' := [(0, .ref (zad E 262)), (1, .int (zi a1)), (3, .int (zi s8157.2)), (4, .int (zi s8167.2))]) [0, 1, 3, 4] rfl ?_
              exact k8181 0 (BRd rfl)
            · refine r_jt c8182 ?_
              refine r_iconst (v := 1) C dX12_writtenAt_51 (by decide) ?_
              refine r_goto (tgt := 56) C dX12_writtenAt_52 (by decide) ?_
              refine r_L (L' := [(0, .ref (zad E 262)), (1, .int (zi a1)), (3, .int (zi s8157.2)), (4, .int (zi s8167.2))]) [0, 1, 3, 4] rfl ?_
              exact k8181 1 (BRd rfl)

def f_X12_costOf (a1 : Int) (O : Smo) : Option (Int) :=
  Option.bind (f_X12_madeAt a1 O) fun (q8191 : Int) =>
  Option.bind (f_X12_writtenAt a1 O) fun (q8194 : Int) =>
  some (wr (q8191 + q8194))
set_option maxRecDepth 100000 in
set_option maxHeartbeats 4000000 in
theorem m_X12_costOf {l : Launch} {E : EwT} {S : Sst} {O : Smo} {a1 : Int} (ha1 : IR a1) {q : Int} (hq : f_X12_costOf a1 O = some q) : MetG l E yX12_costOf cX12_costOf 2 (some .int) 2 44 0 0 n0 R0 S O [.ref (zad E 262), .int (zi a1)] (IR q) (some (.int (zi q))) n0 R0 S O := by
  refine ofG (L0 := [(0, .ref (zad E 262)), (1, .int (zi a1))]) hq (by decide +kernel) (Nat.le_of_ble_eq_true rfl) rfl (fun K _ C hQ => ?_)
  unfold f_X12_costOf
  refine r_aload_n (pc := 0) (j := 0) C dX12_costOf_0 rfl rfl ?_
  refine r_iload_n (pc := 1) (j := 1) C dX12_costOf_1 rfl rfl ?_
  refine r_bd (fun q8191 e8192 => ?_)
  refine r_cV1 (pc := 2) (k := 262) (As := [.int (zi a1)]) (st := []) C (m_X12_madeAt (a1 := a1) ha1 e8192) cal_X12_madeAt cl_X12 kd_262 ln_262 q_2122 dX12_costOf_2 rfl rfl (Nat.le_of_ble_eq_true rfl) (Nat.le_of_ble_eq_true rfl) (Nat.le_of_ble_eq_true rfl) (Nat.le_of_ble_eq_true rfl) (Nat.le_of_ble_eq_true rfl) (fun h8190 => ?_)
  refine r_aload_n (pc := 5) (j := 0) C dX12_costOf_5 rfl rfl ?_
  refine r_iload_n (pc := 6) (j := 1) C dX12_costOf_6 rfl rfl ?_
  refine r_bd (fun q8194 e8195 => ?_)
  refine r_cV1 (pc := 7) (k := 262) (As := [.int (zi a1)]) (st := [.int (zi q8191)]) C (m_X12_writtenAt (a1 := a1) ha1 e8195) cal_X12_writtenAt cl_X12 kd_262 ln_262 q_2126 dX12_costOf_7 rfl rfl (Nat.le_of_ble_eq_true rfl) (Nat.le_of_ble_eq_true rfl) (Nat.le_of_ble_eq_true rfl) (Nat.le_of_ble_eq_true rfl) (Nat.le_of_ble_eq_true rfl) (fun h8193 => ?_)
  refine r_iadd C dX12_costOf_10 ?_
  exact r_ireturn C hQ rfl dX12_costOf_11 (fun e => by cases e; exact ⟨(IR_wr _), rfl, rfl, rfl, rfl, rfl⟩)

def f_X12_version (a1 : Int) (a2 : Int) (O : Smo) : Option (Int × Smo) :=
  if f_X12_isStamp a1 O = 0 then
    (some ((-2), O))
  else
    (Option.bind (f_X12_layTree a1 O) fun (q8199 : Smo) =>
    if a2 = 0 then
      (Option.bind (f_X12_placeOf a1 q8199) fun (q8203 : Int) =>
      some (q8203, q8199))
    else
      (if a2 = 1 then
        (Option.bind (f_X12_setOf a1 q8199) fun (q8207 : Int) =>
        some (q8207, q8199))
      else
        (if a2 = 2 then
          (Option.bind (f_X12_nodeOf (q8199 262 59) a1 q8199) fun (q8212 : Int) =>
          some (q8212, q8199))
        else
          (if a2 = 3 then
            (Option.bind (f_X12_highBy (q8199 262 59) q8199) fun (q8217 : Int) =>
            some (q8217, q8199))
          else
            (if a2 = 4 then
              (Option.bind (f_X12_costOf a1 q8199) fun (q8221 : Int) =>
              some (q8221, q8199))
            else
              (some ((-2), q8199)))))))
set_option maxRecDepth 100000 in
set_option maxHeartbeats 4000000 in
theorem m_X12_version {l : Launch} {E : EwT} {S : Sst} {O : Smo} {a1 : Int} (ha1 : IR a1) {a2 : Int} (ha2 : IR a2) {q : Int × Smo} (hq : f_X12_version a1 a2 O = some q) : MetG l E yX12_version cX12_version 3 (some .int) 4 98 0 0 n0 R0 S O [.ref (zad E 262), .int (zi a1), .int (zi a2)] (IR q.1) (some (.int (zi q.1))) n0 R0 S q.2 := by
  refine ofG (L0 := [(0, .ref (zad E 262)), (1, .int (zi a1)), (2, .int (zi a2))]) hq (by decide +kernel) (Nat.le_of_ble_eq_true rfl) rfl (fun K _ C hQ => ?_)
  unfold f_X12_version
  refine r_aload_n (pc := 0) (j := 0) C dX12_version_0 rfl rfl ?_
  refine r_iload_n (pc := 1) (j := 1) C dX12_version_1 rfl rfl ?_
  refine r_cV1 (pc := 2) (k := 262) (As := [.int (zi a1)]) (st := []) C (m_X12_isStamp (a1 := a1) ha1 rfl) cal_X12_isStamp cl_X12 kd_262 ln_262 q_2114 dX12_version_2 rfl rfl (Nat.le_of_ble_eq_true rfl) (Nat.le_of_ble_eq_true rfl) (Nat.le_of_ble_eq_true rfl) (Nat.le_of_ble_eq_true rfl) (Nat.le_of_ble_eq_true rfl) (fun h8196 => ?_)
  refine r_if_ne (tgt := 11) C h8196.ir dX12_version_5 (by decide) (fun c8197 => ?_) (fun c8197 => ?_)
  · refine r_f c8197 ?_
    refine r_aload_n (pc := 11) (j := 0) C dX12_version_11 rfl rfl ?_
    refine r_iload_n (pc := 12) (j := 1) C dX12_version_12 rfl rfl ?_
    refine r_bd (fun q8199 e8200 => ?_)
    refine r_cV0 (pc := 13) (k := 262) (As := [.int (zi a1)]) (st := []) C (m_X12_layTree (a1 := a1) ha1 e8200) cal_X12_layTree cl_X12 kd_262 ln_262 q_2028 dX12_version_13 rfl rfl (Nat.le_of_ble_eq_true rfl) (Nat.le_of_ble_eq_true rfl) (Nat.le_of_ble_eq_true rfl) (Nat.le_of_ble_eq_true rfl) (Nat.le_of_ble_eq_true rfl) (fun h8198 => ?_)
    refine r_iload_n (pc := 16) (j := 2) C dX12_version_16 rfl rfl ?_
    by_cases c8201 : (a2 = 0)
    · refine r_t c8201 ?_
      refine r_tswIn (kx := 0) (tgt := 52) C ha2 dX12_version_17 c8201 (by decide) (by decide) rfl (by decide) ?_
      refine r_aload_n (pc := 52) (j := 0) C dX12_version_52 rfl rfl ?_
      refine r_iload_n (pc := 53) (j := 1) C dX12_version_53 rfl rfl ?_
      refine r_bd (fun q8203 e8204 => ?_)
      refine r_cV1 (pc := 54) (k := 262) (As := [.int (zi a1)]) (st := []) C (m_X12_placeOf (a1 := a1) ha1 e8204) cal_X12_placeOf cl_X12 kd_262 ln_262 q_2032 dX12_version_54 rfl rfl (Nat.le_of_ble_eq_true rfl) (Nat.le_of_ble_eq_true rfl) (Nat.le_of_ble_eq_true rfl) (Nat.le_of_ble_eq_true rfl) (Nat.le_of_ble_eq_true rfl) (fun h8202 => ?_)
      exact r_ireturn C hQ rfl dX12_version_57 (fun e => by cases e; exact ⟨h8202, rfl, rfl, rfl, rfl, rfl⟩)
    · refine r_f c8201 ?_
      by_cases c8205 : (a2 = 1)
      · refine r_t c8205 ?_
        refine r_tswIn (kx := 1) (tgt := 58) C ha2 dX12_version_17 c8205 (by decide) (by decide) rfl (by decide) ?_
        refine r_aload_n (pc := 58) (j := 0) C dX12_version_58 rfl rfl ?_
        refine r_iload_n (pc := 59) (j := 1) C dX12_version_59 rfl rfl ?_
        refine r_bd (fun q8207 e8208 => ?_)
        refine r_cV1 (pc := 60) (k := 262) (As := [.int (zi a1)]) (st := []) C (m_X12_setOf (a1 := a1) ha1 e8208) cal_X12_setOf cl_X12 kd_262 ln_262 q_2008 dX12_version_60 rfl rfl (Nat.le_of_ble_eq_true rfl) (Nat.le_of_ble_eq_true rfl) (Nat.le_of_ble_eq_true rfl) (Nat.le_of_ble_eq_true rfl) (Nat.le_of_ble_eq_true rfl) (fun h8206 => ?_)
        exact r_ireturn C hQ rfl dX12_version_63 (fun e => by cases e; exact ⟨h8206, rfl, rfl, rfl, rfl, rfl⟩)
      · refine r_f c8205 ?_
        by_cases c8209 : (a2 = 2)
        · refine r_t c8209 ?_
          refine r_tswIn (kx := 2) (tgt := 64) C ha2 dX12_version_17 c8209 (by decide) (by decide) rfl (by decide) ?_
          refine r_aload_n (pc := 64) (j := 0) C dX12_version_64 rfl rfl ?_
          refine r_aload_n (pc := 65) (j := 0) C dX12_version_65 rfl rfl ?_
          refine r_getO (j := 59) C cl_X12 kd_262 ln_262 gc_262 (by decide) (by decide) rfl q_1612 dX12_version_66 (fun h8210 => ?_)
          refine r_iload_n (pc := 69) (j := 1) C dX12_version_69 rfl rfl ?_
          refine r_bd (fun q8212 e8213 => ?_)
          refine r_cV1 (pc := 70) (k := 262) (As := [.int (zi (q8199 262 59)), .int (zi a1)]) (st := []) C (m_X12_nodeOf (a1 := q8199 262 59) (a2 := a1) h8210 ha1 e8213) cal_X12_nodeOf cl_X12 kd_262 ln_262 q_2067 dX12_version_70 rfl rfl (Nat.le_of_ble_eq_true rfl) (Nat.le_of_ble_eq_true rfl) (Nat.le_of_ble_eq_true rfl) (Nat.le_of_ble_eq_true rfl) (Nat.le_of_ble_eq_true rfl) (fun h8211 => ?_)
          exact r_ireturn C hQ rfl dX12_version_73 (fun e => by cases e; exact ⟨h8211, rfl, rfl, rfl, rfl, rfl⟩)
        · refine r_f c8209 ?_
          by_cases c8214 : (a2 = 3)
          · refine r_t c8214 ?_
            refine r_tswIn (kx := 3) (tgt := 74) C ha2 dX12_version_17 c8214 (by decide) (by decide) rfl (by decide) ?_
            refine r_aload_n (pc := 74) (j := 0) C dX12_version_74 rfl rfl ?_
            refine r_aload_n (pc := 75) (j := 0) C dX12_version_75 rfl rfl ?_
            refine r_getO (j := 59) C cl_X12 kd_262 ln_262 gc_262 (by decide) (by decide) rfl q_1612 dX12_version_76 (fun h8215 => ?_)
            refine r_bd (fun q8217 e8218 => ?_)
            refine r_cV1 (pc := 79) (k := 262) (As := [.int (zi (q8199 262 59))]) (st := []) C (m_X12_highBy (a1 := q8199 262 59) h8215 e8218) cal_X12_highBy cl_X12 kd_262 ln_262 q_2055 dX12_version_79 rfl rfl (Nat.le_of_ble_eq_true rfl) (Nat.le_of_ble_eq_true rfl) (Nat.le_of_ble_eq_true rfl) (Nat.le_of_ble_eq_true rfl) (Nat.le_of_ble_eq_true rfl) (fun h8216 => ?_)
            exact r_ireturn C hQ rfl dX12_version_82 (fun e => by cases e; exact ⟨h8216, rfl, rfl, rfl, rfl, rfl⟩)
          · refine r_f c8214 ?_
            by_cases c8219 : (a2 = 4)
            · refine r_t c8219 ?_
              refine r_tswIn (kx := 4) (tgt := 83) C ha2 dX12_version_17 c8219 (by decide) (by decide) rfl (by decide) ?_
              refine r_aload_n (pc := 83) (j := 0) C dX12_version_83 rfl rfl ?_
              refine r_iload_n (pc := 84) (j := 1) C dX12_version_84 rfl rfl ?_
              refine r_bd (fun q8221 e8222 => ?_)
              refine r_cV1 (pc := 85) (k := 262) (As := [.int (zi a1)]) (st := []) C (m_X12_costOf (a1 := a1) ha1 e8222) cal_X12_costOf cl_X12 kd_262 ln_262 q_2118 dX12_version_85 rfl rfl (Nat.le_of_ble_eq_true rfl) (Nat.le_of_ble_eq_true rfl) (Nat.le_of_ble_eq_true rfl) (Nat.le_of_ble_eq_true rfl) (Nat.le_of_ble_eq_true rfl) (fun h8220 => ?_)
              exact r_ireturn C hQ rfl dX12_version_88 (fun e => by cases e; exact ⟨h8220, rfl, rfl, rfl, rfl, rfl⟩)
            · refine r_f c8219 ?_
              refine r_tswOut (tgt := 89) C ha2 dX12_version_17 (by omega) (by decide) ?_
              refine r_bipush (v := (-2)) C dX12_version_89 (by decide) ?_
              exact r_ireturn C hQ rfl dX12_version_91 (fun e => by cases e; exact ⟨(IRd rfl), rfl, rfl, rfl, rfl, rfl⟩)
  · refine r_t c8197 ?_
    refine r_bipush (v := (-2)) C dX12_version_8 (by decide) ?_
    exact r_ireturn C hQ rfl dX12_version_10 (fun e => by cases e; exact ⟨(IRd rfl), rfl, rfl, rfl, rfl, rfl⟩)

def f_X12_isThere (a1 : Int) (O : Smo) : Option (Int) :=
  Option.bind (aget (O 282) (Ln 282) (wr (205 + a1))) fun (v8223 : Int) =>
  Option.bind (f_X12_nodeOf v8223 (O 262 47) O) fun (q8227 : Int) =>
  if q8227 = a1 then
    (some 1)
  else
    (some 0)
set_option maxRecDepth 100000 in
set_option maxHeartbeats 4000000 in
theorem m_X12_isThere {l : Launch} {E : EwT} {S : Sst} {O : Smo} {a1 : Int} (ha1 : IR a1) {q : Int} (hq : f_X12_isThere a1 O = some q) : MetG l E yX12_isThere cX12_isThere 2 (some .boolean) 2 45 0 0 n0 R0 S O [.ref (zad E 262), .int (zi a1)] (BR q) (some (.int (zi q))) n0 R0 S O := by
  refine ofG (L0 := [(0, .ref (zad E 262)), (1, .int (zi a1))]) hq (by decide +kernel) (Nat.le_of_ble_eq_true rfl) rfl (fun K _ C hQ => ?_)
  unfold f_X12_isThere
  refine r_aload_n (pc := 0) (j := 0) C dX12_isThere_0 rfl rfl ?_
  refine r_aload_n (pc := 1) (j := 0) C dX12_isThere_1 rfl rfl ?_
  refine r_getR (j := 46) (r := 282) C cl_X12 kd_262 ln_262 (by decide) rfl r0_262_46 (by decide) q_1599 dX12_isThere_2 ?_
  refine r_sipush (v := 205) C dX12_isThere_5 (by decide) ?_
  refine r_iload_n (pc := 8) (j := 1) C dX12_isThere_8 rfl rfl ?_
  refine r_iadd C dX12_isThere_9 ?_
  refine r_iald C kd_282 ln_282 gc_282 (IR_wr _) dX12_isThere_10 (fun v8223 h8224 => ?_)
  refine r_aload_n (pc := 11) (j := 0) C dX12_isThere_11 rfl rfl ?_
  refine r_getO (j := 47) C cl_X12 kd_262 ln_262 gc_262 (by decide) (by decide) rfl q_1600 dX12_isThere_12 (fun h8225 => ?_)
  refine r_bd (fun q8227 e8228 => ?_)
  refine r_cV1 (pc := 15) (k := 262) (As := [.int (zi v8223), .int (zi (O 262 47))]) (st := []) C (m_X12_nodeOf (a1 := v8223) (a2 := O 262 47) h8224 h8225 e8228) cal_X12_nodeOf cl_X12 kd_262 ln_262 q_2067 dX12_isThere_15 rfl rfl (Nat.le_of_ble_eq_true rfl) (Nat.le_of_ble_eq_true rfl) (Nat.le_of_ble_eq_true rfl) (Nat.le_of_ble_eq_true rfl) (Nat.le_of_ble_eq_true rfl) (fun h8226 => ?_)
  refine r_iload_n (pc := 18) (j := 1) C dX12_isThere_18 rfl rfl ?_
  refine r_icmp_ne (tgt := 26) C h8226 ha1 dX12_isThere_19 (by decide) (fun c8229 => ?_) (fun c8229 => ?_)
  · refine r_f c8229 ?_
    refine r_iconst (v := 0) C dX12_isThere_26 (by decide) ?_
    exact r_ireturn C hQ (nar_z (BRd rfl)) dX12_isThere_27 (fun e => by cases e; exact ⟨(BRd rfl), rfl, rfl, rfl, rfl, rfl⟩)
  · refine r_t c8229 ?_
    refine r_iconst (v := 1) C dX12_isThere_22 (by decide) ?_
    refine r_goto (tgt := 27) C dX12_isThere_23 (by decide) ?_
    exact r_ireturn C hQ (nar_z (BRd rfl)) dX12_isThere_27 (fun e => by cases e; exact ⟨(BRd rfl), rfl, rfl, rfl, rfl, rfl⟩)

def f_X12_parentAt (a1 : Int) (O : Smo) : Option (Int × Smo) :=
  Option.bind (f_X12_isThere a1 O) fun (q8231 : Int) =>
  if q8231 = 0 then
    (some ((-1), O))
  else
    (Option.bind (f_X12_layTree (O 262 47) O) fun (q8236 : Smo) =>
    Option.bind (aget (q8236 282) (Ln 282) (wr (205 + a1))) fun (v8238 : Int) =>
    Option.bind (aget (q8236 286) (Ln 286) v8238) fun (v8240 : Int) =>
    Option.bind (f_X12_nodeOf v8240 (q8236 262 47) q8236) fun (q8244 : Int) =>
    some (q8244, q8236))
set_option maxRecDepth 100000 in
set_option maxHeartbeats 4000000 in
theorem m_X12_parentAt {l : Launch} {E : EwT} {S : Sst} {O : Smo} {a1 : Int} (ha1 : IR a1) {q : Int × Smo} (hq : f_X12_parentAt a1 O = some q) : MetG l E yX12_parentAt cX12_parentAt 2 (some .int) 4 98 0 0 n0 R0 S O [.ref (zad E 262), .int (zi a1)] (IR q.1) (some (.int (zi q.1))) n0 R0 S q.2 := by
  refine ofG (L0 := [(0, .ref (zad E 262)), (1, .int (zi a1))]) hq (by decide +kernel) (Nat.le_of_ble_eq_true rfl) rfl (fun K _ C hQ => ?_)
  unfold f_X12_parentAt
  refine r_aload_n (pc := 0) (j := 0) C dX12_parentAt_0 rfl rfl ?_
  refine r_iload_n (pc := 1) (j := 1) C dX12_parentAt_1 rfl rfl ?_
  refine r_bd (fun q8231 e8232 => ?_)
  refine r_cV1 (pc := 2) (k := 262) (As := [.int (zi a1)]) (st := []) C (m_X12_isThere (a1 := a1) ha1 e8232) cal_X12_isThere cl_X12 kd_262 ln_262 q_2142 dX12_parentAt_2 rfl rfl (Nat.le_of_ble_eq_true rfl) (Nat.le_of_ble_eq_true rfl) (Nat.le_of_ble_eq_true rfl) (Nat.le_of_ble_eq_true rfl) (Nat.le_of_ble_eq_true rfl) (fun h8230 => ?_)
  refine r_if_ne (tgt := 10) C h8230.ir dX12_parentAt_5 (by decide) (fun c8233 => ?_) (fun c8233 => ?_)
  · refine r_f c8233 ?_
    refine r_aload_n (pc := 10) (j := 0) C dX12_parentAt_10 rfl rfl ?_
    refine r_aload_n (pc := 11) (j := 0) C dX12_parentAt_11 rfl rfl ?_
    refine r_getO (j := 47) C cl_X12 kd_262 ln_262 gc_262 (by decide) (by decide) rfl q_1600 dX12_parentAt_12 (fun h8234 => ?_)
    refine r_bd (fun q8236 e8237 => ?_)
    refine r_cV0 (pc := 15) (k := 262) (As := [.int (zi (O 262 47))]) (st := []) C (m_X12_layTree (a1 := O 262 47) h8234 e8237) cal_X12_layTree cl_X12 kd_262 ln_262 q_2028 dX12_parentAt_15 rfl rfl (Nat.le_of_ble_eq_true rfl) (Nat.le_of_ble_eq_true rfl) (Nat.le_of_ble_eq_true rfl) (Nat.le_of_ble_eq_true rfl) (Nat.le_of_ble_eq_true rfl) (fun h8235 => ?_)
    refine r_aload_n (pc := 18) (j := 0) C dX12_parentAt_18 rfl rfl ?_
    refine r_aload_n (pc := 19) (j := 0) C dX12_parentAt_19 rfl rfl ?_
    refine r_getR (j := 53) (r := 286) C cl_X12 kd_262 ln_262 (by decide) rfl r0_262_53 (by decide) q_1606 dX12_parentAt_20 ?_
    refine r_aload_n (pc := 23) (j := 0) C dX12_parentAt_23 rfl rfl ?_
    refine r_getR (j := 46) (r := 282) C cl_X12 kd_262 ln_262 (by decide) rfl r0_262_46 (by decide) q_1599 dX12_parentAt_24 ?_
    refine r_sipush (v := 205) C dX12_parentAt_27 (by decide) ?_
    refine r_iload_n (pc := 30) (j := 1) C dX12_parentAt_30 rfl rfl ?_
    refine r_iadd C dX12_parentAt_31 ?_
    refine r_iald C kd_282 ln_282 gc_282 (IR_wr _) dX12_parentAt_32 (fun v8238 h8239 => ?_)
    refine r_iald C kd_286 ln_286 gc_286 h8239 dX12_parentAt_33 (fun v8240 h8241 => ?_)
    refine r_aload_n (pc := 34) (j := 0) C dX12_parentAt_34 rfl rfl ?_
    refine r_getO (j := 47) C cl_X12 kd_262 ln_262 gc_262 (by decide) (by decide) rfl q_1600 dX12_parentAt_35 (fun h8242 => ?_)
    refine r_bd (fun q8244 e8245 => ?_)
    refine r_cV1 (pc := 38) (k := 262) (As := [.int (zi v8240), .int (zi (q8236 262 47))]) (st := []) C (m_X12_nodeOf (a1 := v8240) (a2 := q8236 262 47) h8241 h8242 e8245) cal_X12_nodeOf cl_X12 kd_262 ln_262 q_2067 dX12_parentAt_38 rfl rfl (Nat.le_of_ble_eq_true rfl) (Nat.le_of_ble_eq_true rfl) (Nat.le_of_ble_eq_true rfl) (Nat.le_of_ble_eq_true rfl) (Nat.le_of_ble_eq_true rfl) (fun h8243 => ?_)
    exact r_ireturn C hQ rfl dX12_parentAt_41 (fun e => by cases e; exact ⟨h8243, rfl, rfl, rfl, rfl, rfl⟩)
  · refine r_t c8233 ?_
    refine r_iconst (v := (-1)) C dX12_parentAt_8 (by decide) ?_
    exact r_ireturn C hQ rfl dX12_parentAt_9 (fun e => by cases e; exact ⟨(IRd rfl), rfl, rfl, rfl, rfl, rfl⟩)

def f_X12_node (a1 : Int) (a2 : Int) (O : Smo) : Option (Int × Smo) :=
  Option.bind (f_X12_isNode a1 O) fun (q8247 : Int) =>
  if q8247 = 0 then
    (some ((-2), O))
  else
    (if a2 = 0 then
      (Option.bind (aget (O 282) (Ln 282) (wr (205 + a1))) fun (v8251 : Int) =>
      some (v8251, O))
    else
      (if a2 = 1 then
        (Option.bind (aget (O 282) (Ln 282) (wr (525 + a1))) fun (v8254 : Int) =>
        some (v8254, O))
      else
        (if a2 = 2 then
          (Option.bind (aget (O 282) (Ln 282) (wr (845 + a1))) fun (v8257 : Int) =>
          some (v8257, O))
        else
          (if a2 = 3 then
            (Option.bind (aget (O 282) (Ln 282) (wr (1165 + a1))) fun (v8260 : Int) =>
            some (v8260, O))
          else
            (if a2 = 4 then
              (Option.bind (f_X12_usedUpTo a1 (O 262 47) O) fun (q8265 : Int) =>
              some (q8265, O))
            else
              (if a2 = 5 then
                (Option.bind (f_X12_parentAt a1 O) fun (q8269 : Int × Smo) =>
                some (q8269.1, q8269.2))
              else
                (if a2 = 6 then
                  (Option.bind (f_X12_isThere a1 O) fun (q8273 : Int) =>
                  some (f_X12_truth q8273, O))
                else
                  (some ((-2), O)))))))))
set_option maxRecDepth 100000 in
set_option maxHeartbeats 4000000 in
theorem m_X12_node {l : Launch} {E : EwT} {S : Sst} {O : Smo} {a1 : Int} (ha1 : IR a1) {a2 : Int} (ha2 : IR a2) {q : Int × Smo} (hq : f_X12_node a1 a2 O = some q) : MetG l E yX12_node cX12_node 3 (some .int) 5 119 0 0 n0 R0 S O [.ref (zad E 262), .int (zi a1), .int (zi a2)] (IR q.1) (some (.int (zi q.1))) n0 R0 S q.2 := by
  refine ofG (L0 := [(0, .ref (zad E 262)), (1, .int (zi a1)), (2, .int (zi a2))]) hq (by decide +kernel) (Nat.le_of_ble_eq_true rfl) rfl (fun K _ C hQ => ?_)
  unfold f_X12_node
  refine r_aload_n (pc := 0) (j := 0) C dX12_node_0 rfl rfl ?_
  refine r_iload_n (pc := 1) (j := 1) C dX12_node_1 rfl rfl ?_
  refine r_bd (fun q8247 e8248 => ?_)
  refine r_cV1 (pc := 2) (k := 262) (As := [.int (zi a1)]) (st := []) C (m_X12_isNode (a1 := a1) ha1 e8248) cal_X12_isNode cl_X12 kd_262 ln_262 q_2134 dX12_node_2 rfl rfl (Nat.le_of_ble_eq_true rfl) (Nat.le_of_ble_eq_true rfl) (Nat.le_of_ble_eq_true rfl) (Nat.le_of_ble_eq_true rfl) (Nat.le_of_ble_eq_true rfl) (fun h8246 => ?_)
  refine r_if_ne (tgt := 11) C h8246.ir dX12_node_5 (by decide) (fun c8249 => ?_) (fun c8249 => ?_)
  · refine r_f c8249 ?_
    refine r_iload_n (pc := 11) (j := 2) C dX12_node_11 rfl rfl ?_
    by_cases c8250 : (a2 = 0)
    · refine r_t c8250 ?_
      refine r_tswIn (kx := 0) (tgt := 56) C ha2 dX12_node_12 c8250 (by decide) (by decide) rfl (by decide) ?_
      refine r_aload_n (pc := 56) (j := 0) C dX12_node_56 rfl rfl ?_
      refine r_getR (j := 46) (r := 282) C cl_X12 kd_262 ln_262 (by decide) rfl r0_262_46 (by decide) q_1599 dX12_node_57 ?_
      refine r_sipush (v := 205) C dX12_node_60 (by decide) ?_
      refine r_iload_n (pc := 63) (j := 1) C dX12_node_63 rfl rfl ?_
      refine r_iadd C dX12_node_64 ?_
      refine r_iald C kd_282 ln_282 gc_282 (IR_wr _) dX12_node_65 (fun v8251 h8252 => ?_)
      exact r_ireturn C hQ rfl dX12_node_66 (fun e => by cases e; exact ⟨h8252, rfl, rfl, rfl, rfl, rfl⟩)
    · refine r_f c8250 ?_
      by_cases c8253 : (a2 = 1)
      · refine r_t c8253 ?_
        refine r_tswIn (kx := 1) (tgt := 67) C ha2 dX12_node_12 c8253 (by decide) (by decide) rfl (by decide) ?_
        refine r_aload_n (pc := 67) (j := 0) C dX12_node_67 rfl rfl ?_
        refine r_getR (j := 46) (r := 282) C cl_X12 kd_262 ln_262 (by decide) rfl r0_262_46 (by decide) q_1599 dX12_node_68 ?_
        refine r_sipush (v := 525) C dX12_node_71 (by decide) ?_
        refine r_iload_n (pc := 74) (j := 1) C dX12_node_74 rfl rfl ?_
        refine r_iadd C dX12_node_75 ?_
        refine r_iald C kd_282 ln_282 gc_282 (IR_wr _) dX12_node_76 (fun v8254 h8255 => ?_)
        exact r_ireturn C hQ rfl dX12_node_77 (fun e => by cases e; exact ⟨h8255, rfl, rfl, rfl, rfl, rfl⟩)
      · refine r_f c8253 ?_
        by_cases c8256 : (a2 = 2)
        · refine r_t c8256 ?_
          refine r_tswIn (kx := 2) (tgt := 78) C ha2 dX12_node_12 c8256 (by decide) (by decide) rfl (by decide) ?_
          refine r_aload_n (pc := 78) (j := 0) C dX12_node_78 rfl rfl ?_
          refine r_getR (j := 46) (r := 282) C cl_X12 kd_262 ln_262 (by decide) rfl r0_262_46 (by decide) q_1599 dX12_node_79 ?_
          refine r_sipush (v := 845) C dX12_node_82 (by decide) ?_
          refine r_iload_n (pc := 85) (j := 1) C dX12_node_85 rfl rfl ?_
          refine r_iadd C dX12_node_86 ?_
          refine r_iald C kd_282 ln_282 gc_282 (IR_wr _) dX12_node_87 (fun v8257 h8258 => ?_)
          exact r_ireturn C hQ rfl dX12_node_88 (fun e => by cases e; exact ⟨h8258, rfl, rfl, rfl, rfl, rfl⟩)
        · refine r_f c8256 ?_
          by_cases c8259 : (a2 = 3)
          · refine r_t c8259 ?_
            refine r_tswIn (kx := 3) (tgt := 89) C ha2 dX12_node_12 c8259 (by decide) (by decide) rfl (by decide) ?_
            refine r_aload_n (pc := 89) (j := 0) C dX12_node_89 rfl rfl ?_
            refine r_getR (j := 46) (r := 282) C cl_X12 kd_262 ln_262 (by decide) rfl r0_262_46 (by decide) q_1599 dX12_node_90 ?_
            refine r_sipush (v := 1165) C dX12_node_93 (by decide) ?_
            refine r_iload_n (pc := 96) (j := 1) C dX12_node_96 rfl rfl ?_
            refine r_iadd C dX12_node_97 ?_
            refine r_iald C kd_282 ln_282 gc_282 (IR_wr _) dX12_node_98 (fun v8260 h8261 => ?_)
            exact r_ireturn C hQ rfl dX12_node_99 (fun e => by cases e; exact ⟨h8261, rfl, rfl, rfl, rfl, rfl⟩)
          · refine r_f c8259 ?_
            by_cases c8262 : (a2 = 4)
            · refine r_t c8262 ?_
              refine r_tswIn (kx := 4) (tgt := 100) C ha2 dX12_node_12 c8262 (by decide) (by decide) rfl (by decide) ?_
              refine r_aload_n (pc := 100) (j := 0) C dX12_node_100 rfl rfl ?_
              refine r_iload_n (pc := 101) (j := 1) C dX12_node_101 rfl rfl ?_
              refine r_aload_n (pc := 102) (j := 0) C dX12_node_102 rfl rfl ?_
              refine r_getO (j := 47) C cl_X12 kd_262 ln_262 gc_262 (by decide) (by decide) rfl q_1600 dX12_node_103 (fun h8263 => ?_)
              refine r_bd (fun q8265 e8266 => ?_)
              refine r_cV1 (pc := 106) (k := 262) (As := [.int (zi a1), .int (zi (O 262 47))]) (st := []) C (m_X12_usedUpTo (a1 := a1) (a2 := O 262 47) ha1 h8263 e8266) cal_X12_usedUpTo cl_X12 kd_262 ln_262 q_2024 dX12_node_106 rfl rfl (Nat.le_of_ble_eq_true rfl) (Nat.le_of_ble_eq_true rfl) (Nat.le_of_ble_eq_true rfl) (Nat.le_of_ble_eq_true rfl) (Nat.le_of_ble_eq_true rfl) (fun h8264 => ?_)
              exact r_ireturn C hQ rfl dX12_node_109 (fun e => by cases e; exact ⟨h8264, rfl, rfl, rfl, rfl, rfl⟩)
            · refine r_f c8262 ?_
              by_cases c8267 : (a2 = 5)
              · refine r_t c8267 ?_
                refine r_tswIn (kx := 5) (tgt := 110) C ha2 dX12_node_12 c8267 (by decide) (by decide) rfl (by decide) ?_
                refine r_aload_n (pc := 110) (j := 0) C dX12_node_110 rfl rfl ?_
                refine r_iload_n (pc := 111) (j := 1) C dX12_node_111 rfl rfl ?_
                refine r_bd (fun q8269 e8270 => ?_)
                refine r_cV1 (pc := 112) (k := 262) (As := [.int (zi a1)]) (st := []) C (m_X12_parentAt (a1 := a1) ha1 e8270) cal_X12_parentAt cl_X12 kd_262 ln_262 q_2138 dX12_node_112 rfl rfl (Nat.le_of_ble_eq_true rfl) (Nat.le_of_ble_eq_true rfl) (Nat.le_of_ble_eq_true rfl) (Nat.le_of_ble_eq_true rfl) (Nat.le_of_ble_eq_true rfl) (fun h8268 => ?_)
                exact r_ireturn C hQ rfl dX12_node_115 (fun e => by cases e; exact ⟨h8268, rfl, rfl, rfl, rfl, rfl⟩)
              · refine r_f c8267 ?_
                by_cases c8271 : (a2 = 6)
                · refine r_t c8271 ?_
                  refine r_tswIn (kx := 6) (tgt := 116) C ha2 dX12_node_12 c8271 (by decide) (by decide) rfl (by decide) ?_
                  refine r_aload_n (pc := 116) (j := 0) C dX12_node_116 rfl rfl ?_
                  refine r_iload_n (pc := 117) (j := 1) C dX12_node_117 rfl rfl ?_
                  refine r_bd (fun q8273 e8274 => ?_)
                  refine r_cV1 (pc := 118) (k := 262) (As := [.int (zi a1)]) (st := []) C (m_X12_isThere (a1 := a1) ha1 e8274) cal_X12_isThere cl_X12 kd_262 ln_262 q_2142 dX12_node_118 rfl rfl (Nat.le_of_ble_eq_true rfl) (Nat.le_of_ble_eq_true rfl) (Nat.le_of_ble_eq_true rfl) (Nat.le_of_ble_eq_true rfl) (Nat.le_of_ble_eq_true rfl) (fun h8272 => ?_)
                  refine r_cS1 (pc := 121) (As := [.int (zi q8273)]) (st := []) C (m_X12_truth (a0 := q8273) h8272 rfl) cal_X12_truth q_1959 dX12_node_121 rfl rfl (Nat.le_of_ble_eq_true rfl) (Nat.le_of_ble_eq_true rfl) (Nat.le_of_ble_eq_true rfl) (Nat.le_of_ble_eq_true rfl) (Nat.le_of_ble_eq_true rfl) (fun h8275 => ?_)
                  exact r_ireturn C hQ rfl dX12_node_124 (fun e => by cases e; exact ⟨h8275, rfl, rfl, rfl, rfl, rfl⟩)
                · refine r_f c8271 ?_
                  refine r_tswOut (tgt := 125) C ha2 dX12_node_12 (by omega) (by decide) ?_
                  refine r_bipush (v := (-2)) C dX12_node_125 (by decide) ?_
                  exact r_ireturn C hQ rfl dX12_node_127 (fun e => by cases e; exact ⟨(IRd rfl), rfl, rfl, rfl, rfl, rfl⟩)
  · refine r_t c8249 ?_
    refine r_bipush (v := (-2)) C dX12_node_8 (by decide) ?_
    exact r_ireturn C hQ rfl dX12_node_10 (fun e => by cases e; exact ⟨(IRd rfl), rfl, rfl, rfl, rfl, rfl⟩)

def f_X12_change (a1 : Int) (a2 : Int) (a3 : Int) (O : Smo) : Option (Int) :=
  Option.bind (f_X12_isNode a1 O) fun (q8277 : Int) =>
  jk (fun (q8279 : Unit) =>
    some (-2)) fun k8281 =>
  if q8277 = 0 then
    (k8281 ())
  else
    (Option.bind (f_X12_usedUpTo a1 (O 262 47) O) fun (q8286 : Int) =>
    if (f_X12_isIn a2 0 (wr (q8286 - 1)) = 0 ∨ f_X12_isIn a3 0 2 = 0) then
      (k8281 ())
    else
      (jn (wr ((wr (6 * a1)) + a2)) fun (v8293 : Int) =>
      if a3 = 0 then
        (Option.bind (aget (O 282) (Ln 282) (wr (1805 + v8293))) fun (v8296 : Int) =>
        some v8296)
      else
        (if a3 = 1 then
          (Option.bind (aget (O 282) (Ln 282) (wr (3725 + v8293))) fun (v8299 : Int) =>
          some v8299)
        else
          (Option.bind (aget (O 282) (Ln 282) (wr (5645 + v8293))) fun (v8301 : Int) =>
          some v8301))))
set_option maxRecDepth 100000 in
set_option maxHeartbeats 4000000 in
theorem m_X12_change {l : Launch} {E : EwT} {S : Sst} {O : Smo} {a1 : Int} (ha1 : IR a1) {a2 : Int} (ha2 : IR a2) {a3 : Int} (ha3 : IR a3) {q : Int} (hq : f_X12_change a1 a2 a3 O = some q) : MetG l E yX12_change cX12_change 5 (some .int) 2 44 0 0 n0 R0 S O [.ref (zad E 262), .int (zi a1), .int (zi a2), .int (zi a3)] (IR q) (some (.int (zi q))) n0 R0 S O := by
  refine ofG (L0 := [(0, .ref (zad E 262)), (1, .int (zi a1)), (2, .int (zi a2)), (3, .int (zi a3))]) hq (by decide +kernel) (Nat.le_of_ble_eq_true rfl) rfl (fun K _ C hQ => ?_)
  unfold f_X12_change
  refine r_aload_n (pc := 0) (j := 0) C dX12_change_0 rfl rfl ?_
  refine r_iload_n (pc := 1) (j := 1) C dX12_change_1 rfl rfl ?_
  refine r_bd (fun q8277 e8278 => ?_)
  refine r_cV1 (pc := 2) (k := 262) (As := [.int (zi a1)]) (st := []) C (m_X12_isNode (a1 := a1) ha1 e8278) cal_X12_isNode cl_X12 kd_262 ln_262 q_2134 dX12_change_2 rfl rfl (Nat.le_of_ble_eq_true rfl) (Nat.le_of_ble_eq_true rfl) (Nat.le_of_ble_eq_true rfl) (Nat.le_of_ble_eq_true rfl) (Nat.le_of_ble_eq_true rfl) (fun h8276 => ?_)
  refine r_jk (fun q8279 : Unit => True) (fun q8279 => S) (fun q8279 => O) (fun q8279 => []) 36 (fun q8279 => []) (fun q8279 h8280 => ?_) (fun k8281 k8282 => ?_)
  · refine r_bipush (v := (-2)) C dX12_change_36 (by decide) ?_
    exact r_ireturn C hQ rfl dX12_change_38 (fun e => by cases e; exact ⟨(IRd rfl), rfl, rfl, rfl, rfl, rfl⟩)
  · refine r_if_eq (tgt := 36) C h8276.ir dX12_change_5 (by decide) (fun c8283 => ?_) (fun c8283 => ?_)
    · refine r_t c8283 ?_
      refine r_L (L' := []) [] rfl ?_
      exact k8282 () trivial
    · refine r_f c8283 ?_
      refine r_iload_n (pc := 8) (j := 2) C dX12_change_8 rfl rfl ?_
      refine r_iconst (v := 0) C dX12_change_9 (by decide) ?_
      refine r_aload_n (pc := 10) (j := 0) C dX12_change_10 rfl rfl ?_
      refine r_iload_n (pc := 11) (j := 1) C dX12_change_11 rfl rfl ?_
      refine r_aload_n (pc := 12) (j := 0) C dX12_change_12 rfl rfl ?_
      refine r_getO (j := 47) C cl_X12 kd_262 ln_262 gc_262 (by decide) (by decide) rfl q_1600 dX12_change_13 (fun h8284 => ?_)
      refine r_bd (fun q8286 e8287 => ?_)
      refine r_cV1 (pc := 16) (k := 262) (As := [.int (zi a1), .int (zi (O 262 47))]) (st := [.int (zi 0), .int (zi a2)]) C (m_X12_usedUpTo (a1 := a1) (a2 := O 262 47) ha1 h8284 e8287) cal_X12_usedUpTo cl_X12 kd_262 ln_262 q_2024 dX12_change_16 rfl rfl (Nat.le_of_ble_eq_true rfl) (Nat.le_of_ble_eq_true rfl) (Nat.le_of_ble_eq_true rfl) (Nat.le_of_ble_eq_true rfl) (Nat.le_of_ble_eq_true rfl) (fun h8285 => ?_)
      refine r_iconst (v := 1) C dX12_change_19 (by decide) ?_
      refine r_isub C dX12_change_20 ?_
      refine r_cS1 (pc := 21) (As := [.int (zi a2), .int (zi 0), .int (zi (wr (q8286 - 1)))]) (st := []) C (m_X12_isIn (a0 := a2) (a1 := 0) (a2 := wr (q8286 - 1)) ha2 (IRd rfl) (IR_wr _) rfl) cal_X12_isIn q_1981 dX12_change_21 rfl rfl (Nat.le_of_ble_eq_true rfl) (Nat.le_of_ble_eq_true rfl) (Nat.le_of_ble_eq_true rfl) (Nat.le_of_ble_eq_true rfl) (Nat.le_of_ble_eq_true rfl) (fun h8288 => ?_)
      refine r_cut (f_X12_isIn a2 0 (wr (q8286 - 1)) = 0 ∨ f_X12_isIn a3 0 2 = 0) 36 39 [] (fun c8290 => ?_) (fun c8290 => ?_) (fun k8291 k8292 => ?_)
      · refine r_t c8290 ?_
        refine r_L (L' := []) [] rfl ?_
        exact k8282 () trivial
      · refine r_f c8290 ?_
        refine r_bipush (v := 6) C dX12_change_39 (by decide) ?_
        refine r_iload_n (pc := 41) (j := 1) C dX12_change_41 rfl rfl ?_
        refine r_imul C dX12_change_42 ?_
        refine r_iload_n (pc := 43) (j := 2) C dX12_change_43 rfl rfl ?_
        refine r_iadd C dX12_change_44 ?_
        refine r_jv (IR_wr _) (fun v8293 h8294 => ?_)
        refine r_istore (L' := [(4, .int (zi v8293)), (0, .ref (zad E 262)), (1, .int (zi a1)), (2, .int (zi a2)), (3, .int (zi a3))]) C dX12_change_45 (by decide) rfl ?_
        refine r_iload_n (pc := 47) (j := 4) C dX12_change_47 rfl rfl ?_
        refine r_if_ne (tgt := 65) C ha3 dX12_change_48 (by decide) (fun c8295 => ?_) (fun c8295 => ?_)
        · refine r_f c8295 ?_
          refine r_iload_n (pc := 65) (j := 4) C dX12_change_65 rfl rfl ?_
          refine r_iconst (v := 1) C dX12_change_66 (by decide) ?_
          refine r_icmp_ne (tgt := 84) C ha3 (IRd rfl) dX12_change_67 (by decide) (fun c8298 => ?_) (fun c8298 => ?_)
          · refine r_f c8298 ?_
            refine r_aload_n (pc := 84) (j := 1) C dX12_change_84 rfl rfl ?_
            refine r_getR (j := 46) (r := 282) C cl_X12 kd_262 ln_262 (by decide) rfl r0_262_46 (by decide) q_1599 dX12_change_85 ?_
            refine r_sipush (v := 5645) C dX12_change_88 (by decide) ?_
            refine r_iload (pc := 91) (j := 0) C dX12_change_91 rfl ?_
            refine r_iadd C dX12_change_93 ?_
            refine r_iald C kd_282 ln_282 gc_282 (IR_wr _) dX12_change_94 (fun v8301 h8302 => ?_)
            exact r_ireturn C hQ rfl dX12_change_95 (fun e => by cases e; exact ⟨h8302, rfl, rfl, rfl, rfl, rfl⟩)
          · refine r_t c8298 ?_
            refine r_aload_n (pc := 70) (j := 1) C dX12_change_70 rfl rfl ?_
            refine r_getR (j := 46) (r := 282) C cl_X12 kd_262 ln_262 (by decide) rfl r0_262_46 (by decide) q_1599 dX12_change_71 ?_
            refine r_sipush (v := 3725) C dX12_change_74 (by decide) ?_
            refine r_iload (pc := 77) (j := 0) C dX12_change_77 rfl ?_
            refine r_iadd C dX12_change_79 ?_
            refine r_iald C kd_282 ln_282 gc_282 (IR_wr _) dX12_change_80 (fun v8299 h8300 => ?_)
            refine r_goto (tgt := 95) C dX12_change_81 (by decide) ?_
            exact r_ireturn C hQ rfl dX12_change_95 (fun e => by cases e; exact ⟨h8300, rfl, rfl, rfl, rfl, rfl⟩)
        · refine r_t c8295 ?_
          refine r_aload_n (pc := 51) (j := 1) C dX12_change_51 rfl rfl ?_
          refine r_getR (j := 46) (r := 282) C cl_X12 kd_262 ln_262 (by decide) rfl r0_262_46 (by decide) q_1599 dX12_change_52 ?_
          refine r_sipush (v := 1805) C dX12_change_55 (by decide) ?_
          refine r_iload (pc := 58) (j := 0) C dX12_change_58 rfl ?_
          refine r_iadd C dX12_change_60 ?_
          refine r_iald C kd_282 ln_282 gc_282 (IR_wr _) dX12_change_61 (fun v8296 h8297 => ?_)
          refine r_goto (tgt := 95) C dX12_change_62 (by decide) ?_
          exact r_ireturn C hQ rfl dX12_change_95 (fun e => by cases e; exact ⟨h8297, rfl, rfl, rfl, rfl, rfl⟩)
      · refine r_if_eq (tgt := 36) C h8288.ir dX12_change_24 (by decide) (fun c8303 => ?_) (fun c8303 => ?_)
        · exact k8291 (Or.inl c8303)
        · refine r_iload_n (pc := 27) (j := 3) C dX12_change_27 rfl rfl ?_
          refine r_iconst (v := 0) C dX12_change_28 (by decide) ?_
          refine r_iconst (v := 2) C dX12_change_29 (by decide) ?_
          refine r_cS1 (pc := 30) (As := [.int (zi a3), .int (zi 0), .int (zi 2)]) (st := []) C (m_X12_isIn (a0 := a3) (a1 := 0) (a2 := 2) ha3 (IRd rfl) (IRd rfl) rfl) cal_X12_isIn q_1981 dX12_change_30 rfl rfl (Nat.le_of_ble_eq_true rfl) (Nat.le_of_ble_eq_true rfl) (Nat.le_of_ble_eq_true rfl) (Nat.le_of_ble_eq_true rfl) (Nat.le_of_ble_eq_true rfl) (fun h8289 => ?_)
          refine r_if_ne (tgt := 39) C h8289.ir dX12_change_33 (by decide) (fun c8304 => ?_) (fun c8304 => ?_)
          · exact k8292 (fun w => w.elim c8303 c8304)
          · exact k8291 (Or.inr c8304)

def f_X12_read (a1 : Int) (a2 : Int) (a3 : Int) (O : Smo) : Option (Int) :=
  Option.bind (f_X12_isNode a1 O) fun (q8306 : Int) =>
  jk (fun (q8310 : Unit) =>
    some (-2)) fun k8312 =>
  if ((q8306 = 0 ∨ f_X12_isIn a2 0 1 = 0) ∨ f_X12_isStamp a3 O = 0) then
    (k8312 ())
  else
    (Option.bind (aget (O 282) (Ln 282) (wr (525 + a1))) fun (v8317 : Int) =>
    if a3 < v8317 then
      (k8312 ())
    else
      (Option.bind (f_X12_readAt a1 a2 a3 O) fun (q8321 : Int) =>
      some q8321))
set_option maxRecDepth 100000 in
set_option maxHeartbeats 4000000 in
theorem m_X12_read {l : Launch} {E : EwT} {S : Sst} {O : Smo} {a1 : Int} (ha1 : IR a1) {a2 : Int} (ha2 : IR a2) {a3 : Int} (ha3 : IR a3) {q : Int} (hq : f_X12_read a1 a2 a3 O = some q) : MetG l E yX12_read cX12_read 4 (some .int) 3 69 0 0 n0 R0 S O [.ref (zad E 262), .int (zi a1), .int (zi a2), .int (zi a3)] (IR q) (some (.int (zi q))) n0 R0 S O := by
  refine ofG (L0 := [(0, .ref (zad E 262)), (1, .int (zi a1)), (2, .int (zi a2)), (3, .int (zi a3))]) hq (by decide +kernel) (Nat.le_of_ble_eq_true rfl) rfl (fun K _ C hQ => ?_)
  unfold f_X12_read
  refine r_aload_n (pc := 0) (j := 0) C dX12_read_0 rfl rfl ?_
  refine r_iload_n (pc := 1) (j := 1) C dX12_read_1 rfl rfl ?_
  refine r_bd (fun q8306 e8307 => ?_)
  refine r_cV1 (pc := 2) (k := 262) (As := [.int (zi a1)]) (st := []) C (m_X12_isNode (a1 := a1) ha1 e8307) cal_X12_isNode cl_X12 kd_262 ln_262 q_2134 dX12_read_2 rfl rfl (Nat.le_of_ble_eq_true rfl) (Nat.le_of_ble_eq_true rfl) (Nat.le_of_ble_eq_true rfl) (Nat.le_of_ble_eq_true rfl) (Nat.le_of_ble_eq_true rfl) (fun h8305 => ?_)
  refine r_jk (fun q8310 : Unit => True) (fun q8310 => S) (fun q8310 => O) (fun q8310 => []) 49 (fun q8310 => []) (fun q8310 h8311 => ?_) (fun k8312 k8313 => ?_)
  · refine r_bipush (v := (-2)) C dX12_read_49 (by decide) ?_
    exact r_ireturn C hQ rfl dX12_read_51 (fun e => by cases e; exact ⟨(IRd rfl), rfl, rfl, rfl, rfl, rfl⟩)
  · refine r_cut ((q8306 = 0 ∨ f_X12_isIn a2 0 1 = 0) ∨ f_X12_isStamp a3 O = 0) 49 25 [] (fun c8314 => ?_) (fun c8314 => ?_) (fun k8315 k8316 => ?_)
    · refine r_t c8314 ?_
      refine r_L (L' := []) [] rfl ?_
      exact k8313 () trivial
    · refine r_f c8314 ?_
      refine r_iload_n (pc := 25) (j := 3) C dX12_read_25 rfl rfl ?_
      refine r_aload_n (pc := 26) (j := 0) C dX12_read_26 rfl rfl ?_
      refine r_getR (j := 46) (r := 282) C cl_X12 kd_262 ln_262 (by decide) rfl r0_262_46 (by decide) q_1599 dX12_read_27 ?_
      refine r_sipush (v := 525) C dX12_read_30 (by decide) ?_
      refine r_iload_n (pc := 33) (j := 1) C dX12_read_33 rfl rfl ?_
      refine r_iadd C dX12_read_34 ?_
      refine r_iald C kd_282 ln_282 gc_282 (IR_wr _) dX12_read_35 (fun v8317 h8318 => ?_)
      refine r_icmp_lt (tgt := 49) C ha3 h8318 dX12_read_36 (by decide) (fun c8319 => ?_) (fun c8319 => ?_)
      · refine r_t c8319 ?_
        refine r_L (L' := []) [] rfl ?_
        exact k8313 () trivial
      · refine r_f c8319 ?_
        refine r_aload_n (pc := 39) (j := 0) C dX12_read_39 rfl rfl ?_
        refine r_iload_n (pc := 40) (j := 1) C dX12_read_40 rfl rfl ?_
        refine r_iload_n (pc := 41) (j := 2) C dX12_read_41 rfl rfl ?_
        refine r_iload_n (pc := 42) (j := 3) C dX12_read_42 rfl rfl ?_
        refine r_bd (fun q8321 e8322 => ?_)
        refine r_cV1 (pc := 43) (k := 262) (As := [.int (zi a1), .int (zi a2), .int (zi a3)]) (st := []) C (m_X12_readAt (a1 := a1) (a2 := a2) (a3 := a3) ha1 ha2 ha3 e8322) cal_X12_readAt cl_X12 kd_262 ln_262 q_2071 dX12_read_43 rfl rfl (Nat.le_of_ble_eq_true rfl) (Nat.le_of_ble_eq_true rfl) (Nat.le_of_ble_eq_true rfl) (Nat.le_of_ble_eq_true rfl) (Nat.le_of_ble_eq_true rfl) (fun h8320 => ?_)
        refine r_goto (tgt := 51) C dX12_read_46 (by decide) ?_
        exact r_ireturn C hQ rfl dX12_read_51 (fun e => by cases e; exact ⟨h8320, rfl, rfl, rfl, rfl, rfl⟩)
    · refine r_if_eq (tgt := 49) C h8305.ir dX12_read_5 (by decide) (fun c8323 => ?_) (fun c8323 => ?_)
      · exact k8315 (Or.inl (Or.inl c8323))
      · refine r_iload_n (pc := 8) (j := 2) C dX12_read_8 rfl rfl ?_
        refine r_iconst (v := 0) C dX12_read_9 (by decide) ?_
        refine r_iconst (v := 1) C dX12_read_10 (by decide) ?_
        refine r_cS1 (pc := 11) (As := [.int (zi a2), .int (zi 0), .int (zi 1)]) (st := []) C (m_X12_isIn (a0 := a2) (a1 := 0) (a2 := 1) ha2 (IRd rfl) (IRd rfl) rfl) cal_X12_isIn q_1981 dX12_read_11 rfl rfl (Nat.le_of_ble_eq_true rfl) (Nat.le_of_ble_eq_true rfl) (Nat.le_of_ble_eq_true rfl) (Nat.le_of_ble_eq_true rfl) (Nat.le_of_ble_eq_true rfl) (fun h8308 => ?_)
        refine r_if_eq (tgt := 49) C h8308.ir dX12_read_14 (by decide) (fun c8324 => ?_) (fun c8324 => ?_)
        · exact k8315 (Or.inl (Or.inr c8324))
        · refine r_aload_n (pc := 17) (j := 0) C dX12_read_17 rfl rfl ?_
          refine r_iload_n (pc := 18) (j := 3) C dX12_read_18 rfl rfl ?_
          refine r_cV1 (pc := 19) (k := 262) (As := [.int (zi a3)]) (st := []) C (m_X12_isStamp (a1 := a3) ha3 rfl) cal_X12_isStamp cl_X12 kd_262 ln_262 q_2114 dX12_read_19 rfl rfl (Nat.le_of_ble_eq_true rfl) (Nat.le_of_ble_eq_true rfl) (Nat.le_of_ble_eq_true rfl) (Nat.le_of_ble_eq_true rfl) (Nat.le_of_ble_eq_true rfl) (fun h8309 => ?_)
          refine r_if_eq (tgt := 49) C h8309.ir dX12_read_22 (by decide) (fun c8325 => ?_) (fun c8325 => ?_)
          · exact k8315 (Or.inr c8325)
          · exact k8316 (fun w => w.elim (fun w => w.elim c8323 c8324) c8325)

def f_X12_row (a1 : Int) (O : Smo) : Option (Int × Smo) :=
  jn (up2 O 262 62 0) fun (O8345 : Smo) =>
  if f_X12_isStamp a1 O8345 = 0 then
    (some ((-1), O8345))
  else
    (Option.bind (f_X12_layTree a1 O8345) fun (q8349 : Smo) =>
    jn (up2 q8349 262 62 (q8349 262 58)) fun (O8352 : Smo) =>
    Option.bind (lp (fun (s8353 : Int × Smo) =>
      if s8353.1 < s8353.2 262 58 then
        (Option.bind (aget (s8353.2 283) (Ln 283) s8353.1) fun (v8361 : Int) =>
        Option.bind (asetO s8353.2 292 (Ln 292) s8353.1 v8361) fun (O8363 : Smo) =>
        some (Sum.inl (wr (s8353.1 + 1), O8363)))
      else
        (some (Sum.inr s8353.2))) FU (0, O8352)) fun (r8364 : Smo) =>
    some (r8364 262 58, r8364))
set_option maxRecDepth 100000 in
set_option maxHeartbeats 4000000 in
theorem m_X12_row {l : Launch} {E : EwT} {S : Sst} {O : Smo} {a1 : Int} (ha1 : IR a1) {q : Int × Smo} (hq : f_X12_row a1 O = some q) : MetG l E yX12_row cX12_row 3 (some .int) 4 98 0 0 n0 R0 S O [.ref (zad E 262), .int (zi a1)] (IR q.1) (some (.int (zi q.1))) n0 R0 S q.2 := by
  refine ofG (L0 := [(0, .ref (zad E 262)), (1, .int (zi a1))]) hq (by decide +kernel) (Nat.le_of_ble_eq_true rfl) rfl (fun K _ C hQ => ?_)
  unfold f_X12_row
  refine r_aload_n (pc := 0) (j := 0) C dX12_row_0 rfl rfl ?_
  refine r_iconst (v := 0) C dX12_row_1 (by decide) ?_
  refine r_putO C cl_X12 kd_262 ln_262 gc_262 (by decide) (by decide) rfl rfl rfl (IRd rfl) q_1615 dX12_row_2 (fun O8345 => ?_)
  refine r_aload_n (pc := 5) (j := 0) C dX12_row_5 rfl rfl ?_
  refine r_iload_n (pc := 6) (j := 1) C dX12_row_6 rfl rfl ?_
  refine r_cV1 (pc := 7) (k := 262) (As := [.int (zi a1)]) (st := []) C (m_X12_isStamp (a1 := a1) ha1 rfl) cal_X12_isStamp cl_X12 kd_262 ln_262 q_2114 dX12_row_7 rfl rfl (Nat.le_of_ble_eq_true rfl) (Nat.le_of_ble_eq_true rfl) (Nat.le_of_ble_eq_true rfl) (Nat.le_of_ble_eq_true rfl) (Nat.le_of_ble_eq_true rfl) (fun h8346 => ?_)
  refine r_if_ne (tgt := 15) C h8346.ir dX12_row_10 (by decide) (fun c8347 => ?_) (fun c8347 => ?_)
  · refine r_f c8347 ?_
    refine r_aload_n (pc := 15) (j := 0) C dX12_row_15 rfl rfl ?_
    refine r_iload_n (pc := 16) (j := 1) C dX12_row_16 rfl rfl ?_
    refine r_bd (fun q8349 e8350 => ?_)
    refine r_cV0 (pc := 17) (k := 262) (As := [.int (zi a1)]) (st := []) C (m_X12_layTree (a1 := a1) ha1 e8350) cal_X12_layTree cl_X12 kd_262 ln_262 q_2028 dX12_row_17 rfl rfl (Nat.le_of_ble_eq_true rfl) (Nat.le_of_ble_eq_true rfl) (Nat.le_of_ble_eq_true rfl) (Nat.le_of_ble_eq_true rfl) (Nat.le_of_ble_eq_true rfl) (fun h8348 => ?_)
    refine r_aload_n (pc := 20) (j := 0) C dX12_row_20 rfl rfl ?_
    refine r_aload_n (pc := 21) (j := 0) C dX12_row_21 rfl rfl ?_
    refine r_getO (j := 58) C cl_X12 kd_262 ln_262 gc_262 (by decide) (by decide) rfl q_1611 dX12_row_22 (fun h8351 => ?_)
    refine r_putO C cl_X12 kd_262 ln_262 gc_262 (by decide) (by decide) rfl rfl rfl h8351 q_1615 dX12_row_25 (fun O8352 => ?_)
    refine r_iconst (v := 0) C dX12_row_28 (by decide) ?_
    refine r_istore_n (L' := [(2, .int (zi 0)), (0, .ref (zad E 262)), (1, .int (zi a1))]) C dX12_row_29 rfl (by decide) rfl ?_
    refine r_L (L' := [(0, .ref (zad E 262)), (2, .int (zi 0))]) [1, 0] rfl ?_
    refine r_loop1 (fun s8353 : Int × Smo => IR s8353.1) (fun s8353 => S) (fun s8353 => s8353.2) (fun s8353 => [(0, .ref (zad E 262)), (2, .int (zi s8353.1))]) [] (fun r8364 : Smo => True) (fun r8364 => S) (fun r8364 => r8364) (fun r8364 => [(0, .ref (zad E 262))]) 56 (fun r8364 h8365 => ?_) (fun k8355 k8357 k8356 k8358 s8353 h8354 => ?_) (IRd rfl)
    · refine r_aload_n (pc := 56) (j := 0) C dX12_row_56 rfl rfl ?_
      refine r_getO (j := 58) C cl_X12 kd_262 ln_262 gc_262 (by decide) (by decide) rfl q_1611 dX12_row_57 (fun h8366 => ?_)
      exact r_ireturn C hQ rfl dX12_row_60 (fun e => by cases e; exact ⟨h8366, rfl, rfl, rfl, rfl, rfl⟩)
    · refine r_iload_n (pc := 30) (j := 1) C dX12_row_30 rfl rfl ?_
      refine r_aload_n (pc := 31) (j := 0) C dX12_row_31 rfl rfl ?_
      refine r_getO (j := 58) C cl_X12 kd_262 ln_262 gc_262 (by decide) (by decide) rfl q_1611 dX12_row_32 (fun h8359 => ?_)
      refine r_icmp_ge (tgt := 56) C h8354 h8359 dX12_row_35 (by decide) (fun c8360 => ?_) (fun c8360 => ?_)
      · refine r_bf c8360 ?_
        refine r_L (L' := [(0, .ref (zad E 262))]) [0] rfl ?_
        exact k8358 s8353.2 trivial
      · refine r_bt c8360 ?_
        refine r_aload_n (pc := 38) (j := 0) C dX12_row_38 rfl rfl ?_
        refine r_getR (j := 61) (r := 292) C cl_X12 kd_262 ln_262 (by decide) rfl r0_262_61 (by decide) q_1614 dX12_row_39 ?_
        refine r_iload_n (pc := 42) (j := 1) C dX12_row_42 rfl rfl ?_
        refine r_aload_n (pc := 43) (j := 0) C dX12_row_43 rfl rfl ?_
        refine r_getR (j := 50) (r := 283) C cl_X12 kd_262 ln_262 (by decide) rfl r0_262_50 (by decide) q_1603 dX12_row_44 ?_
        refine r_iload_n (pc := 47) (j := 1) C dX12_row_47 rfl rfl ?_
        refine r_bb ?_
        refine r_iald C kd_283 ln_283 gc_283 h8354 dX12_row_48 (fun v8361 h8362 => ?_)
        refine r_bb ?_
        refine r_iast C kd_292 ln_292 gc_292 h8354 h8362 dX12_row_49 (fun O8363 => ?_)
        refine r_iinc (j := 1) (L' := [(2, .int (zi (wr (s8353.1 + 1)))), (0, .ref (zad E 262))]) C dX12_row_50 rfl (by decide) rfl ?_
        refine r_goto (tgt := 30) C dX12_row_53 (by decide) ?_
        refine r_L (L' := [(0, .ref (zad E 262)), (2, .int (zi (wr (s8353.1 + 1))))]) [1, 0] rfl ?_
        exact k8356 (wr (s8353.1 + 1), O8363) (IR_wr _)
  · refine r_t c8347 ?_
    refine r_iconst (v := (-1)) C dX12_row_13 (by decide) ?_
    exact r_ireturn C hQ rfl dX12_row_14 (fun e => by cases e; exact ⟨(IRd rfl), rfl, rfl, rfl, rfl, rfl⟩)

def f_X12_shape (a1 : Int) (O : Smo) : Option (Int × Smo) :=
  jn (up2 O 262 62 0) fun (O8386 : Smo) =>
  if f_X12_isStamp a1 O8386 = 0 then
    (some ((-1), O8386))
  else
    (Option.bind (f_X12_layTree a1 O8386) fun (q8390 : Smo) =>
    jn (up2 q8390 262 62 (q8390 262 58)) fun (O8393 : Smo) =>
    Option.bind (lp (fun (s8394 : Int × Smo) =>
      if s8394.1 < s8394.2 262 58 then
        (Option.bind (aget (s8394.2 289) (Ln 289) s8394.1) fun (v8402 : Int) =>
        Option.bind (asetO s8394.2 292 (Ln 292) s8394.1 v8402) fun (O8404 : Smo) =>
        some (Sum.inl (wr (s8394.1 + 1), O8404)))
      else
        (some (Sum.inr s8394.2))) FU (0, O8393)) fun (r8405 : Smo) =>
    Option.bind (f_X12_highBy (r8405 262 59) r8405) fun (q8409 : Int) =>
    some (q8409, r8405))
set_option maxRecDepth 100000 in
set_option maxHeartbeats 4000000 in
theorem m_X12_shape {l : Launch} {E : EwT} {S : Sst} {O : Smo} {a1 : Int} (ha1 : IR a1) {q : Int × Smo} (hq : f_X12_shape a1 O = some q) : MetG l E yX12_shape cX12_shape 3 (some .int) 4 98 0 0 n0 R0 S O [.ref (zad E 262), .int (zi a1)] (IR q.1) (some (.int (zi q.1))) n0 R0 S q.2 := by
  refine ofG (L0 := [(0, .ref (zad E 262)), (1, .int (zi a1))]) hq (by decide +kernel) (Nat.le_of_ble_eq_true rfl) rfl (fun K _ C hQ => ?_)
  unfold f_X12_shape
  refine r_aload_n (pc := 0) (j := 0) C dX12_shape_0 rfl rfl ?_
  refine r_iconst (v := 0) C dX12_shape_1 (by decide) ?_
  refine r_putO C cl_X12 kd_262 ln_262 gc_262 (by decide) (by decide) rfl rfl rfl (IRd rfl) q_1615 dX12_shape_2 (fun O8386 => ?_)
  refine r_aload_n (pc := 5) (j := 0) C dX12_shape_5 rfl rfl ?_
  refine r_iload_n (pc := 6) (j := 1) C dX12_shape_6 rfl rfl ?_
  refine r_cV1 (pc := 7) (k := 262) (As := [.int (zi a1)]) (st := []) C (m_X12_isStamp (a1 := a1) ha1 rfl) cal_X12_isStamp cl_X12 kd_262 ln_262 q_2114 dX12_shape_7 rfl rfl (Nat.le_of_ble_eq_true rfl) (Nat.le_of_ble_eq_true rfl) (Nat.le_of_ble_eq_true rfl) (Nat.le_of_ble_eq_true rfl) (Nat.le_of_ble_eq_true rfl) (fun h8387 => ?_)
  refine r_if_ne (tgt := 15) C h8387.ir dX12_shape_10 (by decide) (fun c8388 => ?_) (fun c8388 => ?_)
  · refine r_f c8388 ?_
    refine r_aload_n (pc := 15) (j := 0) C dX12_shape_15 rfl rfl ?_
    refine r_iload_n (pc := 16) (j := 1) C dX12_shape_16 rfl rfl ?_
    refine r_bd (fun q8390 e8391 => ?_)
    refine r_cV0 (pc := 17) (k := 262) (As := [.int (zi a1)]) (st := []) C (m_X12_layTree (a1 := a1) ha1 e8391) cal_X12_layTree cl_X12 kd_262 ln_262 q_2028 dX12_shape_17 rfl rfl (Nat.le_of_ble_eq_true rfl) (Nat.le_of_ble_eq_true rfl) (Nat.le_of_ble_eq_true rfl) (Nat.le_of_ble_eq_true rfl) (Nat.le_of_ble_eq_true rfl) (fun h8389 => ?_)
    refine r_aload_n (pc := 20) (j := 0) C dX12_shape_20 rfl rfl ?_
    refine r_aload_n (pc := 21) (j := 0) C dX12_shape_21 rfl rfl ?_
    refine r_getO (j := 58) C cl_X12 kd_262 ln_262 gc_262 (by decide) (by decide) rfl q_1611 dX12_shape_22 (fun h8392 => ?_)
    refine r_putO C cl_X12 kd_262 ln_262 gc_262 (by decide) (by decide) rfl rfl rfl h8392 q_1615 dX12_shape_25 (fun O8393 => ?_)
    refine r_iconst (v := 0) C dX12_shape_28 (by decide) ?_
    refine r_istore_n (L' := [(2, .int (zi 0)), (0, .ref (zad E 262)), (1, .int (zi a1))]) C dX12_shape_29 rfl (by decide) rfl ?_
    refine r_L (L' := [(0, .ref (zad E 262)), (2, .int (zi 0))]) [1, 0] rfl ?_
    refine r_loop1 (fun s8394 : Int × Smo => IR s8394.1) (fun s8394 => S) (fun s8394 => s8394.2) (fun s8394 => [(0, .ref (zad E 262)), (2, .int (zi s8394.1))]) [] (fun r8405 : Smo => True) (fun r8405 => S) (fun r8405 => r8405) (fun r8405 => [(0, .ref (zad E 262))]) 56 (fun r8405 h8406 => ?_) (fun k8396 k8398 k8397 k8399 s8394 h8395 => ?_) (IRd rfl)
    · refine r_aload_n (pc := 56) (j := 0) C dX12_shape_56 rfl rfl ?_
      refine r_aload_n (pc := 57) (j := 0) C dX12_shape_57 rfl rfl ?_
      refine r_getO (j := 59) C cl_X12 kd_262 ln_262 gc_262 (by decide) (by decide) rfl q_1612 dX12_shape_58 (fun h8407 => ?_)
      refine r_bd (fun q8409 e8410 => ?_)
      refine r_cV1 (pc := 61) (k := 262) (As := [.int (zi (r8405 262 59))]) (st := []) C (m_X12_highBy (a1 := r8405 262 59) h8407 e8410) cal_X12_highBy cl_X12 kd_262 ln_262 q_2055 dX12_shape_61 rfl rfl (Nat.le_of_ble_eq_true rfl) (Nat.le_of_ble_eq_true rfl) (Nat.le_of_ble_eq_true rfl) (Nat.le_of_ble_eq_true rfl) (Nat.le_of_ble_eq_true rfl) (fun h8408 => ?_)
      exact r_ireturn C hQ rfl dX12_shape_64 (fun e => by cases e; exact ⟨h8408, rfl, rfl, rfl, rfl, rfl⟩)
    · refine r_iload_n (pc := 30) (j := 1) C dX12_shape_30 rfl rfl ?_
      refine r_aload_n (pc := 31) (j := 0) C dX12_shape_31 rfl rfl ?_
      refine r_getO (j := 58) C cl_X12 kd_262 ln_262 gc_262 (by decide) (by decide) rfl q_1611 dX12_shape_32 (fun h8400 => ?_)
      refine r_icmp_ge (tgt := 56) C h8395 h8400 dX12_shape_35 (by decide) (fun c8401 => ?_) (fun c8401 => ?_)
      · refine r_bf c8401 ?_
        refine r_L (L' := [(0, .ref (zad E 262))]) [0] rfl ?_
        exact k8399 s8394.2 trivial
      · refine r_bt c8401 ?_
        refine r_aload_n (pc := 38) (j := 0) C dX12_shape_38 rfl rfl ?_
        refine r_getR (j := 61) (r := 292) C cl_X12 kd_262 ln_262 (by decide) rfl r0_262_61 (by decide) q_1614 dX12_shape_39 ?_
        refine r_iload_n (pc := 42) (j := 1) C dX12_shape_42 rfl rfl ?_
        refine r_aload_n (pc := 43) (j := 0) C dX12_shape_43 rfl rfl ?_
        refine r_getR (j := 56) (r := 289) C cl_X12 kd_262 ln_262 (by decide) rfl r0_262_56 (by decide) q_1609 dX12_shape_44 ?_
        refine r_iload_n (pc := 47) (j := 1) C dX12_shape_47 rfl rfl ?_
        refine r_bb ?_
        refine r_iald C kd_289 ln_289 gc_289 h8395 dX12_shape_48 (fun v8402 h8403 => ?_)
        refine r_bb ?_
        refine r_iast C kd_292 ln_292 gc_292 h8395 h8403 dX12_shape_49 (fun O8404 => ?_)
        refine r_iinc (j := 1) (L' := [(2, .int (zi (wr (s8394.1 + 1)))), (0, .ref (zad E 262))]) C dX12_shape_50 rfl (by decide) rfl ?_
        refine r_goto (tgt := 30) C dX12_shape_53 (by decide) ?_
        refine r_L (L' := [(0, .ref (zad E 262)), (2, .int (zi (wr (s8394.1 + 1))))]) [1, 0] rfl ?_
        exact k8397 (wr (s8394.1 + 1), O8404) (IR_wr _)
  · refine r_t c8388 ?_
    refine r_iconst (v := (-1)) C dX12_shape_13 (by decide) ?_
    exact r_ireturn C hQ rfl dX12_shape_14 (fun e => by cases e; exact ⟨(IRd rfl), rfl, rfl, rfl, rfl, rfl⟩)

def f_X12_nextEvent (O : Smo) : Option (Int) :=
  Option.bind (f_X12_sweepsNow O) fun (q8412 : Int) =>
  if q8412 = O 262 45 then
    (some (-1))
  else
    (Option.bind (f_X12_sweepsNow O) fun (q8417 : Int) =>
    Option.bind (aget (O 281) (Ln 281) q8417) fun (v8419 : Int) =>
    some v8419)
set_option maxRecDepth 100000 in
set_option maxHeartbeats 4000000 in
theorem m_X12_nextEvent {l : Launch} {E : EwT} {S : Sst} {O : Smo}  {q : Int} (hq : f_X12_nextEvent O = some q) : MetG l E yX12_nextEvent cX12_nextEvent 1 (some .int) 1 20 0 0 n0 R0 S O [.ref (zad E 262)] (IR q) (some (.int (zi q))) n0 R0 S O := by
  refine ofG (L0 := [(0, .ref (zad E 262))]) hq (by decide +kernel) (Nat.le_of_ble_eq_true rfl) rfl (fun K _ C hQ => ?_)
  unfold f_X12_nextEvent
  refine r_aload_n (pc := 0) (j := 0) C dX12_nextEvent_0 rfl rfl ?_
  refine r_bd (fun q8412 e8413 => ?_)
  refine r_cV1 (pc := 1) (k := 262) (As := []) (st := []) C (m_X12_sweepsNow  e8413) cal_X12_sweepsNow cl_X12 kd_262 ln_262 q_2004 dX12_nextEvent_1 rfl rfl (Nat.le_of_ble_eq_true rfl) (Nat.le_of_ble_eq_true rfl) (Nat.le_of_ble_eq_true rfl) (Nat.le_of_ble_eq_true rfl) (Nat.le_of_ble_eq_true rfl) (fun h8411 => ?_)
  refine r_aload_n (pc := 4) (j := 0) C dX12_nextEvent_4 rfl rfl ?_
  refine r_getO (j := 45) C cl_X12 kd_262 ln_262 gc_262 (by decide) (by decide) rfl q_1598 dX12_nextEvent_5 (fun h8414 => ?_)
  refine r_icmp_ne (tgt := 15) C h8411 h8414 dX12_nextEvent_8 (by decide) (fun c8415 => ?_) (fun c8415 => ?_)
  · refine r_f c8415 ?_
    refine r_aload_n (pc := 15) (j := 0) C dX12_nextEvent_15 rfl rfl ?_
    refine r_getR (j := 44) (r := 281) C cl_X12 kd_262 ln_262 (by decide) rfl r0_262_44 (by decide) q_1597 dX12_nextEvent_16 ?_
    refine r_aload_n (pc := 19) (j := 0) C dX12_nextEvent_19 rfl rfl ?_
    refine r_bd (fun q8417 e8418 => ?_)
    refine r_cV1 (pc := 20) (k := 262) (As := []) (st := [.ref (zad E 281)]) C (m_X12_sweepsNow  e8418) cal_X12_sweepsNow cl_X12 kd_262 ln_262 q_2004 dX12_nextEvent_20 rfl rfl (Nat.le_of_ble_eq_true rfl) (Nat.le_of_ble_eq_true rfl) (Nat.le_of_ble_eq_true rfl) (Nat.le_of_ble_eq_true rfl) (Nat.le_of_ble_eq_true rfl) (fun h8416 => ?_)
    refine r_iald C kd_281 ln_281 gc_281 h8416 dX12_nextEvent_23 (fun v8419 h8420 => ?_)
    exact r_ireturn C hQ rfl dX12_nextEvent_24 (fun e => by cases e; exact ⟨h8420, rfl, rfl, rfl, rfl, rfl⟩)
  · refine r_t c8415 ?_
    refine r_iconst (v := (-1)) C dX12_nextEvent_11 (by decide) ?_
    refine r_goto (tgt := 24) C dX12_nextEvent_12 (by decide) ?_
    exact r_ireturn C hQ rfl dX12_nextEvent_24 (fun e => by cases e; exact ⟨(IRd rfl), rfl, rfl, rfl, rfl, rfl⟩)

def f_X12_isSwept (a1 : Int) (O : Smo) : Option (Int) :=
  jk (fun (q8422 : Unit) =>
    some 0) fun k8424 =>
  if f_X12_isIn a1 0 60 = 0 then
    (k8424 ())
  else
    (Option.bind (f_X12_nextEvent O) fun (q8428 : Int) =>
    jk (fun (q8430 : Unit) =>
      some 1) fun k8432 =>
    if q8428 < 0 then
      (k8432 ())
    else
      (Option.bind (f_X12_nextEvent O) fun (q8436 : Int) =>
      if a1 < q8436 then
        (k8432 ())
      else
        (k8424 ())))
set_option maxRecDepth 100000 in
set_option maxHeartbeats 4000000 in
theorem m_X12_isSwept {l : Launch} {E : EwT} {S : Sst} {O : Smo} {a1 : Int} (ha1 : IR a1) {q : Int} (hq : f_X12_isSwept a1 O = some q) : MetG l E yX12_isSwept cX12_isSwept 2 (some .boolean) 2 40 0 0 n0 R0 S O [.ref (zad E 262), .int (zi a1)] (BR q) (some (.int (zi q))) n0 R0 S O := by
  refine ofG (L0 := [(0, .ref (zad E 262)), (1, .int (zi a1))]) hq (by decide +kernel) (Nat.le_of_ble_eq_true rfl) rfl (fun K _ C hQ => ?_)
  unfold f_X12_isSwept
  refine r_iload_n (pc := 0) (j := 1) C dX12_isSwept_0 rfl rfl ?_
  refine r_iconst (v := 0) C dX12_isSwept_1 (by decide) ?_
  refine r_bipush (v := 60) C dX12_isSwept_2 (by decide) ?_
  refine r_cS1 (pc := 4) (As := [.int (zi a1), .int (zi 0), .int (zi 60)]) (st := []) C (m_X12_isIn (a0 := a1) (a1 := 0) (a2 := 60) ha1 (IRd rfl) (IRd rfl) rfl) cal_X12_isIn q_1981 dX12_isSwept_4 rfl rfl (Nat.le_of_ble_eq_true rfl) (Nat.le_of_ble_eq_true rfl) (Nat.le_of_ble_eq_true rfl) (Nat.le_of_ble_eq_true rfl) (Nat.le_of_ble_eq_true rfl) (fun h8421 => ?_)
  refine r_jk (fun q8422 : Unit => True) (fun q8422 => S) (fun q8422 => O) (fun q8422 => []) 29 (fun q8422 => []) (fun q8422 h8423 => ?_) (fun k8424 k8425 => ?_)
  · refine r_iconst (v := 0) C dX12_isSwept_29 (by decide) ?_
    exact r_ireturn C hQ (nar_z (BRd rfl)) dX12_isSwept_30 (fun e => by cases e; exact ⟨(BRd rfl), rfl, rfl, rfl, rfl, rfl⟩)
  · refine r_if_eq (tgt := 29) C h8421.ir dX12_isSwept_7 (by decide) (fun c8426 => ?_) (fun c8426 => ?_)
    · refine r_t c8426 ?_
      refine r_L (L' := []) [] rfl ?_
      exact k8425 () trivial
    · refine r_f c8426 ?_
      refine r_aload_n (pc := 10) (j := 0) C dX12_isSwept_10 rfl rfl ?_
      refine r_bd (fun q8428 e8429 => ?_)
      refine r_cV1 (pc := 11) (k := 262) (As := []) (st := []) C (m_X12_nextEvent  e8429) cal_X12_nextEvent cl_X12 kd_262 ln_262 q_2174 dX12_isSwept_11 rfl rfl (Nat.le_of_ble_eq_true rfl) (Nat.le_of_ble_eq_true rfl) (Nat.le_of_ble_eq_true rfl) (Nat.le_of_ble_eq_true rfl) (Nat.le_of_ble_eq_true rfl) (fun h8427 => ?_)
      refine r_jk (fun q8430 : Unit => True) (fun q8430 => S) (fun q8430 => O) (fun q8430 => []) 25 (fun q8430 => []) (fun q8430 h8431 => ?_) (fun k8432 k8433 => ?_)
      · refine r_iconst (v := 1) C dX12_isSwept_25 (by decide) ?_
        refine r_goto (tgt := 30) C dX12_isSwept_26 (by decide) ?_
        exact r_ireturn C hQ (nar_z (BRd rfl)) dX12_isSwept_30 (fun e => by cases e; exact ⟨(BRd rfl), rfl, rfl, rfl, rfl, rfl⟩)
      · refine r_if_lt (tgt := 25) C h8427 dX12_isSwept_14 (by decide) (fun c8434 => ?_) (fun c8434 => ?_)
        · refine r_t c8434 ?_
          refine r_L (L' := []) [] rfl ?_
          exact k8433 () trivial
        · refine r_f c8434 ?_
          refine r_iload_n (pc := 17) (j := 1) C dX12_isSwept_17 rfl rfl ?_
          refine r_aload_n (pc := 18) (j := 0) C dX12_isSwept_18 rfl rfl ?_
          refine r_bd (fun q8436 e8437 => ?_)
          refine r_cV1 (pc := 19) (k := 262) (As := []) (st := [.int (zi a1)]) C (m_X12_nextEvent  e8437) cal_X12_nextEvent cl_X12 kd_262 ln_262 q_2174 dX12_isSwept_19 rfl rfl (Nat.le_of_ble_eq_true rfl) (Nat.le_of_ble_eq_true rfl) (Nat.le_of_ble_eq_true rfl) (Nat.le_of_ble_eq_true rfl) (Nat.le_of_ble_eq_true rfl) (fun h8435 => ?_)
          refine r_icmp_ge (tgt := 29) C ha1 h8435 dX12_isSwept_22 (by decide) (fun c8438 => ?_) (fun c8438 => ?_)
          · refine r_f c8438 ?_
            refine r_L (L' := []) [] rfl ?_
            exact k8425 () trivial
          · refine r_t c8438 ?_
            refine r_L (L' := []) [] rfl ?_
            exact k8433 () trivial

def f_X12_isPoint (a1 : Int) (a2 : Int) (O : Smo) : Option (Int) :=
  Option.bind (f_X12_isSwept a1 O) fun (q8440 : Int) =>
  if (q8440 = 0 ∨ f_X12_isIn a2 (-9) 99 = 0) then
    (some 0)
  else
    (some 1)
set_option maxRecDepth 100000 in
set_option maxHeartbeats 4000000 in
theorem m_X12_isPoint {l : Launch} {E : EwT} {S : Sst} {O : Smo} {a1 : Int} (ha1 : IR a1) {a2 : Int} (ha2 : IR a2) {q : Int} (hq : f_X12_isPoint a1 a2 O = some q) : MetG l E yX12_isPoint cX12_isPoint 3 (some .boolean) 3 61 0 0 n0 R0 S O [.ref (zad E 262), .int (zi a1), .int (zi a2)] (BR q) (some (.int (zi q))) n0 R0 S O := by
  refine ofG (L0 := [(0, .ref (zad E 262)), (1, .int (zi a1)), (2, .int (zi a2))]) hq (by decide +kernel) (Nat.le_of_ble_eq_true rfl) rfl (fun K _ C hQ => ?_)
  unfold f_X12_isPoint
  refine r_aload_n (pc := 0) (j := 0) C dX12_isPoint_0 rfl rfl ?_
  refine r_iload_n (pc := 1) (j := 1) C dX12_isPoint_1 rfl rfl ?_
  refine r_bd (fun q8440 e8441 => ?_)
  refine r_cV1 (pc := 2) (k := 262) (As := [.int (zi a1)]) (st := []) C (m_X12_isSwept (a1 := a1) ha1 e8441) cal_X12_isSwept cl_X12 kd_262 ln_262 q_2170 dX12_isPoint_2 rfl rfl (Nat.le_of_ble_eq_true rfl) (Nat.le_of_ble_eq_true rfl) (Nat.le_of_ble_eq_true rfl) (Nat.le_of_ble_eq_true rfl) (Nat.le_of_ble_eq_true rfl) (fun h8439 => ?_)
  refine r_cut (q8440 = 0 ∨ f_X12_isIn a2 (-9) 99 = 0) 23 19 [] (fun c8443 => ?_) (fun c8443 => ?_) (fun k8444 k8445 => ?_)
  · refine r_t c8443 ?_
    refine r_iconst (v := 0) C dX12_isPoint_23 (by decide) ?_
    exact r_ireturn C hQ (nar_z (BRd rfl)) dX12_isPoint_24 (fun e => by cases e; exact ⟨(BRd rfl), rfl, rfl, rfl, rfl, rfl⟩)
  · refine r_f c8443 ?_
    refine r_iconst (v := 1) C dX12_isPoint_19 (by decide) ?_
    refine r_goto (tgt := 24) C dX12_isPoint_20 (by decide) ?_
    exact r_ireturn C hQ (nar_z (BRd rfl)) dX12_isPoint_24 (fun e => by cases e; exact ⟨(BRd rfl), rfl, rfl, rfl, rfl, rfl⟩)
  · refine r_if_eq (tgt := 23) C h8439.ir dX12_isPoint_5 (by decide) (fun c8446 => ?_) (fun c8446 => ?_)
    · exact k8444 (Or.inl c8446)
    · refine r_iload_n (pc := 8) (j := 2) C dX12_isPoint_8 rfl rfl ?_
      refine r_bipush (v := (-9)) C dX12_isPoint_9 (by decide) ?_
      refine r_bipush (v := 99) C dX12_isPoint_11 (by decide) ?_
      refine r_cS1 (pc := 13) (As := [.int (zi a2), .int (zi (-9)), .int (zi 99)]) (st := []) C (m_X12_isIn (a0 := a2) (a1 := (-9)) (a2 := 99) ha2 (IRd rfl) (IRd rfl) rfl) cal_X12_isIn q_1981 dX12_isPoint_13 rfl rfl (Nat.le_of_ble_eq_true rfl) (Nat.le_of_ble_eq_true rfl) (Nat.le_of_ble_eq_true rfl) (Nat.le_of_ble_eq_true rfl) (Nat.le_of_ble_eq_true rfl) (fun h8442 => ?_)
      refine r_if_eq (tgt := 23) C h8442.ir dX12_isPoint_16 (by decide) (fun c8447 => ?_) (fun c8447 => ?_)
      · exact k8444 (Or.inr c8447)
      · exact k8445 (fun w => w.elim c8446 c8447)

def f_X12_stampAt (a1 : Int) (O : Smo) : Option (Int) :=
  Option.bind (lp (fun (s8480 : Int × Int) =>
    if O 262 47 < s8480.2 then
      (some (Sum.inr s8480.1))
    else
      (Option.bind (f_X12_placeOf s8480.2 O) fun (q8489 : Int) =>
      jn (
        if a1 < q8489 then
          (s8480.1)
        else
          (s8480.2)) fun (q8491 : Int) =>
      some (Sum.inl (q8491, wr (s8480.2 + 1))))) FU (0, 0)) fun (r8496 : Int) =>
  some r8496
set_option maxRecDepth 100000 in
set_option maxHeartbeats 4000000 in
theorem m_X12_stampAt {l : Launch} {E : EwT} {S : Sst} {O : Smo} {a1 : Int} (ha1 : IR a1) {q : Int} (hq : f_X12_stampAt a1 O = some q) : MetG l E yX12_stampAt cX12_stampAt 4 (some .int) 1 21 0 0 n0 R0 S O [.ref (zad E 262), .int (zi a1)] (IR q) (some (.int (zi q))) n0 R0 S O := by
  refine ofG (L0 := [(0, .ref (zad E 262)), (1, .int (zi a1))]) hq (by decide +kernel) (Nat.le_of_ble_eq_true rfl) rfl (fun K _ C hQ => ?_)
  unfold f_X12_stampAt
  refine r_iconst (v := 0) C dX12_stampAt_0 (by decide) ?_
  refine r_istore_n (L' := [(2, .int (zi 0)), (0, .ref (zad E 262)), (1, .int (zi a1))]) C dX12_stampAt_1 rfl (by decide) rfl ?_
  refine r_iconst (v := 0) C dX12_stampAt_2 (by decide) ?_
  refine r_istore_n (L' := [(3, .int (zi 0)), (2, .int (zi 0)), (0, .ref (zad E 262)), (1, .int (zi a1))]) C dX12_stampAt_3 rfl (by decide) rfl ?_
  refine r_L (L' := [(0, .ref (zad E 262)), (1, .int (zi a1)), (2, .int (zi 0)), (3, .int (zi 0))]) [2, 3, 1, 0] rfl ?_
  refine r_loop1 (fun s8480 : Int × Int => IR s8480.1 ∧ IR s8480.2) (fun s8480 => S) (fun s8480 => O) (fun s8480 => [(0, .ref (zad E 262)), (1, .int (zi a1)), (2, .int (zi s8480.1)), (3, .int (zi s8480.2))]) [] (fun r8496 : Int => IR r8496) (fun r8496 => S) (fun r8496 => O) (fun r8496 => [(2, .int (zi r8496))]) 33 (fun r8496 h8497 => ?_) (fun k8482 k8484 k8483 k8485 s8480 h8481 => ?_) ⟨(IRd rfl), (IRd rfl)⟩
  · refine r_iload_n (pc := 33) (j := 0) C dX12_stampAt_33 rfl rfl ?_
    exact r_ireturn C hQ rfl dX12_stampAt_34 (fun e => by cases e; exact ⟨h8497, rfl, rfl, rfl, rfl, rfl⟩)
  · refine r_iload_n (pc := 4) (j := 3) C dX12_stampAt_4 rfl rfl ?_
    refine r_aload_n (pc := 5) (j := 0) C dX12_stampAt_5 rfl rfl ?_
    refine r_getO (j := 47) C cl_X12 kd_262 ln_262 gc_262 (by decide) (by decide) rfl q_1600 dX12_stampAt_6 (fun h8486 => ?_)
    refine r_icmp_gt (tgt := 33) C h8481.2 h8486 dX12_stampAt_9 (by decide) (fun c8487 => ?_) (fun c8487 => ?_)
    · refine r_bt c8487 ?_
      refine r_L (L' := [(2, .int (zi s8480.1))]) [2] rfl ?_
      exact k8485 s8480.1 h8481.1
    · refine r_bf c8487 ?_
      refine r_aload_n (pc := 12) (j := 0) C dX12_stampAt_12 rfl rfl ?_
      refine r_iload_n (pc := 13) (j := 3) C dX12_stampAt_13 rfl rfl ?_
      refine r_bb ?_
      refine r_bd (fun q8489 e8490 => ?_)
      refine r_cV1 (pc := 14) (k := 262) (As := [.int (zi s8480.2)]) (st := []) C (m_X12_placeOf (a1 := s8480.2) h8481.2 e8490) cal_X12_placeOf cl_X12 kd_262 ln_262 q_2032 dX12_stampAt_14 rfl rfl (Nat.le_of_ble_eq_true rfl) (Nat.le_of_ble_eq_true rfl) (Nat.le_of_ble_eq_true rfl) (Nat.le_of_ble_eq_true rfl) (Nat.le_of_ble_eq_true rfl) (fun h8488 => ?_)
      refine r_iload_n (pc := 17) (j := 1) C dX12_stampAt_17 rfl rfl ?_
      refine r_bj ?_
      refine r_join (fun q8491 : Int => IR q8491) (fun q8491 => S) (fun q8491 => O) (fun q8491 => [(0, .ref (zad E 262)), (1, .int (zi a1)), (3, .int (zi s8480.2))]) 26 (fun q8491 => [.int (zi q8491)]) (fun q8491 h8492 => ?_) (fun k8493 k8494 => ?_)
      · refine r_istore_n (L' := [(2, .int (zi q8491)), (0, .ref (zad E 262)), (1, .int (zi a1)), (3, .int (zi s8480.2))]) C dX12_stampAt_26 rfl (by decide) rfl ?_
        refine r_iinc (j := 3) (L' := [(3, .int (zi (wr (s8480.2 + 1)))), (2, .int (zi q8491)), (0, .ref (zad E 262)), (1, .int (zi a1))]) C dX12_stampAt_27 rfl (by decide) rfl ?_
        refine r_goto (tgt := 4) C dX12_stampAt_30 (by decide) ?_
        refine r_L (L' := [(0, .ref (zad E 262)), (1, .int (zi a1)), (2, .int (zi q8491)), (3, .int (zi (wr (s8480.2 + 1))))]) [2, 3, 1, 0] rfl ?_
        exact k8483 (q8491, wr (s8480.2 + 1)) ⟨h8492, (IR_wr _)⟩
      · refine r_icmp_gt (tgt := 25) C h8488 ha1 dX12_stampAt_18 (by decide) (fun c8495 => ?_) (fun c8495 => ?_)
        · refine r_jt c8495 ?_
          refine r_iload_n (pc := 25) (j := 2) C dX12_stampAt_25 rfl rfl ?_
          refine r_L (L' := [(0, .ref (zad E 262)), (1, .int (zi a1)), (3, .int (zi s8480.2))]) [0, 1, 3] rfl ?_
          exact k8494 s8480.1 h8481.1
        · refine r_jf c8495 ?_
          refine r_iload_n (pc := 21) (j := 3) C dX12_stampAt_21 rfl rfl ?_
          refine r_goto (tgt := 26) C dX12_stampAt_22 (by decide) ?_
          refine r_L (L' := [(0, .ref (zad E 262)), (1, .int (zi a1)), (3, .int (zi s8480.2))]) [0, 1, 3] rfl ?_
          exact k8494 s8480.2 h8481.2

def f_X12_belowOf (a1 : Int) (a2 : Int) (a3 : Int) (O : Smo) : Option (Int) :=
  Option.bind (lp (fun (s8525 : Int × Int) =>
    if s8525.2 < O 262 39 then
      (Option.bind (
        if f_X12_has a1 s8525.2 = 0 then
          (some s8525.1)
        else
          (Option.bind (f_X12_farther s8525.2 a2 a3 O) fun (q8540 : Int) =>
          if 0 < q8540 then
            (some s8525.1)
          else
            (jk (fun (q8543 : Unit) =>
              some s8525.2) fun k8545 =>
            if s8525.1 < 0 then
              (k8545 ())
            else
              (Option.bind (f_X12_isHigher s8525.2 s8525.1 a2 O) fun (q8549 : Int) =>
              if q8549 = 0 then
                (some s8525.1)
              else
                (k8545 ()))))) fun (q8534 : Int) =>
      some (Sum.inl (q8534, wr (s8525.2 + 1))))
    else
      (some (Sum.inr s8525.1))) FU ((-1), 0)) fun (r8552 : Int) =>
  some r8552
set_option maxRecDepth 100000 in
set_option maxHeartbeats 4000000 in
theorem m_X12_belowOf {l : Launch} {E : EwT} {S : Sst} {O : Smo} {a1 : Int} (ha1 : IR a1) {a2 : Int} (ha2 : IR a2) {a3 : Int} (ha3 : IR a3) {q : Int} (hq : f_X12_belowOf a1 a2 a3 O = some q) : MetG l E yX12_belowOf cX12_belowOf 6 (some .int) 2 50 0 0 n0 R0 S O [.ref (zad E 262), .int (zi a1), .int (zi a2), .int (zi a3)] (IR q) (some (.int (zi q))) n0 R0 S O := by
  refine ofG (L0 := [(0, .ref (zad E 262)), (1, .int (zi a1)), (2, .int (zi a2)), (3, .int (zi a3))]) hq (by decide +kernel) (Nat.le_of_ble_eq_true rfl) rfl (fun K _ C hQ => ?_)
  unfold f_X12_belowOf
  refine r_iconst (v := (-1)) C dX12_belowOf_0 (by decide) ?_
  refine r_istore (L' := [(4, .int (zi (-1))), (0, .ref (zad E 262)), (1, .int (zi a1)), (2, .int (zi a2)), (3, .int (zi a3))]) C dX12_belowOf_1 (by decide) rfl ?_
  refine r_iconst (v := 0) C dX12_belowOf_3 (by decide) ?_
  refine r_istore (L' := [(5, .int (zi 0)), (4, .int (zi (-1))), (0, .ref (zad E 262)), (1, .int (zi a1)), (2, .int (zi a2)), (3, .int (zi a3))]) C dX12_belowOf_4 (by decide) rfl ?_
  refine r_L (L' := [(0, .ref (zad E 262)), (1, .int (zi a1)), (2, .int (zi a2)), (3, .int (zi a3)), (4, .int (zi (-1))), (5, .int (zi 0))]) [2, 3, 4, 5, 1, 0] rfl ?_
  refine r_loop1 (fun s8525 : Int × Int => IR s8525.1 ∧ IR s8525.2) (fun s8525 => S) (fun s8525 => O) (fun s8525 => [(0, .ref (zad E 262)), (1, .int (zi a1)), (2, .int (zi a2)), (3, .int (zi a3)), (4, .int (zi s8525.1)), (5, .int (zi s8525.2))]) [] (fun r8552 : Int => IR r8552) (fun r8552 => S) (fun r8552 => O) (fun r8552 => [(4, .int (zi r8552))]) 62 (fun r8552 h8553 => ?_) (fun k8527 k8529 k8528 k8530 s8525 h8526 => ?_) ⟨(IRd rfl), (IRd rfl)⟩
  · refine r_iload (pc := 62) (j := 0) C dX12_belowOf_62 rfl ?_
    exact r_ireturn C hQ rfl dX12_belowOf_64 (fun e => by cases e; exact ⟨h8553, rfl, rfl, rfl, rfl, rfl⟩)
  · refine r_iload (pc := 6) (j := 5) C dX12_belowOf_6 rfl ?_
    refine r_aload_n (pc := 8) (j := 0) C dX12_belowOf_8 rfl rfl ?_
    refine r_getO (j := 39) C cl_X12 kd_262 ln_262 gc_262 (by decide) (by decide) rfl q_1592 dX12_belowOf_9 (fun h8531 => ?_)
    refine r_icmp_ge (tgt := 62) C h8526.2 h8531 dX12_belowOf_12 (by decide) (fun c8532 => ?_) (fun c8532 => ?_)
    · refine r_bf c8532 ?_
      refine r_L (L' := [(4, .int (zi s8525.1))]) [4] rfl ?_
      exact k8530 s8525.1 h8526.1
    · refine r_bt c8532 ?_
      refine r_iload_n (pc := 15) (j := 1) C dX12_belowOf_15 rfl rfl ?_
      refine r_iload (pc := 16) (j := 5) C dX12_belowOf_16 rfl ?_
      refine r_cS1 (pc := 18) (As := [.int (zi a1), .int (zi s8525.2)]) (st := []) C (m_X12_has (a0 := a1) (a1 := s8525.2) ha1 h8526.2 rfl) cal_X12_has q_2040 dX12_belowOf_18 rfl rfl (Nat.le_of_ble_eq_true rfl) (Nat.le_of_ble_eq_true rfl) (Nat.le_of_ble_eq_true rfl) (Nat.le_of_ble_eq_true rfl) (Nat.le_of_ble_eq_true rfl) (fun h8533 => ?_)
      refine r_bb ?_
      refine r_joinb (fun q8534 : Int => IR q8534) (fun q8534 => S) (fun q8534 => O) (fun q8534 => [(0, .ref (zad E 262)), (1, .int (zi a1)), (2, .int (zi a2)), (3, .int (zi a3)), (4, .int (zi q8534)), (5, .int (zi s8525.2))]) 56 (fun q8534 => []) (fun q8534 h8535 => ?_) (fun k8536 k8537 => ?_)
      · refine r_iinc (j := 5) (L' := [(5, .int (zi (wr (s8525.2 + 1)))), (0, .ref (zad E 262)), (1, .int (zi a1)), (2, .int (zi a2)), (3, .int (zi a3)), (4, .int (zi q8534))]) C dX12_belowOf_56 rfl (by decide) rfl ?_
        refine r_goto (tgt := 6) C dX12_belowOf_59 (by decide) ?_
        refine r_L (L' := [(0, .ref (zad E 262)), (1, .int (zi a1)), (2, .int (zi a2)), (3, .int (zi a3)), (4, .int (zi q8534)), (5, .int (zi (wr (s8525.2 + 1))))]) [1, 2, 3, 4, 5, 0] rfl ?_
        exact k8528 (q8534, wr (s8525.2 + 1)) ⟨h8535, (IR_wr _)⟩
      · refine r_if_eq (tgt := 56) C h8533.ir dX12_belowOf_21 (by decide) (fun c8538 => ?_) (fun c8538 => ?_)
        · refine r_bt c8538 ?_
          exact k8537 s8525.1 h8526.1
        · refine r_bf c8538 ?_
          refine r_aload_n (pc := 24) (j := 0) C dX12_belowOf_24 rfl rfl ?_
          refine r_iload (pc := 25) (j := 5) C dX12_belowOf_25 rfl ?_
          refine r_iload_n (pc := 27) (j := 2) C dX12_belowOf_27 rfl rfl ?_
          refine r_iload_n (pc := 28) (j := 3) C dX12_belowOf_28 rfl rfl ?_
          refine r_bb ?_
          refine r_bd (fun q8540 e8541 => ?_)
          refine r_cV1 (pc := 29) (k := 262) (As := [.int (zi s8525.2), .int (zi a2), .int (zi a3)]) (st := []) C (m_X12_farther (a1 := s8525.2) (a2 := a2) (a3 := a3) h8526.2 ha2 ha3 e8541) cal_X12_farther cl_X12 kd_262 ln_262 q_1992 dX12_belowOf_29 rfl rfl (Nat.le_of_ble_eq_true rfl) (Nat.le_of_ble_eq_true rfl) (Nat.le_of_ble_eq_true rfl) (Nat.le_of_ble_eq_true rfl) (Nat.le_of_ble_eq_true rfl) (fun h8539 => ?_)
          refine r_if_gt (tgt := 56) C h8539 dX12_belowOf_32 (by decide) (fun c8542 => ?_) (fun c8542 => ?_)
          · refine r_bt c8542 ?_
            exact k8537 s8525.1 h8526.1
          · refine r_bf c8542 ?_
            refine r_iload (pc := 35) (j := 4) C dX12_belowOf_35 rfl ?_
            refine r_jkb (fun q8543 : Unit => True) (fun q8543 => S) (fun q8543 => O) (fun q8543 => [(0, .ref (zad E 262)), (1, .int (zi a1)), (2, .int (zi a2)), (3, .int (zi a3)), (5, .int (zi s8525.2))]) 52 (fun q8543 => []) (fun q8543 h8544 => ?_) (fun k8545 k8546 => ?_)
            · refine r_iload (pc := 52) (j := 4) C dX12_belowOf_52 rfl ?_
              refine r_istore (L' := [(4, .int (zi s8525.2)), (0, .ref (zad E 262)), (1, .int (zi a1)), (2, .int (zi a2)), (3, .int (zi a3)), (5, .int (zi s8525.2))]) C dX12_belowOf_54 (by decide) rfl ?_
              refine r_L (L' := [(0, .ref (zad E 262)), (1, .int (zi a1)), (2, .int (zi a2)), (3, .int (zi a3)), (4, .int (zi s8525.2)), (5, .int (zi s8525.2))]) [1, 2, 3, 4, 0, 5] rfl ?_
              exact k8537 s8525.2 h8526.2
            · refine r_if_lt (tgt := 52) C h8526.1 dX12_belowOf_37 (by decide) (fun c8547 => ?_) (fun c8547 => ?_)
              · refine r_bt c8547 ?_
                refine r_L (L' := [(0, .ref (zad E 262)), (1, .int (zi a1)), (2, .int (zi a2)), (3, .int (zi a3)), (5, .int (zi s8525.2))]) [0, 1, 2, 3, 5] rfl ?_
                exact k8546 () trivial
              · refine r_bf c8547 ?_
                refine r_aload_n (pc := 40) (j := 0) C dX12_belowOf_40 rfl rfl ?_
                refine r_iload (pc := 41) (j := 5) C dX12_belowOf_41 rfl ?_
                refine r_iload (pc := 43) (j := 4) C dX12_belowOf_43 rfl ?_
                refine r_iload_n (pc := 45) (j := 2) C dX12_belowOf_45 rfl rfl ?_
                refine r_bb ?_
                refine r_bd (fun q8549 e8550 => ?_)
                refine r_cV1 (pc := 46) (k := 262) (As := [.int (zi s8525.2), .int (zi s8525.1), .int (zi a2)]) (st := []) C (m_X12_isHigher (a1 := s8525.2) (a2 := s8525.1) (a3 := a2) h8526.2 h8526.1 ha2 e8550) cal_X12_isHigher cl_X12 kd_262 ln_262 q_1988 dX12_belowOf_46 rfl rfl (Nat.le_of_ble_eq_true rfl) (Nat.le_of_ble_eq_true rfl) (Nat.le_of_ble_eq_true rfl) (Nat.le_of_ble_eq_true rfl) (Nat.le_of_ble_eq_true rfl) (fun h8548 => ?_)
                refine r_if_eq (tgt := 56) C h8548.ir dX12_belowOf_49 (by decide) (fun c8551 => ?_) (fun c8551 => ?_)
                · refine r_bt c8551 ?_
                  exact k8537 s8525.1 h8526.1
                · refine r_bf c8551 ?_
                  refine r_L (L' := [(0, .ref (zad E 262)), (1, .int (zi a1)), (2, .int (zi a2)), (3, .int (zi a3)), (5, .int (zi s8525.2))]) [0, 1, 2, 3, 5] rfl ?_
                  exact k8546 () trivial

def f_X12_aboveOf (a1 : Int) (a2 : Int) (a3 : Int) (O : Smo) : Option (Int) :=
  Option.bind (lp (fun (s8581 : Int × Int) =>
    if s8581.2 < O 262 39 then
      (Option.bind (
        if f_X12_has a1 s8581.2 = 0 then
          (some s8581.1)
        else
          (Option.bind (f_X12_farther s8581.2 a2 a3 O) fun (q8596 : Int) =>
          if 0 < q8596 then
            (jk (fun (q8599 : Unit) =>
              some s8581.2) fun k8601 =>
            if s8581.1 < 0 then
              (k8601 ())
            else
              (Option.bind (f_X12_isHigher s8581.1 s8581.2 a2 O) fun (q8605 : Int) =>
              if q8605 = 0 then
                (some s8581.1)
              else
                (k8601 ())))
          else
            (some s8581.1))) fun (q8590 : Int) =>
      some (Sum.inl (q8590, wr (s8581.2 + 1))))
    else
      (some (Sum.inr s8581.1))) FU ((-1), 0)) fun (r8608 : Int) =>
  some r8608
set_option maxRecDepth 100000 in
set_option maxHeartbeats 4000000 in
theorem m_X12_aboveOf {l : Launch} {E : EwT} {S : Sst} {O : Smo} {a1 : Int} (ha1 : IR a1) {a2 : Int} (ha2 : IR a2) {a3 : Int} (ha3 : IR a3) {q : Int} (hq : f_X12_aboveOf a1 a2 a3 O = some q) : MetG l E yX12_aboveOf cX12_aboveOf 6 (some .int) 2 50 0 0 n0 R0 S O [.ref (zad E 262), .int (zi a1), .int (zi a2), .int (zi a3)] (IR q) (some (.int (zi q))) n0 R0 S O := by
  refine ofG (L0 := [(0, .ref (zad E 262)), (1, .int (zi a1)), (2, .int (zi a2)), (3, .int (zi a3))]) hq (by decide +kernel) (Nat.le_of_ble_eq_true rfl) rfl (fun K _ C hQ => ?_)
  unfold f_X12_aboveOf
  refine r_iconst (v := (-1)) C dX12_aboveOf_0 (by decide) ?_
  refine r_istore (L' := [(4, .int (zi (-1))), (0, .ref (zad E 262)), (1, .int (zi a1)), (2, .int (zi a2)), (3, .int (zi a3))]) C dX12_aboveOf_1 (by decide) rfl ?_
  refine r_iconst (v := 0) C dX12_aboveOf_3 (by decide) ?_
  refine r_istore (L' := [(5, .int (zi 0)), (4, .int (zi (-1))), (0, .ref (zad E 262)), (1, .int (zi a1)), (2, .int (zi a2)), (3, .int (zi a3))]) C dX12_aboveOf_4 (by decide) rfl ?_
  refine r_L (L' := [(0, .ref (zad E 262)), (1, .int (zi a1)), (2, .int (zi a2)), (3, .int (zi a3)), (4, .int (zi (-1))), (5, .int (zi 0))]) [2, 3, 4, 5, 1, 0] rfl ?_
  refine r_loop1 (fun s8581 : Int × Int => IR s8581.1 ∧ IR s8581.2) (fun s8581 => S) (fun s8581 => O) (fun s8581 => [(0, .ref (zad E 262)), (1, .int (zi a1)), (2, .int (zi a2)), (3, .int (zi a3)), (4, .int (zi s8581.1)), (5, .int (zi s8581.2))]) [] (fun r8608 : Int => IR r8608) (fun r8608 => S) (fun r8608 => O) (fun r8608 => [(4, .int (zi r8608))]) 62 (fun r8608 h8609 => ?_) (fun k8583 k8585 k8584 k8586 s8581 h8582 => ?_) ⟨(IRd rfl), (IRd rfl)⟩
  · refine r_iload (pc := 62) (j := 0) C dX12_aboveOf_62 rfl ?_
    exact r_ireturn C hQ rfl dX12_aboveOf_64 (fun e => by cases e; exact ⟨h8609, rfl, rfl, rfl, rfl, rfl⟩)
  · refine r_iload (pc := 6) (j := 5) C dX12_aboveOf_6 rfl ?_
    refine r_aload_n (pc := 8) (j := 0) C dX12_aboveOf_8 rfl rfl ?_
    refine r_getO (j := 39) C cl_X12 kd_262 ln_262 gc_262 (by decide) (by decide) rfl q_1592 dX12_aboveOf_9 (fun h8587 => ?_)
    refine r_icmp_ge (tgt := 62) C h8582.2 h8587 dX12_aboveOf_12 (by decide) (fun c8588 => ?_) (fun c8588 => ?_)
    · refine r_bf c8588 ?_
      refine r_L (L' := [(4, .int (zi s8581.1))]) [4] rfl ?_
      exact k8586 s8581.1 h8582.1
    · refine r_bt c8588 ?_
      refine r_iload_n (pc := 15) (j := 1) C dX12_aboveOf_15 rfl rfl ?_
      refine r_iload (pc := 16) (j := 5) C dX12_aboveOf_16 rfl ?_
      refine r_cS1 (pc := 18) (As := [.int (zi a1), .int (zi s8581.2)]) (st := []) C (m_X12_has (a0 := a1) (a1 := s8581.2) ha1 h8582.2 rfl) cal_X12_has q_2040 dX12_aboveOf_18 rfl rfl (Nat.le_of_ble_eq_true rfl) (Nat.le_of_ble_eq_true rfl) (Nat.le_of_ble_eq_true rfl) (Nat.le_of_ble_eq_true rfl) (Nat.le_of_ble_eq_true rfl) (fun h8589 => ?_)
      refine r_bb ?_
      refine r_joinb (fun q8590 : Int => IR q8590) (fun q8590 => S) (fun q8590 => O) (fun q8590 => [(0, .ref (zad E 262)), (1, .int (zi a1)), (2, .int (zi a2)), (3, .int (zi a3)), (4, .int (zi q8590)), (5, .int (zi s8581.2))]) 56 (fun q8590 => []) (fun q8590 h8591 => ?_) (fun k8592 k8593 => ?_)
      · refine r_iinc (j := 5) (L' := [(5, .int (zi (wr (s8581.2 + 1)))), (0, .ref (zad E 262)), (1, .int (zi a1)), (2, .int (zi a2)), (3, .int (zi a3)), (4, .int (zi q8590))]) C dX12_aboveOf_56 rfl (by decide) rfl ?_
        refine r_goto (tgt := 6) C dX12_aboveOf_59 (by decide) ?_
        refine r_L (L' := [(0, .ref (zad E 262)), (1, .int (zi a1)), (2, .int (zi a2)), (3, .int (zi a3)), (4, .int (zi q8590)), (5, .int (zi (wr (s8581.2 + 1))))]) [1, 2, 3, 4, 5, 0] rfl ?_
        exact k8584 (q8590, wr (s8581.2 + 1)) ⟨h8591, (IR_wr _)⟩
      · refine r_if_eq (tgt := 56) C h8589.ir dX12_aboveOf_21 (by decide) (fun c8594 => ?_) (fun c8594 => ?_)
        · refine r_bt c8594 ?_
          exact k8593 s8581.1 h8582.1
        · refine r_bf c8594 ?_
          refine r_aload_n (pc := 24) (j := 0) C dX12_aboveOf_24 rfl rfl ?_
          refine r_iload (pc := 25) (j := 5) C dX12_aboveOf_25 rfl ?_
          refine r_iload_n (pc := 27) (j := 2) C dX12_aboveOf_27 rfl rfl ?_
          refine r_iload_n (pc := 28) (j := 3) C dX12_aboveOf_28 rfl rfl ?_
          refine r_bb ?_
          refine r_bd (fun q8596 e8597 => ?_)
          refine r_cV1 (pc := 29) (k := 262) (As := [.int (zi s8581.2), .int (zi a2), .int (zi a3)]) (st := []) C (m_X12_farther (a1 := s8581.2) (a2 := a2) (a3 := a3) h8582.2 ha2 ha3 e8597) cal_X12_farther cl_X12 kd_262 ln_262 q_1992 dX12_aboveOf_29 rfl rfl (Nat.le_of_ble_eq_true rfl) (Nat.le_of_ble_eq_true rfl) (Nat.le_of_ble_eq_true rfl) (Nat.le_of_ble_eq_true rfl) (Nat.le_of_ble_eq_true rfl) (fun h8595 => ?_)
          refine r_if_le (tgt := 56) C h8595 dX12_aboveOf_32 (by decide) (fun c8598 => ?_) (fun c8598 => ?_)
          · refine r_bf c8598 ?_
            exact k8593 s8581.1 h8582.1
          · refine r_bt c8598 ?_
            refine r_iload (pc := 35) (j := 4) C dX12_aboveOf_35 rfl ?_
            refine r_jkb (fun q8599 : Unit => True) (fun q8599 => S) (fun q8599 => O) (fun q8599 => [(0, .ref (zad E 262)), (1, .int (zi a1)), (2, .int (zi a2)), (3, .int (zi a3)), (5, .int (zi s8581.2))]) 52 (fun q8599 => []) (fun q8599 h8600 => ?_) (fun k8601 k8602 => ?_)
            · refine r_iload (pc := 52) (j := 4) C dX12_aboveOf_52 rfl ?_
              refine r_istore (L' := [(4, .int (zi s8581.2)), (0, .ref (zad E 262)), (1, .int (zi a1)), (2, .int (zi a2)), (3, .int (zi a3)), (5, .int (zi s8581.2))]) C dX12_aboveOf_54 (by decide) rfl ?_
              refine r_L (L' := [(0, .ref (zad E 262)), (1, .int (zi a1)), (2, .int (zi a2)), (3, .int (zi a3)), (4, .int (zi s8581.2)), (5, .int (zi s8581.2))]) [1, 2, 3, 4, 0, 5] rfl ?_
              exact k8593 s8581.2 h8582.2
            · refine r_if_lt (tgt := 52) C h8582.1 dX12_aboveOf_37 (by decide) (fun c8603 => ?_) (fun c8603 => ?_)
              · refine r_bt c8603 ?_
                refine r_L (L' := [(0, .ref (zad E 262)), (1, .int (zi a1)), (2, .int (zi a2)), (3, .int (zi a3)), (5, .int (zi s8581.2))]) [0, 1, 2, 3, 5] rfl ?_
                exact k8602 () trivial
              · refine r_bf c8603 ?_
                refine r_aload_n (pc := 40) (j := 0) C dX12_aboveOf_40 rfl rfl ?_
                refine r_iload (pc := 41) (j := 4) C dX12_aboveOf_41 rfl ?_
                refine r_iload (pc := 43) (j := 5) C dX12_aboveOf_43 rfl ?_
                refine r_iload_n (pc := 45) (j := 2) C dX12_aboveOf_45 rfl rfl ?_
                refine r_bb ?_
                refine r_bd (fun q8605 e8606 => ?_)
                refine r_cV1 (pc := 46) (k := 262) (As := [.int (zi s8581.1), .int (zi s8581.2), .int (zi a2)]) (st := []) C (m_X12_isHigher (a1 := s8581.1) (a2 := s8581.2) (a3 := a2) h8582.1 h8582.2 ha2 e8606) cal_X12_isHigher cl_X12 kd_262 ln_262 q_1988 dX12_aboveOf_46 rfl rfl (Nat.le_of_ble_eq_true rfl) (Nat.le_of_ble_eq_true rfl) (Nat.le_of_ble_eq_true rfl) (Nat.le_of_ble_eq_true rfl) (Nat.le_of_ble_eq_true rfl) (fun h8604 => ?_)
                refine r_if_eq (tgt := 56) C h8604.ir dX12_aboveOf_49 (by decide) (fun c8607 => ?_) (fun c8607 => ?_)
                · refine r_bt c8607 ?_
                  exact k8593 s8581.1 h8582.1
                · refine r_bf c8607 ?_
                  refine r_L (L' := [(0, .ref (zad E 262)), (1, .int (zi a1)), (2, .int (zi a2)), (3, .int (zi a3)), (5, .int (zi s8581.2))]) [0, 1, 2, 3, 5] rfl ?_
                  exact k8602 () trivial

def f_X12_regionOf (a1 : Int) (a2 : Int) (O : Smo) : Option (Int) :=
  Option.bind (f_X12_stampAt a1 O) fun (q8611 : Int) =>
  Option.bind (f_X12_setOf q8611 O) fun (q8614 : Int) =>
  Option.bind (f_X12_belowOf q8614 a1 a2 O) fun (q8617 : Int) =>
  some q8617
set_option maxRecDepth 100000 in
set_option maxHeartbeats 4000000 in
theorem m_X12_regionOf {l : Launch} {E : EwT} {S : Sst} {O : Smo} {a1 : Int} (ha1 : IR a1) {a2 : Int} (ha2 : IR a2) {q : Int} (hq : f_X12_regionOf a1 a2 O = some q) : MetG l E yX12_regionOf cX12_regionOf 3 (some .int) 3 75 0 0 n0 R0 S O [.ref (zad E 262), .int (zi a1), .int (zi a2)] (IR q) (some (.int (zi q))) n0 R0 S O := by
  refine ofG (L0 := [(0, .ref (zad E 262)), (1, .int (zi a1)), (2, .int (zi a2))]) hq (by decide +kernel) (Nat.le_of_ble_eq_true rfl) rfl (fun K _ C hQ => ?_)
  unfold f_X12_regionOf
  refine r_aload_n (pc := 0) (j := 0) C dX12_regionOf_0 rfl rfl ?_
  refine r_aload_n (pc := 1) (j := 0) C dX12_regionOf_1 rfl rfl ?_
  refine r_aload_n (pc := 2) (j := 0) C dX12_regionOf_2 rfl rfl ?_
  refine r_iload_n (pc := 3) (j := 1) C dX12_regionOf_3 rfl rfl ?_
  refine r_bd (fun q8611 e8612 => ?_)
  refine r_cV1 (pc := 4) (k := 262) (As := [.int (zi a1)]) (st := [.ref (zad E 262), .ref (zad E 262)]) C (m_X12_stampAt (a1 := a1) ha1 e8612) cal_X12_stampAt cl_X12 kd_262 ln_262 q_2182 dX12_regionOf_4 rfl rfl (Nat.le_of_ble_eq_true rfl) (Nat.le_of_ble_eq_true rfl) (Nat.le_of_ble_eq_true rfl) (Nat.le_of_ble_eq_true rfl) (Nat.le_of_ble_eq_true rfl) (fun h8610 => ?_)
  refine r_bd (fun q8614 e8615 => ?_)
  refine r_cV1 (pc := 7) (k := 262) (As := [.int (zi q8611)]) (st := [.ref (zad E 262)]) C (m_X12_setOf (a1 := q8611) h8610 e8615) cal_X12_setOf cl_X12 kd_262 ln_262 q_2008 dX12_regionOf_7 rfl rfl (Nat.le_of_ble_eq_true rfl) (Nat.le_of_ble_eq_true rfl) (Nat.le_of_ble_eq_true rfl) (Nat.le_of_ble_eq_true rfl) (Nat.le_of_ble_eq_true rfl) (fun h8613 => ?_)
  refine r_iload_n (pc := 10) (j := 1) C dX12_regionOf_10 rfl rfl ?_
  refine r_iload_n (pc := 11) (j := 2) C dX12_regionOf_11 rfl rfl ?_
  refine r_bd (fun q8617 e8618 => ?_)
  refine r_cV1 (pc := 12) (k := 262) (As := [.int (zi q8614), .int (zi a1), .int (zi a2)]) (st := []) C (m_X12_belowOf (a1 := q8614) (a2 := a1) (a3 := a2) h8613 ha1 ha2 e8618) cal_X12_belowOf cl_X12 kd_262 ln_262 q_2186 dX12_regionOf_12 rfl rfl (Nat.le_of_ble_eq_true rfl) (Nat.le_of_ble_eq_true rfl) (Nat.le_of_ble_eq_true rfl) (Nat.le_of_ble_eq_true rfl) (Nat.le_of_ble_eq_true rfl) (fun h8616 => ?_)
  exact r_ireturn C hQ rfl dX12_regionOf_15 (fun e => by cases e; exact ⟨h8616, rfl, rfl, rfl, rfl, rfl⟩)

def f_X12_overOf (a1 : Int) (a2 : Int) (O : Smo) : Option (Int) :=
  Option.bind (f_X12_stampAt a1 O) fun (q8620 : Int) =>
  Option.bind (f_X12_setOf q8620 O) fun (q8623 : Int) =>
  Option.bind (f_X12_aboveOf q8623 a1 a2 O) fun (q8626 : Int) =>
  some q8626
set_option maxRecDepth 100000 in
set_option maxHeartbeats 4000000 in
theorem m_X12_overOf {l : Launch} {E : EwT} {S : Sst} {O : Smo} {a1 : Int} (ha1 : IR a1) {a2 : Int} (ha2 : IR a2) {q : Int} (hq : f_X12_overOf a1 a2 O = some q) : MetG l E yX12_overOf cX12_overOf 3 (some .int) 3 75 0 0 n0 R0 S O [.ref (zad E 262), .int (zi a1), .int (zi a2)] (IR q) (some (.int (zi q))) n0 R0 S O := by
  refine ofG (L0 := [(0, .ref (zad E 262)), (1, .int (zi a1)), (2, .int (zi a2))]) hq (by decide +kernel) (Nat.le_of_ble_eq_true rfl) rfl (fun K _ C hQ => ?_)
  unfold f_X12_overOf
  refine r_aload_n (pc := 0) (j := 0) C dX12_overOf_0 rfl rfl ?_
  refine r_aload_n (pc := 1) (j := 0) C dX12_overOf_1 rfl rfl ?_
  refine r_aload_n (pc := 2) (j := 0) C dX12_overOf_2 rfl rfl ?_
  refine r_iload_n (pc := 3) (j := 1) C dX12_overOf_3 rfl rfl ?_
  refine r_bd (fun q8620 e8621 => ?_)
  refine r_cV1 (pc := 4) (k := 262) (As := [.int (zi a1)]) (st := [.ref (zad E 262), .ref (zad E 262)]) C (m_X12_stampAt (a1 := a1) ha1 e8621) cal_X12_stampAt cl_X12 kd_262 ln_262 q_2182 dX12_overOf_4 rfl rfl (Nat.le_of_ble_eq_true rfl) (Nat.le_of_ble_eq_true rfl) (Nat.le_of_ble_eq_true rfl) (Nat.le_of_ble_eq_true rfl) (Nat.le_of_ble_eq_true rfl) (fun h8619 => ?_)
  refine r_bd (fun q8623 e8624 => ?_)
  refine r_cV1 (pc := 7) (k := 262) (As := [.int (zi q8620)]) (st := [.ref (zad E 262)]) C (m_X12_setOf (a1 := q8620) h8619 e8624) cal_X12_setOf cl_X12 kd_262 ln_262 q_2008 dX12_overOf_7 rfl rfl (Nat.le_of_ble_eq_true rfl) (Nat.le_of_ble_eq_true rfl) (Nat.le_of_ble_eq_true rfl) (Nat.le_of_ble_eq_true rfl) (Nat.le_of_ble_eq_true rfl) (fun h8622 => ?_)
  refine r_iload_n (pc := 10) (j := 1) C dX12_overOf_10 rfl rfl ?_
  refine r_iload_n (pc := 11) (j := 2) C dX12_overOf_11 rfl rfl ?_
  refine r_bd (fun q8626 e8627 => ?_)
  refine r_cV1 (pc := 12) (k := 262) (As := [.int (zi q8623), .int (zi a1), .int (zi a2)]) (st := []) C (m_X12_aboveOf (a1 := q8623) (a2 := a1) (a3 := a2) h8622 ha1 ha2 e8627) cal_X12_aboveOf cl_X12 kd_262 ln_262 q_2198 dX12_overOf_12 rfl rfl (Nat.le_of_ble_eq_true rfl) (Nat.le_of_ble_eq_true rfl) (Nat.le_of_ble_eq_true rfl) (Nat.le_of_ble_eq_true rfl) (Nat.le_of_ble_eq_true rfl) (fun h8625 => ?_)
  exact r_ireturn C hQ rfl dX12_overOf_15 (fun e => by cases e; exact ⟨h8625, rfl, rfl, rfl, rfl, rfl⟩)
