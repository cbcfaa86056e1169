/-! m_ref3: the methods as functions, and their walks (written by program) -/
def f_X12_below (a1 : Int) (a2 : Int) (O : Smo) : Option (Int) :=
  Option.bind (f_X12_isPoint a1 a2 O) fun (q8629 : Int) =>
  if q8629 = 0 then
    (some (-2))
  else
    (Option.bind (f_X12_regionOf a1 a2 O) fun (q8633 : Int) =>
    some q8633)
set_option maxRecDepth 100000 in
set_option maxHeartbeats 4000000 in
theorem m_X12_below {l : Launch} {E : EwT} {S : Sst} {O : Smo} {a1 : Int} (ha1 : IR a1) {a2 : Int} (ha2 : IR a2) {q : Int} (hq : f_X12_below a1 a2 O = some q) : MetG l E yX12_below cX12_below 3 (some .int) 4 97 0 0 n0 R0 S O [.ref (zad E 262), .int (zi a1), .int (zi a2)] (IR q) (some (.int (zi q))) n0 R0 S O := by
  refine ofG (L0 := [(0, .ref (zad E 262)), (1, .int (zi a1)), (2, .int (zi a2))]) hq (by decide +kernel) (Nat.le_of_ble_eq_true rfl) rfl (fun K _ C hQ => ?_)
  unfold f_X12_below
  refine r_aload_n (pc := 0) (j := 0) C dX12_below_0 rfl rfl ?_
  refine r_iload_n (pc := 1) (j := 1) C dX12_below_1 rfl rfl ?_
  refine r_iload_n (pc := 2) (j := 2) C dX12_below_2 rfl rfl ?_
  refine r_bd (fun q8629 e8630 => ?_)
  refine r_cV1 (pc := 3) (k := 262) (As := [.int (zi a1), .int (zi a2)]) (st := []) C (m_X12_isPoint (a1 := a1) (a2 := a2) ha1 ha2 e8630) cal_X12_isPoint cl_X12 kd_262 ln_262 q_2166 dX12_below_3 rfl rfl (Nat.le_of_ble_eq_true rfl) (Nat.le_of_ble_eq_true rfl) (Nat.le_of_ble_eq_true rfl) (Nat.le_of_ble_eq_true rfl) (Nat.le_of_ble_eq_true rfl) (fun h8628 => ?_)
  refine r_if_eq (tgt := 18) C h8628.ir dX12_below_6 (by decide) (fun c8631 => ?_) (fun c8631 => ?_)
  · refine r_t c8631 ?_
    refine r_bipush (v := (-2)) C dX12_below_18 (by decide) ?_
    exact r_ireturn C hQ rfl dX12_below_20 (fun e => by cases e; exact ⟨(IRd rfl), rfl, rfl, rfl, rfl, rfl⟩)
  · refine r_f c8631 ?_
    refine r_aload_n (pc := 9) (j := 0) C dX12_below_9 rfl rfl ?_
    refine r_iload_n (pc := 10) (j := 1) C dX12_below_10 rfl rfl ?_
    refine r_iload_n (pc := 11) (j := 2) C dX12_below_11 rfl rfl ?_
    refine r_bd (fun q8633 e8634 => ?_)
    refine r_cV1 (pc := 12) (k := 262) (As := [.int (zi a1), .int (zi a2)]) (st := []) C (m_X12_regionOf (a1 := a1) (a2 := a2) ha1 ha2 e8634) cal_X12_regionOf cl_X12 kd_262 ln_262 q_2178 dX12_below_12 rfl rfl (Nat.le_of_ble_eq_true rfl) (Nat.le_of_ble_eq_true rfl) (Nat.le_of_ble_eq_true rfl) (Nat.le_of_ble_eq_true rfl) (Nat.le_of_ble_eq_true rfl) (fun h8632 => ?_)
    refine r_goto (tgt := 20) C dX12_below_15 (by decide) ?_
    exact r_ireturn C hQ rfl dX12_below_20 (fun e => by cases e; exact ⟨h8632, rfl, rfl, rfl, rfl, rfl⟩)

def f_X12_above (a1 : Int) (a2 : Int) (O : Smo) : Option (Int) :=
  Option.bind (f_X12_isPoint a1 a2 O) fun (q8636 : Int) =>
  if q8636 = 0 then
    (some (-2))
  else
    (Option.bind (f_X12_overOf a1 a2 O) fun (q8640 : Int) =>
    some q8640)
set_option maxRecDepth 100000 in
set_option maxHeartbeats 4000000 in
theorem m_X12_above {l : Launch} {E : EwT} {S : Sst} {O : Smo} {a1 : Int} (ha1 : IR a1) {a2 : Int} (ha2 : IR a2) {q : Int} (hq : f_X12_above a1 a2 O = some q) : MetG l E yX12_above cX12_above 3 (some .int) 4 97 0 0 n0 R0 S O [.ref (zad E 262), .int (zi a1), .int (zi a2)] (IR q) (some (.int (zi q))) n0 R0 S O := by
  refine ofG (L0 := [(0, .ref (zad E 262)), (1, .int (zi a1)), (2, .int (zi a2))]) hq (by decide +kernel) (Nat.le_of_ble_eq_true rfl) rfl (fun K _ C hQ => ?_)
  unfold f_X12_above
  refine r_aload_n (pc := 0) (j := 0) C dX12_above_0 rfl rfl ?_
  refine r_iload_n (pc := 1) (j := 1) C dX12_above_1 rfl rfl ?_
  refine r_iload_n (pc := 2) (j := 2) C dX12_above_2 rfl rfl ?_
  refine r_bd (fun q8636 e8637 => ?_)
  refine r_cV1 (pc := 3) (k := 262) (As := [.int (zi a1), .int (zi a2)]) (st := []) C (m_X12_isPoint (a1 := a1) (a2 := a2) ha1 ha2 e8637) cal_X12_isPoint cl_X12 kd_262 ln_262 q_2166 dX12_above_3 rfl rfl (Nat.le_of_ble_eq_true rfl) (Nat.le_of_ble_eq_true rfl) (Nat.le_of_ble_eq_true rfl) (Nat.le_of_ble_eq_true rfl) (Nat.le_of_ble_eq_true rfl) (fun h8635 => ?_)
  refine r_if_eq (tgt := 18) C h8635.ir dX12_above_6 (by decide) (fun c8638 => ?_) (fun c8638 => ?_)
  · refine r_t c8638 ?_
    refine r_bipush (v := (-2)) C dX12_above_18 (by decide) ?_
    exact r_ireturn C hQ rfl dX12_above_20 (fun e => by cases e; exact ⟨(IRd rfl), rfl, rfl, rfl, rfl, rfl⟩)
  · refine r_f c8638 ?_
    refine r_aload_n (pc := 9) (j := 0) C dX12_above_9 rfl rfl ?_
    refine r_iload_n (pc := 10) (j := 1) C dX12_above_10 rfl rfl ?_
    refine r_iload_n (pc := 11) (j := 2) C dX12_above_11 rfl rfl ?_
    refine r_bd (fun q8640 e8641 => ?_)
    refine r_cV1 (pc := 12) (k := 262) (As := [.int (zi a1), .int (zi a2)]) (st := []) C (m_X12_overOf (a1 := a1) (a2 := a2) ha1 ha2 e8641) cal_X12_overOf cl_X12 kd_262 ln_262 q_2194 dX12_above_12 rfl rfl (Nat.le_of_ble_eq_true rfl) (Nat.le_of_ble_eq_true rfl) (Nat.le_of_ble_eq_true rfl) (Nat.le_of_ble_eq_true rfl) (Nat.le_of_ble_eq_true rfl) (fun h8639 => ?_)
    refine r_goto (tgt := 20) C dX12_above_15 (by decide) ?_
    exact r_ireturn C hQ rfl dX12_above_20 (fun e => by cases e; exact ⟨h8639, rfl, rfl, rfl, rfl, rfl⟩)

def f_X12_on (a1 : Int) (a2 : Int) (O : Smo) : Option (Int) :=
  Option.bind (f_X12_isPoint a1 a2 O) fun (q8643 : Int) =>
  if q8643 = 0 then
    (some (-2))
  else
    (Option.bind (f_X12_regionOf a1 a2 O) fun (q8647 : Int) =>
    Option.bind (
      if q8647 < 0 then
        (some 0)
      else
        (Option.bind (f_X12_farther q8647 a1 a2 O) fun (q8655 : Int) =>
        if q8655 = 0 then
          (some 1)
        else
          (some 0))) fun (q8649 : Int) =>
    some (f_X12_truth q8649))
set_option maxRecDepth 100000 in
set_option maxHeartbeats 4000000 in
theorem m_X12_on {l : Launch} {E : EwT} {S : Sst} {O : Smo} {a1 : Int} (ha1 : IR a1) {a2 : Int} (ha2 : IR a2) {q : Int} (hq : f_X12_on a1 a2 O = some q) : MetG l E yX12_on cX12_on 4 (some .int) 4 97 0 0 n0 R0 S O [.ref (zad E 262), .int (zi a1), .int (zi a2)] (IR q) (some (.int (zi q))) n0 R0 S O := by
  refine ofG (L0 := [(0, .ref (zad E 262)), (1, .int (zi a1)), (2, .int (zi a2))]) hq (by decide +kernel) (Nat.le_of_ble_eq_true rfl) rfl (fun K _ C hQ => ?_)
  unfold f_X12_on
  refine r_aload_n (pc := 0) (j := 0) C dX12_on_0 rfl rfl ?_
  refine r_iload_n (pc := 1) (j := 1) C dX12_on_1 rfl rfl ?_
  refine r_iload_n (pc := 2) (j := 2) C dX12_on_2 rfl rfl ?_
  refine r_bd (fun q8643 e8644 => ?_)
  refine r_cV1 (pc := 3) (k := 262) (As := [.int (zi a1), .int (zi a2)]) (st := []) C (m_X12_isPoint (a1 := a1) (a2 := a2) ha1 ha2 e8644) cal_X12_isPoint cl_X12 kd_262 ln_262 q_2166 dX12_on_3 rfl rfl (Nat.le_of_ble_eq_true rfl) (Nat.le_of_ble_eq_true rfl) (Nat.le_of_ble_eq_true rfl) (Nat.le_of_ble_eq_true rfl) (Nat.le_of_ble_eq_true rfl) (fun h8642 => ?_)
  refine r_if_ne (tgt := 12) C h8642.ir dX12_on_6 (by decide) (fun c8645 => ?_) (fun c8645 => ?_)
  · refine r_f c8645 ?_
    refine r_aload_n (pc := 12) (j := 0) C dX12_on_12 rfl rfl ?_
    refine r_iload_n (pc := 13) (j := 1) C dX12_on_13 rfl rfl ?_
    refine r_iload_n (pc := 14) (j := 2) C dX12_on_14 rfl rfl ?_
    refine r_bd (fun q8647 e8648 => ?_)
    refine r_cV1 (pc := 15) (k := 262) (As := [.int (zi a1), .int (zi a2)]) (st := []) C (m_X12_regionOf (a1 := a1) (a2 := a2) ha1 ha2 e8648) cal_X12_regionOf cl_X12 kd_262 ln_262 q_2178 dX12_on_15 rfl rfl (Nat.le_of_ble_eq_true rfl) (Nat.le_of_ble_eq_true rfl) (Nat.le_of_ble_eq_true rfl) (Nat.le_of_ble_eq_true rfl) (Nat.le_of_ble_eq_true rfl) (fun h8646 => ?_)
    refine r_istore_n (L' := [(3, .int (zi q8647)), (0, .ref (zad E 262)), (1, .int (zi a1)), (2, .int (zi a2))]) C dX12_on_18 rfl (by decide) rfl ?_
    refine r_iload_n (pc := 19) (j := 0) C dX12_on_19 rfl rfl ?_
    refine r_joinb (fun q8649 : Int => BR q8649) (fun q8649 => S) (fun q8649 => O) (fun q8649 => []) 38 (fun q8649 => [.int (zi q8649)]) (fun q8649 h8650 => ?_) (fun k8651 k8652 => ?_)
    · refine r_cS1 (pc := 38) (As := [.int (zi q8649)]) (st := []) C (m_X12_truth (a0 := q8649) h8650 rfl) cal_X12_truth q_1959 dX12_on_38 rfl rfl (Nat.le_of_ble_eq_true rfl) (Nat.le_of_ble_eq_true rfl) (Nat.le_of_ble_eq_true rfl) (Nat.le_of_ble_eq_true rfl) (Nat.le_of_ble_eq_true rfl) (fun h8658 => ?_)
      exact r_ireturn C hQ rfl dX12_on_41 (fun e => by cases e; exact ⟨h8658, rfl, rfl, rfl, rfl, rfl⟩)
    · refine r_if_lt (tgt := 37) C h8646 dX12_on_20 (by decide) (fun c8653 => ?_) (fun c8653 => ?_)
      · refine r_bt c8653 ?_
        refine r_iconst (v := 0) C dX12_on_37 (by decide) ?_
        refine r_L (L' := []) [] rfl ?_
        exact k8652 0 (BRd rfl)
      · refine r_bf c8653 ?_
        refine r_aload_n (pc := 23) (j := 1) C dX12_on_23 rfl rfl ?_
        refine r_iload_n (pc := 24) (j := 0) C dX12_on_24 rfl rfl ?_
        refine r_iload_n (pc := 25) (j := 2) C dX12_on_25 rfl rfl ?_
        refine r_iload_n (pc := 26) (j := 3) C dX12_on_26 rfl rfl ?_
        refine r_bb ?_
        refine r_bd (fun q8655 e8656 => ?_)
        refine r_cV1 (pc := 27) (k := 262) (As := [.int (zi q8647), .int (zi a1), .int (zi a2)]) (st := []) C (m_X12_farther (a1 := q8647) (a2 := a1) (a3 := a2) h8646 ha1 ha2 e8656) cal_X12_farther cl_X12 kd_262 ln_262 q_1992 dX12_on_27 rfl rfl (Nat.le_of_ble_eq_true rfl) (Nat.le_of_ble_eq_true rfl) (Nat.le_of_ble_eq_true rfl) (Nat.le_of_ble_eq_true rfl) (Nat.le_of_ble_eq_true rfl) (fun h8654 => ?_)
        refine r_if_ne (tgt := 37) C h8654 dX12_on_30 (by decide) (fun c8657 => ?_) (fun c8657 => ?_)
        · refine r_bf c8657 ?_
          refine r_iconst (v := 0) C dX12_on_37 (by decide) ?_
          refine r_L (L' := []) [] rfl ?_
          exact k8652 0 (BRd rfl)
        · refine r_bt c8657 ?_
          refine r_iconst (v := 1) C dX12_on_33 (by decide) ?_
          refine r_goto (tgt := 38) C dX12_on_34 (by decide) ?_
          refine r_L (L' := []) [] rfl ?_
          exact k8652 1 (BRd rfl)
  · refine r_t c8645 ?_
    refine r_bipush (v := (-2)) C dX12_on_9 (by decide) ?_
    exact r_ireturn C hQ rfl dX12_on_11 (fun e => by cases e; exact ⟨(IRd rfl), rfl, rfl, rfl, rfl, rfl⟩)

def f_X12_depth (a1 : Int) (a2 : Int) (O : Smo) : Option (Int × Smo) :=
  jn (up2 O 262 62 0) fun (O8659 : Smo) =>
  Option.bind (f_X12_isPoint a1 a2 O8659) fun (q8661 : Int) =>
  if q8661 = 0 then
    (some ((-2), O8659))
  else
    (Option.bind (f_X12_stampAt a1 O8659) fun (q8665 : Int) =>
    Option.bind (f_X12_layTree q8665 O8659) fun (q8668 : Smo) =>
    jn (q8668 262 59) fun (v8671 : Int) =>
    Option.bind (lp (fun (s8673 : Int × Smo) =>
      if s8673.1 < 0 then
        (some (Sum.inr s8673.2))
      else
        (Option.bind (asetO s8673.2 292 (Ln 292) (s8673.2 262 62) s8673.1) fun (O8681 : Smo) =>
        jn (up2 O8681 262 62 (wr ((O8681 262 62) + 1))) fun (O8683 : Smo) =>
        Option.bind (f_X12_farther s8673.1 a1 a2 O8683) fun (q8685 : Int) =>
        Option.bind (
          if 0 < q8685 then
            (Option.bind (aget (O8683 284) (Ln 284) s8673.1) fun (v8692 : Int) =>
            some v8692)
          else
            (Option.bind (aget (O8683 285) (Ln 285) s8673.1) fun (v8694 : Int) =>
            some v8694)) fun (q8687 : Int) =>
        some (Sum.inl (q8687, O8683)))) FU (v8671, q8668)) fun (r8696 : Smo) =>
    some (r8696 262 62, r8696))
set_option maxRecDepth 100000 in
set_option maxHeartbeats 4000000 in
theorem m_X12_depth {l : Launch} {E : EwT} {S : Sst} {O : Smo} {a1 : Int} (ha1 : IR a1) {a2 : Int} (ha2 : IR a2) {q : Int × Smo} (hq : f_X12_depth a1 a2 O = some q) : MetG l E yX12_depth cX12_depth 4 (some .int) 4 98 0 0 n0 R0 S O [.ref (zad E 262), .int (zi a1), .int (zi a2)] (IR q.1) (some (.int (zi q.1))) n0 R0 S q.2 := by
  refine ofG (L0 := [(0, .ref (zad E 262)), (1, .int (zi a1)), (2, .int (zi a2))]) hq (by decide +kernel) (Nat.le_of_ble_eq_true rfl) rfl (fun K _ C hQ => ?_)
  unfold f_X12_depth
  refine r_aload_n (pc := 0) (j := 0) C dX12_depth_0 rfl rfl ?_
  refine r_iconst (v := 0) C dX12_depth_1 (by decide) ?_
  refine r_putO C cl_X12 kd_262 ln_262 gc_262 (by decide) (by decide) rfl rfl rfl (IRd rfl) q_1615 dX12_depth_2 (fun O8659 => ?_)
  refine r_aload_n (pc := 5) (j := 0) C dX12_depth_5 rfl rfl ?_
  refine r_iload_n (pc := 6) (j := 1) C dX12_depth_6 rfl rfl ?_
  refine r_iload_n (pc := 7) (j := 2) C dX12_depth_7 rfl rfl ?_
  refine r_bd (fun q8661 e8662 => ?_)
  refine r_cV1 (pc := 8) (k := 262) (As := [.int (zi a1), .int (zi a2)]) (st := []) C (m_X12_isPoint (a1 := a1) (a2 := a2) ha1 ha2 e8662) cal_X12_isPoint cl_X12 kd_262 ln_262 q_2166 dX12_depth_8 rfl rfl (Nat.le_of_ble_eq_true rfl) (Nat.le_of_ble_eq_true rfl) (Nat.le_of_ble_eq_true rfl) (Nat.le_of_ble_eq_true rfl) (Nat.le_of_ble_eq_true rfl) (fun h8660 => ?_)
  refine r_if_ne (tgt := 17) C h8660.ir dX12_depth_11 (by decide) (fun c8663 => ?_) (fun c8663 => ?_)
  · refine r_f c8663 ?_
    refine r_aload_n (pc := 17) (j := 0) C dX12_depth_17 rfl rfl ?_
    refine r_aload_n (pc := 18) (j := 0) C dX12_depth_18 rfl rfl ?_
    refine r_iload_n (pc := 19) (j := 1) C dX12_depth_19 rfl rfl ?_
    refine r_bd (fun q8665 e8666 => ?_)
    refine r_cV1 (pc := 20) (k := 262) (As := [.int (zi a1)]) (st := [.ref (zad E 262)]) C (m_X12_stampAt (a1 := a1) ha1 e8666) cal_X12_stampAt cl_X12 kd_262 ln_262 q_2182 dX12_depth_20 rfl rfl (Nat.le_of_ble_eq_true rfl) (Nat.le_of_ble_eq_true rfl) (Nat.le_of_ble_eq_true rfl) (Nat.le_of_ble_eq_true rfl) (Nat.le_of_ble_eq_true rfl) (fun h8664 => ?_)
    refine r_bd (fun q8668 e8669 => ?_)
    refine r_cV0 (pc := 23) (k := 262) (As := [.int (zi q8665)]) (st := []) C (m_X12_layTree (a1 := q8665) h8664 e8669) cal_X12_layTree cl_X12 kd_262 ln_262 q_2028 dX12_depth_23 rfl rfl (Nat.le_of_ble_eq_true rfl) (Nat.le_of_ble_eq_true rfl) (Nat.le_of_ble_eq_true rfl) (Nat.le_of_ble_eq_true rfl) (Nat.le_of_ble_eq_true rfl) (fun h8667 => ?_)
    refine r_aload_n (pc := 26) (j := 0) C dX12_depth_26 rfl rfl ?_
    refine r_getO (j := 59) C cl_X12 kd_262 ln_262 gc_262 (by decide) (by decide) rfl q_1612 dX12_depth_27 (fun h8670 => ?_)
    refine r_jv h8670 (fun v8671 h8672 => ?_)
    refine r_istore_n (L' := [(3, .int (zi v8671)), (0, .ref (zad E 262)), (1, .int (zi a1)), (2, .int (zi a2))]) C dX12_depth_30 rfl (by decide) rfl ?_
    refine r_L (L' := [(0, .ref (zad E 262)), (1, .int (zi a1)), (2, .int (zi a2)), (3, .int (zi v8671))]) [1, 2, 3, 0] rfl ?_
    refine r_loop1 (fun s8673 : Int × Smo => IR s8673.1) (fun s8673 => S) (fun s8673 => s8673.2) (fun s8673 => [(0, .ref (zad E 262)), (1, .int (zi a1)), (2, .int (zi a2)), (3, .int (zi s8673.1))]) [] (fun r8696 : Smo => True) (fun r8696 => S) (fun r8696 => r8696) (fun r8696 => [(0, .ref (zad E 262))]) 84 (fun r8696 h8697 => ?_) (fun k8675 k8677 k8676 k8678 s8673 h8674 => ?_) h8672
    · refine r_aload_n (pc := 84) (j := 0) C dX12_depth_84 rfl rfl ?_
      refine r_getO (j := 62) C cl_X12 kd_262 ln_262 gc_262 (by decide) (by decide) rfl q_1615 dX12_depth_85 (fun h8698 => ?_)
      exact r_ireturn C hQ rfl dX12_depth_88 (fun e => by cases e; exact ⟨h8698, rfl, rfl, rfl, rfl, rfl⟩)
    · refine r_iload_n (pc := 31) (j := 3) C dX12_depth_31 rfl rfl ?_
      refine r_if_lt (tgt := 84) C h8674 dX12_depth_32 (by decide) (fun c8679 => ?_) (fun c8679 => ?_)
      · refine r_bt c8679 ?_
        refine r_L (L' := [(0, .ref (zad E 262))]) [0] rfl ?_
        exact k8678 s8673.2 trivial
      · refine r_bf c8679 ?_
        refine r_aload_n (pc := 35) (j := 0) C dX12_depth_35 rfl rfl ?_
        refine r_getR (j := 61) (r := 292) C cl_X12 kd_262 ln_262 (by decide) rfl r0_262_61 (by decide) q_1614 dX12_depth_36 ?_
        refine r_aload_n (pc := 39) (j := 0) C dX12_depth_39 rfl rfl ?_
        refine r_getO (j := 62) C cl_X12 kd_262 ln_262 gc_262 (by decide) (by decide) rfl q_1615 dX12_depth_40 (fun h8680 => ?_)
        refine r_iload_n (pc := 43) (j := 3) C dX12_depth_43 rfl rfl ?_
        refine r_bb ?_
        refine r_iast C kd_292 ln_292 gc_292 h8680 h8674 dX12_depth_44 (fun O8681 => ?_)
        refine r_aload_n (pc := 45) (j := 0) C dX12_depth_45 rfl rfl ?_
        refine r_dup C dX12_depth_46 rfl ?_
        refine r_getO (j := 62) C cl_X12 kd_262 ln_262 gc_262 (by decide) (by decide) rfl q_1615 dX12_depth_47 (fun h8682 => ?_)
        refine r_iconst (v := 1) C dX12_depth_50 (by decide) ?_
        refine r_iadd C dX12_depth_51 ?_
        refine r_bj ?_
        refine r_putO C cl_X12 kd_262 ln_262 gc_262 (by decide) (by decide) rfl rfl rfl (IR_wr _) q_1615 dX12_depth_52 (fun O8683 => ?_)
        refine r_aload_n (pc := 55) (j := 0) C dX12_depth_55 rfl rfl ?_
        refine r_iload_n (pc := 56) (j := 3) C dX12_depth_56 rfl rfl ?_
        refine r_iload_n (pc := 57) (j := 1) C dX12_depth_57 rfl rfl ?_
        refine r_iload_n (pc := 58) (j := 2) C dX12_depth_58 rfl rfl ?_
        refine r_bb ?_
        refine r_bd (fun q8685 e8686 => ?_)
        refine r_cV1 (pc := 59) (k := 262) (As := [.int (zi s8673.1), .int (zi a1), .int (zi a2)]) (st := []) C (m_X12_farther (a1 := s8673.1) (a2 := a1) (a3 := a2) h8674 ha1 ha2 e8686) cal_X12_farther cl_X12 kd_262 ln_262 q_1992 dX12_depth_59 rfl rfl (Nat.le_of_ble_eq_true rfl) (Nat.le_of_ble_eq_true rfl) (Nat.le_of_ble_eq_true rfl) (Nat.le_of_ble_eq_true rfl) (Nat.le_of_ble_eq_true rfl) (fun h8684 => ?_)
        refine r_bb ?_
        refine r_joinb (fun q8687 : Int => IR q8687) (fun q8687 => S) (fun q8687 => O8683) (fun q8687 => [(0, .ref (zad E 262)), (1, .int (zi a1)), (2, .int (zi a2))]) 80 (fun q8687 => [.int (zi q8687)]) (fun q8687 h8688 => ?_) (fun k8689 k8690 => ?_)
        · refine r_istore_n (L' := [(3, .int (zi q8687)), (0, .ref (zad E 262)), (1, .int (zi a1)), (2, .int (zi a2))]) C dX12_depth_80 rfl (by decide) rfl ?_
          refine r_goto (tgt := 31) C dX12_depth_81 (by decide) ?_
          refine r_L (L' := [(0, .ref (zad E 262)), (1, .int (zi a1)), (2, .int (zi a2)), (3, .int (zi q8687))]) [1, 2, 3, 0] rfl ?_
          exact k8676 (q8687, O8683) h8688
        · refine r_if_le (tgt := 74) C h8684 dX12_depth_62 (by decide) (fun c8691 => ?_) (fun c8691 => ?_)
          · refine r_bf c8691 ?_
            refine r_aload_n (pc := 74) (j := 0) C dX12_depth_74 rfl rfl ?_
            refine r_getR (j := 52) (r := 285) C cl_X12 kd_262 ln_262 (by decide) rfl r0_262_52 (by decide) q_1605 dX12_depth_75 ?_
            refine r_iload_n (pc := 78) (j := 3) C dX12_depth_78 rfl rfl ?_
            refine r_bb ?_
            refine r_iald C kd_285 ln_285 gc_285 h8674 dX12_depth_79 (fun v8694 h8695 => ?_)
            refine r_L (L' := [(0, .ref (zad E 262)), (1, .int (zi a1)), (2, .int (zi a2))]) [0, 1, 2] rfl ?_
            exact k8690 v8694 h8695
          · refine r_bt c8691 ?_
            refine r_aload_n (pc := 65) (j := 0) C dX12_depth_65 rfl rfl ?_
            refine r_getR (j := 51) (r := 284) C cl_X12 kd_262 ln_262 (by decide) rfl r0_262_51 (by decide) q_1604 dX12_depth_66 ?_
            refine r_iload_n (pc := 69) (j := 3) C dX12_depth_69 rfl rfl ?_
            refine r_bb ?_
            refine r_iald C kd_284 ln_284 gc_284 h8674 dX12_depth_70 (fun v8692 h8693 => ?_)
            refine r_goto (tgt := 80) C dX12_depth_71 (by decide) ?_
            refine r_L (L' := [(0, .ref (zad E 262)), (1, .int (zi a1)), (2, .int (zi a2))]) [0, 1, 2] rfl ?_
            exact k8690 v8692 h8693
  · refine r_t c8663 ?_
    refine r_bipush (v := (-2)) C dX12_depth_14 (by decide) ?_
    exact r_ireturn C hQ rfl dX12_depth_16 (fun e => by cases e; exact ⟨(IRd rfl), rfl, rfl, rfl, rfl, rfl⟩)

def f_X12_divisor (a0 : Int) (a1 : Int) : Option (Int) :=
  jn (
    if a0 < 0 then
      (wr (-a0))
    else
      (a0)) fun (q8699 : Int) =>
  jn (
    if a1 < 0 then
      (wr (-a1))
    else
      (a1)) fun (q8704 : Int) =>
  Option.bind (lp (fun (s8709 : Int × Int) =>
    if 0 < s8709.2 then
      (Option.bind ((if s8709.2 = 0 then none else some (zrem s8709.1 s8709.2))) fun (v8716 : Int) =>
      some (Sum.inl (s8709.2, v8716)))
    else
      (some (Sum.inr s8709.1))) FU (q8699, q8704)) fun (r8718 : Int) =>
  some r8718
set_option maxRecDepth 100000 in
set_option maxHeartbeats 4000000 in
theorem m_X12_divisor {l : Launch} {E : EwT} {n : Nat} {R : Srf} {S : Sst} {O : Smo} {a0 : Int} (ha0 : IR a0) {a1 : Int} (ha1 : IR a1) {q : Int} (hq : f_X12_divisor a0 a1 = some q) : MetG l E yX12_divisor cX12_divisor 5 (some .int) 0 0 0 0 n R S O [.int (zi a0), .int (zi a1)] (IR q) (some (.int (zi q))) n R S O := by
  refine ofG (L0 := [(0, .int (zi a0)), (1, .int (zi a1))]) hq (by decide +kernel) (Nat.le_of_ble_eq_true rfl) rfl (fun K _ C hQ => ?_)
  unfold f_X12_divisor
  refine r_iload_n (pc := 0) (j := 0) C dX12_divisor_0 rfl rfl ?_
  refine r_join (fun q8699 : Int => IR q8699) (fun q8699 => S) (fun q8699 => O) (fun q8699 => [(1, .int (zi a1))]) 10 (fun q8699 => [.int (zi q8699)]) (fun q8699 h8700 => ?_) (fun k8701 k8702 => ?_)
  · refine r_istore_n (L' := [(2, .int (zi q8699)), (1, .int (zi a1))]) C dX12_divisor_10 rfl (by decide) rfl ?_
    refine r_iload_n (pc := 11) (j := 1) C dX12_divisor_11 rfl rfl ?_
    refine r_join (fun q8704 : Int => IR q8704) (fun q8704 => S) (fun q8704 => O) (fun q8704 => [(2, .int (zi q8699))]) 21 (fun q8704 => [.int (zi q8704)]) (fun q8704 h8705 => ?_) (fun k8706 k8707 => ?_)
    · refine r_istore_n (L' := [(3, .int (zi q8704)), (2, .int (zi q8699))]) C dX12_divisor_21 rfl (by decide) rfl ?_
      refine r_L (L' := [(2, .int (zi q8699)), (3, .int (zi q8704))]) [1, 0] rfl ?_
      refine r_loop1 (fun s8709 : Int × Int => IR s8709.1 ∧ IR s8709.2) (fun s8709 => S) (fun s8709 => O) (fun s8709 => [(2, .int (zi s8709.1)), (3, .int (zi s8709.2))]) [] (fun r8718 : Int => IR r8718) (fun r8718 => S) (fun r8718 => O) (fun r8718 => [(2, .int (zi r8718))]) 39 (fun r8718 h8719 => ?_) (fun k8711 k8713 k8712 k8714 s8709 h8710 => ?_) ⟨h8700, h8705⟩
      · refine r_iload_n (pc := 39) (j := 0) C dX12_divisor_39 rfl rfl ?_
        exact r_ireturn C hQ rfl dX12_divisor_40 (fun e => by cases e; exact ⟨h8719, rfl, rfl, rfl, rfl, rfl⟩)
      · refine r_iload_n (pc := 22) (j := 1) C dX12_divisor_22 rfl rfl ?_
        refine r_if_le (tgt := 39) C h8710.2 dX12_divisor_23 (by decide) (fun c8715 => ?_) (fun c8715 => ?_)
        · refine r_bf c8715 ?_
          refine r_L (L' := [(2, .int (zi s8709.1))]) [0] rfl ?_
          exact k8714 s8709.1 h8710.1
        · refine r_bt c8715 ?_
          refine r_iload_n (pc := 26) (j := 0) C dX12_divisor_26 rfl rfl ?_
          refine r_iload_n (pc := 27) (j := 1) C dX12_divisor_27 rfl rfl ?_
          refine r_bb ?_
          refine r_irem C h8710.2 dX12_divisor_28 (fun v8716 h8717 => ?_)
          refine r_istore (L' := [(4, .int (zi v8716)), (2, .int (zi s8709.1)), (3, .int (zi s8709.2))]) C dX12_divisor_29 (by decide) rfl ?_
          refine r_iload_n (pc := 31) (j := 2) C dX12_divisor_31 rfl rfl ?_
          refine r_istore_n (L' := [(2, .int (zi s8709.2)), (4, .int (zi v8716)), (3, .int (zi s8709.2))]) C dX12_divisor_32 rfl (by decide) rfl ?_
          refine r_iload (pc := 33) (j := 1) C dX12_divisor_33 rfl ?_
          refine r_istore_n (L' := [(3, .int (zi v8716)), (2, .int (zi s8709.2)), (4, .int (zi v8716))]) C dX12_divisor_35 rfl (by decide) rfl ?_
          refine r_goto (tgt := 22) C dX12_divisor_36 (by decide) ?_
          refine r_L (L' := [(2, .int (zi s8709.2)), (3, .int (zi v8716))]) [1, 0] rfl ?_
          exact k8712 (s8709.2, v8716) ⟨h8710.2, h8717⟩
    · refine r_if_ge (tgt := 20) C ha1 dX12_divisor_12 (by decide) (fun c8708 => ?_) (fun c8708 => ?_)
      · refine r_jf c8708 ?_
        refine r_iload_n (pc := 20) (j := 1) C dX12_divisor_20 rfl rfl ?_
        refine r_L (L' := [(2, .int (zi q8699))]) [0] rfl ?_
        exact k8707 a1 ha1
      · refine r_jt c8708 ?_
        refine r_iload_n (pc := 15) (j := 1) C dX12_divisor_15 rfl rfl ?_
        refine r_ineg C dX12_divisor_16 ?_
        refine r_goto (tgt := 21) C dX12_divisor_17 (by decide) ?_
        refine r_L (L' := [(2, .int (zi q8699))]) [0] rfl ?_
        exact k8707 (wr (-a1)) (IR_wr _)
  · refine r_if_ge (tgt := 9) C ha0 dX12_divisor_1 (by decide) (fun c8703 => ?_) (fun c8703 => ?_)
    · refine r_jf c8703 ?_
      refine r_iload_n (pc := 9) (j := 0) C dX12_divisor_9 rfl rfl ?_
      refine r_L (L' := [(1, .int (zi a1))]) [1] rfl ?_
      exact k8702 a0 ha0
    · refine r_jt c8703 ?_
      refine r_iload_n (pc := 4) (j := 0) C dX12_divisor_4 rfl rfl ?_
      refine r_ineg C dX12_divisor_5 ?_
      refine r_goto (tgt := 10) C dX12_divisor_6 (by decide) ?_
      refine r_L (L' := [(1, .int (zi a1))]) [1] rfl ?_
      exact k8702 (wr (-a0)) (IR_wr _)

def f_X12_gap (a1 : Int) (a2 : Int) (a3 : Int) (O : Smo) : Option (Int) :=
  Option.bind (f_X12_isPoint a1 a2 O) fun (q8721 : Int) =>
  if (q8721 = 0 ∨ f_X12_isIn a3 0 3 = 0) then
    (some (-1))
  else
    (Option.bind (
      if a3 < 2 then
        (Option.bind (f_X12_regionOf a1 a2 O) fun (q8733 : Int) =>
        some q8733)
      else
        (Option.bind (f_X12_overOf a1 a2 O) fun (q8736 : Int) =>
        some q8736)) fun (q8727 : Int) =>
    if q8727 < 0 then
      (some (-1))
    else
      (Option.bind (f_X12_farther q8727 a1 a2 O) fun (q8740 : Int) =>
      jn (
        if q8740 < 0 then
          (wr (-q8740))
        else
          (q8740)) fun (q8742 : Int) =>
      Option.bind (aget (O 278) (Ln 278) q8727) fun (v8747 : Int) =>
      Option.bind (aget (O 276) (Ln 276) q8727) fun (v8749 : Int) =>
      jn (wr (v8747 - v8749)) fun (v8751 : Int) =>
      Option.bind (f_X12_divisor v8751 q8742) fun (q8754 : Int) =>
      if zrem a3 2 = 0 then
        (Option.bind ((if q8754 = 0 then none else some (zdiv q8742 q8754))) fun (v8757 : Int) =>
        some v8757)
      else
        (Option.bind ((if q8754 = 0 then none else some (zdiv v8751 q8754))) fun (v8759 : Int) =>
        some v8759)))
set_option maxRecDepth 100000 in
set_option maxHeartbeats 4000000 in
theorem m_X12_gap {l : Launch} {E : EwT} {S : Sst} {O : Smo} {a1 : Int} (ha1 : IR a1) {a2 : Int} (ha2 : IR a2) {a3 : Int} (ha3 : IR a3) {q : Int} (hq : f_X12_gap a1 a2 a3 O = some q) : MetG l E yX12_gap cX12_gap 9 (some .int) 4 97 0 0 n0 R0 S O [.ref (zad E 262), .int (zi a1), .int (zi a2), .int (zi a3)] (IR q) (some (.int (zi q))) n0 R0 S O := by
  refine ofG (L0 := [(0, .ref (zad E 262)), (1, .int (zi a1)), (2, .int (zi a2)), (3, .int (zi a3))]) hq (by decide +kernel) (Nat.le_of_ble_eq_true rfl) rfl (fun K _ C hQ => ?_)
  unfold f_X12_gap
  refine r_aload_n (pc := 0) (j := 0) C dX12_gap_0 rfl rfl ?_
  refine r_iload_n (pc := 1) (j := 1) C dX12_gap_1 rfl rfl ?_
  refine r_iload_n (pc := 2) (j := 2) C dX12_gap_2 rfl rfl ?_
  refine r_bd (fun q8721 e8722 => ?_)
  refine r_cV1 (pc := 3) (k := 262) (As := [.int (zi a1), .int (zi a2)]) (st := []) C (m_X12_isPoint (a1 := a1) (a2 := a2) ha1 ha2 e8722) cal_X12_isPoint cl_X12 kd_262 ln_262 q_2166 dX12_gap_3 rfl rfl (Nat.le_of_ble_eq_true rfl) (Nat.le_of_ble_eq_true rfl) (Nat.le_of_ble_eq_true rfl) (Nat.le_of_ble_eq_true rfl) (Nat.le_of_ble_eq_true rfl) (fun h8720 => ?_)
  refine r_cut (q8721 = 0 ∨ f_X12_isIn a3 0 3 = 0) 18 20 [] (fun c8724 => ?_) (fun c8724 => ?_) (fun k8725 k8726 => ?_)
  · refine r_t c8724 ?_
    refine r_iconst (v := (-1)) C dX12_gap_18 (by decide) ?_
    exact r_ireturn C hQ rfl dX12_gap_19 (fun e => by cases e; exact ⟨(IRd rfl), rfl, rfl, rfl, rfl, rfl⟩)
  · refine r_f c8724 ?_
    refine r_iload_n (pc := 20) (j := 3) C dX12_gap_20 rfl rfl ?_
    refine r_iconst (v := 2) C dX12_gap_21 (by decide) ?_
    refine r_joinb (fun q8727 : Int => IR q8727) (fun q8727 => S) (fun q8727 => O) (fun q8727 => [(0, .ref (zad E 262)), (1, .int (zi a1)), (2, .int (zi a2)), (3, .int (zi a3))]) 40 (fun q8727 => [.int (zi q8727)]) (fun q8727 h8728 => ?_) (fun k8729 k8730 => ?_)
    · refine r_istore (L' := [(4, .int (zi q8727)), (0, .ref (zad E 262)), (1, .int (zi a1)), (2, .int (zi a2)), (3, .int (zi a3))]) C dX12_gap_40 (by decide) rfl ?_
      refine r_iload (pc := 42) (j := 0) C dX12_gap_42 rfl ?_
      refine r_if_ge (tgt := 49) C h8728 dX12_gap_44 (by decide) (fun c8738 => ?_) (fun c8738 => ?_)
      · refine r_f c8738 ?_
        refine r_aload_n (pc := 49) (j := 1) C dX12_gap_49 rfl rfl ?_
        refine r_iload (pc := 50) (j := 0) C dX12_gap_50 rfl ?_
        refine r_iload_n (pc := 52) (j := 2) C dX12_gap_52 rfl rfl ?_
        refine r_iload_n (pc := 53) (j := 3) C dX12_gap_53 rfl rfl ?_
        refine r_bd (fun q8740 e8741 => ?_)
        refine r_cV1 (pc := 54) (k := 262) (As := [.int (zi q8727), .int (zi a1), .int (zi a2)]) (st := []) C (m_X12_farther (a1 := q8727) (a2 := a1) (a3 := a2) h8728 ha1 ha2 e8741) cal_X12_farther cl_X12 kd_262 ln_262 q_1992 dX12_gap_54 rfl rfl (Nat.le_of_ble_eq_true rfl) (Nat.le_of_ble_eq_true rfl) (Nat.le_of_ble_eq_true rfl) (Nat.le_of_ble_eq_true rfl) (Nat.le_of_ble_eq_true rfl) (fun h8739 => ?_)
        refine r_istore (L' := [(5, .int (zi q8740)), (4, .int (zi q8727)), (0, .ref (zad E 262)), (1, .int (zi a1)), (2, .int (zi a2)), (3, .int (zi a3))]) C dX12_gap_57 (by decide) rfl ?_
        refine r_iload (pc := 59) (j := 0) C dX12_gap_59 rfl ?_
        refine r_join (fun q8742 : Int => IR q8742) (fun q8742 => S) (fun q8742 => O) (fun q8742 => [(0, .ref (zad E 262)), (3, .int (zi a3)), (4, .int (zi q8727))]) 72 (fun q8742 => [.int (zi q8742)]) (fun q8742 h8743 => ?_) (fun k8744 k8745 => ?_)
        · refine r_istore (L' := [(6, .int (zi q8742)), (0, .ref (zad E 262)), (3, .int (zi a3)), (4, .int (zi q8727))]) C dX12_gap_72 (by decide) rfl ?_
          refine r_aload_n (pc := 74) (j := 1) C dX12_gap_74 rfl rfl ?_
          refine r_getR (j := 33) (r := 278) C cl_X12 kd_262 ln_262 (by decide) rfl r0_262_33 (by decide) q_1586 dX12_gap_75 ?_
          refine r_iload (pc := 78) (j := 3) C dX12_gap_78 rfl ?_
          refine r_iald C kd_278 ln_278 gc_278 h8728 dX12_gap_80 (fun v8747 h8748 => ?_)
          refine r_aload_n (pc := 81) (j := 1) C dX12_gap_81 rfl rfl ?_
          refine r_getR (j := 31) (r := 276) C cl_X12 kd_262 ln_262 (by decide) rfl r0_262_31 (by decide) q_1584 dX12_gap_82 ?_
          refine r_iload (pc := 85) (j := 3) C dX12_gap_85 rfl ?_
          refine r_iald C kd_276 ln_276 gc_276 h8728 dX12_gap_87 (fun v8749 h8750 => ?_)
          refine r_isub C dX12_gap_88 ?_
          refine r_jv (IR_wr _) (fun v8751 h8752 => ?_)
          refine r_istore (L' := [(7, .int (zi v8751)), (6, .int (zi q8742)), (0, .ref (zad E 262)), (3, .int (zi a3)), (4, .int (zi q8727))]) C dX12_gap_89 (by decide) rfl ?_
          refine r_iload (pc := 91) (j := 0) C dX12_gap_91 rfl ?_
          refine r_iload (pc := 93) (j := 1) C dX12_gap_93 rfl ?_
          refine r_bd (fun q8754 e8755 => ?_)
          refine r_cS1 (pc := 95) (As := [.int (zi v8751), .int (zi q8742)]) (st := []) C (m_X12_divisor (a0 := v8751) (a1 := q8742) h8752 h8743 e8755) cal_X12_divisor q_2214 dX12_gap_95 rfl rfl (Nat.le_of_ble_eq_true rfl) (Nat.le_of_ble_eq_true rfl) (Nat.le_of_ble_eq_true rfl) (Nat.le_of_ble_eq_true rfl) (Nat.le_of_ble_eq_true rfl) (fun h8753 => ?_)
          refine r_istore (L' := [(8, .int (zi q8754)), (7, .int (zi v8751)), (6, .int (zi q8742)), (0, .ref (zad E 262)), (3, .int (zi a3)), (4, .int (zi q8727))]) C dX12_gap_98 (by decide) rfl ?_
          refine r_iload_n (pc := 100) (j := 4) C dX12_gap_100 rfl rfl ?_
          refine r_iconst (v := 2) C dX12_gap_101 (by decide) ?_
          refine r_iremk C (IRd rfl) (by decide) dX12_gap_102 ?_
          refine r_if_ne (tgt := 114) C (i32_IR _) dX12_gap_103 (by decide) (fun c8756 => ?_) (fun c8756 => ?_)
          · refine r_f c8756 ?_
            refine r_iload (pc := 114) (j := 1) C dX12_gap_114 rfl ?_
            refine r_iload (pc := 116) (j := 0) C dX12_gap_116 rfl ?_
            refine r_idiv C h8753 dX12_gap_118 (fun v8759 h8760 => ?_)
            exact r_ireturn C hQ rfl dX12_gap_119 (fun e => by cases e; exact ⟨h8760, rfl, rfl, rfl, rfl, rfl⟩)
          · refine r_t c8756 ?_
            refine r_iload (pc := 106) (j := 2) C dX12_gap_106 rfl ?_
            refine r_iload (pc := 108) (j := 0) C dX12_gap_108 rfl ?_
            refine r_idiv C h8753 dX12_gap_110 (fun v8757 h8758 => ?_)
            refine r_goto (tgt := 119) C dX12_gap_111 (by decide) ?_
            exact r_ireturn C hQ rfl dX12_gap_119 (fun e => by cases e; exact ⟨h8758, rfl, rfl, rfl, rfl, rfl⟩)
        · refine r_if_ge (tgt := 70) C h8739 dX12_gap_61 (by decide) (fun c8746 => ?_) (fun c8746 => ?_)
          · refine r_jf c8746 ?_
            refine r_iload (pc := 70) (j := 0) C dX12_gap_70 rfl ?_
            refine r_L (L' := [(0, .ref (zad E 262)), (3, .int (zi a3)), (4, .int (zi q8727))]) [2, 5, 1] rfl ?_
            exact k8745 q8740 h8739
          · refine r_jt c8746 ?_
            refine r_iload (pc := 64) (j := 0) C dX12_gap_64 rfl ?_
            refine r_ineg C dX12_gap_66 ?_
            refine r_goto (tgt := 72) C dX12_gap_67 (by decide) ?_
            refine r_L (L' := [(0, .ref (zad E 262)), (3, .int (zi a3)), (4, .int (zi q8727))]) [2, 5, 1] rfl ?_
            exact k8745 (wr (-q8740)) (IR_wr _)
      · refine r_t c8738 ?_
        refine r_iconst (v := (-1)) C dX12_gap_47 (by decide) ?_
        exact r_ireturn C hQ rfl dX12_gap_48 (fun e => by cases e; exact ⟨(IRd rfl), rfl, rfl, rfl, rfl, rfl⟩)
    · refine r_icmp_ge (tgt := 34) C ha3 (IRd rfl) dX12_gap_22 (by decide) (fun c8731 => ?_) (fun c8731 => ?_)
      · refine r_bf c8731 ?_
        refine r_aload_n (pc := 34) (j := 0) C dX12_gap_34 rfl rfl ?_
        refine r_iload_n (pc := 35) (j := 1) C dX12_gap_35 rfl rfl ?_
        refine r_iload_n (pc := 36) (j := 2) C dX12_gap_36 rfl rfl ?_
        refine r_bb ?_
        refine r_bd (fun q8736 e8737 => ?_)
        refine r_cV1 (pc := 37) (k := 262) (As := [.int (zi a1), .int (zi a2)]) (st := []) C (m_X12_overOf (a1 := a1) (a2 := a2) ha1 ha2 e8737) cal_X12_overOf cl_X12 kd_262 ln_262 q_2194 dX12_gap_37 rfl rfl (Nat.le_of_ble_eq_true rfl) (Nat.le_of_ble_eq_true rfl) (Nat.le_of_ble_eq_true rfl) (Nat.le_of_ble_eq_true rfl) (Nat.le_of_ble_eq_true rfl) (fun h8735 => ?_)
        exact k8730 q8736 h8735
      · refine r_bt c8731 ?_
        refine r_aload_n (pc := 25) (j := 0) C dX12_gap_25 rfl rfl ?_
        refine r_iload_n (pc := 26) (j := 1) C dX12_gap_26 rfl rfl ?_
        refine r_iload_n (pc := 27) (j := 2) C dX12_gap_27 rfl rfl ?_
        refine r_bb ?_
        refine r_bd (fun q8733 e8734 => ?_)
        refine r_cV1 (pc := 28) (k := 262) (As := [.int (zi a1), .int (zi a2)]) (st := []) C (m_X12_regionOf (a1 := a1) (a2 := a2) ha1 ha2 e8734) cal_X12_regionOf cl_X12 kd_262 ln_262 q_2178 dX12_gap_28 rfl rfl (Nat.le_of_ble_eq_true rfl) (Nat.le_of_ble_eq_true rfl) (Nat.le_of_ble_eq_true rfl) (Nat.le_of_ble_eq_true rfl) (Nat.le_of_ble_eq_true rfl) (fun h8732 => ?_)
        refine r_goto (tgt := 40) C dX12_gap_31 (by decide) ?_
        exact k8730 q8733 h8732
  · refine r_if_eq (tgt := 18) C h8720.ir dX12_gap_6 (by decide) (fun c8761 => ?_) (fun c8761 => ?_)
    · exact k8725 (Or.inl c8761)
    · refine r_iload_n (pc := 9) (j := 3) C dX12_gap_9 rfl rfl ?_
      refine r_iconst (v := 0) C dX12_gap_10 (by decide) ?_
      refine r_iconst (v := 3) C dX12_gap_11 (by decide) ?_
      refine r_cS1 (pc := 12) (As := [.int (zi a3), .int (zi 0), .int (zi 3)]) (st := []) C (m_X12_isIn (a0 := a3) (a1 := 0) (a2 := 3) ha3 (IRd rfl) (IRd rfl) rfl) cal_X12_isIn q_1981 dX12_gap_12 rfl rfl (Nat.le_of_ble_eq_true rfl) (Nat.le_of_ble_eq_true rfl) (Nat.le_of_ble_eq_true rfl) (Nat.le_of_ble_eq_true rfl) (Nat.le_of_ble_eq_true rfl) (fun h8723 => ?_)
      refine r_if_ne (tgt := 20) C h8723.ir dX12_gap_15 (by decide) (fun c8762 => ?_) (fun c8762 => ?_)
      · exact k8726 (fun w => w.elim c8761 c8762)
      · exact k8725 (Or.inr c8762)

def f_X12_crossedAt (a1 : Int) (a2 : Int) (O : Smo) : Option (Int) :=
  Option.bind (f_X12_stampAt a1 O) fun (q8791 : Int) =>
  Option.bind (f_X12_setOf q8791 O) fun (q8794 : Int) =>
  Option.bind (lp (fun (s8796 : Int × Int) =>
    if s8796.2 < O 262 39 then
      (Option.bind (
        if f_X12_has q8794 s8796.2 = 0 then
          (some 0)
        else
          (Option.bind (f_X12_farther s8796.2 a1 a2 O) fun (q8811 : Int) =>
          if 0 < q8811 then
            (some 1)
          else
            (some 0))) fun (q8805 : Int) =>
      jn (wr (s8796.1 + (f_X12_truth q8805))) fun (v8815 : Int) =>
      some (Sum.inl (v8815, wr (s8796.2 + 1))))
    else
      (some (Sum.inr s8796.1))) FU (0, 0)) fun (r8817 : Int) =>
  some r8817
set_option maxRecDepth 100000 in
set_option maxHeartbeats 4000000 in
theorem m_X12_crossedAt {l : Launch} {E : EwT} {S : Sst} {O : Smo} {a1 : Int} (ha1 : IR a1) {a2 : Int} (ha2 : IR a2) {q : Int} (hq : f_X12_crossedAt a1 a2 O = some q) : MetG l E yX12_crossedAt cX12_crossedAt 6 (some .int) 2 44 0 0 n0 R0 S O [.ref (zad E 262), .int (zi a1), .int (zi a2)] (IR q) (some (.int (zi q))) n0 R0 S O := by
  refine ofG (L0 := [(0, .ref (zad E 262)), (1, .int (zi a1)), (2, .int (zi a2))]) hq (by decide +kernel) (Nat.le_of_ble_eq_true rfl) rfl (fun K _ C hQ => ?_)
  unfold f_X12_crossedAt
  refine r_aload_n (pc := 0) (j := 0) C dX12_crossedAt_0 rfl rfl ?_
  refine r_aload_n (pc := 1) (j := 0) C dX12_crossedAt_1 rfl rfl ?_
  refine r_iload_n (pc := 2) (j := 1) C dX12_crossedAt_2 rfl rfl ?_
  refine r_bd (fun q8791 e8792 => ?_)
  refine r_cV1 (pc := 3) (k := 262) (As := [.int (zi a1)]) (st := [.ref (zad E 262)]) C (m_X12_stampAt (a1 := a1) ha1 e8792) cal_X12_stampAt cl_X12 kd_262 ln_262 q_2182 dX12_crossedAt_3 rfl rfl (Nat.le_of_ble_eq_true rfl) (Nat.le_of_ble_eq_true rfl) (Nat.le_of_ble_eq_true rfl) (Nat.le_of_ble_eq_true rfl) (Nat.le_of_ble_eq_true rfl) (fun h8790 => ?_)
  refine r_bd (fun q8794 e8795 => ?_)
  refine r_cV1 (pc := 6) (k := 262) (As := [.int (zi q8791)]) (st := []) C (m_X12_setOf (a1 := q8791) h8790 e8795) cal_X12_setOf cl_X12 kd_262 ln_262 q_2008 dX12_crossedAt_6 rfl rfl (Nat.le_of_ble_eq_true rfl) (Nat.le_of_ble_eq_true rfl) (Nat.le_of_ble_eq_true rfl) (Nat.le_of_ble_eq_true rfl) (Nat.le_of_ble_eq_true rfl) (fun h8793 => ?_)
  refine r_istore_n (L' := [(3, .int (zi q8794)), (0, .ref (zad E 262)), (1, .int (zi a1)), (2, .int (zi a2))]) C dX12_crossedAt_9 rfl (by decide) rfl ?_
  refine r_iconst (v := 0) C dX12_crossedAt_10 (by decide) ?_
  refine r_istore (L' := [(4, .int (zi 0)), (3, .int (zi q8794)), (0, .ref (zad E 262)), (1, .int (zi a1)), (2, .int (zi a2))]) C dX12_crossedAt_11 (by decide) rfl ?_
  refine r_iconst (v := 0) C dX12_crossedAt_13 (by decide) ?_
  refine r_istore (L' := [(5, .int (zi 0)), (4, .int (zi 0)), (3, .int (zi q8794)), (0, .ref (zad E 262)), (1, .int (zi a1)), (2, .int (zi a2))]) C dX12_crossedAt_14 (by decide) rfl ?_
  refine r_L (L' := [(0, .ref (zad E 262)), (1, .int (zi a1)), (2, .int (zi a2)), (3, .int (zi q8794)), (4, .int (zi 0)), (5, .int (zi 0))]) [3, 4, 5, 2, 1, 0] rfl ?_
  refine r_loop1 (fun s8796 : Int × Int => IR s8796.1 ∧ IR s8796.2) (fun s8796 => S) (fun s8796 => O) (fun s8796 => [(0, .ref (zad E 262)), (1, .int (zi a1)), (2, .int (zi a2)), (3, .int (zi q8794)), (4, .int (zi s8796.1)), (5, .int (zi s8796.2))]) [] (fun r8817 : Int => IR r8817) (fun r8817 => S) (fun r8817 => O) (fun r8817 => [(4, .int (zi r8817))]) 64 (fun r8817 h8818 => ?_) (fun k8798 k8800 k8799 k8801 s8796 h8797 => ?_) ⟨(IRd rfl), (IRd rfl)⟩
  · refine r_iload (pc := 64) (j := 0) C dX12_crossedAt_64 rfl ?_
    exact r_ireturn C hQ rfl dX12_crossedAt_66 (fun e => by cases e; exact ⟨h8818, rfl, rfl, rfl, rfl, rfl⟩)
  · refine r_iload (pc := 16) (j := 5) C dX12_crossedAt_16 rfl ?_
    refine r_aload_n (pc := 18) (j := 0) C dX12_crossedAt_18 rfl rfl ?_
    refine r_getO (j := 39) C cl_X12 kd_262 ln_262 gc_262 (by decide) (by decide) rfl q_1592 dX12_crossedAt_19 (fun h8802 => ?_)
    refine r_icmp_ge (tgt := 64) C h8797.2 h8802 dX12_crossedAt_22 (by decide) (fun c8803 => ?_) (fun c8803 => ?_)
    · refine r_bf c8803 ?_
      refine r_L (L' := [(4, .int (zi s8796.1))]) [4] rfl ?_
      exact k8801 s8796.1 h8797.1
    · refine r_bt c8803 ?_
      refine r_iload (pc := 25) (j := 4) C dX12_crossedAt_25 rfl ?_
      refine r_iload_n (pc := 27) (j := 3) C dX12_crossedAt_27 rfl rfl ?_
      refine r_iload (pc := 28) (j := 5) C dX12_crossedAt_28 rfl ?_
      refine r_cS1 (pc := 30) (As := [.int (zi q8794), .int (zi s8796.2)]) (st := [.int (zi s8796.1)]) C (m_X12_has (a0 := q8794) (a1 := s8796.2) h8793 h8797.2 rfl) cal_X12_has q_2040 dX12_crossedAt_30 rfl rfl (Nat.le_of_ble_eq_true rfl) (Nat.le_of_ble_eq_true rfl) (Nat.le_of_ble_eq_true rfl) (Nat.le_of_ble_eq_true rfl) (Nat.le_of_ble_eq_true rfl) (fun h8804 => ?_)
      refine r_bb ?_
      refine r_joinb (fun q8805 : Int => BR q8805) (fun q8805 => S) (fun q8805 => O) (fun q8805 => [(0, .ref (zad E 262)), (1, .int (zi a1)), (2, .int (zi a2)), (3, .int (zi q8794)), (5, .int (zi s8796.2))]) 52 (fun q8805 => [.int (zi q8805), .int (zi s8796.1)]) (fun q8805 h8806 => ?_) (fun k8807 k8808 => ?_)
      · refine r_cS1 (pc := 52) (As := [.int (zi q8805)]) (st := [.int (zi s8796.1)]) C (m_X12_truth (a0 := q8805) h8806 rfl) cal_X12_truth q_1959 dX12_crossedAt_52 rfl rfl (Nat.le_of_ble_eq_true rfl) (Nat.le_of_ble_eq_true rfl) (Nat.le_of_ble_eq_true rfl) (Nat.le_of_ble_eq_true rfl) (Nat.le_of_ble_eq_true rfl) (fun h8814 => ?_)
        refine r_iadd C dX12_crossedAt_55 ?_
        refine r_bj ?_
        refine r_jv (IR_wr _) (fun v8815 h8816 => ?_)
        refine r_istore (L' := [(4, .int (zi v8815)), (0, .ref (zad E 262)), (1, .int (zi a1)), (2, .int (zi a2)), (3, .int (zi q8794)), (5, .int (zi s8796.2))]) C dX12_crossedAt_56 (by decide) rfl ?_
        refine r_iinc (j := 5) (L' := [(5, .int (zi (wr (s8796.2 + 1)))), (4, .int (zi v8815)), (0, .ref (zad E 262)), (1, .int (zi a1)), (2, .int (zi a2)), (3, .int (zi q8794))]) C dX12_crossedAt_58 rfl (by decide) rfl ?_
        refine r_goto (tgt := 16) C dX12_crossedAt_61 (by decide) ?_
        refine r_L (L' := [(0, .ref (zad E 262)), (1, .int (zi a1)), (2, .int (zi a2)), (3, .int (zi q8794)), (4, .int (zi v8815)), (5, .int (zi (wr (s8796.2 + 1))))]) [2, 3, 4, 5, 1, 0] rfl ?_
        exact k8799 (v8815, wr (s8796.2 + 1)) ⟨h8816, (IR_wr _)⟩
      · refine r_if_eq (tgt := 51) C h8804.ir dX12_crossedAt_33 (by decide) (fun c8809 => ?_) (fun c8809 => ?_)
        · refine r_bt c8809 ?_
          refine r_iconst (v := 0) C dX12_crossedAt_51 (by decide) ?_
          refine r_L (L' := [(0, .ref (zad E 262)), (1, .int (zi a1)), (2, .int (zi a2)), (3, .int (zi q8794)), (5, .int (zi s8796.2))]) [0, 1, 2, 3, 5] rfl ?_
          exact k8808 0 (BRd rfl)
        · refine r_bf c8809 ?_
          refine r_aload_n (pc := 36) (j := 0) C dX12_crossedAt_36 rfl rfl ?_
          refine r_iload (pc := 37) (j := 5) C dX12_crossedAt_37 rfl ?_
          refine r_iload_n (pc := 39) (j := 1) C dX12_crossedAt_39 rfl rfl ?_
          refine r_iload_n (pc := 40) (j := 2) C dX12_crossedAt_40 rfl rfl ?_
          refine r_bb ?_
          refine r_bd (fun q8811 e8812 => ?_)
          refine r_cV1 (pc := 41) (k := 262) (As := [.int (zi s8796.2), .int (zi a1), .int (zi a2)]) (st := [.int (zi s8796.1)]) C (m_X12_farther (a1 := s8796.2) (a2 := a1) (a3 := a2) h8797.2 ha1 ha2 e8812) cal_X12_farther cl_X12 kd_262 ln_262 q_1992 dX12_crossedAt_41 rfl rfl (Nat.le_of_ble_eq_true rfl) (Nat.le_of_ble_eq_true rfl) (Nat.le_of_ble_eq_true rfl) (Nat.le_of_ble_eq_true rfl) (Nat.le_of_ble_eq_true rfl) (fun h8810 => ?_)
          refine r_if_le (tgt := 51) C h8810 dX12_crossedAt_44 (by decide) (fun c8813 => ?_) (fun c8813 => ?_)
          · refine r_bf c8813 ?_
            refine r_iconst (v := 0) C dX12_crossedAt_51 (by decide) ?_
            refine r_L (L' := [(0, .ref (zad E 262)), (1, .int (zi a1)), (2, .int (zi a2)), (3, .int (zi q8794)), (5, .int (zi s8796.2))]) [0, 1, 2, 3, 5] rfl ?_
            exact k8808 0 (BRd rfl)
          · refine r_bt c8813 ?_
            refine r_iconst (v := 1) C dX12_crossedAt_47 (by decide) ?_
            refine r_goto (tgt := 52) C dX12_crossedAt_48 (by decide) ?_
            refine r_L (L' := [(0, .ref (zad E 262)), (1, .int (zi a1)), (2, .int (zi a2)), (3, .int (zi q8794)), (5, .int (zi s8796.2))]) [0, 1, 2, 3, 5] rfl ?_
            exact k8808 1 (BRd rfl)

def f_X12_crossed (a1 : Int) (a2 : Int) (O : Smo) : Option (Int) :=
  Option.bind (f_X12_isPoint a1 a2 O) fun (q8820 : Int) =>
  if q8820 = 0 then
    (some (-2))
  else
    (Option.bind (f_X12_crossedAt a1 a2 O) fun (q8824 : Int) =>
    some q8824)
set_option maxRecDepth 100000 in
set_option maxHeartbeats 4000000 in
theorem m_X12_crossed {l : Launch} {E : EwT} {S : Sst} {O : Smo} {a1 : Int} (ha1 : IR a1) {a2 : Int} (ha2 : IR a2) {q : Int} (hq : f_X12_crossed a1 a2 O = some q) : MetG l E yX12_crossed cX12_crossed 3 (some .int) 4 83 0 0 n0 R0 S O [.ref (zad E 262), .int (zi a1), .int (zi a2)] (IR q) (some (.int (zi q))) n0 R0 S O := by
  refine ofG (L0 := [(0, .ref (zad E 262)), (1, .int (zi a1)), (2, .int (zi a2))]) hq (by decide +kernel) (Nat.le_of_ble_eq_true rfl) rfl (fun K _ C hQ => ?_)
  unfold f_X12_crossed
  refine r_aload_n (pc := 0) (j := 0) C dX12_crossed_0 rfl rfl ?_
  refine r_iload_n (pc := 1) (j := 1) C dX12_crossed_1 rfl rfl ?_
  refine r_iload_n (pc := 2) (j := 2) C dX12_crossed_2 rfl rfl ?_
  refine r_bd (fun q8820 e8821 => ?_)
  refine r_cV1 (pc := 3) (k := 262) (As := [.int (zi a1), .int (zi a2)]) (st := []) C (m_X12_isPoint (a1 := a1) (a2 := a2) ha1 ha2 e8821) cal_X12_isPoint cl_X12 kd_262 ln_262 q_2166 dX12_crossed_3 rfl rfl (Nat.le_of_ble_eq_true rfl) (Nat.le_of_ble_eq_true rfl) (Nat.le_of_ble_eq_true rfl) (Nat.le_of_ble_eq_true rfl) (Nat.le_of_ble_eq_true rfl) (fun h8819 => ?_)
  refine r_if_eq (tgt := 18) C h8819.ir dX12_crossed_6 (by decide) (fun c8822 => ?_) (fun c8822 => ?_)
  · refine r_t c8822 ?_
    refine r_bipush (v := (-2)) C dX12_crossed_18 (by decide) ?_
    exact r_ireturn C hQ rfl dX12_crossed_20 (fun e => by cases e; exact ⟨(IRd rfl), rfl, rfl, rfl, rfl, rfl⟩)
  · refine r_f c8822 ?_
    refine r_aload_n (pc := 9) (j := 0) C dX12_crossed_9 rfl rfl ?_
    refine r_iload_n (pc := 10) (j := 1) C dX12_crossed_10 rfl rfl ?_
    refine r_iload_n (pc := 11) (j := 2) C dX12_crossed_11 rfl rfl ?_
    refine r_bd (fun q8824 e8825 => ?_)
    refine r_cV1 (pc := 12) (k := 262) (As := [.int (zi a1), .int (zi a2)]) (st := []) C (m_X12_crossedAt (a1 := a1) (a2 := a2) ha1 ha2 e8825) cal_X12_crossedAt cl_X12 kd_262 ln_262 q_2221 dX12_crossed_12 rfl rfl (Nat.le_of_ble_eq_true rfl) (Nat.le_of_ble_eq_true rfl) (Nat.le_of_ble_eq_true rfl) (Nat.le_of_ble_eq_true rfl) (Nat.le_of_ble_eq_true rfl) (fun h8823 => ?_)
    refine r_goto (tgt := 20) C dX12_crossed_15 (by decide) ?_
    exact r_ireturn C hQ rfl dX12_crossed_20 (fun e => by cases e; exact ⟨h8823, rfl, rfl, rfl, rfl, rfl⟩)

def f_X12_same (a1 : Int) (a2 : Int) (a3 : Int) (a4 : Int) (O : Smo) : Option (Int) :=
  Option.bind (f_X12_isPoint a1 a2 O) fun (q8827 : Int) =>
  jk (fun (q8829 : Unit) =>
    some (-2)) fun k8831 =>
  if q8827 = 0 then
    (k8831 ())
  else
    (Option.bind (f_X12_isPoint a3 a4 O) fun (q8835 : Int) =>
    if q8835 = 0 then
      (k8831 ())
    else
      (Option.bind (f_X12_regionOf a1 a2 O) fun (q8839 : Int) =>
      Option.bind (f_X12_regionOf a3 a4 O) fun (q8842 : Int) =>
      jn (
        if q8839 = q8842 then
          (1)
        else
          (0)) fun (q8844 : Int) =>
      some (f_X12_truth q8844)))
set_option maxRecDepth 100000 in
set_option maxHeartbeats 4000000 in
theorem m_X12_same {l : Launch} {E : EwT} {S : Sst} {O : Smo} {a1 : Int} (ha1 : IR a1) {a2 : Int} (ha2 : IR a2) {a3 : Int} (ha3 : IR a3) {a4 : Int} (ha4 : IR a4) {q : Int} (hq : f_X12_same a1 a2 a3 a4 O = some q) : MetG l E yX12_same cX12_same 5 (some .int) 4 97 0 0 n0 R0 S O [.ref (zad E 262), .int (zi a1), .int (zi a2), .int (zi a3), .int (zi a4)] (IR q) (some (.int (zi q))) n0 R0 S O := by
  refine ofG (L0 := [(0, .ref (zad E 262)), (1, .int (zi a1)), (2, .int (zi a2)), (3, .int (zi a3)), (4, .int (zi a4))]) hq (by decide +kernel) (Nat.le_of_ble_eq_true rfl) rfl (fun K _ C hQ => ?_)
  unfold f_X12_same
  refine r_aload_n (pc := 0) (j := 0) C dX12_same_0 rfl rfl ?_
  refine r_iload_n (pc := 1) (j := 1) C dX12_same_1 rfl rfl ?_
  refine r_iload_n (pc := 2) (j := 2) C dX12_same_2 rfl rfl ?_
  refine r_bd (fun q8827 e8828 => ?_)
  refine r_cV1 (pc := 3) (k := 262) (As := [.int (zi a1), .int (zi a2)]) (st := []) C (m_X12_isPoint (a1 := a1) (a2 := a2) ha1 ha2 e8828) cal_X12_isPoint cl_X12 kd_262 ln_262 q_2166 dX12_same_3 rfl rfl (Nat.le_of_ble_eq_true rfl) (Nat.le_of_ble_eq_true rfl) (Nat.le_of_ble_eq_true rfl) (Nat.le_of_ble_eq_true rfl) (Nat.le_of_ble_eq_true rfl) (fun h8826 => ?_)
  refine r_jk (fun q8829 : Unit => True) (fun q8829 => S) (fun q8829 => O) (fun q8829 => []) 46 (fun q8829 => []) (fun q8829 h8830 => ?_) (fun k8831 k8832 => ?_)
  · refine r_bipush (v := (-2)) C dX12_same_46 (by decide) ?_
    exact r_ireturn C hQ rfl dX12_same_48 (fun e => by cases e; exact ⟨(IRd rfl), rfl, rfl, rfl, rfl, rfl⟩)
  · refine r_if_eq (tgt := 46) C h8826.ir dX12_same_6 (by decide) (fun c8833 => ?_) (fun c8833 => ?_)
    · refine r_t c8833 ?_
      refine r_L (L' := []) [] rfl ?_
      exact k8832 () trivial
    · refine r_f c8833 ?_
      refine r_aload_n (pc := 9) (j := 0) C dX12_same_9 rfl rfl ?_
      refine r_iload_n (pc := 10) (j := 3) C dX12_same_10 rfl rfl ?_
      refine r_iload (pc := 11) (j := 4) C dX12_same_11 rfl ?_
      refine r_bd (fun q8835 e8836 => ?_)
      refine r_cV1 (pc := 13) (k := 262) (As := [.int (zi a3), .int (zi a4)]) (st := []) C (m_X12_isPoint (a1 := a3) (a2 := a4) ha3 ha4 e8836) cal_X12_isPoint cl_X12 kd_262 ln_262 q_2166 dX12_same_13 rfl rfl (Nat.le_of_ble_eq_true rfl) (Nat.le_of_ble_eq_true rfl) (Nat.le_of_ble_eq_true rfl) (Nat.le_of_ble_eq_true rfl) (Nat.le_of_ble_eq_true rfl) (fun h8834 => ?_)
      refine r_if_eq (tgt := 46) C h8834.ir dX12_same_16 (by decide) (fun c8837 => ?_) (fun c8837 => ?_)
      · refine r_t c8837 ?_
        refine r_L (L' := []) [] rfl ?_
        exact k8832 () trivial
      · refine r_f c8837 ?_
        refine r_aload_n (pc := 19) (j := 0) C dX12_same_19 rfl rfl ?_
        refine r_iload_n (pc := 20) (j := 1) C dX12_same_20 rfl rfl ?_
        refine r_iload_n (pc := 21) (j := 2) C dX12_same_21 rfl rfl ?_
        refine r_bd (fun q8839 e8840 => ?_)
        refine r_cV1 (pc := 22) (k := 262) (As := [.int (zi a1), .int (zi a2)]) (st := []) C (m_X12_regionOf (a1 := a1) (a2 := a2) ha1 ha2 e8840) cal_X12_regionOf cl_X12 kd_262 ln_262 q_2178 dX12_same_22 rfl rfl (Nat.le_of_ble_eq_true rfl) (Nat.le_of_ble_eq_true rfl) (Nat.le_of_ble_eq_true rfl) (Nat.le_of_ble_eq_true rfl) (Nat.le_of_ble_eq_true rfl) (fun h8838 => ?_)
        refine r_aload_n (pc := 25) (j := 0) C dX12_same_25 rfl rfl ?_
        refine r_iload_n (pc := 26) (j := 3) C dX12_same_26 rfl rfl ?_
        refine r_iload (pc := 27) (j := 4) C dX12_same_27 rfl ?_
        refine r_bd (fun q8842 e8843 => ?_)
        refine r_cV1 (pc := 29) (k := 262) (As := [.int (zi a3), .int (zi a4)]) (st := [.int (zi q8839)]) C (m_X12_regionOf (a1 := a3) (a2 := a4) ha3 ha4 e8843) cal_X12_regionOf cl_X12 kd_262 ln_262 q_2178 dX12_same_29 rfl rfl (Nat.le_of_ble_eq_true rfl) (Nat.le_of_ble_eq_true rfl) (Nat.le_of_ble_eq_true rfl) (Nat.le_of_ble_eq_true rfl) (Nat.le_of_ble_eq_true rfl) (fun h8841 => ?_)
        refine r_join (fun q8844 : Int => BR q8844) (fun q8844 => S) (fun q8844 => O) (fun q8844 => []) 40 (fun q8844 => [.int (zi q8844)]) (fun q8844 h8845 => ?_) (fun k8846 k8847 => ?_)
        · refine r_cS1 (pc := 40) (As := [.int (zi q8844)]) (st := []) C (m_X12_truth (a0 := q8844) h8845 rfl) cal_X12_truth q_1959 dX12_same_40 rfl rfl (Nat.le_of_ble_eq_true rfl) (Nat.le_of_ble_eq_true rfl) (Nat.le_of_ble_eq_true rfl) (Nat.le_of_ble_eq_true rfl) (Nat.le_of_ble_eq_true rfl) (fun h8849 => ?_)
          refine r_goto (tgt := 48) C dX12_same_43 (by decide) ?_
          exact r_ireturn C hQ rfl dX12_same_48 (fun e => by cases e; exact ⟨h8849, rfl, rfl, rfl, rfl, rfl⟩)
        · refine r_icmp_ne (tgt := 39) C h8838 h8841 dX12_same_32 (by decide) (fun c8848 => ?_) (fun c8848 => ?_)
          · refine r_jf c8848 ?_
            refine r_iconst (v := 0) C dX12_same_39 (by decide) ?_
            refine r_L (L' := []) [] rfl ?_
            exact k8847 0 (BRd rfl)
          · refine r_jt c8848 ?_
            refine r_iconst (v := 1) C dX12_same_35 (by decide) ?_
            refine r_goto (tgt := 40) C dX12_same_36 (by decide) ?_
            refine r_L (L' := []) [] rfl ?_
            exact k8847 1 (BRd rfl)

def f_X12_unlike (a1 : Int) (a2 : Int) (O : Smo) : Option (Int) :=
  if (f_X12_isStamp a1 O = 0 ∨ f_X12_isStamp a2 O = 0) then
    (some (-1))
  else
    (Option.bind (f_X12_setOf a1 O) fun (q8856 : Int) =>
    Option.bind (f_X12_setOf a2 O) fun (q8859 : Int) =>
    Option.bind (f_X12_members (zxor q8856 q8859)) fun (q8862 : Int) =>
    some q8862)
set_option maxRecDepth 100000 in
set_option maxHeartbeats 4000000 in
theorem m_X12_unlike {l : Launch} {E : EwT} {S : Sst} {O : Smo} {a1 : Int} (ha1 : IR a1) {a2 : Int} (ha2 : IR a2) {q : Int} (hq : f_X12_unlike a1 a2 O = some q) : MetG l E yX12_unlike cX12_unlike 3 (some .int) 2 43 0 0 n0 R0 S O [.ref (zad E 262), .int (zi a1), .int (zi a2)] (IR q) (some (.int (zi q))) n0 R0 S O := by
  refine ofG (L0 := [(0, .ref (zad E 262)), (1, .int (zi a1)), (2, .int (zi a2))]) hq (by decide +kernel) (Nat.le_of_ble_eq_true rfl) rfl (fun K _ C hQ => ?_)
  unfold f_X12_unlike
  refine r_aload_n (pc := 0) (j := 0) C dX12_unlike_0 rfl rfl ?_
  refine r_iload_n (pc := 1) (j := 1) C dX12_unlike_1 rfl rfl ?_
  refine r_cV1 (pc := 2) (k := 262) (As := [.int (zi a1)]) (st := []) C (m_X12_isStamp (a1 := a1) ha1 rfl) cal_X12_isStamp cl_X12 kd_262 ln_262 q_2114 dX12_unlike_2 rfl rfl (Nat.le_of_ble_eq_true rfl) (Nat.le_of_ble_eq_true rfl) (Nat.le_of_ble_eq_true rfl) (Nat.le_of_ble_eq_true rfl) (Nat.le_of_ble_eq_true rfl) (fun h8850 => ?_)
  refine r_cut (f_X12_isStamp a1 O = 0 ∨ f_X12_isStamp a2 O = 0) 33 16 [] (fun c8852 => ?_) (fun c8852 => ?_) (fun k8853 k8854 => ?_)
  · refine r_t c8852 ?_
    refine r_iconst (v := (-1)) C dX12_unlike_33 (by decide) ?_
    exact r_ireturn C hQ rfl dX12_unlike_34 (fun e => by cases e; exact ⟨(IRd rfl), rfl, rfl, rfl, rfl, rfl⟩)
  · refine r_f c8852 ?_
    refine r_aload_n (pc := 16) (j := 0) C dX12_unlike_16 rfl rfl ?_
    refine r_iload_n (pc := 17) (j := 1) C dX12_unlike_17 rfl rfl ?_
    refine r_bd (fun q8856 e8857 => ?_)
    refine r_cV1 (pc := 18) (k := 262) (As := [.int (zi a1)]) (st := []) C (m_X12_setOf (a1 := a1) ha1 e8857) cal_X12_setOf cl_X12 kd_262 ln_262 q_2008 dX12_unlike_18 rfl rfl (Nat.le_of_ble_eq_true rfl) (Nat.le_of_ble_eq_true rfl) (Nat.le_of_ble_eq_true rfl) (Nat.le_of_ble_eq_true rfl) (Nat.le_of_ble_eq_true rfl) (fun h8855 => ?_)
    refine r_aload_n (pc := 21) (j := 0) C dX12_unlike_21 rfl rfl ?_
    refine r_iload_n (pc := 22) (j := 2) C dX12_unlike_22 rfl rfl ?_
    refine r_bd (fun q8859 e8860 => ?_)
    refine r_cV1 (pc := 23) (k := 262) (As := [.int (zi a2)]) (st := [.int (zi q8856)]) C (m_X12_setOf (a1 := a2) ha2 e8860) cal_X12_setOf cl_X12 kd_262 ln_262 q_2008 dX12_unlike_23 rfl rfl (Nat.le_of_ble_eq_true rfl) (Nat.le_of_ble_eq_true rfl) (Nat.le_of_ble_eq_true rfl) (Nat.le_of_ble_eq_true rfl) (Nat.le_of_ble_eq_true rfl) (fun h8858 => ?_)
    refine r_ixor C dX12_unlike_26 ?_
    refine r_bd (fun q8862 e8863 => ?_)
    refine r_cS1 (pc := 27) (As := [.int (zi (zxor q8856 q8859))]) (st := []) C (m_X12_members (a0 := zxor q8856 q8859) (i32_IR _) e8863) cal_X12_members q_2083 dX12_unlike_27 rfl rfl (Nat.le_of_ble_eq_true rfl) (Nat.le_of_ble_eq_true rfl) (Nat.le_of_ble_eq_true rfl) (Nat.le_of_ble_eq_true rfl) (Nat.le_of_ble_eq_true rfl) (fun h8861 => ?_)
    refine r_goto (tgt := 34) C dX12_unlike_30 (by decide) ?_
    exact r_ireturn C hQ rfl dX12_unlike_34 (fun e => by cases e; exact ⟨h8861, rfl, rfl, rfl, rfl, rfl⟩)
  · refine r_if_eq (tgt := 33) C h8850.ir dX12_unlike_5 (by decide) (fun c8864 => ?_) (fun c8864 => ?_)
    · exact k8853 (Or.inl c8864)
    · refine r_aload_n (pc := 8) (j := 0) C dX12_unlike_8 rfl rfl ?_
      refine r_iload_n (pc := 9) (j := 2) C dX12_unlike_9 rfl rfl ?_
      refine r_cV1 (pc := 10) (k := 262) (As := [.int (zi a2)]) (st := []) C (m_X12_isStamp (a1 := a2) ha2 rfl) cal_X12_isStamp cl_X12 kd_262 ln_262 q_2114 dX12_unlike_10 rfl rfl (Nat.le_of_ble_eq_true rfl) (Nat.le_of_ble_eq_true rfl) (Nat.le_of_ble_eq_true rfl) (Nat.le_of_ble_eq_true rfl) (Nat.le_of_ble_eq_true rfl) (fun h8851 => ?_)
      refine r_if_eq (tgt := 33) C h8851.ir dX12_unlike_13 (by decide) (fun c8865 => ?_) (fun c8865 => ?_)
      · exact k8853 (Or.inr c8865)
      · exact k8854 (fun w => w.elim c8864 c8865)

def f_X12_shared (a1 : Int) (a2 : Int) (O : Smo) : Option (Int) :=
  if (f_X12_isStamp a1 O = 0 ∨ f_X12_isStamp a2 O = 0) then
    (some (-1))
  else
    (Option.bind (lp (fun (s8902 : Int × Int) =>
      if s8902.2 < O 262 39 then
        (Option.bind (f_X12_nodeOf s8902.2 a1 O) fun (q8911 : Int) =>
        Option.bind (
          if q8911 < 0 then
            (some 0)
          else
            (Option.bind (f_X12_nodeOf s8902.2 a1 O) fun (q8919 : Int) =>
            Option.bind (f_X12_nodeOf s8902.2 a2 O) fun (q8922 : Int) =>
            if q8919 = q8922 then
              (some 1)
            else
              (some 0))) fun (q8913 : Int) =>
        jn (wr (s8902.1 + (f_X12_truth q8913))) fun (v8926 : Int) =>
        some (Sum.inl (v8926, wr (s8902.2 + 1))))
      else
        (some (Sum.inr s8902.1))) FU (0, 0)) fun (r8928 : Int) =>
    some r8928)
set_option maxRecDepth 100000 in
set_option maxHeartbeats 4000000 in
theorem m_X12_shared {l : Launch} {E : EwT} {S : Sst} {O : Smo} {a1 : Int} (ha1 : IR a1) {a2 : Int} (ha2 : IR a2) {q : Int} (hq : f_X12_shared a1 a2 O = some q) : MetG l E yX12_shared cX12_shared 5 (some .int) 2 45 0 0 n0 R0 S O [.ref (zad E 262), .int (zi a1), .int (zi a2)] (IR q) (some (.int (zi q))) n0 R0 S O := by
  refine ofG (L0 := [(0, .ref (zad E 262)), (1, .int (zi a1)), (2, .int (zi a2))]) hq (by decide +kernel) (Nat.le_of_ble_eq_true rfl) rfl (fun K _ C hQ => ?_)
  unfold f_X12_shared
  refine r_aload_n (pc := 0) (j := 0) C dX12_shared_0 rfl rfl ?_
  refine r_iload_n (pc := 1) (j := 1) C dX12_shared_1 rfl rfl ?_
  refine r_cV1 (pc := 2) (k := 262) (As := [.int (zi a1)]) (st := []) C (m_X12_isStamp (a1 := a1) ha1 rfl) cal_X12_isStamp cl_X12 kd_262 ln_262 q_2114 dX12_shared_2 rfl rfl (Nat.le_of_ble_eq_true rfl) (Nat.le_of_ble_eq_true rfl) (Nat.le_of_ble_eq_true rfl) (Nat.le_of_ble_eq_true rfl) (Nat.le_of_ble_eq_true rfl) (fun h8897 => ?_)
  refine r_cut (f_X12_isStamp a1 O = 0 ∨ f_X12_isStamp a2 O = 0) 16 18 [] (fun c8899 => ?_) (fun c8899 => ?_) (fun k8900 k8901 => ?_)
  · refine r_t c8899 ?_
    refine r_iconst (v := (-1)) C dX12_shared_16 (by decide) ?_
    exact r_ireturn C hQ rfl dX12_shared_17 (fun e => by cases e; exact ⟨(IRd rfl), rfl, rfl, rfl, rfl, rfl⟩)
  · refine r_f c8899 ?_
    refine r_iconst (v := 0) C dX12_shared_18 (by decide) ?_
    refine r_istore_n (L' := [(3, .int (zi 0)), (0, .ref (zad E 262)), (1, .int (zi a1)), (2, .int (zi a2))]) C dX12_shared_19 rfl (by decide) rfl ?_
    refine r_iconst (v := 0) C dX12_shared_20 (by decide) ?_
    refine r_istore (L' := [(4, .int (zi 0)), (3, .int (zi 0)), (0, .ref (zad E 262)), (1, .int (zi a1)), (2, .int (zi a2))]) C dX12_shared_21 (by decide) rfl ?_
    refine r_L (L' := [(0, .ref (zad E 262)), (1, .int (zi a1)), (2, .int (zi a2)), (3, .int (zi 0)), (4, .int (zi 0))]) [2, 3, 4, 1, 0] rfl ?_
    refine r_loop1 (fun s8902 : Int × Int => IR s8902.1 ∧ IR s8902.2) (fun s8902 => S) (fun s8902 => O) (fun s8902 => [(0, .ref (zad E 262)), (1, .int (zi a1)), (2, .int (zi a2)), (3, .int (zi s8902.1)), (4, .int (zi s8902.2))]) [] (fun r8928 : Int => IR r8928) (fun r8928 => S) (fun r8928 => O) (fun r8928 => [(3, .int (zi r8928))]) 76 (fun r8928 h8929 => ?_) (fun k8904 k8906 k8905 k8907 s8902 h8903 => ?_) ⟨(IRd rfl), (IRd rfl)⟩
    · refine r_iload_n (pc := 76) (j := 0) C dX12_shared_76 rfl rfl ?_
      exact r_ireturn C hQ rfl dX12_shared_77 (fun e => by cases e; exact ⟨h8929, rfl, rfl, rfl, rfl, rfl⟩)
    · refine r_iload (pc := 23) (j := 4) C dX12_shared_23 rfl ?_
      refine r_aload_n (pc := 25) (j := 0) C dX12_shared_25 rfl rfl ?_
      refine r_getO (j := 39) C cl_X12 kd_262 ln_262 gc_262 (by decide) (by decide) rfl q_1592 dX12_shared_26 (fun h8908 => ?_)
      refine r_icmp_ge (tgt := 76) C h8903.2 h8908 dX12_shared_29 (by decide) (fun c8909 => ?_) (fun c8909 => ?_)
      · refine r_bf c8909 ?_
        refine r_L (L' := [(3, .int (zi s8902.1))]) [3] rfl ?_
        exact k8907 s8902.1 h8903.1
      · refine r_bt c8909 ?_
        refine r_iload_n (pc := 32) (j := 3) C dX12_shared_32 rfl rfl ?_
        refine r_aload_n (pc := 33) (j := 0) C dX12_shared_33 rfl rfl ?_
        refine r_iload (pc := 34) (j := 4) C dX12_shared_34 rfl ?_
        refine r_iload_n (pc := 36) (j := 1) C dX12_shared_36 rfl rfl ?_
        refine r_bb ?_
        refine r_bd (fun q8911 e8912 => ?_)
        refine r_cV1 (pc := 37) (k := 262) (As := [.int (zi s8902.2), .int (zi a1)]) (st := [.int (zi s8902.1)]) C (m_X12_nodeOf (a1 := s8902.2) (a2 := a1) h8903.2 ha1 e8912) cal_X12_nodeOf cl_X12 kd_262 ln_262 q_2067 dX12_shared_37 rfl rfl (Nat.le_of_ble_eq_true rfl) (Nat.le_of_ble_eq_true rfl) (Nat.le_of_ble_eq_true rfl) (Nat.le_of_ble_eq_true rfl) (Nat.le_of_ble_eq_true rfl) (fun h8910 => ?_)
        refine r_bb ?_
        refine r_joinb (fun q8913 : Int => BR q8913) (fun q8913 => S) (fun q8913 => O) (fun q8913 => [(0, .ref (zad E 262)), (1, .int (zi a1)), (2, .int (zi a2)), (4, .int (zi s8902.2))]) 65 (fun q8913 => [.int (zi q8913), .int (zi s8902.1)]) (fun q8913 h8914 => ?_) (fun k8915 k8916 => ?_)
        · refine r_cS1 (pc := 65) (As := [.int (zi q8913)]) (st := [.int (zi s8902.1)]) C (m_X12_truth (a0 := q8913) h8914 rfl) cal_X12_truth q_1959 dX12_shared_65 rfl rfl (Nat.le_of_ble_eq_true rfl) (Nat.le_of_ble_eq_true rfl) (Nat.le_of_ble_eq_true rfl) (Nat.le_of_ble_eq_true rfl) (Nat.le_of_ble_eq_true rfl) (fun h8925 => ?_)
          refine r_iadd C dX12_shared_68 ?_
          refine r_bj ?_
          refine r_jv (IR_wr _) (fun v8926 h8927 => ?_)
          refine r_istore_n (L' := [(3, .int (zi v8926)), (0, .ref (zad E 262)), (1, .int (zi a1)), (2, .int (zi a2)), (4, .int (zi s8902.2))]) C dX12_shared_69 rfl (by decide) rfl ?_
          refine r_iinc (j := 4) (L' := [(4, .int (zi (wr (s8902.2 + 1)))), (3, .int (zi v8926)), (0, .ref (zad E 262)), (1, .int (zi a1)), (2, .int (zi a2))]) C dX12_shared_70 rfl (by decide) rfl ?_
          refine r_goto (tgt := 23) C dX12_shared_73 (by decide) ?_
          refine r_L (L' := [(0, .ref (zad E 262)), (1, .int (zi a1)), (2, .int (zi a2)), (3, .int (zi v8926)), (4, .int (zi (wr (s8902.2 + 1))))]) [2, 3, 4, 1, 0] rfl ?_
          exact k8905 (v8926, wr (s8902.2 + 1)) ⟨h8927, (IR_wr _)⟩
        · refine r_if_lt (tgt := 64) C h8910 dX12_shared_40 (by decide) (fun c8917 => ?_) (fun c8917 => ?_)
          · refine r_bt c8917 ?_
            refine r_iconst (v := 0) C dX12_shared_64 (by decide) ?_
            refine r_L (L' := [(0, .ref (zad E 262)), (1, .int (zi a1)), (2, .int (zi a2)), (4, .int (zi s8902.2))]) [0, 1, 2, 4] rfl ?_
            exact k8916 0 (BRd rfl)
          · refine r_bf c8917 ?_
            refine r_aload_n (pc := 43) (j := 0) C dX12_shared_43 rfl rfl ?_
            refine r_iload (pc := 44) (j := 4) C dX12_shared_44 rfl ?_
            refine r_iload_n (pc := 46) (j := 1) C dX12_shared_46 rfl rfl ?_
            refine r_bb ?_
            refine r_bd (fun q8919 e8920 => ?_)
            refine r_cV1 (pc := 47) (k := 262) (As := [.int (zi s8902.2), .int (zi a1)]) (st := [.int (zi s8902.1)]) C (m_X12_nodeOf (a1 := s8902.2) (a2 := a1) h8903.2 ha1 e8920) cal_X12_nodeOf cl_X12 kd_262 ln_262 q_2067 dX12_shared_47 rfl rfl (Nat.le_of_ble_eq_true rfl) (Nat.le_of_ble_eq_true rfl) (Nat.le_of_ble_eq_true rfl) (Nat.le_of_ble_eq_true rfl) (Nat.le_of_ble_eq_true rfl) (fun h8918 => ?_)
            refine r_aload_n (pc := 50) (j := 0) C dX12_shared_50 rfl rfl ?_
            refine r_iload (pc := 51) (j := 4) C dX12_shared_51 rfl ?_
            refine r_iload_n (pc := 53) (j := 2) C dX12_shared_53 rfl rfl ?_
            refine r_bb ?_
            refine r_bd (fun q8922 e8923 => ?_)
            refine r_cV1 (pc := 54) (k := 262) (As := [.int (zi s8902.2), .int (zi a2)]) (st := [.int (zi q8919), .int (zi s8902.1)]) C (m_X12_nodeOf (a1 := s8902.2) (a2 := a2) h8903.2 ha2 e8923) cal_X12_nodeOf cl_X12 kd_262 ln_262 q_2067 dX12_shared_54 rfl rfl (Nat.le_of_ble_eq_true rfl) (Nat.le_of_ble_eq_true rfl) (Nat.le_of_ble_eq_true rfl) (Nat.le_of_ble_eq_true rfl) (Nat.le_of_ble_eq_true rfl) (fun h8921 => ?_)
            refine r_icmp_ne (tgt := 64) C h8918 h8921 dX12_shared_57 (by decide) (fun c8924 => ?_) (fun c8924 => ?_)
            · refine r_bf c8924 ?_
              refine r_iconst (v := 0) C dX12_shared_64 (by decide) ?_
              refine r_L (L' := [(0, .ref (zad E 262)), (1, .int (zi a1)), (2, .int (zi a2)), (4, .int (zi s8902.2))]) [0, 1, 2, 4] rfl ?_
              exact k8916 0 (BRd rfl)
            · refine r_bt c8924 ?_
              refine r_iconst (v := 1) C dX12_shared_60 (by decide) ?_
              refine r_goto (tgt := 65) C dX12_shared_61 (by decide) ?_
              refine r_L (L' := [(0, .ref (zad E 262)), (1, .int (zi a1)), (2, .int (zi a2)), (4, .int (zi s8902.2))]) [0, 1, 2, 4] rfl ?_
              exact k8916 1 (BRd rfl)
  · refine r_if_eq (tgt := 16) C h8897.ir dX12_shared_5 (by decide) (fun c8930 => ?_) (fun c8930 => ?_)
    · exact k8900 (Or.inl c8930)
    · refine r_aload_n (pc := 8) (j := 0) C dX12_shared_8 rfl rfl ?_
      refine r_iload_n (pc := 9) (j := 2) C dX12_shared_9 rfl rfl ?_
      refine r_cV1 (pc := 10) (k := 262) (As := [.int (zi a2)]) (st := []) C (m_X12_isStamp (a1 := a2) ha2 rfl) cal_X12_isStamp cl_X12 kd_262 ln_262 q_2114 dX12_shared_10 rfl rfl (Nat.le_of_ble_eq_true rfl) (Nat.le_of_ble_eq_true rfl) (Nat.le_of_ble_eq_true rfl) (Nat.le_of_ble_eq_true rfl) (Nat.le_of_ble_eq_true rfl) (fun h8898 => ?_)
      refine r_if_ne (tgt := 18) C h8898.ir dX12_shared_13 (by decide) (fun c8931 => ?_) (fun c8931 => ?_)
      · exact k8901 (fun w => w.elim c8930 c8931)
      · exact k8900 (Or.inr c8931)

def f_X12_writtenAll (O : Smo) : Option (Int) :=
  Option.bind (lp (fun (s8948 : Int × Int) =>
    Option.bind (f_X12_nodeMany O) fun (q8955 : Int) =>
    if s8948.2 < q8955 then
      (Option.bind (f_X12_usedUpTo s8948.2 (O 262 47) O) fun (q8960 : Int) =>
      jn (wr (s8948.1 + q8960)) fun (v8962 : Int) =>
      some (Sum.inl (v8962, wr (s8948.2 + 1))))
    else
      (some (Sum.inr s8948.1))) FU (0, 0)) fun (r8964 : Int) =>
  some r8964
set_option maxRecDepth 100000 in
set_option maxHeartbeats 4000000 in
theorem m_X12_writtenAll {l : Launch} {E : EwT} {S : Sst} {O : Smo}  {q : Int} (hq : f_X12_writtenAll O = some q) : MetG l E yX12_writtenAll cX12_writtenAll 3 (some .int) 2 44 0 0 n0 R0 S O [.ref (zad E 262)] (IR q) (some (.int (zi q))) n0 R0 S O := by
  refine ofG (L0 := [(0, .ref (zad E 262))]) hq (by decide +kernel) (Nat.le_of_ble_eq_true rfl) rfl (fun K _ C hQ => ?_)
  unfold f_X12_writtenAll
  refine r_iconst (v := 0) C dX12_writtenAll_0 (by decide) ?_
  refine r_istore_n (L' := [(1, .int (zi 0)), (0, .ref (zad E 262))]) C dX12_writtenAll_1 rfl (by decide) rfl ?_
  refine r_iconst (v := 0) C dX12_writtenAll_2 (by decide) ?_
  refine r_istore_n (L' := [(2, .int (zi 0)), (1, .int (zi 0)), (0, .ref (zad E 262))]) C dX12_writtenAll_3 rfl (by decide) rfl ?_
  refine r_L (L' := [(0, .ref (zad E 262)), (1, .int (zi 0)), (2, .int (zi 0))]) [2, 1, 0] rfl ?_
  refine r_loop1 (fun s8948 : Int × Int => IR s8948.1 ∧ IR s8948.2) (fun s8948 => S) (fun s8948 => O) (fun s8948 => [(0, .ref (zad E 262)), (1, .int (zi s8948.1)), (2, .int (zi s8948.2))]) [] (fun r8964 : Int => IR r8964) (fun r8964 => S) (fun r8964 => O) (fun r8964 => [(1, .int (zi r8964))]) 30 (fun r8964 h8965 => ?_) (fun k8950 k8952 k8951 k8953 s8948 h8949 => ?_) ⟨(IRd rfl), (IRd rfl)⟩
  · refine r_iload_n (pc := 30) (j := 0) C dX12_writtenAll_30 rfl rfl ?_
    exact r_ireturn C hQ rfl dX12_writtenAll_31 (fun e => by cases e; exact ⟨h8965, rfl, rfl, rfl, rfl, rfl⟩)
  · refine r_iload_n (pc := 4) (j := 2) C dX12_writtenAll_4 rfl rfl ?_
    refine r_aload_n (pc := 5) (j := 0) C dX12_writtenAll_5 rfl rfl ?_
    refine r_bb ?_
    refine r_bd (fun q8955 e8956 => ?_)
    refine r_cV1 (pc := 6) (k := 262) (As := []) (st := [.int (zi s8948.2)]) C (m_X12_nodeMany  e8956) cal_X12_nodeMany cl_X12 kd_262 ln_262 q_2020 dX12_writtenAll_6 rfl rfl (Nat.le_of_ble_eq_true rfl) (Nat.le_of_ble_eq_true rfl) (Nat.le_of_ble_eq_true rfl) (Nat.le_of_ble_eq_true rfl) (Nat.le_of_ble_eq_true rfl) (fun h8954 => ?_)
    refine r_icmp_ge (tgt := 30) C h8949.2 h8954 dX12_writtenAll_9 (by decide) (fun c8957 => ?_) (fun c8957 => ?_)
    · refine r_bf c8957 ?_
      refine r_L (L' := [(1, .int (zi s8948.1))]) [1] rfl ?_
      exact k8953 s8948.1 h8949.1
    · refine r_bt c8957 ?_
      refine r_iload_n (pc := 12) (j := 1) C dX12_writtenAll_12 rfl rfl ?_
      refine r_aload_n (pc := 13) (j := 0) C dX12_writtenAll_13 rfl rfl ?_
      refine r_iload_n (pc := 14) (j := 2) C dX12_writtenAll_14 rfl rfl ?_
      refine r_aload_n (pc := 15) (j := 0) C dX12_writtenAll_15 rfl rfl ?_
      refine r_getO (j := 47) C cl_X12 kd_262 ln_262 gc_262 (by decide) (by decide) rfl q_1600 dX12_writtenAll_16 (fun h8958 => ?_)
      refine r_bb ?_
      refine r_bd (fun q8960 e8961 => ?_)
      refine r_cV1 (pc := 19) (k := 262) (As := [.int (zi s8948.2), .int (zi (O 262 47))]) (st := [.int (zi s8948.1)]) C (m_X12_usedUpTo (a1 := s8948.2) (a2 := O 262 47) h8949.2 h8958 e8961) cal_X12_usedUpTo cl_X12 kd_262 ln_262 q_2024 dX12_writtenAll_19 rfl rfl (Nat.le_of_ble_eq_true rfl) (Nat.le_of_ble_eq_true rfl) (Nat.le_of_ble_eq_true rfl) (Nat.le_of_ble_eq_true rfl) (Nat.le_of_ble_eq_true rfl) (fun h8959 => ?_)
      refine r_iadd C dX12_writtenAll_22 ?_
      refine r_bj ?_
      refine r_jv (IR_wr _) (fun v8962 h8963 => ?_)
      refine r_istore_n (L' := [(1, .int (zi v8962)), (0, .ref (zad E 262)), (2, .int (zi s8948.2))]) C dX12_writtenAll_23 rfl (by decide) rfl ?_
      refine r_iinc (j := 2) (L' := [(2, .int (zi (wr (s8948.2 + 1)))), (1, .int (zi v8962)), (0, .ref (zad E 262))]) C dX12_writtenAll_24 rfl (by decide) rfl ?_
      refine r_goto (tgt := 4) C dX12_writtenAll_27 (by decide) ?_
      refine r_L (L' := [(0, .ref (zad E 262)), (1, .int (zi v8962)), (2, .int (zi (wr (s8948.2 + 1))))]) [2, 1, 0] rfl ?_
      exact k8951 (v8962, wr (s8948.2 + 1)) ⟨h8963, (IR_wr _)⟩

def f_X12_written (O : Smo) : Option (Int) :=
  Option.bind (f_X12_writtenAll O) fun (q8967 : Int) =>
  some q8967
set_option maxRecDepth 100000 in
set_option maxHeartbeats 4000000 in
theorem m_X12_written {l : Launch} {E : EwT} {S : Sst} {O : Smo}  {q : Int} (hq : f_X12_written O = some q) : MetG l E yX12_written cX12_written 1 (some .int) 3 66 0 0 n0 R0 S O [.ref (zad E 262)] (IR q) (some (.int (zi q))) n0 R0 S O := by
  refine ofG (L0 := [(0, .ref (zad E 262))]) hq (by decide +kernel) (Nat.le_of_ble_eq_true rfl) rfl (fun K _ C hQ => ?_)
  unfold f_X12_written
  refine r_aload_n (pc := 0) (j := 0) C dX12_written_0 rfl rfl ?_
  refine r_bd (fun q8967 e8968 => ?_)
  refine r_cV1 (pc := 1) (k := 262) (As := []) (st := []) C (m_X12_writtenAll  e8968) cal_X12_writtenAll cl_X12 kd_262 ln_262 q_2241 dX12_written_1 rfl rfl (Nat.le_of_ble_eq_true rfl) (Nat.le_of_ble_eq_true rfl) (Nat.le_of_ble_eq_true rfl) (Nat.le_of_ble_eq_true rfl) (Nat.le_of_ble_eq_true rfl) (fun h8966 => ?_)
  exact r_ireturn C hQ rfl dX12_written_4 (fun e => by cases e; exact ⟨h8966, rfl, rfl, rfl, rfl, rfl⟩)

def f_X12_isCopy (a1 : Int) (O : Smo) : Option (Int) :=
  Option.bind (aget (O 282) (Ln 282) (wr (525 + a1))) fun (v8969 : Int) =>
  Option.bind (f_X12_setOf (wr (v8969 - 1)) O) fun (q8972 : Int) =>
  Option.bind (aget (O 282) (Ln 282) (wr (205 + a1))) fun (v8974 : Int) =>
  some (f_X12_has q8972 v8974)
set_option maxRecDepth 100000 in
set_option maxHeartbeats 4000000 in
theorem m_X12_isCopy {l : Launch} {E : EwT} {S : Sst} {O : Smo} {a1 : Int} (ha1 : IR a1) {q : Int} (hq : f_X12_isCopy a1 O = some q) : MetG l E yX12_isCopy cX12_isCopy 2 (some .boolean) 1 21 0 0 n0 R0 S O [.ref (zad E 262), .int (zi a1)] (BR q) (some (.int (zi q))) n0 R0 S O := by
  refine ofG (L0 := [(0, .ref (zad E 262)), (1, .int (zi a1))]) hq (by decide +kernel) (Nat.le_of_ble_eq_true rfl) rfl (fun K _ C hQ => ?_)
  unfold f_X12_isCopy
  refine r_aload_n (pc := 0) (j := 0) C dX12_isCopy_0 rfl rfl ?_
  refine r_aload_n (pc := 1) (j := 0) C dX12_isCopy_1 rfl rfl ?_
  refine r_getR (j := 46) (r := 282) C cl_X12 kd_262 ln_262 (by decide) rfl r0_262_46 (by decide) q_1599 dX12_isCopy_2 ?_
  refine r_sipush (v := 525) C dX12_isCopy_5 (by decide) ?_
  refine r_iload_n (pc := 8) (j := 1) C dX12_isCopy_8 rfl rfl ?_
  refine r_iadd C dX12_isCopy_9 ?_
  refine r_iald C kd_282 ln_282 gc_282 (IR_wr _) dX12_isCopy_10 (fun v8969 h8970 => ?_)
  refine r_iconst (v := 1) C dX12_isCopy_11 (by decide) ?_
  refine r_isub C dX12_isCopy_12 ?_
  refine r_bd (fun q8972 e8973 => ?_)
  refine r_cV1 (pc := 13) (k := 262) (As := [.int (zi (wr (v8969 - 1)))]) (st := []) C (m_X12_setOf (a1 := wr (v8969 - 1)) (IR_wr _) e8973) cal_X12_setOf cl_X12 kd_262 ln_262 q_2008 dX12_isCopy_13 rfl rfl (Nat.le_of_ble_eq_true rfl) (Nat.le_of_ble_eq_true rfl) (Nat.le_of_ble_eq_true rfl) (Nat.le_of_ble_eq_true rfl) (Nat.le_of_ble_eq_true rfl) (fun h8971 => ?_)
  refine r_aload_n (pc := 16) (j := 0) C dX12_isCopy_16 rfl rfl ?_
  refine r_getR (j := 46) (r := 282) C cl_X12 kd_262 ln_262 (by decide) rfl r0_262_46 (by decide) q_1599 dX12_isCopy_17 ?_
  refine r_sipush (v := 205) C dX12_isCopy_20 (by decide) ?_
  refine r_iload_n (pc := 23) (j := 1) C dX12_isCopy_23 rfl rfl ?_
  refine r_iadd C dX12_isCopy_24 ?_
  refine r_iald C kd_282 ln_282 gc_282 (IR_wr _) dX12_isCopy_25 (fun v8974 h8975 => ?_)
  refine r_cS1 (pc := 26) (As := [.int (zi q8972), .int (zi v8974)]) (st := []) C (m_X12_has (a0 := q8972) (a1 := v8974) h8971 h8975 rfl) cal_X12_has q_2040 dX12_isCopy_26 rfl rfl (Nat.le_of_ble_eq_true rfl) (Nat.le_of_ble_eq_true rfl) (Nat.le_of_ble_eq_true rfl) (Nat.le_of_ble_eq_true rfl) (Nat.le_of_ble_eq_true rfl) (fun h8976 => ?_)
  exact r_ireturn C hQ (nar_z h8976) dX12_isCopy_29 (fun e => by cases e; exact ⟨h8976, rfl, rfl, rfl, rfl, rfl⟩)

def f_X12_copiesOf (a1 : Int) (O : Smo) : Option (Int) :=
  Option.bind (lp (fun (s9006 : Int × Int) =>
    Option.bind (f_X12_nodeMany O) fun (q9013 : Int) =>
    if s9006.2 < q9013 then
      (Option.bind (f_X12_isCopy s9006.2 O) fun (q9017 : Int) =>
      Option.bind (
        if q9017 = 0 then
          (some 0)
        else
          (jk (fun (q9024 : Unit) =>
            some 1) fun k9026 =>
          if a1 < 0 then
            (k9026 ())
          else
            (Option.bind (aget (O 282) (Ln 282) (wr (205 + s9006.2))) fun (v9029 : Int) =>
            if v9029 = a1 then
              (k9026 ())
            else
              (some 0)))) fun (q9019 : Int) =>
      jn (wr (s9006.1 + (f_X12_truth q9019))) fun (v9033 : Int) =>
      some (Sum.inl (v9033, wr (s9006.2 + 1))))
    else
      (some (Sum.inr s9006.1))) FU (0, 0)) fun (r9035 : Int) =>
  some r9035
set_option maxRecDepth 100000 in
set_option maxHeartbeats 4000000 in
theorem m_X12_copiesOf {l : Launch} {E : EwT} {S : Sst} {O : Smo} {a1 : Int} (ha1 : IR a1) {q : Int} (hq : f_X12_copiesOf a1 O = some q) : MetG l E yX12_copiesOf cX12_copiesOf 4 (some .int) 2 42 0 0 n0 R0 S O [.ref (zad E 262), .int (zi a1)] (IR q) (some (.int (zi q))) n0 R0 S O := by
  refine ofG (L0 := [(0, .ref (zad E 262)), (1, .int (zi a1))]) hq (by decide +kernel) (Nat.le_of_ble_eq_true rfl) rfl (fun K _ C hQ => ?_)
  unfold f_X12_copiesOf
  refine r_iconst (v := 0) C dX12_copiesOf_0 (by decide) ?_
  refine r_istore_n (L' := [(2, .int (zi 0)), (0, .ref (zad E 262)), (1, .int (zi a1))]) C dX12_copiesOf_1 rfl (by decide) rfl ?_
  refine r_iconst (v := 0) C dX12_copiesOf_2 (by decide) ?_
  refine r_istore_n (L' := [(3, .int (zi 0)), (2, .int (zi 0)), (0, .ref (zad E 262)), (1, .int (zi a1))]) C dX12_copiesOf_3 rfl (by decide) rfl ?_
  refine r_L (L' := [(0, .ref (zad E 262)), (1, .int (zi a1)), (2, .int (zi 0)), (3, .int (zi 0))]) [2, 3, 1, 0] rfl ?_
  refine r_loop1 (fun s9006 : Int × Int => IR s9006.1 ∧ IR s9006.2) (fun s9006 => S) (fun s9006 => O) (fun s9006 => [(0, .ref (zad E 262)), (1, .int (zi a1)), (2, .int (zi s9006.1)), (3, .int (zi s9006.2))]) [] (fun r9035 : Int => IR r9035) (fun r9035 => S) (fun r9035 => O) (fun r9035 => [(2, .int (zi r9035))]) 55 (fun r9035 h9036 => ?_) (fun k9008 k9010 k9009 k9011 s9006 h9007 => ?_) ⟨(IRd rfl), (IRd rfl)⟩
  · refine r_iload_n (pc := 55) (j := 0) C dX12_copiesOf_55 rfl rfl ?_
    exact r_ireturn C hQ rfl dX12_copiesOf_56 (fun e => by cases e; exact ⟨h9036, rfl, rfl, rfl, rfl, rfl⟩)
  · refine r_iload_n (pc := 4) (j := 3) C dX12_copiesOf_4 rfl rfl ?_
    refine r_aload_n (pc := 5) (j := 0) C dX12_copiesOf_5 rfl rfl ?_
    refine r_bb ?_
    refine r_bd (fun q9013 e9014 => ?_)
    refine r_cV1 (pc := 6) (k := 262) (As := []) (st := [.int (zi s9006.2)]) C (m_X12_nodeMany  e9014) cal_X12_nodeMany cl_X12 kd_262 ln_262 q_2020 dX12_copiesOf_6 rfl rfl (Nat.le_of_ble_eq_true rfl) (Nat.le_of_ble_eq_true rfl) (Nat.le_of_ble_eq_true rfl) (Nat.le_of_ble_eq_true rfl) (Nat.le_of_ble_eq_true rfl) (fun h9012 => ?_)
    refine r_icmp_ge (tgt := 55) C h9007.2 h9012 dX12_copiesOf_9 (by decide) (fun c9015 => ?_) (fun c9015 => ?_)
    · refine r_bf c9015 ?_
      refine r_L (L' := [(2, .int (zi s9006.1))]) [2] rfl ?_
      exact k9011 s9006.1 h9007.1
    · refine r_bt c9015 ?_
      refine r_iload_n (pc := 12) (j := 2) C dX12_copiesOf_12 rfl rfl ?_
      refine r_aload_n (pc := 13) (j := 0) C dX12_copiesOf_13 rfl rfl ?_
      refine r_iload_n (pc := 14) (j := 3) C dX12_copiesOf_14 rfl rfl ?_
      refine r_bb ?_
      refine r_bd (fun q9017 e9018 => ?_)
      refine r_cV1 (pc := 15) (k := 262) (As := [.int (zi s9006.2)]) (st := [.int (zi s9006.1)]) C (m_X12_isCopy (a1 := s9006.2) h9007.2 e9018) cal_X12_isCopy cl_X12 kd_262 ln_262 q_2253 dX12_copiesOf_15 rfl rfl (Nat.le_of_ble_eq_true rfl) (Nat.le_of_ble_eq_true rfl) (Nat.le_of_ble_eq_true rfl) (Nat.le_of_ble_eq_true rfl) (Nat.le_of_ble_eq_true rfl) (fun h9016 => ?_)
      refine r_bb ?_
      refine r_joinb (fun q9019 : Int => BR q9019) (fun q9019 => S) (fun q9019 => O) (fun q9019 => [(0, .ref (zad E 262)), (1, .int (zi a1)), (3, .int (zi s9006.2))]) 44 (fun q9019 => [.int (zi q9019), .int (zi s9006.1)]) (fun q9019 h9020 => ?_) (fun k9021 k9022 => ?_)
      · refine r_cS1 (pc := 44) (As := [.int (zi q9019)]) (st := [.int (zi s9006.1)]) C (m_X12_truth (a0 := q9019) h9020 rfl) cal_X12_truth q_1959 dX12_copiesOf_44 rfl rfl (Nat.le_of_ble_eq_true rfl) (Nat.le_of_ble_eq_true rfl) (Nat.le_of_ble_eq_true rfl) (Nat.le_of_ble_eq_true rfl) (Nat.le_of_ble_eq_true rfl) (fun h9032 => ?_)
        refine r_iadd C dX12_copiesOf_47 ?_
        refine r_bj ?_
        refine r_jv (IR_wr _) (fun v9033 h9034 => ?_)
        refine r_istore_n (L' := [(2, .int (zi v9033)), (0, .ref (zad E 262)), (1, .int (zi a1)), (3, .int (zi s9006.2))]) C dX12_copiesOf_48 rfl (by decide) rfl ?_
        refine r_iinc (j := 3) (L' := [(3, .int (zi (wr (s9006.2 + 1)))), (2, .int (zi v9033)), (0, .ref (zad E 262)), (1, .int (zi a1))]) C dX12_copiesOf_49 rfl (by decide) rfl ?_
        refine r_goto (tgt := 4) C dX12_copiesOf_52 (by decide) ?_
        refine r_L (L' := [(0, .ref (zad E 262)), (1, .int (zi a1)), (2, .int (zi v9033)), (3, .int (zi (wr (s9006.2 + 1))))]) [2, 3, 1, 0] rfl ?_
        exact k9009 (v9033, wr (s9006.2 + 1)) ⟨h9034, (IR_wr _)⟩
      · refine r_if_eq (tgt := 43) C h9016.ir dX12_copiesOf_18 (by decide) (fun c9023 => ?_) (fun c9023 => ?_)
        · refine r_bt c9023 ?_
          refine r_iconst (v := 0) C dX12_copiesOf_43 (by decide) ?_
          refine r_L (L' := [(0, .ref (zad E 262)), (1, .int (zi a1)), (3, .int (zi s9006.2))]) [0, 1, 3] rfl ?_
          exact k9022 0 (BRd rfl)
        · refine r_bf c9023 ?_
          refine r_iload_n (pc := 21) (j := 1) C dX12_copiesOf_21 rfl rfl ?_
          refine r_jkb (fun q9024 : Unit => True) (fun q9024 => S) (fun q9024 => O) (fun q9024 => [(0, .ref (zad E 262)), (1, .int (zi a1)), (3, .int (zi s9006.2))]) 39 (fun q9024 => [.int (zi s9006.1)]) (fun q9024 h9025 => ?_) (fun k9026 k9027 => ?_)
          · refine r_iconst (v := 1) C dX12_copiesOf_39 (by decide) ?_
            refine r_goto (tgt := 44) C dX12_copiesOf_40 (by decide) ?_
            exact k9022 1 (BRd rfl)
          · refine r_if_lt (tgt := 39) C ha1 dX12_copiesOf_22 (by decide) (fun c9028 => ?_) (fun c9028 => ?_)
            · refine r_bt c9028 ?_
              refine r_L (L' := [(0, .ref (zad E 262)), (1, .int (zi a1)), (3, .int (zi s9006.2))]) [0, 1, 3] rfl ?_
              exact k9027 () trivial
            · refine r_bf c9028 ?_
              refine r_aload_n (pc := 25) (j := 0) C dX12_copiesOf_25 rfl rfl ?_
              refine r_getR (j := 46) (r := 282) C cl_X12 kd_262 ln_262 (by decide) rfl r0_262_46 (by decide) q_1599 dX12_copiesOf_26 ?_
              refine r_sipush (v := 205) C dX12_copiesOf_29 (by decide) ?_
              refine r_iload_n (pc := 32) (j := 3) C dX12_copiesOf_32 rfl rfl ?_
              refine r_iadd C dX12_copiesOf_33 ?_
              refine r_bb ?_
              refine r_iald C kd_282 ln_282 gc_282 (IR_wr _) dX12_copiesOf_34 (fun v9029 h9030 => ?_)
              refine r_iload_n (pc := 35) (j := 1) C dX12_copiesOf_35 rfl rfl ?_
              refine r_icmp_ne (tgt := 43) C h9030 ha1 dX12_copiesOf_36 (by decide) (fun c9031 => ?_) (fun c9031 => ?_)
              · refine r_bf c9031 ?_
                refine r_iconst (v := 0) C dX12_copiesOf_43 (by decide) ?_
                refine r_L (L' := [(0, .ref (zad E 262)), (1, .int (zi a1)), (3, .int (zi s9006.2))]) [0, 1, 3] rfl ?_
                exact k9022 0 (BRd rfl)
              · refine r_bt c9031 ?_
                refine r_L (L' := [(0, .ref (zad E 262)), (1, .int (zi a1)), (3, .int (zi s9006.2))]) [0, 1, 3] rfl ?_
                exact k9027 () trivial

def f_X12_copies (a1 : Int) (O : Smo) : Option (Int) :=
  if (a1 = (-1) ∨ ¬ f_X12_isSegment a1 O = 0) then
    (Option.bind (f_X12_copiesOf a1 O) fun (q9042 : Int) =>
    some q9042)
  else
    (some (-2))
set_option maxRecDepth 100000 in
set_option maxHeartbeats 4000000 in
theorem m_X12_copies {l : Launch} {E : EwT} {S : Sst} {O : Smo} {a1 : Int} (ha1 : IR a1) {q : Int} (hq : f_X12_copies a1 O = some q) : MetG l E yX12_copies cX12_copies 2 (some .int) 3 65 0 0 n0 R0 S O [.ref (zad E 262), .int (zi a1)] (IR q) (some (.int (zi q))) n0 R0 S O := by
  refine ofG (L0 := [(0, .ref (zad E 262)), (1, .int (zi a1))]) hq (by decide +kernel) (Nat.le_of_ble_eq_true rfl) rfl (fun K _ C hQ => ?_)
  unfold f_X12_copies
  refine r_iload_n (pc := 0) (j := 1) C dX12_copies_0 rfl rfl ?_
  refine r_iconst (v := (-1)) C dX12_copies_1 (by decide) ?_
  refine r_cut (a1 = (-1) ∨ ¬ f_X12_isSegment a1 O = 0) 13 21 [] (fun c9038 => ?_) (fun c9038 => ?_) (fun k9039 k9040 => ?_)
  · refine r_t c9038 ?_
    refine r_aload_n (pc := 13) (j := 0) C dX12_copies_13 rfl rfl ?_
    refine r_iload_n (pc := 14) (j := 1) C dX12_copies_14 rfl rfl ?_
    refine r_bd (fun q9042 e9043 => ?_)
    refine r_cV1 (pc := 15) (k := 262) (As := [.int (zi a1)]) (st := []) C (m_X12_copiesOf (a1 := a1) ha1 e9043) cal_X12_copiesOf cl_X12 kd_262 ln_262 q_2249 dX12_copies_15 rfl rfl (Nat.le_of_ble_eq_true rfl) (Nat.le_of_ble_eq_true rfl) (Nat.le_of_ble_eq_true rfl) (Nat.le_of_ble_eq_true rfl) (Nat.le_of_ble_eq_true rfl) (fun h9041 => ?_)
    refine r_goto (tgt := 23) C dX12_copies_18 (by decide) ?_
    exact r_ireturn C hQ rfl dX12_copies_23 (fun e => by cases e; exact ⟨h9041, rfl, rfl, rfl, rfl, rfl⟩)
  · refine r_f c9038 ?_
    refine r_bipush (v := (-2)) C dX12_copies_21 (by decide) ?_
    exact r_ireturn C hQ rfl dX12_copies_23 (fun e => by cases e; exact ⟨(IRd rfl), rfl, rfl, rfl, rfl, rfl⟩)
  · refine r_icmp_eq (tgt := 13) C ha1 (IRd rfl) dX12_copies_2 (by decide) (fun c9044 => ?_) (fun c9044 => ?_)
    · exact k9039 (Or.inl c9044)
    · refine r_aload_n (pc := 5) (j := 0) C dX12_copies_5 rfl rfl ?_
      refine r_iload_n (pc := 6) (j := 1) C dX12_copies_6 rfl rfl ?_
      refine r_cV1 (pc := 7) (k := 262) (As := [.int (zi a1)]) (st := []) C (m_X12_isSegment (a1 := a1) ha1 rfl) cal_X12_isSegment cl_X12 kd_262 ln_262 q_1977 dX12_copies_7 rfl rfl (Nat.le_of_ble_eq_true rfl) (Nat.le_of_ble_eq_true rfl) (Nat.le_of_ble_eq_true rfl) (Nat.le_of_ble_eq_true rfl) (Nat.le_of_ble_eq_true rfl) (fun h9037 => ?_)
      refine r_if_eq (tgt := 21) C h9037.ir dX12_copies_10 (by decide) (fun c9045 => ?_) (fun c9045 => ?_)
      · exact k9040 (fun w => w.elim c9044 (fun x => x c9045))
      · exact k9039 (Or.inr c9045)

def f_X12_dearest (O : Smo) : Option (Int) :=
  Option.bind (lp (fun (s9066 : Int × Int) =>
    if O 262 47 < s9066.2 then
      (some (Sum.inr s9066.1))
    else
      (Option.bind (
        if s9066.1 < 0 then
          (some s9066.2)
        else
          (Option.bind (f_X12_costOf s9066.2 O) fun (q9080 : Int) =>
          Option.bind (f_X12_costOf s9066.1 O) fun (q9083 : Int) =>
          if q9083 < q9080 then
            (some s9066.2)
          else
            (some s9066.1))) fun (q9074 : Int) =>
      some (Sum.inl (q9074, wr (s9066.2 + 1))))) FU ((-1), 1)) fun (r9086 : Int) =>
  some r9086
set_option maxRecDepth 100000 in
set_option maxHeartbeats 4000000 in
theorem m_X12_dearest {l : Launch} {E : EwT} {S : Sst} {O : Smo}  {q : Int} (hq : f_X12_dearest O = some q) : MetG l E yX12_dearest cX12_dearest 3 (some .int) 3 65 0 0 n0 R0 S O [.ref (zad E 262)] (IR q) (some (.int (zi q))) n0 R0 S O := by
  refine ofG (L0 := [(0, .ref (zad E 262))]) hq (by decide +kernel) (Nat.le_of_ble_eq_true rfl) rfl (fun K _ C hQ => ?_)
  unfold f_X12_dearest
  refine r_iconst (v := (-1)) C dX12_dearest_0 (by decide) ?_
  refine r_istore_n (L' := [(1, .int (zi (-1))), (0, .ref (zad E 262))]) C dX12_dearest_1 rfl (by decide) rfl ?_
  refine r_iconst (v := 1) C dX12_dearest_2 (by decide) ?_
  refine r_istore_n (L' := [(2, .int (zi 1)), (1, .int (zi (-1))), (0, .ref (zad E 262))]) C dX12_dearest_3 rfl (by decide) rfl ?_
  refine r_L (L' := [(0, .ref (zad E 262)), (1, .int (zi (-1))), (2, .int (zi 1))]) [2, 1, 0] rfl ?_
  refine r_loop1 (fun s9066 : Int × Int => IR s9066.1 ∧ IR s9066.2) (fun s9066 => S) (fun s9066 => O) (fun s9066 => [(0, .ref (zad E 262)), (1, .int (zi s9066.1)), (2, .int (zi s9066.2))]) [] (fun r9086 : Int => IR r9086) (fun r9086 => S) (fun r9086 => O) (fun r9086 => [(1, .int (zi r9086))]) 37 (fun r9086 h9087 => ?_) (fun k9068 k9070 k9069 k9071 s9066 h9067 => ?_) ⟨(IRd rfl), (IRd rfl)⟩
  · refine r_iload_n (pc := 37) (j := 0) C dX12_dearest_37 rfl rfl ?_
    exact r_ireturn C hQ rfl dX12_dearest_38 (fun e => by cases e; exact ⟨h9087, rfl, rfl, rfl, rfl, rfl⟩)
  · refine r_iload_n (pc := 4) (j := 2) C dX12_dearest_4 rfl rfl ?_
    refine r_aload_n (pc := 5) (j := 0) C dX12_dearest_5 rfl rfl ?_
    refine r_getO (j := 47) C cl_X12 kd_262 ln_262 gc_262 (by decide) (by decide) rfl q_1600 dX12_dearest_6 (fun h9072 => ?_)
    refine r_icmp_gt (tgt := 37) C h9067.2 h9072 dX12_dearest_9 (by decide) (fun c9073 => ?_) (fun c9073 => ?_)
    · refine r_bt c9073 ?_
      refine r_L (L' := [(1, .int (zi s9066.1))]) [1] rfl ?_
      exact k9071 s9066.1 h9067.1
    · refine r_bf c9073 ?_
      refine r_iload_n (pc := 12) (j := 1) C dX12_dearest_12 rfl rfl ?_
      refine r_bb ?_
      refine r_joinb (fun q9074 : Int => IR q9074) (fun q9074 => S) (fun q9074 => O) (fun q9074 => [(0, .ref (zad E 262)), (1, .int (zi q9074)), (2, .int (zi s9066.2))]) 31 (fun q9074 => []) (fun q9074 h9075 => ?_) (fun k9076 k9077 => ?_)
      · refine r_iinc (j := 2) (L' := [(2, .int (zi (wr (s9066.2 + 1)))), (0, .ref (zad E 262)), (1, .int (zi q9074))]) C dX12_dearest_31 rfl (by decide) rfl ?_
        refine r_goto (tgt := 4) C dX12_dearest_34 (by decide) ?_
        refine r_L (L' := [(0, .ref (zad E 262)), (1, .int (zi q9074)), (2, .int (zi (wr (s9066.2 + 1))))]) [1, 2, 0] rfl ?_
        exact k9069 (q9074, wr (s9066.2 + 1)) ⟨h9075, (IR_wr _)⟩
      · refine r_if_lt (tgt := 29) C h9067.1 dX12_dearest_13 (by decide) (fun c9078 => ?_) (fun c9078 => ?_)
        · refine r_bt c9078 ?_
          refine r_iload_n (pc := 29) (j := 2) C dX12_dearest_29 rfl rfl ?_
          refine r_istore_n (L' := [(1, .int (zi s9066.2)), (0, .ref (zad E 262)), (2, .int (zi s9066.2))]) C dX12_dearest_30 rfl (by decide) rfl ?_
          refine r_L (L' := [(0, .ref (zad E 262)), (1, .int (zi s9066.2)), (2, .int (zi s9066.2))]) [1, 0, 2] rfl ?_
          exact k9077 s9066.2 h9067.2
        · refine r_bf c9078 ?_
          refine r_aload_n (pc := 16) (j := 0) C dX12_dearest_16 rfl rfl ?_
          refine r_iload_n (pc := 17) (j := 2) C dX12_dearest_17 rfl rfl ?_
          refine r_bb ?_
          refine r_bd (fun q9080 e9081 => ?_)
          refine r_cV1 (pc := 18) (k := 262) (As := [.int (zi s9066.2)]) (st := []) C (m_X12_costOf (a1 := s9066.2) h9067.2 e9081) cal_X12_costOf cl_X12 kd_262 ln_262 q_2118 dX12_dearest_18 rfl rfl (Nat.le_of_ble_eq_true rfl) (Nat.le_of_ble_eq_true rfl) (Nat.le_of_ble_eq_true rfl) (Nat.le_of_ble_eq_true rfl) (Nat.le_of_ble_eq_true rfl) (fun h9079 => ?_)
          refine r_aload_n (pc := 21) (j := 0) C dX12_dearest_21 rfl rfl ?_
          refine r_iload_n (pc := 22) (j := 1) C dX12_dearest_22 rfl rfl ?_
          refine r_bb ?_
          refine r_bd (fun q9083 e9084 => ?_)
          refine r_cV1 (pc := 23) (k := 262) (As := [.int (zi s9066.1)]) (st := [.int (zi q9080)]) C (m_X12_costOf (a1 := s9066.1) h9067.1 e9084) cal_X12_costOf cl_X12 kd_262 ln_262 q_2118 dX12_dearest_23 rfl rfl (Nat.le_of_ble_eq_true rfl) (Nat.le_of_ble_eq_true rfl) (Nat.le_of_ble_eq_true rfl) (Nat.le_of_ble_eq_true rfl) (Nat.le_of_ble_eq_true rfl) (fun h9082 => ?_)
          refine r_icmp_le (tgt := 31) C h9079 h9082 dX12_dearest_26 (by decide) (fun c9085 => ?_) (fun c9085 => ?_)
          · refine r_bf c9085 ?_
            exact k9077 s9066.1 h9067.1
          · refine r_bt c9085 ?_
            refine r_iload_n (pc := 29) (j := 2) C dX12_dearest_29 rfl rfl ?_
            refine r_istore_n (L' := [(1, .int (zi s9066.2)), (0, .ref (zad E 262)), (2, .int (zi s9066.2))]) C dX12_dearest_30 rfl (by decide) rfl ?_
            refine r_L (L' := [(0, .ref (zad E 262)), (1, .int (zi s9066.2)), (2, .int (zi s9066.2))]) [1, 0, 2] rfl ?_
            exact k9077 s9066.2 h9067.2

def f_X12_paid (O : Smo) : Option (Int) :=
  Option.bind (f_X12_writtenAll O) fun (q9089 : Int) =>
  Option.bind (f_X12_copiesOf (-1) O) fun (q9092 : Int) =>
  some (f_X12_greater 0 (wr (q9089 - (wr (q9092 * (wr ((O 262 40) - 1)))))))
set_option maxRecDepth 100000 in
set_option maxHeartbeats 4000000 in
theorem m_X12_paid {l : Launch} {E : EwT} {S : Sst} {O : Smo}  {q : Int} (hq : f_X12_paid O = some q) : MetG l E yX12_paid cX12_paid 1 (some .int) 3 66 0 0 n0 R0 S O [.ref (zad E 262)] (IR q) (some (.int (zi q))) n0 R0 S O := by
  refine ofG (L0 := [(0, .ref (zad E 262))]) hq (by decide +kernel) (Nat.le_of_ble_eq_true rfl) rfl (fun K _ C hQ => ?_)
  unfold f_X12_paid
  refine r_iconst (v := 0) C dX12_paid_0 (by decide) ?_
  refine r_aload_n (pc := 1) (j := 0) C dX12_paid_1 rfl rfl ?_
  refine r_bd (fun q9089 e9090 => ?_)
  refine r_cV1 (pc := 2) (k := 262) (As := []) (st := [.int (zi 0)]) C (m_X12_writtenAll  e9090) cal_X12_writtenAll cl_X12 kd_262 ln_262 q_2241 dX12_paid_2 rfl rfl (Nat.le_of_ble_eq_true rfl) (Nat.le_of_ble_eq_true rfl) (Nat.le_of_ble_eq_true rfl) (Nat.le_of_ble_eq_true rfl) (Nat.le_of_ble_eq_true rfl) (fun h9088 => ?_)
  refine r_aload_n (pc := 5) (j := 0) C dX12_paid_5 rfl rfl ?_
  refine r_iconst (v := (-1)) C dX12_paid_6 (by decide) ?_
  refine r_bd (fun q9092 e9093 => ?_)
  refine r_cV1 (pc := 7) (k := 262) (As := [.int (zi (-1))]) (st := [.int (zi q9089), .int (zi 0)]) C (m_X12_copiesOf (a1 := (-1)) (IRd rfl) e9093) cal_X12_copiesOf cl_X12 kd_262 ln_262 q_2249 dX12_paid_7 rfl rfl (Nat.le_of_ble_eq_true rfl) (Nat.le_of_ble_eq_true rfl) (Nat.le_of_ble_eq_true rfl) (Nat.le_of_ble_eq_true rfl) (Nat.le_of_ble_eq_true rfl) (fun h9091 => ?_)
  refine r_aload_n (pc := 10) (j := 0) C dX12_paid_10 rfl rfl ?_
  refine r_getO (j := 40) C cl_X12 kd_262 ln_262 gc_262 (by decide) (by decide) rfl q_1593 dX12_paid_11 (fun h9094 => ?_)
  refine r_iconst (v := 1) C dX12_paid_14 (by decide) ?_
  refine r_isub C dX12_paid_15 ?_
  refine r_imul C dX12_paid_16 ?_
  refine r_isub C dX12_paid_17 ?_
  refine r_cS1 (pc := 18) (As := [.int (zi 0), .int (zi (wr (q9089 - (wr (q9092 * (wr ((O 262 40) - 1)))))))]) (st := []) C (m_X12_greater (a0 := 0) (a1 := wr (q9089 - (wr (q9092 * (wr ((O 262 40) - 1)))))) (IRd rfl) (IR_wr _) rfl) cal_X12_greater q_1894 dX12_paid_18 rfl rfl (Nat.le_of_ble_eq_true rfl) (Nat.le_of_ble_eq_true rfl) (Nat.le_of_ble_eq_true rfl) (Nat.le_of_ble_eq_true rfl) (Nat.le_of_ble_eq_true rfl) (fun h9095 => ?_)
  exact r_ireturn C hQ rfl dX12_paid_21 (fun e => by cases e; exact ⟨h9095, rfl, rfl, rfl, rfl, rfl⟩)

def f_X12_credit (O : Smo) : Option (Int) :=
  Option.bind (lp (fun (s9120 : Int × Int) =>
    Option.bind (f_X12_nodeMany O) fun (q9127 : Int) =>
    if s9120.2 < q9127 then
      (Option.bind (f_X12_isThere s9120.2 O) fun (q9131 : Int) =>
      Option.bind (
        if q9131 = 0 then
          (some 0)
        else
          (Option.bind (f_X12_usedUpTo s9120.2 (O 262 47) O) fun (q9140 : Int) =>
          some q9140)) fun (q9133 : Int) =>
      jn (wr (s9120.1 + q9133)) fun (v9142 : Int) =>
      some (Sum.inl (v9142, wr (s9120.2 + 1))))
    else
      (some (Sum.inr s9120.1))) FU (0, 0)) fun (r9144 : Int) =>
  some r9144
set_option maxRecDepth 100000 in
set_option maxHeartbeats 4000000 in
theorem m_X12_credit {l : Launch} {E : EwT} {S : Sst} {O : Smo}  {q : Int} (hq : f_X12_credit O = some q) : MetG l E yX12_credit cX12_credit 3 (some .int) 3 66 0 0 n0 R0 S O [.ref (zad E 262)] (IR q) (some (.int (zi q))) n0 R0 S O := by
  refine ofG (L0 := [(0, .ref (zad E 262))]) hq (by decide +kernel) (Nat.le_of_ble_eq_true rfl) rfl (fun K _ C hQ => ?_)
  unfold f_X12_credit
  refine r_iconst (v := 0) C dX12_credit_0 (by decide) ?_
  refine r_istore_n (L' := [(1, .int (zi 0)), (0, .ref (zad E 262))]) C dX12_credit_1 rfl (by decide) rfl ?_
  refine r_iconst (v := 0) C dX12_credit_2 (by decide) ?_
  refine r_istore_n (L' := [(2, .int (zi 0)), (1, .int (zi 0)), (0, .ref (zad E 262))]) C dX12_credit_3 rfl (by decide) rfl ?_
  refine r_L (L' := [(0, .ref (zad E 262)), (1, .int (zi 0)), (2, .int (zi 0))]) [2, 1, 0] rfl ?_
  refine r_loop1 (fun s9120 : Int × Int => IR s9120.1 ∧ IR s9120.2) (fun s9120 => S) (fun s9120 => O) (fun s9120 => [(0, .ref (zad E 262)), (1, .int (zi s9120.1)), (2, .int (zi s9120.2))]) [] (fun r9144 : Int => IR r9144) (fun r9144 => S) (fun r9144 => O) (fun r9144 => [(1, .int (zi r9144))]) 42 (fun r9144 h9145 => ?_) (fun k9122 k9124 k9123 k9125 s9120 h9121 => ?_) ⟨(IRd rfl), (IRd rfl)⟩
  · refine r_iload_n (pc := 42) (j := 0) C dX12_credit_42 rfl rfl ?_
    exact r_ireturn C hQ rfl dX12_credit_43 (fun e => by cases e; exact ⟨h9145, rfl, rfl, rfl, rfl, rfl⟩)
  · refine r_iload_n (pc := 4) (j := 2) C dX12_credit_4 rfl rfl ?_
    refine r_aload_n (pc := 5) (j := 0) C dX12_credit_5 rfl rfl ?_
    refine r_bb ?_
    refine r_bd (fun q9127 e9128 => ?_)
    refine r_cV1 (pc := 6) (k := 262) (As := []) (st := [.int (zi s9120.2)]) C (m_X12_nodeMany  e9128) cal_X12_nodeMany cl_X12 kd_262 ln_262 q_2020 dX12_credit_6 rfl rfl (Nat.le_of_ble_eq_true rfl) (Nat.le_of_ble_eq_true rfl) (Nat.le_of_ble_eq_true rfl) (Nat.le_of_ble_eq_true rfl) (Nat.le_of_ble_eq_true rfl) (fun h9126 => ?_)
    refine r_icmp_ge (tgt := 42) C h9121.2 h9126 dX12_credit_9 (by decide) (fun c9129 => ?_) (fun c9129 => ?_)
    · refine r_bf c9129 ?_
      refine r_L (L' := [(1, .int (zi s9120.1))]) [1] rfl ?_
      exact k9125 s9120.1 h9121.1
    · refine r_bt c9129 ?_
      refine r_iload_n (pc := 12) (j := 1) C dX12_credit_12 rfl rfl ?_
      refine r_aload_n (pc := 13) (j := 0) C dX12_credit_13 rfl rfl ?_
      refine r_iload_n (pc := 14) (j := 2) C dX12_credit_14 rfl rfl ?_
      refine r_bb ?_
      refine r_bd (fun q9131 e9132 => ?_)
      refine r_cV1 (pc := 15) (k := 262) (As := [.int (zi s9120.2)]) (st := [.int (zi s9120.1)]) C (m_X12_isThere (a1 := s9120.2) h9121.2 e9132) cal_X12_isThere cl_X12 kd_262 ln_262 q_2142 dX12_credit_15 rfl rfl (Nat.le_of_ble_eq_true rfl) (Nat.le_of_ble_eq_true rfl) (Nat.le_of_ble_eq_true rfl) (Nat.le_of_ble_eq_true rfl) (Nat.le_of_ble_eq_true rfl) (fun h9130 => ?_)
      refine r_bb ?_
      refine r_joinb (fun q9133 : Int => IR q9133) (fun q9133 => S) (fun q9133 => O) (fun q9133 => [(0, .ref (zad E 262)), (2, .int (zi s9120.2))]) 34 (fun q9133 => [.int (zi q9133), .int (zi s9120.1)]) (fun q9133 h9134 => ?_) (fun k9135 k9136 => ?_)
      · refine r_iadd C dX12_credit_34 ?_
        refine r_bj ?_
        refine r_jv (IR_wr _) (fun v9142 h9143 => ?_)
        refine r_istore_n (L' := [(1, .int (zi v9142)), (0, .ref (zad E 262)), (2, .int (zi s9120.2))]) C dX12_credit_35 rfl (by decide) rfl ?_
        refine r_iinc (j := 2) (L' := [(2, .int (zi (wr (s9120.2 + 1)))), (1, .int (zi v9142)), (0, .ref (zad E 262))]) C dX12_credit_36 rfl (by decide) rfl ?_
        refine r_goto (tgt := 4) C dX12_credit_39 (by decide) ?_
        refine r_L (L' := [(0, .ref (zad E 262)), (1, .int (zi v9142)), (2, .int (zi (wr (s9120.2 + 1))))]) [2, 1, 0] rfl ?_
        exact k9123 (v9142, wr (s9120.2 + 1)) ⟨h9143, (IR_wr _)⟩
      · refine r_if_eq (tgt := 33) C h9130.ir dX12_credit_18 (by decide) (fun c9137 => ?_) (fun c9137 => ?_)
        · refine r_bt c9137 ?_
          refine r_iconst (v := 0) C dX12_credit_33 (by decide) ?_
          refine r_L (L' := [(0, .ref (zad E 262)), (2, .int (zi s9120.2))]) [0, 2] rfl ?_
          exact k9136 0 (IRd rfl)
        · refine r_bf c9137 ?_
          refine r_aload_n (pc := 21) (j := 0) C dX12_credit_21 rfl rfl ?_
          refine r_iload_n (pc := 22) (j := 2) C dX12_credit_22 rfl rfl ?_
          refine r_aload_n (pc := 23) (j := 0) C dX12_credit_23 rfl rfl ?_
          refine r_getO (j := 47) C cl_X12 kd_262 ln_262 gc_262 (by decide) (by decide) rfl q_1600 dX12_credit_24 (fun h9138 => ?_)
          refine r_bb ?_
          refine r_bd (fun q9140 e9141 => ?_)
          refine r_cV1 (pc := 27) (k := 262) (As := [.int (zi s9120.2), .int (zi (O 262 47))]) (st := [.int (zi s9120.1)]) C (m_X12_usedUpTo (a1 := s9120.2) (a2 := O 262 47) h9121.2 h9138 e9141) cal_X12_usedUpTo cl_X12 kd_262 ln_262 q_2024 dX12_credit_27 rfl rfl (Nat.le_of_ble_eq_true rfl) (Nat.le_of_ble_eq_true rfl) (Nat.le_of_ble_eq_true rfl) (Nat.le_of_ble_eq_true rfl) (Nat.le_of_ble_eq_true rfl) (fun h9139 => ?_)
          refine r_goto (tgt := 34) C dX12_credit_30 (by decide) ?_
          refine r_L (L' := [(0, .ref (zad E 262)), (2, .int (zi s9120.2))]) [0, 2] rfl ?_
          exact k9136 q9140 h9139

def f_X12_simNodeOf (a1 : Int) (O : Smo) : Option (Int) :=
  if a1 < 0 then
    (some (-1))
  else
    (Option.bind (aget (O 293) (Ln 293) a1) fun (v9147 : Int) =>
    some v9147)
set_option maxRecDepth 100000 in
set_option maxHeartbeats 4000000 in
theorem m_X12_simNodeOf {l : Launch} {E : EwT} {S : Sst} {O : Smo} {a1 : Int} (ha1 : IR a1) {q : Int} (hq : f_X12_simNodeOf a1 O = some q) : MetG l E yX12_simNodeOf cX12_simNodeOf 2 (some .int) 0 0 0 0 n0 R0 S O [.ref (zad E 262), .int (zi a1)] (IR q) (some (.int (zi q))) n0 R0 S O := by
  refine ofG (L0 := [(0, .ref (zad E 262)), (1, .int (zi a1))]) hq (by decide +kernel) (Nat.le_of_ble_eq_true rfl) rfl (fun K _ C hQ => ?_)
  unfold f_X12_simNodeOf
  refine r_iload_n (pc := 0) (j := 1) C dX12_simNodeOf_0 rfl rfl ?_
  refine r_if_ge (tgt := 8) C ha1 dX12_simNodeOf_1 (by decide) (fun c9146 => ?_) (fun c9146 => ?_)
  · refine r_f c9146 ?_
    refine r_aload_n (pc := 8) (j := 0) C dX12_simNodeOf_8 rfl rfl ?_
    refine r_getR (j := 63) (r := 293) C cl_X12 kd_262 ln_262 (by decide) rfl r0_262_63 (by decide) q_1616 dX12_simNodeOf_9 ?_
    refine r_iload_n (pc := 12) (j := 1) C dX12_simNodeOf_12 rfl rfl ?_
    refine r_iald C kd_293 ln_293 gc_293 ha1 dX12_simNodeOf_13 (fun v9147 h9148 => ?_)
    exact r_ireturn C hQ rfl dX12_simNodeOf_14 (fun e => by cases e; exact ⟨h9148, rfl, rfl, rfl, rfl, rfl⟩)
  · refine r_t c9146 ?_
    refine r_iconst (v := (-1)) C dX12_simNodeOf_4 (by decide) ?_
    refine r_goto (tgt := 14) C dX12_simNodeOf_5 (by decide) ?_
    exact r_ireturn C hQ rfl dX12_simNodeOf_14 (fun e => by cases e; exact ⟨(IRd rfl), rfl, rfl, rfl, rfl, rfl⟩)

def f_X12_isSimCopied (a1 : Int) (a2 : Int) (a3 : Int) (O : Smo) : Option (Int × Smo) :=
  Option.bind (aget (O 284) (Ln 284) a1) fun (v9149 : Int) =>
  Option.bind (f_X12_simNodeOf v9149 O) fun (q9152 : Int) =>
  Option.bind (aget (O 285) (Ln 285) a1) fun (v9154 : Int) =>
  Option.bind (f_X12_simNodeOf v9154 O) fun (q9157 : Int) =>
  Option.bind (aget (O 294) (Ln 294) a1) fun (v9159 : Int) =>
  jn (
    if v9159 = q9152 then
      (0)
    else
      (1)) fun (q9161 : Int) =>
  Option.bind (aget (O 295) (Ln 295) a1) fun (v9167 : Int) =>
  jn (
    if v9167 = q9157 then
      (0)
    else
      (1)) fun (q9169 : Int) =>
  jn (wr ((f_X12_truth q9161) + (f_X12_truth q9169))) fun (v9175 : Int) =>
  Option.bind (
    if a2 = 0 then
      (some 1)
    else
      (Option.bind (aget (O 296) (Ln 296) a1) fun (v9182 : Int) =>
      if a3 < wr (v9182 + v9175) then
        (some 1)
      else
        (some 0))) fun (q9177 : Int) =>
  Option.bind (asetO O 294 (Ln 294) a1 q9152) fun (O9185 : Smo) =>
  Option.bind (asetO O9185 295 (Ln 295) a1 q9157) fun (O9186 : Smo) =>
  Option.bind (
    if q9177 = 0 then
      (Option.bind (aget (O9186 296) (Ln 296) a1) fun (v9192 : Int) =>
      some (wr (v9192 + v9175)))
    else
      (some 0)) fun (q9187 : Int) =>
  Option.bind (asetO O9186 296 (Ln 296) a1 q9187) fun (O9194 : Smo) =>
  Option.bind (
    if q9177 = 0 then
      (some O9194)
    else
      (Option.bind (asetO O9194 293 (Ln 293) a1 (O9194 262 67)) fun (O9201 : Smo) =>
      jn (up2 O9201 262 67 (wr ((O9201 262 67) + 1))) fun (O9203 : Smo) =>
      some O9203)) fun (q9195 : Smo) =>
  if (q9177 = 0 ∨ a2 = 0) then
    (some (0, q9195))
  else
    (some (1, q9195))
set_option maxRecDepth 100000 in
set_option maxHeartbeats 4000000 in
theorem m_X12_isSimCopied {l : Launch} {E : EwT} {S : Sst} {O : Smo} {a1 : Int} (ha1 : IR a1) {a2 : Int} (ha2 : BR a2) {a3 : Int} (ha3 : IR a3) {q : Int × Smo} (hq : f_X12_isSimCopied a1 a2 a3 O = some q) : MetG l E yX12_isSimCopied cX12_isSimCopied 8 (some .boolean) 1 21 0 0 n0 R0 S O [.ref (zad E 262), .int (zi a1), .int (zi a2), .int (zi a3)] (BR q.1) (some (.int (zi q.1))) n0 R0 S q.2 := by
  refine ofG (L0 := [(0, .ref (zad E 262)), (1, .int (zi a1)), (2, .int (zi a2)), (3, .int (zi a3))]) hq (by decide +kernel) (Nat.le_of_ble_eq_true rfl) rfl (fun K _ C hQ => ?_)
  unfold f_X12_isSimCopied
  refine r_aload_n (pc := 0) (j := 0) C dX12_isSimCopied_0 rfl rfl ?_
  refine r_aload_n (pc := 1) (j := 0) C dX12_isSimCopied_1 rfl rfl ?_
  refine r_getR (j := 51) (r := 284) C cl_X12 kd_262 ln_262 (by decide) rfl r0_262_51 (by decide) q_1604 dX12_isSimCopied_2 ?_
  refine r_iload_n (pc := 5) (j := 1) C dX12_isSimCopied_5 rfl rfl ?_
  refine r_iald C kd_284 ln_284 gc_284 ha1 dX12_isSimCopied_6 (fun v9149 h9150 => ?_)
  refine r_bd (fun q9152 e9153 => ?_)
  refine r_cV1 (pc := 7) (k := 262) (As := [.int (zi v9149)]) (st := []) C (m_X12_simNodeOf (a1 := v9149) h9150 e9153) cal_X12_simNodeOf cl_X12 kd_262 ln_262 q_2277 dX12_isSimCopied_7 rfl rfl (Nat.le_of_ble_eq_true rfl) (Nat.le_of_ble_eq_true rfl) (Nat.le_of_ble_eq_true rfl) (Nat.le_of_ble_eq_true rfl) (Nat.le_of_ble_eq_true rfl) (fun h9151 => ?_)
  refine r_istore (L' := [(4, .int (zi q9152)), (0, .ref (zad E 262)), (1, .int (zi a1)), (2, .int (zi a2)), (3, .int (zi a3))]) C dX12_isSimCopied_10 (by decide) rfl ?_
  refine r_aload_n (pc := 12) (j := 1) C dX12_isSimCopied_12 rfl rfl ?_
  refine r_aload_n (pc := 13) (j := 1) C dX12_isSimCopied_13 rfl rfl ?_
  refine r_getR (j := 52) (r := 285) C cl_X12 kd_262 ln_262 (by decide) rfl r0_262_52 (by decide) q_1605 dX12_isSimCopied_14 ?_
  refine r_iload_n (pc := 17) (j := 2) C dX12_isSimCopied_17 rfl rfl ?_
  refine r_iald C kd_285 ln_285 gc_285 ha1 dX12_isSimCopied_18 (fun v9154 h9155 => ?_)
  refine r_bd (fun q9157 e9158 => ?_)
  refine r_cV1 (pc := 19) (k := 262) (As := [.int (zi v9154)]) (st := []) C (m_X12_simNodeOf (a1 := v9154) h9155 e9158) cal_X12_simNodeOf cl_X12 kd_262 ln_262 q_2277 dX12_isSimCopied_19 rfl rfl (Nat.le_of_ble_eq_true rfl) (Nat.le_of_ble_eq_true rfl) (Nat.le_of_ble_eq_true rfl) (Nat.le_of_ble_eq_true rfl) (Nat.le_of_ble_eq_true rfl) (fun h9156 => ?_)
  refine r_istore (L' := [(5, .int (zi q9157)), (4, .int (zi q9152)), (0, .ref (zad E 262)), (1, .int (zi a1)), (2, .int (zi a2)), (3, .int (zi a3))]) C dX12_isSimCopied_22 (by decide) rfl ?_
  refine r_aload_n (pc := 24) (j := 2) C dX12_isSimCopied_24 rfl rfl ?_
  refine r_getR (j := 64) (r := 294) C cl_X12 kd_262 ln_262 (by decide) rfl r0_262_64 (by decide) q_1617 dX12_isSimCopied_25 ?_
  refine r_iload_n (pc := 28) (j := 3) C dX12_isSimCopied_28 rfl rfl ?_
  refine r_iald C kd_294 ln_294 gc_294 ha1 dX12_isSimCopied_29 (fun v9159 h9160 => ?_)
  refine r_iload (pc := 30) (j := 1) C dX12_isSimCopied_30 rfl ?_
  refine r_join (fun q9161 : Int => BR q9161) (fun q9161 => S) (fun q9161 => O) (fun q9161 => [(0, .ref (zad E 262)), (1, .int (zi a1)), (2, .int (zi a2)), (3, .int (zi a3)), (4, .int (zi q9152)), (5, .int (zi q9157))]) 40 (fun q9161 => [.int (zi q9161)]) (fun q9161 h9162 => ?_) (fun k9163 k9164 => ?_)
  · refine r_cS1 (pc := 40) (As := [.int (zi q9161)]) (st := []) C (m_X12_truth (a0 := q9161) h9162 rfl) cal_X12_truth q_1959 dX12_isSimCopied_40 rfl rfl (Nat.le_of_ble_eq_true rfl) (Nat.le_of_ble_eq_true rfl) (Nat.le_of_ble_eq_true rfl) (Nat.le_of_ble_eq_true rfl) (Nat.le_of_ble_eq_true rfl) (fun h9166 => ?_)
    refine r_aload_n (pc := 43) (j := 0) C dX12_isSimCopied_43 rfl rfl ?_
    refine r_getR (j := 65) (r := 295) C cl_X12 kd_262 ln_262 (by decide) rfl r0_262_65 (by decide) q_1618 dX12_isSimCopied_44 ?_
    refine r_iload_n (pc := 47) (j := 1) C dX12_isSimCopied_47 rfl rfl ?_
    refine r_iald C kd_295 ln_295 gc_295 ha1 dX12_isSimCopied_48 (fun v9167 h9168 => ?_)
    refine r_iload (pc := 49) (j := 5) C dX12_isSimCopied_49 rfl ?_
    refine r_join (fun q9169 : Int => BR q9169) (fun q9169 => S) (fun q9169 => O) (fun q9169 => [(0, .ref (zad E 262)), (1, .int (zi a1)), (2, .int (zi a2)), (3, .int (zi a3)), (4, .int (zi q9152)), (5, .int (zi q9157))]) 59 (fun q9169 => [.int (zi q9169), .int (zi (f_X12_truth q9161))]) (fun q9169 h9170 => ?_) (fun k9171 k9172 => ?_)
    · refine r_cS1 (pc := 59) (As := [.int (zi q9169)]) (st := [.int (zi (f_X12_truth q9161))]) C (m_X12_truth (a0 := q9169) h9170 rfl) cal_X12_truth q_1959 dX12_isSimCopied_59 rfl rfl (Nat.le_of_ble_eq_true rfl) (Nat.le_of_ble_eq_true rfl) (Nat.le_of_ble_eq_true rfl) (Nat.le_of_ble_eq_true rfl) (Nat.le_of_ble_eq_true rfl) (fun h9174 => ?_)
      refine r_iadd C dX12_isSimCopied_62 ?_
      refine r_jv (IR_wr _) (fun v9175 h9176 => ?_)
      refine r_istore (L' := [(6, .int (zi v9175)), (0, .ref (zad E 262)), (1, .int (zi a1)), (2, .int (zi a2)), (3, .int (zi a3)), (4, .int (zi q9152)), (5, .int (zi q9157))]) C dX12_isSimCopied_63 (by decide) rfl ?_
      refine r_iload_n (pc := 65) (j := 3) C dX12_isSimCopied_65 rfl rfl ?_
      refine r_joinb (fun q9177 : Int => BR q9177) (fun q9177 => S) (fun q9177 => O) (fun q9177 => [(0, .ref (zad E 262)), (1, .int (zi a1)), (2, .int (zi a2)), (4, .int (zi q9152)), (5, .int (zi q9157)), (6, .int (zi v9175))]) 87 (fun q9177 => [.int (zi q9177)]) (fun q9177 h9178 => ?_) (fun k9179 k9180 => ?_)
      · refine r_istore (L' := [(7, .int (zi q9177)), (0, .ref (zad E 262)), (1, .int (zi a1)), (2, .int (zi a2)), (4, .int (zi q9152)), (5, .int (zi q9157)), (6, .int (zi v9175))]) C dX12_isSimCopied_87 (by decide) rfl ?_
        refine r_aload_n (pc := 89) (j := 1) C dX12_isSimCopied_89 rfl rfl ?_
        refine r_getR (j := 64) (r := 294) C cl_X12 kd_262 ln_262 (by decide) rfl r0_262_64 (by decide) q_1617 dX12_isSimCopied_90 ?_
        refine r_iload_n (pc := 93) (j := 2) C dX12_isSimCopied_93 rfl rfl ?_
        refine r_iload (pc := 94) (j := 4) C dX12_isSimCopied_94 rfl ?_
        refine r_iast C kd_294 ln_294 gc_294 ha1 h9151 dX12_isSimCopied_96 (fun O9185 => ?_)
        refine r_aload_n (pc := 97) (j := 1) C dX12_isSimCopied_97 rfl rfl ?_
        refine r_getR (j := 65) (r := 295) C cl_X12 kd_262 ln_262 (by decide) rfl r0_262_65 (by decide) q_1618 dX12_isSimCopied_98 ?_
        refine r_iload_n (pc := 101) (j := 2) C dX12_isSimCopied_101 rfl rfl ?_
        refine r_iload (pc := 102) (j := 5) C dX12_isSimCopied_102 rfl ?_
        refine r_iast C kd_295 ln_295 gc_295 ha1 h9156 dX12_isSimCopied_104 (fun O9186 => ?_)
        refine r_aload_n (pc := 105) (j := 1) C dX12_isSimCopied_105 rfl rfl ?_
        refine r_getR (j := 66) (r := 296) C cl_X12 kd_262 ln_262 (by decide) rfl r0_262_66 (by decide) q_1619 dX12_isSimCopied_106 ?_
        refine r_iload_n (pc := 109) (j := 2) C dX12_isSimCopied_109 rfl rfl ?_
        refine r_iload (pc := 110) (j := 0) C dX12_isSimCopied_110 rfl ?_
        refine r_joinb (fun q9187 : Int => IR q9187) (fun q9187 => S) (fun q9187 => O9186) (fun q9187 => [(0, .ref (zad E 262)), (1, .int (zi a1)), (2, .int (zi a2)), (7, .int (zi q9177))]) 128 (fun q9187 => [.int (zi q9187), .int (zi a1), .ref (zad E 296)]) (fun q9187 h9188 => ?_) (fun k9189 k9190 => ?_)
        · refine r_iast C kd_296 ln_296 gc_296 ha1 h9188 dX12_isSimCopied_128 (fun O9194 => ?_)
          refine r_iload (pc := 129) (j := 3) C dX12_isSimCopied_129 rfl ?_
          refine r_joinb (fun q9195 : Smo => True) (fun q9195 => S) (fun q9195 => q9195) (fun q9195 => [(2, .int (zi a2)), (7, .int (zi q9177))]) 154 (fun q9195 => []) (fun q9195 h9196 => ?_) (fun k9197 k9198 => ?_)
          · refine r_iload (pc := 154) (j := 1) C dX12_isSimCopied_154 rfl ?_
            refine r_cut (q9177 = 0 ∨ a2 = 0) 167 163 [] (fun c9204 => ?_) (fun c9204 => ?_) (fun k9205 k9206 => ?_)
            · refine r_t c9204 ?_
              refine r_iconst (v := 0) C dX12_isSimCopied_167 (by decide) ?_
              exact r_ireturn C hQ (nar_z (BRd rfl)) dX12_isSimCopied_168 (fun e => by cases e; exact ⟨(BRd rfl), rfl, rfl, rfl, rfl, rfl⟩)
            · refine r_f c9204 ?_
              refine r_iconst (v := 1) C dX12_isSimCopied_163 (by decide) ?_
              refine r_goto (tgt := 168) C dX12_isSimCopied_164 (by decide) ?_
              exact r_ireturn C hQ (nar_z (BRd rfl)) dX12_isSimCopied_168 (fun e => by cases e; exact ⟨(BRd rfl), rfl, rfl, rfl, rfl, rfl⟩)
            · refine r_if_eq (tgt := 167) C h9178.ir dX12_isSimCopied_156 (by decide) (fun c9207 => ?_) (fun c9207 => ?_)
              · exact k9205 (Or.inl c9207)
              · refine r_iload_n (pc := 159) (j := 0) C dX12_isSimCopied_159 rfl rfl ?_
                refine r_if_eq (tgt := 167) C ha2.ir dX12_isSimCopied_160 (by decide) (fun c9208 => ?_) (fun c9208 => ?_)
                · exact k9205 (Or.inr c9208)
                · exact k9206 (fun w => w.elim c9207 c9208)
          · refine r_if_eq (tgt := 154) C h9178.ir dX12_isSimCopied_131 (by decide) (fun c9199 => ?_) (fun c9199 => ?_)
            · refine r_bt c9199 ?_
              refine r_L (L' := [(2, .int (zi a2)), (7, .int (zi q9177))]) [2, 3] rfl ?_
              exact k9198 O9194 trivial
            · refine r_bf c9199 ?_
              refine r_aload_n (pc := 134) (j := 0) C dX12_isSimCopied_134 rfl rfl ?_
              refine r_getR (j := 63) (r := 293) C cl_X12 kd_262 ln_262 (by decide) rfl r0_262_63 (by decide) q_1616 dX12_isSimCopied_135 ?_
              refine r_iload_n (pc := 138) (j := 1) C dX12_isSimCopied_138 rfl rfl ?_
              refine r_aload_n (pc := 139) (j := 0) C dX12_isSimCopied_139 rfl rfl ?_
              refine r_getO (j := 67) C cl_X12 kd_262 ln_262 gc_262 (by decide) (by decide) rfl q_1620 dX12_isSimCopied_140 (fun h9200 => ?_)
              refine r_bb ?_
              refine r_iast C kd_293 ln_293 gc_293 ha1 h9200 dX12_isSimCopied_143 (fun O9201 => ?_)
              refine r_aload_n (pc := 144) (j := 0) C dX12_isSimCopied_144 rfl rfl ?_
              refine r_dup C dX12_isSimCopied_145 rfl ?_
              refine r_getO (j := 67) C cl_X12 kd_262 ln_262 gc_262 (by decide) (by decide) rfl q_1620 dX12_isSimCopied_146 (fun h9202 => ?_)
              refine r_iconst (v := 1) C dX12_isSimCopied_149 (by decide) ?_
              refine r_iadd C dX12_isSimCopied_150 ?_
              refine r_bj ?_
              refine r_putO C cl_X12 kd_262 ln_262 gc_262 (by decide) (by decide) rfl rfl rfl (IR_wr _) q_1620 dX12_isSimCopied_151 (fun O9203 => ?_)
              refine r_L (L' := [(2, .int (zi a2)), (7, .int (zi q9177))]) [2, 3] rfl ?_
              exact k9198 O9203 trivial
        · refine r_if_eq (tgt := 119) C h9178.ir dX12_isSimCopied_112 (by decide) (fun c9191 => ?_) (fun c9191 => ?_)
          · refine r_bt c9191 ?_
            refine r_aload_n (pc := 119) (j := 1) C dX12_isSimCopied_119 rfl rfl ?_
            refine r_getR (j := 66) (r := 296) C cl_X12 kd_262 ln_262 (by decide) rfl r0_262_66 (by decide) q_1619 dX12_isSimCopied_120 ?_
            refine r_iload_n (pc := 123) (j := 2) C dX12_isSimCopied_123 rfl rfl ?_
            refine r_bb ?_
            refine r_iald C kd_296 ln_296 gc_296 ha1 dX12_isSimCopied_124 (fun v9192 h9193 => ?_)
            refine r_iload (pc := 125) (j := 6) C dX12_isSimCopied_125 rfl ?_
            refine r_iadd C dX12_isSimCopied_127 ?_
            refine r_L (L' := [(0, .ref (zad E 262)), (1, .int (zi a1)), (2, .int (zi a2)), (7, .int (zi q9177))]) [1, 2, 3, 0] rfl ?_
            exact k9190 (wr (v9192 + v9175)) (IR_wr _)
          · refine r_bf c9191 ?_
            refine r_iconst (v := 0) C dX12_isSimCopied_115 (by decide) ?_
            refine r_goto (tgt := 128) C dX12_isSimCopied_116 (by decide) ?_
            refine r_L (L' := [(0, .ref (zad E 262)), (1, .int (zi a1)), (2, .int (zi a2)), (7, .int (zi q9177))]) [1, 2, 3, 0] rfl ?_
            exact k9190 0 (IRd rfl)
      · refine r_if_eq (tgt := 82) C ha2.ir dX12_isSimCopied_66 (by decide) (fun c9181 => ?_) (fun c9181 => ?_)
        · refine r_bt c9181 ?_
          refine r_iconst (v := 1) C dX12_isSimCopied_82 (by decide) ?_
          refine r_goto (tgt := 87) C dX12_isSimCopied_83 (by decide) ?_
          refine r_L (L' := [(0, .ref (zad E 262)), (1, .int (zi a1)), (2, .int (zi a2)), (4, .int (zi q9152)), (5, .int (zi q9157)), (6, .int (zi v9175))]) [1, 2, 3, 5, 6, 0] rfl ?_
          exact k9180 1 (BRd rfl)
        · refine r_bf c9181 ?_
          refine r_aload_n (pc := 69) (j := 1) C dX12_isSimCopied_69 rfl rfl ?_
          refine r_getR (j := 66) (r := 296) C cl_X12 kd_262 ln_262 (by decide) rfl r0_262_66 (by decide) q_1619 dX12_isSimCopied_70 ?_
          refine r_iload_n (pc := 73) (j := 2) C dX12_isSimCopied_73 rfl rfl ?_
          refine r_bb ?_
          refine r_iald C kd_296 ln_296 gc_296 ha1 dX12_isSimCopied_74 (fun v9182 h9183 => ?_)
          refine r_iload (pc := 75) (j := 0) C dX12_isSimCopied_75 rfl ?_
          refine r_iadd C dX12_isSimCopied_77 ?_
          refine r_iload_n (pc := 78) (j := 4) C dX12_isSimCopied_78 rfl rfl ?_
          refine r_icmp_le (tgt := 86) C (IR_wr _) ha3 dX12_isSimCopied_79 (by decide) (fun c9184 => ?_) (fun c9184 => ?_)
          · refine r_bf c9184 ?_
            refine r_iconst (v := 0) C dX12_isSimCopied_86 (by decide) ?_
            refine r_L (L' := [(0, .ref (zad E 262)), (1, .int (zi a1)), (2, .int (zi a2)), (4, .int (zi q9152)), (5, .int (zi q9157)), (6, .int (zi v9175))]) [1, 2, 3, 5, 6, 0] rfl ?_
            exact k9180 0 (BRd rfl)
          · refine r_bt c9184 ?_
            refine r_iconst (v := 1) C dX12_isSimCopied_82 (by decide) ?_
            refine r_goto (tgt := 87) C dX12_isSimCopied_83 (by decide) ?_
            refine r_L (L' := [(0, .ref (zad E 262)), (1, .int (zi a1)), (2, .int (zi a2)), (4, .int (zi q9152)), (5, .int (zi q9157)), (6, .int (zi v9175))]) [1, 2, 3, 5, 6, 0] rfl ?_
            exact k9180 1 (BRd rfl)
    · refine r_icmp_eq (tgt := 58) C h9168 h9156 dX12_isSimCopied_51 (by decide) (fun c9173 => ?_) (fun c9173 => ?_)
      · refine r_jt c9173 ?_
        refine r_iconst (v := 0) C dX12_isSimCopied_58 (by decide) ?_
        exact k9172 0 (BRd rfl)
      · refine r_jf c9173 ?_
        refine r_iconst (v := 1) C dX12_isSimCopied_54 (by decide) ?_
        refine r_goto (tgt := 59) C dX12_isSimCopied_55 (by decide) ?_
        exact k9172 1 (BRd rfl)
  · refine r_icmp_eq (tgt := 39) C h9160 h9151 dX12_isSimCopied_32 (by decide) (fun c9165 => ?_) (fun c9165 => ?_)
    · refine r_jt c9165 ?_
      refine r_iconst (v := 0) C dX12_isSimCopied_39 (by decide) ?_
      refine r_L (L' := [(0, .ref (zad E 262)), (1, .int (zi a1)), (2, .int (zi a2)), (3, .int (zi a3)), (4, .int (zi q9152)), (5, .int (zi q9157))]) [2, 3, 4, 5, 1, 0] rfl ?_
      exact k9164 0 (BRd rfl)
    · refine r_jf c9165 ?_
      refine r_iconst (v := 1) C dX12_isSimCopied_35 (by decide) ?_
      refine r_goto (tgt := 40) C dX12_isSimCopied_36 (by decide) ?_
      refine r_L (L' := [(0, .ref (zad E 262)), (1, .int (zi a1)), (2, .int (zi a2)), (3, .int (zi a3)), (4, .int (zi q9152)), (5, .int (zi q9157))]) [2, 3, 4, 5, 1, 0] rfl ?_
      exact k9164 1 (BRd rfl)

def f_X12_law (a1 : Int) (O : Smo) : Option (Int × Smo) :=
  if f_X12_isIn a1 1 6 = 0 then
    (some ((-1), O))
  else
    (jn (up2 O 262 67 0) fun (O9285 : Smo) =>
    Option.bind (lp (fun (s9286 : Int × Int × Smo) =>
      if s9286.2.2 262 47 < s9286.2.1 then
        (some (Sum.inr (s9286.1, s9286.2.2)))
      else
        (Option.bind (f_X12_layTree s9286.2.1 s9286.2.2) fun (q9295 : Smo) =>
        Option.bind (lp (fun (s9297 : Int × Int × Smo) =>
          if s9297.2.1 < s9297.2.2 262 58 then
            (Option.bind (aget (s9297.2.2 288) (Ln 288) s9297.2.1) fun (v9305 : Int) =>
            Option.bind (f_X12_setOf (wr (s9286.2.1 - 1)) s9297.2.2) fun (q9308 : Int) =>
            Option.bind (aget (s9297.2.2 288) (Ln 288) s9297.2.1) fun (v9310 : Int) =>
            Option.bind (f_X12_isSimCopied v9305 (f_X12_has q9308 v9310) a1 s9297.2.2) fun (q9314 : Int × Smo) =>
            jn (wr (s9297.1 + (f_X12_truth q9314.1))) fun (v9317 : Int) =>
            some (Sum.inl (v9317, wr (s9297.2.1 + 1), q9314.2)))
          else
            (some (Sum.inr (s9297.1, s9297.2.2)))) FU (s9286.1, 0, q9295)) fun (r9319 : Int × Smo) =>
        some (Sum.inl (r9319.1, wr (s9286.2.1 + 1), r9319.2)))) FU (0, 1, O9285)) fun (r9321 : Int × Smo) =>
    some (r9321.1, r9321.2))
set_option maxRecDepth 100000 in
set_option maxHeartbeats 4000000 in
theorem m_X12_law {l : Launch} {E : EwT} {S : Sst} {O : Smo} {a1 : Int} (ha1 : IR a1) {q : Int × Smo} (hq : f_X12_law a1 O = some q) : MetG l E yX12_law cX12_law 5 (some .int) 4 98 0 0 n0 R0 S O [.ref (zad E 262), .int (zi a1)] (IR q.1) (some (.int (zi q.1))) n0 R0 S q.2 := by
  refine ofG (L0 := [(0, .ref (zad E 262)), (1, .int (zi a1))]) hq (by decide +kernel) (Nat.le_of_ble_eq_true rfl) rfl (fun K _ C hQ => ?_)
  unfold f_X12_law
  refine r_iload_n (pc := 0) (j := 1) C dX12_law_0 rfl rfl ?_
  refine r_iconst (v := 1) C dX12_law_1 (by decide) ?_
  refine r_bipush (v := 6) C dX12_law_2 (by decide) ?_
  refine r_cS1 (pc := 4) (As := [.int (zi a1), .int (zi 1), .int (zi 6)]) (st := []) C (m_X12_isIn (a0 := a1) (a1 := 1) (a2 := 6) ha1 (IRd rfl) (IRd rfl) rfl) cal_X12_isIn q_1981 dX12_law_4 rfl rfl (Nat.le_of_ble_eq_true rfl) (Nat.le_of_ble_eq_true rfl) (Nat.le_of_ble_eq_true rfl) (Nat.le_of_ble_eq_true rfl) (Nat.le_of_ble_eq_true rfl) (fun h9283 => ?_)
  refine r_if_ne (tgt := 12) C h9283.ir dX12_law_7 (by decide) (fun c9284 => ?_) (fun c9284 => ?_)
  · refine r_f c9284 ?_
    refine r_aload_n (pc := 12) (j := 0) C dX12_law_12 rfl rfl ?_
    refine r_iconst (v := 0) C dX12_law_13 (by decide) ?_
    refine r_putO C cl_X12 kd_262 ln_262 gc_262 (by decide) (by decide) rfl rfl rfl (IRd rfl) q_1620 dX12_law_14 (fun O9285 => ?_)
    refine r_iconst (v := 0) C dX12_law_17 (by decide) ?_
    refine r_istore_n (L' := [(2, .int (zi 0)), (0, .ref (zad E 262)), (1, .int (zi a1))]) C dX12_law_18 rfl (by decide) rfl ?_
    refine r_iconst (v := 1) C dX12_law_19 (by decide) ?_
    refine r_istore_n (L' := [(3, .int (zi 1)), (2, .int (zi 0)), (0, .ref (zad E 262)), (1, .int (zi a1))]) C dX12_law_20 rfl (by decide) rfl ?_
    refine r_L (L' := [(0, .ref (zad E 262)), (1, .int (zi a1)), (2, .int (zi 0)), (3, .int (zi 1))]) [2, 3, 1, 0] rfl ?_
    refine r_loop1 (fun s9286 : Int × Int × Smo => IR s9286.1 ∧ IR s9286.2.1) (fun s9286 => S) (fun s9286 => s9286.2.2) (fun s9286 => [(0, .ref (zad E 262)), (1, .int (zi a1)), (2, .int (zi s9286.1)), (3, .int (zi s9286.2.1))]) [] (fun r9321 : Int × Smo => IR r9321.1) (fun r9321 => S) (fun r9321 => r9321.2) (fun r9321 => [(2, .int (zi r9321.1))]) 93 (fun r9321 h9322 => ?_) (fun k9288 k9290 k9289 k9291 s9286 h9287 => ?_) ⟨(IRd rfl), (IRd rfl)⟩
    · refine r_iload_n (pc := 93) (j := 0) C dX12_law_93 rfl rfl ?_
      exact r_ireturn C hQ rfl dX12_law_94 (fun e => by cases e; exact ⟨h9322, rfl, rfl, rfl, rfl, rfl⟩)
    · refine r_iload_n (pc := 21) (j := 3) C dX12_law_21 rfl rfl ?_
      refine r_aload_n (pc := 22) (j := 0) C dX12_law_22 rfl rfl ?_
      refine r_getO (j := 47) C cl_X12 kd_262 ln_262 gc_262 (by decide) (by decide) rfl q_1600 dX12_law_23 (fun h9292 => ?_)
      refine r_icmp_gt (tgt := 93) C h9287.2 h9292 dX12_law_26 (by decide) (fun c9293 => ?_) (fun c9293 => ?_)
      · refine r_bt c9293 ?_
        refine r_L (L' := [(2, .int (zi s9286.1))]) [2] rfl ?_
        exact k9291 (s9286.1, s9286.2.2) h9287.1
      · refine r_bf c9293 ?_
        refine r_aload_n (pc := 29) (j := 0) C dX12_law_29 rfl rfl ?_
        refine r_iload_n (pc := 30) (j := 3) C dX12_law_30 rfl rfl ?_
        refine r_bb ?_
        refine r_bd (fun q9295 e9296 => ?_)
        refine r_cV0 (pc := 31) (k := 262) (As := [.int (zi s9286.2.1)]) (st := []) C (m_X12_layTree (a1 := s9286.2.1) h9287.2 e9296) cal_X12_layTree cl_X12 kd_262 ln_262 q_2028 dX12_law_31 rfl rfl (Nat.le_of_ble_eq_true rfl) (Nat.le_of_ble_eq_true rfl) (Nat.le_of_ble_eq_true rfl) (Nat.le_of_ble_eq_true rfl) (Nat.le_of_ble_eq_true rfl) (fun h9294 => ?_)
        refine r_iconst (v := 0) C dX12_law_34 (by decide) ?_
        refine r_istore (L' := [(4, .int (zi 0)), (0, .ref (zad E 262)), (1, .int (zi a1)), (2, .int (zi s9286.1)), (3, .int (zi s9286.2.1))]) C dX12_law_35 (by decide) rfl ?_
        refine r_L (L' := [(0, .ref (zad E 262)), (1, .int (zi a1)), (2, .int (zi s9286.1)), (3, .int (zi s9286.2.1)), (4, .int (zi 0))]) [1, 2, 3, 4, 0] rfl ?_
        refine r_bb ?_
        refine r_loop1 (fun s9297 : Int × Int × Smo => IR s9297.1 ∧ IR s9297.2.1) (fun s9297 => S) (fun s9297 => s9297.2.2) (fun s9297 => [(0, .ref (zad E 262)), (1, .int (zi a1)), (2, .int (zi s9297.1)), (3, .int (zi s9286.2.1)), (4, .int (zi s9297.2.1))]) [] (fun r9319 : Int × Smo => IR r9319.1) (fun r9319 => S) (fun r9319 => r9319.2) (fun r9319 => [(0, .ref (zad E 262)), (1, .int (zi a1)), (2, .int (zi r9319.1)), (3, .int (zi s9286.2.1))]) 87 (fun r9319 h9320 => ?_) (fun k9299 k9301 k9300 k9302 s9297 h9298 => ?_) ⟨h9287.1, (IRd rfl)⟩
        · refine r_iinc (j := 3) (L' := [(3, .int (zi (wr (s9286.2.1 + 1)))), (0, .ref (zad E 262)), (1, .int (zi a1)), (2, .int (zi r9319.1))]) C dX12_law_87 rfl (by decide) rfl ?_
          refine r_goto (tgt := 21) C dX12_law_90 (by decide) ?_
          refine r_L (L' := [(0, .ref (zad E 262)), (1, .int (zi a1)), (2, .int (zi r9319.1)), (3, .int (zi (wr (s9286.2.1 + 1))))]) [1, 2, 3, 0] rfl ?_
          exact k9289 (r9319.1, wr (s9286.2.1 + 1), r9319.2) ⟨h9320, (IR_wr _)⟩
        · refine r_iload (pc := 37) (j := 4) C dX12_law_37 rfl ?_
          refine r_aload_n (pc := 39) (j := 0) C dX12_law_39 rfl rfl ?_
          refine r_getO (j := 58) C cl_X12 kd_262 ln_262 gc_262 (by decide) (by decide) rfl q_1611 dX12_law_40 (fun h9303 => ?_)
          refine r_icmp_ge (tgt := 87) C h9298.2 h9303 dX12_law_43 (by decide) (fun c9304 => ?_) (fun c9304 => ?_)
          · refine r_bf c9304 ?_
            refine r_L (L' := [(0, .ref (zad E 262)), (1, .int (zi a1)), (2, .int (zi s9297.1)), (3, .int (zi s9286.2.1))]) [0, 1, 2, 3] rfl ?_
            exact k9302 (s9297.1, s9297.2.2) h9298.1
          · refine r_bt c9304 ?_
            refine r_iload_n (pc := 46) (j := 2) C dX12_law_46 rfl rfl ?_
            refine r_aload_n (pc := 47) (j := 0) C dX12_law_47 rfl rfl ?_
            refine r_aload_n (pc := 48) (j := 0) C dX12_law_48 rfl rfl ?_
            refine r_getR (j := 55) (r := 288) C cl_X12 kd_262 ln_262 (by decide) rfl r0_262_55 (by decide) q_1608 dX12_law_49 ?_
            refine r_iload (pc := 52) (j := 4) C dX12_law_52 rfl ?_
            refine r_bb ?_
            refine r_iald C kd_288 ln_288 gc_288 h9298.2 dX12_law_54 (fun v9305 h9306 => ?_)
            refine r_aload_n (pc := 55) (j := 0) C dX12_law_55 rfl rfl ?_
            refine r_iload_n (pc := 56) (j := 3) C dX12_law_56 rfl rfl ?_
            refine r_iconst (v := 1) C dX12_law_57 (by decide) ?_
            refine r_isub C dX12_law_58 ?_
            refine r_bb ?_
            refine r_bd (fun q9308 e9309 => ?_)
            refine r_cV1 (pc := 59) (k := 262) (As := [.int (zi (wr (s9286.2.1 - 1)))]) (st := [.int (zi v9305), .ref (zad E 262), .int (zi s9297.1)]) C (m_X12_setOf (a1 := wr (s9286.2.1 - 1)) (IR_wr _) e9309) cal_X12_setOf cl_X12 kd_262 ln_262 q_2008 dX12_law_59 rfl rfl (Nat.le_of_ble_eq_true rfl) (Nat.le_of_ble_eq_true rfl) (Nat.le_of_ble_eq_true rfl) (Nat.le_of_ble_eq_true rfl) (Nat.le_of_ble_eq_true rfl) (fun h9307 => ?_)
            refine r_aload_n (pc := 62) (j := 0) C dX12_law_62 rfl rfl ?_
            refine r_getR (j := 55) (r := 288) C cl_X12 kd_262 ln_262 (by decide) rfl r0_262_55 (by decide) q_1608 dX12_law_63 ?_
            refine r_iload (pc := 66) (j := 4) C dX12_law_66 rfl ?_
            refine r_bb ?_
            refine r_iald C kd_288 ln_288 gc_288 h9298.2 dX12_law_68 (fun v9310 h9311 => ?_)
            refine r_cS1 (pc := 69) (As := [.int (zi q9308), .int (zi v9310)]) (st := [.int (zi v9305), .ref (zad E 262), .int (zi s9297.1)]) C (m_X12_has (a0 := q9308) (a1 := v9310) h9307 h9311 rfl) cal_X12_has q_2040 dX12_law_69 rfl rfl (Nat.le_of_ble_eq_true rfl) (Nat.le_of_ble_eq_true rfl) (Nat.le_of_ble_eq_true rfl) (Nat.le_of_ble_eq_true rfl) (Nat.le_of_ble_eq_true rfl) (fun h9312 => ?_)
            refine r_iload_n (pc := 72) (j := 1) C dX12_law_72 rfl rfl ?_
            refine r_bb ?_
            refine r_bd (fun q9314 e9315 => ?_)
            refine r_cV1 (pc := 73) (k := 262) (As := [.int (zi v9305), .int (zi (f_X12_has q9308 v9310)), .int (zi a1)]) (st := [.int (zi s9297.1)]) C (m_X12_isSimCopied (a1 := v9305) (a2 := f_X12_has q9308 v9310) (a3 := a1) h9306 h9312 ha1 e9315) cal_X12_isSimCopied cl_X12 kd_262 ln_262 q_2273 dX12_law_73 rfl rfl (Nat.le_of_ble_eq_true rfl) (Nat.le_of_ble_eq_true rfl) (Nat.le_of_ble_eq_true rfl) (Nat.le_of_ble_eq_true rfl) (Nat.le_of_ble_eq_true rfl) (fun h9313 => ?_)
            refine r_cS1 (pc := 76) (As := [.int (zi q9314.1)]) (st := [.int (zi s9297.1)]) C (m_X12_truth (a0 := q9314.1) h9313 rfl) cal_X12_truth q_1959 dX12_law_76 rfl rfl (Nat.le_of_ble_eq_true rfl) (Nat.le_of_ble_eq_true rfl) (Nat.le_of_ble_eq_true rfl) (Nat.le_of_ble_eq_true rfl) (Nat.le_of_ble_eq_true rfl) (fun h9316 => ?_)
            refine r_iadd C dX12_law_79 ?_
            refine r_bj ?_
            refine r_jv (IR_wr _) (fun v9317 h9318 => ?_)
            refine r_istore_n (L' := [(2, .int (zi v9317)), (0, .ref (zad E 262)), (1, .int (zi a1)), (3, .int (zi s9286.2.1)), (4, .int (zi s9297.2.1))]) C dX12_law_80 rfl (by decide) rfl ?_
            refine r_iinc (j := 4) (L' := [(4, .int (zi (wr (s9297.2.1 + 1)))), (2, .int (zi v9317)), (0, .ref (zad E 262)), (1, .int (zi a1)), (3, .int (zi s9286.2.1))]) C dX12_law_81 rfl (by decide) rfl ?_
            refine r_goto (tgt := 37) C dX12_law_84 (by decide) ?_
            refine r_L (L' := [(0, .ref (zad E 262)), (1, .int (zi a1)), (2, .int (zi v9317)), (3, .int (zi s9286.2.1)), (4, .int (zi (wr (s9297.2.1 + 1))))]) [2, 3, 1, 4, 0] rfl ?_
            exact k9300 (v9317, wr (s9297.2.1 + 1), q9314.2) ⟨h9318, (IR_wr _)⟩
  · refine r_t c9284 ?_
    refine r_iconst (v := (-1)) C dX12_law_10 (by decide) ?_
    exact r_ireturn C hQ rfl dX12_law_11 (fun e => by cases e; exact ⟨(IRd rfl), rfl, rfl, rfl, rfl, rfl⟩)

def f_X12_busiest (O : Smo) : Option (Int) :=
  Option.bind (lp (fun (s9343 : Int × Int) =>
    if s9343.2 < O 262 39 then
      (Option.bind (
        if s9343.1 < 0 then
          (some s9343.2)
        else
          (Option.bind (f_X12_copiesOf s9343.2 O) fun (q9357 : Int) =>
          Option.bind (f_X12_copiesOf s9343.1 O) fun (q9360 : Int) =>
          if q9360 < q9357 then
            (some s9343.2)
          else
            (some s9343.1))) fun (q9351 : Int) =>
      some (Sum.inl (q9351, wr (s9343.2 + 1))))
    else
      (some (Sum.inr s9343.1))) FU ((-1), 0)) fun (r9363 : Int) =>
  some r9363
set_option maxRecDepth 100000 in
set_option maxHeartbeats 4000000 in
theorem m_X12_busiest {l : Launch} {E : EwT} {S : Sst} {O : Smo}  {q : Int} (hq : f_X12_busiest O = some q) : MetG l E yX12_busiest cX12_busiest 3 (some .int) 3 65 0 0 n0 R0 S O [.ref (zad E 262)] (IR q) (some (.int (zi q))) n0 R0 S O := by
  refine ofG (L0 := [(0, .ref (zad E 262))]) hq (by decide +kernel) (Nat.le_of_ble_eq_true rfl) rfl (fun K _ C hQ => ?_)
  unfold f_X12_busiest
  refine r_iconst (v := (-1)) C dX12_busiest_0 (by decide) ?_
  refine r_istore_n (L' := [(1, .int (zi (-1))), (0, .ref (zad E 262))]) C dX12_busiest_1 rfl (by decide) rfl ?_
  refine r_iconst (v := 0) C dX12_busiest_2 (by decide) ?_
  refine r_istore_n (L' := [(2, .int (zi 0)), (1, .int (zi (-1))), (0, .ref (zad E 262))]) C dX12_busiest_3 rfl (by decide) rfl ?_
  refine r_L (L' := [(0, .ref (zad E 262)), (1, .int (zi (-1))), (2, .int (zi 0))]) [2, 1, 0] rfl ?_
  refine r_loop1 (fun s9343 : Int × Int => IR s9343.1 ∧ IR s9343.2) (fun s9343 => S) (fun s9343 => O) (fun s9343 => [(0, .ref (zad E 262)), (1, .int (zi s9343.1)), (2, .int (zi s9343.2))]) [] (fun r9363 : Int => IR r9363) (fun r9363 => S) (fun r9363 => O) (fun r9363 => [(1, .int (zi r9363))]) 37 (fun r9363 h9364 => ?_) (fun k9345 k9347 k9346 k9348 s9343 h9344 => ?_) ⟨(IRd rfl), (IRd rfl)⟩
  · refine r_iload_n (pc := 37) (j := 0) C dX12_busiest_37 rfl rfl ?_
    exact r_ireturn C hQ rfl dX12_busiest_38 (fun e => by cases e; exact ⟨h9364, rfl, rfl, rfl, rfl, rfl⟩)
  · refine r_iload_n (pc := 4) (j := 2) C dX12_busiest_4 rfl rfl ?_
    refine r_aload_n (pc := 5) (j := 0) C dX12_busiest_5 rfl rfl ?_
    refine r_getO (j := 39) C cl_X12 kd_262 ln_262 gc_262 (by decide) (by decide) rfl q_1592 dX12_busiest_6 (fun h9349 => ?_)
    refine r_icmp_ge (tgt := 37) C h9344.2 h9349 dX12_busiest_9 (by decide) (fun c9350 => ?_) (fun c9350 => ?_)
    · refine r_bf c9350 ?_
      refine r_L (L' := [(1, .int (zi s9343.1))]) [1] rfl ?_
      exact k9348 s9343.1 h9344.1
    · refine r_bt c9350 ?_
      refine r_iload_n (pc := 12) (j := 1) C dX12_busiest_12 rfl rfl ?_
      refine r_bb ?_
      refine r_joinb (fun q9351 : Int => IR q9351) (fun q9351 => S) (fun q9351 => O) (fun q9351 => [(0, .ref (zad E 262)), (1, .int (zi q9351)), (2, .int (zi s9343.2))]) 31 (fun q9351 => []) (fun q9351 h9352 => ?_) (fun k9353 k9354 => ?_)
      · refine r_iinc (j := 2) (L' := [(2, .int (zi (wr (s9343.2 + 1)))), (0, .ref (zad E 262)), (1, .int (zi q9351))]) C dX12_busiest_31 rfl (by decide) rfl ?_
        refine r_goto (tgt := 4) C dX12_busiest_34 (by decide) ?_
        refine r_L (L' := [(0, .ref (zad E 262)), (1, .int (zi q9351)), (2, .int (zi (wr (s9343.2 + 1))))]) [1, 2, 0] rfl ?_
        exact k9346 (q9351, wr (s9343.2 + 1)) ⟨h9352, (IR_wr _)⟩
      · refine r_if_lt (tgt := 29) C h9344.1 dX12_busiest_13 (by decide) (fun c9355 => ?_) (fun c9355 => ?_)
        · refine r_bt c9355 ?_
          refine r_iload_n (pc := 29) (j := 2) C dX12_busiest_29 rfl rfl ?_
          refine r_istore_n (L' := [(1, .int (zi s9343.2)), (0, .ref (zad E 262)), (2, .int (zi s9343.2))]) C dX12_busiest_30 rfl (by decide) rfl ?_
          refine r_L (L' := [(0, .ref (zad E 262)), (1, .int (zi s9343.2)), (2, .int (zi s9343.2))]) [1, 0, 2] rfl ?_
          exact k9354 s9343.2 h9344.2
        · refine r_bf c9355 ?_
          refine r_aload_n (pc := 16) (j := 0) C dX12_busiest_16 rfl rfl ?_
          refine r_iload_n (pc := 17) (j := 2) C dX12_busiest_17 rfl rfl ?_
          refine r_bb ?_
          refine r_bd (fun q9357 e9358 => ?_)
          refine r_cV1 (pc := 18) (k := 262) (As := [.int (zi s9343.2)]) (st := []) C (m_X12_copiesOf (a1 := s9343.2) h9344.2 e9358) cal_X12_copiesOf cl_X12 kd_262 ln_262 q_2249 dX12_busiest_18 rfl rfl (Nat.le_of_ble_eq_true rfl) (Nat.le_of_ble_eq_true rfl) (Nat.le_of_ble_eq_true rfl) (Nat.le_of_ble_eq_true rfl) (Nat.le_of_ble_eq_true rfl) (fun h9356 => ?_)
          refine r_aload_n (pc := 21) (j := 0) C dX12_busiest_21 rfl rfl ?_
          refine r_iload_n (pc := 22) (j := 1) C dX12_busiest_22 rfl rfl ?_
          refine r_bb ?_
          refine r_bd (fun q9360 e9361 => ?_)
          refine r_cV1 (pc := 23) (k := 262) (As := [.int (zi s9343.1)]) (st := [.int (zi q9357)]) C (m_X12_copiesOf (a1 := s9343.1) h9344.1 e9361) cal_X12_copiesOf cl_X12 kd_262 ln_262 q_2249 dX12_busiest_23 rfl rfl (Nat.le_of_ble_eq_true rfl) (Nat.le_of_ble_eq_true rfl) (Nat.le_of_ble_eq_true rfl) (Nat.le_of_ble_eq_true rfl) (Nat.le_of_ble_eq_true rfl) (fun h9359 => ?_)
          refine r_icmp_le (tgt := 31) C h9356 h9359 dX12_busiest_26 (by decide) (fun c9362 => ?_) (fun c9362 => ?_)
          · refine r_bf c9362 ?_
            exact k9354 s9343.1 h9344.1
          · refine r_bt c9362 ?_
            refine r_iload_n (pc := 29) (j := 2) C dX12_busiest_29 rfl rfl ?_
            refine r_istore_n (L' := [(1, .int (zi s9343.2)), (0, .ref (zad E 262)), (2, .int (zi s9343.2))]) C dX12_busiest_30 rfl (by decide) rfl ?_
            refine r_L (L' := [(0, .ref (zad E 262)), (1, .int (zi s9343.2)), (2, .int (zi s9343.2))]) [1, 0, 2] rfl ?_
            exact k9354 s9343.2 h9344.2

def f_X12_widest (O : Smo) : Option (Int) :=
  Option.bind (lp (fun (s9415 : Int × Int) =>
    if O 262 47 < s9415.2 then
      (some (Sum.inr s9415.1))
    else
      (Option.bind (f_X12_setOf s9415.2 O) fun (q9424 : Int) =>
      Option.bind (f_X12_members q9424) fun (q9427 : Int) =>
      Option.bind (f_X12_setOf s9415.1 O) fun (q9430 : Int) =>
      Option.bind (f_X12_members q9430) fun (q9433 : Int) =>
      jn (
        if q9433 < q9427 then
          (s9415.2)
        else
          (s9415.1)) fun (q9435 : Int) =>
      some (Sum.inl (q9435, wr (s9415.2 + 1))))) FU (0, 1)) fun (r9440 : Int) =>
  some r9440
set_option maxRecDepth 100000 in
set_option maxHeartbeats 4000000 in
theorem m_X12_widest {l : Launch} {E : EwT} {S : Sst} {O : Smo}  {q : Int} (hq : f_X12_widest O = some q) : MetG l E yX12_widest cX12_widest 3 (some .int) 1 22 0 0 n0 R0 S O [.ref (zad E 262)] (IR q) (some (.int (zi q))) n0 R0 S O := by
  refine ofG (L0 := [(0, .ref (zad E 262))]) hq (by decide +kernel) (Nat.le_of_ble_eq_true rfl) rfl (fun K _ C hQ => ?_)
  unfold f_X12_widest
  refine r_iconst (v := 0) C dX12_widest_0 (by decide) ?_
  refine r_istore_n (L' := [(1, .int (zi 0)), (0, .ref (zad E 262))]) C dX12_widest_1 rfl (by decide) rfl ?_
  refine r_iconst (v := 1) C dX12_widest_2 (by decide) ?_
  refine r_istore_n (L' := [(2, .int (zi 1)), (1, .int (zi 0)), (0, .ref (zad E 262))]) C dX12_widest_3 rfl (by decide) rfl ?_
  refine r_L (L' := [(0, .ref (zad E 262)), (1, .int (zi 0)), (2, .int (zi 1))]) [2, 1, 0] rfl ?_
  refine r_loop1 (fun s9415 : Int × Int => IR s9415.1 ∧ IR s9415.2) (fun s9415 => S) (fun s9415 => O) (fun s9415 => [(0, .ref (zad E 262)), (1, .int (zi s9415.1)), (2, .int (zi s9415.2))]) [] (fun r9440 : Int => IR r9440) (fun r9440 => S) (fun r9440 => O) (fun r9440 => [(1, .int (zi r9440))]) 43 (fun r9440 h9441 => ?_) (fun k9417 k9419 k9418 k9420 s9415 h9416 => ?_) ⟨(IRd rfl), (IRd rfl)⟩
  · refine r_iload_n (pc := 43) (j := 0) C dX12_widest_43 rfl rfl ?_
    exact r_ireturn C hQ rfl dX12_widest_44 (fun e => by cases e; exact ⟨h9441, rfl, rfl, rfl, rfl, rfl⟩)
  · refine r_iload_n (pc := 4) (j := 2) C dX12_widest_4 rfl rfl ?_
    refine r_aload_n (pc := 5) (j := 0) C dX12_widest_5 rfl rfl ?_
    refine r_getO (j := 47) C cl_X12 kd_262 ln_262 gc_262 (by decide) (by decide) rfl q_1600 dX12_widest_6 (fun h9421 => ?_)
    refine r_icmp_gt (tgt := 43) C h9416.2 h9421 dX12_widest_9 (by decide) (fun c9422 => ?_) (fun c9422 => ?_)
    · refine r_bt c9422 ?_
      refine r_L (L' := [(1, .int (zi s9415.1))]) [1] rfl ?_
      exact k9420 s9415.1 h9416.1
    · refine r_bf c9422 ?_
      refine r_aload_n (pc := 12) (j := 0) C dX12_widest_12 rfl rfl ?_
      refine r_iload_n (pc := 13) (j := 2) C dX12_widest_13 rfl rfl ?_
      refine r_bb ?_
      refine r_bd (fun q9424 e9425 => ?_)
      refine r_cV1 (pc := 14) (k := 262) (As := [.int (zi s9415.2)]) (st := []) C (m_X12_setOf (a1 := s9415.2) h9416.2 e9425) cal_X12_setOf cl_X12 kd_262 ln_262 q_2008 dX12_widest_14 rfl rfl (Nat.le_of_ble_eq_true rfl) (Nat.le_of_ble_eq_true rfl) (Nat.le_of_ble_eq_true rfl) (Nat.le_of_ble_eq_true rfl) (Nat.le_of_ble_eq_true rfl) (fun h9423 => ?_)
      refine r_bb ?_
      refine r_bd (fun q9427 e9428 => ?_)
      refine r_cS1 (pc := 17) (As := [.int (zi q9424)]) (st := []) C (m_X12_members (a0 := q9424) h9423 e9428) cal_X12_members q_2083 dX12_widest_17 rfl rfl (Nat.le_of_ble_eq_true rfl) (Nat.le_of_ble_eq_true rfl) (Nat.le_of_ble_eq_true rfl) (Nat.le_of_ble_eq_true rfl) (Nat.le_of_ble_eq_true rfl) (fun h9426 => ?_)
      refine r_aload_n (pc := 20) (j := 0) C dX12_widest_20 rfl rfl ?_
      refine r_iload_n (pc := 21) (j := 1) C dX12_widest_21 rfl rfl ?_
      refine r_bb ?_
      refine r_bd (fun q9430 e9431 => ?_)
      refine r_cV1 (pc := 22) (k := 262) (As := [.int (zi s9415.1)]) (st := [.int (zi q9427)]) C (m_X12_setOf (a1 := s9415.1) h9416.1 e9431) cal_X12_setOf cl_X12 kd_262 ln_262 q_2008 dX12_widest_22 rfl rfl (Nat.le_of_ble_eq_true rfl) (Nat.le_of_ble_eq_true rfl) (Nat.le_of_ble_eq_true rfl) (Nat.le_of_ble_eq_true rfl) (Nat.le_of_ble_eq_true rfl) (fun h9429 => ?_)
      refine r_bb ?_
      refine r_bd (fun q9433 e9434 => ?_)
      refine r_cS1 (pc := 25) (As := [.int (zi q9430)]) (st := [.int (zi q9427)]) C (m_X12_members (a0 := q9430) h9429 e9434) cal_X12_members q_2083 dX12_widest_25 rfl rfl (Nat.le_of_ble_eq_true rfl) (Nat.le_of_ble_eq_true rfl) (Nat.le_of_ble_eq_true rfl) (Nat.le_of_ble_eq_true rfl) (Nat.le_of_ble_eq_true rfl) (fun h9432 => ?_)
      refine r_bj ?_
      refine r_join (fun q9435 : Int => IR q9435) (fun q9435 => S) (fun q9435 => O) (fun q9435 => [(0, .ref (zad E 262)), (2, .int (zi s9415.2))]) 36 (fun q9435 => [.int (zi q9435)]) (fun q9435 h9436 => ?_) (fun k9437 k9438 => ?_)
      · refine r_istore_n (L' := [(1, .int (zi q9435)), (0, .ref (zad E 262)), (2, .int (zi s9415.2))]) C dX12_widest_36 rfl (by decide) rfl ?_
        refine r_iinc (j := 2) (L' := [(2, .int (zi (wr (s9415.2 + 1)))), (1, .int (zi q9435)), (0, .ref (zad E 262))]) C dX12_widest_37 rfl (by decide) rfl ?_
        refine r_goto (tgt := 4) C dX12_widest_40 (by decide) ?_
        refine r_L (L' := [(0, .ref (zad E 262)), (1, .int (zi q9435)), (2, .int (zi (wr (s9415.2 + 1))))]) [2, 1, 0] rfl ?_
        exact k9418 (q9435, wr (s9415.2 + 1)) ⟨h9436, (IR_wr _)⟩
      · refine r_icmp_le (tgt := 35) C h9426 h9432 dX12_widest_28 (by decide) (fun c9439 => ?_) (fun c9439 => ?_)
        · refine r_jf c9439 ?_
          refine r_iload_n (pc := 35) (j := 1) C dX12_widest_35 rfl rfl ?_
          refine r_L (L' := [(0, .ref (zad E 262)), (2, .int (zi s9415.2))]) [0, 2] rfl ?_
          exact k9438 s9415.1 h9416.1
        · refine r_jt c9439 ?_
          refine r_iload_n (pc := 31) (j := 2) C dX12_widest_31 rfl rfl ?_
          refine r_goto (tgt := 36) C dX12_widest_32 (by decide) ?_
          refine r_L (L' := [(0, .ref (zad E 262)), (2, .int (zi s9415.2))]) [0, 2] rfl ?_
          exact k9438 s9415.2 h9416.2

def f_X12_highest (O : Smo) : Option (Int × Smo) :=
  Option.bind (lp (fun (s9480 : Int × Int × Smo) =>
    if s9480.2.2 262 47 < s9480.2.1 then
      (some (Sum.inr (s9480.1, s9480.2.2)))
    else
      (Option.bind (f_X12_highAt s9480.2.1 s9480.2.2) fun (q9489 : Int × Smo) =>
      Option.bind (f_X12_highAt s9480.1 q9489.2) fun (q9492 : Int × Smo) =>
      jn (
        if q9492.1 < q9489.1 then
          (s9480.2.1)
        else
          (s9480.1)) fun (q9494 : Int) =>
      some (Sum.inl (q9494, wr (s9480.2.1 + 1), q9492.2)))) FU (0, 1, O)) fun (r9499 : Int × Smo) =>
  some (r9499.1, r9499.2)
set_option maxRecDepth 100000 in
set_option maxHeartbeats 4000000 in
theorem m_X12_highest {l : Launch} {E : EwT} {S : Sst} {O : Smo}  {q : Int × Smo} (hq : f_X12_highest O = some q) : MetG l E yX12_highest cX12_highest 3 (some .int) 5 119 0 0 n0 R0 S O [.ref (zad E 262)] (IR q.1) (some (.int (zi q.1))) n0 R0 S q.2 := by
  refine ofG (L0 := [(0, .ref (zad E 262))]) hq (by decide +kernel) (Nat.le_of_ble_eq_true rfl) rfl (fun K _ C hQ => ?_)
  unfold f_X12_highest
  refine r_iconst (v := 0) C dX12_highest_0 (by decide) ?_
  refine r_istore_n (L' := [(1, .int (zi 0)), (0, .ref (zad E 262))]) C dX12_highest_1 rfl (by decide) rfl ?_
  refine r_iconst (v := 1) C dX12_highest_2 (by decide) ?_
  refine r_istore_n (L' := [(2, .int (zi 1)), (1, .int (zi 0)), (0, .ref (zad E 262))]) C dX12_highest_3 rfl (by decide) rfl ?_
  refine r_L (L' := [(0, .ref (zad E 262)), (1, .int (zi 0)), (2, .int (zi 1))]) [2, 1, 0] rfl ?_
  refine r_loop1 (fun s9480 : Int × Int × Smo => IR s9480.1 ∧ IR s9480.2.1) (fun s9480 => S) (fun s9480 => s9480.2.2) (fun s9480 => [(0, .ref (zad E 262)), (1, .int (zi s9480.1)), (2, .int (zi s9480.2.1))]) [] (fun r9499 : Int × Smo => IR r9499.1) (fun r9499 => S) (fun r9499 => r9499.2) (fun r9499 => [(1, .int (zi r9499.1))]) 37 (fun r9499 h9500 => ?_) (fun k9482 k9484 k9483 k9485 s9480 h9481 => ?_) ⟨(IRd rfl), (IRd rfl)⟩
  · refine r_iload_n (pc := 37) (j := 0) C dX12_highest_37 rfl rfl ?_
    exact r_ireturn C hQ rfl dX12_highest_38 (fun e => by cases e; exact ⟨h9500, rfl, rfl, rfl, rfl, rfl⟩)
  · refine r_iload_n (pc := 4) (j := 2) C dX12_highest_4 rfl rfl ?_
    refine r_aload_n (pc := 5) (j := 0) C dX12_highest_5 rfl rfl ?_
    refine r_getO (j := 47) C cl_X12 kd_262 ln_262 gc_262 (by decide) (by decide) rfl q_1600 dX12_highest_6 (fun h9486 => ?_)
    refine r_icmp_gt (tgt := 37) C h9481.2 h9486 dX12_highest_9 (by decide) (fun c9487 => ?_) (fun c9487 => ?_)
    · refine r_bt c9487 ?_
      refine r_L (L' := [(1, .int (zi s9480.1))]) [1] rfl ?_
      exact k9485 (s9480.1, s9480.2.2) h9481.1
    · refine r_bf c9487 ?_
      refine r_aload_n (pc := 12) (j := 0) C dX12_highest_12 rfl rfl ?_
      refine r_iload_n (pc := 13) (j := 2) C dX12_highest_13 rfl rfl ?_
      refine r_bb ?_
      refine r_bd (fun q9489 e9490 => ?_)
      refine r_cV1 (pc := 14) (k := 262) (As := [.int (zi s9480.2.1)]) (st := []) C (m_X12_highAt (a1 := s9480.2.1) h9481.2 e9490) cal_X12_highAt cl_X12 kd_262 ln_262 q_2293 dX12_highest_14 rfl rfl (Nat.le_of_ble_eq_true rfl) (Nat.le_of_ble_eq_true rfl) (Nat.le_of_ble_eq_true rfl) (Nat.le_of_ble_eq_true rfl) (Nat.le_of_ble_eq_true rfl) (fun h9488 => ?_)
      refine r_aload_n (pc := 17) (j := 0) C dX12_highest_17 rfl rfl ?_
      refine r_iload_n (pc := 18) (j := 1) C dX12_highest_18 rfl rfl ?_
      refine r_bb ?_
      refine r_bd (fun q9492 e9493 => ?_)
      refine r_cV1 (pc := 19) (k := 262) (As := [.int (zi s9480.1)]) (st := [.int (zi q9489.1)]) C (m_X12_highAt (a1 := s9480.1) h9481.1 e9493) cal_X12_highAt cl_X12 kd_262 ln_262 q_2293 dX12_highest_19 rfl rfl (Nat.le_of_ble_eq_true rfl) (Nat.le_of_ble_eq_true rfl) (Nat.le_of_ble_eq_true rfl) (Nat.le_of_ble_eq_true rfl) (Nat.le_of_ble_eq_true rfl) (fun h9491 => ?_)
      refine r_bj ?_
      refine r_join (fun q9494 : Int => IR q9494) (fun q9494 => S) (fun q9494 => q9492.2) (fun q9494 => [(0, .ref (zad E 262)), (2, .int (zi s9480.2.1))]) 30 (fun q9494 => [.int (zi q9494)]) (fun q9494 h9495 => ?_) (fun k9496 k9497 => ?_)
      · refine r_istore_n (L' := [(1, .int (zi q9494)), (0, .ref (zad E 262)), (2, .int (zi s9480.2.1))]) C dX12_highest_30 rfl (by decide) rfl ?_
        refine r_iinc (j := 2) (L' := [(2, .int (zi (wr (s9480.2.1 + 1)))), (1, .int (zi q9494)), (0, .ref (zad E 262))]) C dX12_highest_31 rfl (by decide) rfl ?_
        refine r_goto (tgt := 4) C dX12_highest_34 (by decide) ?_
        refine r_L (L' := [(0, .ref (zad E 262)), (1, .int (zi q9494)), (2, .int (zi (wr (s9480.2.1 + 1))))]) [2, 1, 0] rfl ?_
        exact k9483 (q9494, wr (s9480.2.1 + 1), q9492.2) ⟨h9495, (IR_wr _)⟩
      · refine r_icmp_le (tgt := 29) C h9488 h9491 dX12_highest_22 (by decide) (fun c9498 => ?_) (fun c9498 => ?_)
        · refine r_jf c9498 ?_
          refine r_iload_n (pc := 29) (j := 1) C dX12_highest_29 rfl rfl ?_
          refine r_L (L' := [(0, .ref (zad E 262)), (2, .int (zi s9480.2.1))]) [0, 2] rfl ?_
          exact k9497 s9480.1 h9481.1
        · refine r_jt c9498 ?_
          refine r_iload_n (pc := 25) (j := 2) C dX12_highest_25 rfl rfl ?_
          refine r_goto (tgt := 30) C dX12_highest_26 (by decide) ?_
          refine r_L (L' := [(0, .ref (zad E 262)), (2, .int (zi s9480.2.1))]) [0, 2] rfl ?_
          exact k9497 s9480.2.1 h9481.2

def f_X12_stays (a1 : Int) (O : Smo) : Option (Int) :=
  if f_X12_isSegment a1 O = 0 then
    (some (-1))
  else
    (Option.bind (lp (fun (s9520 : Int × Int) =>
      if O 262 47 < s9520.2 then
        (some (Sum.inr s9520.1))
      else
        (Option.bind (f_X12_setOf s9520.2 O) fun (q9529 : Int) =>
        jn (wr (s9520.1 + (f_X12_truth (f_X12_has q9529 a1)))) fun (v9533 : Int) =>
        some (Sum.inl (v9533, wr (s9520.2 + 1))))) FU (0, 0)) fun (r9535 : Int) =>
    some r9535)
set_option maxRecDepth 100000 in
set_option maxHeartbeats 4000000 in
theorem m_X12_stays {l : Launch} {E : EwT} {S : Sst} {O : Smo} {a1 : Int} (ha1 : IR a1) {q : Int} (hq : f_X12_stays a1 O = some q) : MetG l E yX12_stays cX12_stays 4 (some .int) 2 43 0 0 n0 R0 S O [.ref (zad E 262), .int (zi a1)] (IR q) (some (.int (zi q))) n0 R0 S O := by
  refine ofG (L0 := [(0, .ref (zad E 262)), (1, .int (zi a1))]) hq (by decide +kernel) (Nat.le_of_ble_eq_true rfl) rfl (fun K _ C hQ => ?_)
  unfold f_X12_stays
  refine r_aload_n (pc := 0) (j := 0) C dX12_stays_0 rfl rfl ?_
  refine r_iload_n (pc := 1) (j := 1) C dX12_stays_1 rfl rfl ?_
  refine r_cV1 (pc := 2) (k := 262) (As := [.int (zi a1)]) (st := []) C (m_X12_isSegment (a1 := a1) ha1 rfl) cal_X12_isSegment cl_X12 kd_262 ln_262 q_1977 dX12_stays_2 rfl rfl (Nat.le_of_ble_eq_true rfl) (Nat.le_of_ble_eq_true rfl) (Nat.le_of_ble_eq_true rfl) (Nat.le_of_ble_eq_true rfl) (Nat.le_of_ble_eq_true rfl) (fun h9518 => ?_)
  refine r_if_ne (tgt := 10) C h9518.ir dX12_stays_5 (by decide) (fun c9519 => ?_) (fun c9519 => ?_)
  · refine r_f c9519 ?_
    refine r_iconst (v := 0) C dX12_stays_10 (by decide) ?_
    refine r_istore_n (L' := [(2, .int (zi 0)), (0, .ref (zad E 262)), (1, .int (zi a1))]) C dX12_stays_11 rfl (by decide) rfl ?_
    refine r_iconst (v := 0) C dX12_stays_12 (by decide) ?_
    refine r_istore_n (L' := [(3, .int (zi 0)), (2, .int (zi 0)), (0, .ref (zad E 262)), (1, .int (zi a1))]) C dX12_stays_13 rfl (by decide) rfl ?_
    refine r_L (L' := [(0, .ref (zad E 262)), (1, .int (zi a1)), (2, .int (zi 0)), (3, .int (zi 0))]) [2, 3, 1, 0] rfl ?_
    refine r_loop1 (fun s9520 : Int × Int => IR s9520.1 ∧ IR s9520.2) (fun s9520 => S) (fun s9520 => O) (fun s9520 => [(0, .ref (zad E 262)), (1, .int (zi a1)), (2, .int (zi s9520.1)), (3, .int (zi s9520.2))]) [] (fun r9535 : Int => IR r9535) (fun r9535 => S) (fun r9535 => O) (fun r9535 => [(2, .int (zi r9535))]) 43 (fun r9535 h9536 => ?_) (fun k9522 k9524 k9523 k9525 s9520 h9521 => ?_) ⟨(IRd rfl), (IRd rfl)⟩
    · refine r_iload_n (pc := 43) (j := 0) C dX12_stays_43 rfl rfl ?_
      exact r_ireturn C hQ rfl dX12_stays_44 (fun e => by cases e; exact ⟨h9536, rfl, rfl, rfl, rfl, rfl⟩)
    · refine r_iload_n (pc := 14) (j := 3) C dX12_stays_14 rfl rfl ?_
      refine r_aload_n (pc := 15) (j := 0) C dX12_stays_15 rfl rfl ?_
      refine r_getO (j := 47) C cl_X12 kd_262 ln_262 gc_262 (by decide) (by decide) rfl q_1600 dX12_stays_16 (fun h9526 => ?_)
      refine r_icmp_gt (tgt := 43) C h9521.2 h9526 dX12_stays_19 (by decide) (fun c9527 => ?_) (fun c9527 => ?_)
      · refine r_bt c9527 ?_
        refine r_L (L' := [(2, .int (zi s9520.1))]) [2] rfl ?_
        exact k9525 s9520.1 h9521.1
      · refine r_bf c9527 ?_
        refine r_iload_n (pc := 22) (j := 2) C dX12_stays_22 rfl rfl ?_
        refine r_aload_n (pc := 23) (j := 0) C dX12_stays_23 rfl rfl ?_
        refine r_iload_n (pc := 24) (j := 3) C dX12_stays_24 rfl rfl ?_
        refine r_bb ?_
        refine r_bd (fun q9529 e9530 => ?_)
        refine r_cV1 (pc := 25) (k := 262) (As := [.int (zi s9520.2)]) (st := [.int (zi s9520.1)]) C (m_X12_setOf (a1 := s9520.2) h9521.2 e9530) cal_X12_setOf cl_X12 kd_262 ln_262 q_2008 dX12_stays_25 rfl rfl (Nat.le_of_ble_eq_true rfl) (Nat.le_of_ble_eq_true rfl) (Nat.le_of_ble_eq_true rfl) (Nat.le_of_ble_eq_true rfl) (Nat.le_of_ble_eq_true rfl) (fun h9528 => ?_)
        refine r_iload_n (pc := 28) (j := 1) C dX12_stays_28 rfl rfl ?_
        refine r_cS1 (pc := 29) (As := [.int (zi q9529), .int (zi a1)]) (st := [.int (zi s9520.1)]) C (m_X12_has (a0 := q9529) (a1 := a1) h9528 ha1 rfl) cal_X12_has q_2040 dX12_stays_29 rfl rfl (Nat.le_of_ble_eq_true rfl) (Nat.le_of_ble_eq_true rfl) (Nat.le_of_ble_eq_true rfl) (Nat.le_of_ble_eq_true rfl) (Nat.le_of_ble_eq_true rfl) (fun h9531 => ?_)
        refine r_cS1 (pc := 32) (As := [.int (zi (f_X12_has q9529 a1))]) (st := [.int (zi s9520.1)]) C (m_X12_truth (a0 := f_X12_has q9529 a1) h9531 rfl) cal_X12_truth q_1959 dX12_stays_32 rfl rfl (Nat.le_of_ble_eq_true rfl) (Nat.le_of_ble_eq_true rfl) (Nat.le_of_ble_eq_true rfl) (Nat.le_of_ble_eq_true rfl) (Nat.le_of_ble_eq_true rfl) (fun h9532 => ?_)
        refine r_iadd C dX12_stays_35 ?_
        refine r_bj ?_
        refine r_jv (IR_wr _) (fun v9533 h9534 => ?_)
        refine r_istore_n (L' := [(2, .int (zi v9533)), (0, .ref (zad E 262)), (1, .int (zi a1)), (3, .int (zi s9520.2))]) C dX12_stays_36 rfl (by decide) rfl ?_
        refine r_iinc (j := 3) (L' := [(3, .int (zi (wr (s9520.2 + 1)))), (2, .int (zi v9533)), (0, .ref (zad E 262)), (1, .int (zi a1))]) C dX12_stays_37 rfl (by decide) rfl ?_
        refine r_goto (tgt := 14) C dX12_stays_40 (by decide) ?_
        refine r_L (L' := [(0, .ref (zad E 262)), (1, .int (zi a1)), (2, .int (zi v9533)), (3, .int (zi (wr (s9520.2 + 1))))]) [2, 3, 1, 0] rfl ?_
        exact k9523 (v9533, wr (s9520.2 + 1)) ⟨h9534, (IR_wr _)⟩
  · refine r_t c9519 ?_
    refine r_iconst (v := (-1)) C dX12_stays_8 (by decide) ?_
    exact r_ireturn C hQ rfl dX12_stays_9 (fun e => by cases e; exact ⟨(IRd rfl), rfl, rfl, rfl, rfl, rfl⟩)

def f_X12_nextTo (a1 : Int) (a2 : Int) (a3 : Int) (O : Smo) : Option (Int × Smo) :=
  Option.bind (f_X12_setOf a2 O) fun (q9575 : Int) =>
  if f_X12_has q9575 a1 = 0 then
    (some ((-2), O))
  else
    (Option.bind (f_X12_setOf a2 O) fun (q9580 : Int) =>
    Option.bind (f_X12_placeOf a2 O) fun (q9583 : Int) =>
    Option.bind (f_X12_layRow q9580 q9583 O) fun (q9586 : Smo) =>
    Option.bind (lp (fun (s9588 : Int × Int) =>
      if s9588.2 < q9586 262 58 then
        (Option.bind (aget (q9586 283) (Ln 283) s9588.2) fun (v9596 : Int) =>
        Option.bind (
          if (v9596 = a1 ∧ ¬ f_X12_isIn (wr (s9588.2 + a3)) 0 (wr ((q9586 262 58) - 1)) = 0) then
            (Option.bind (aget (q9586 283) (Ln 283) (wr (s9588.2 + a3))) fun (v9607 : Int) =>
            some v9607)
          else
            (some s9588.1)) fun (q9600 : Int) =>
        some (Sum.inl (q9600, wr (s9588.2 + 1))))
      else
        (some (Sum.inr s9588.1))) FU ((-1), 0)) fun (r9611 : Int) =>
    some (r9611, q9586))
set_option maxRecDepth 100000 in
set_option maxHeartbeats 4000000 in
theorem m_X12_nextTo {l : Launch} {E : EwT} {S : Sst} {O : Smo} {a1 : Int} (ha1 : IR a1) {a2 : Int} (ha2 : IR a2) {a3 : Int} (ha3 : IR a3) {q : Int × Smo} (hq : f_X12_nextTo a1 a2 a3 O = some q) : MetG l E yX12_nextTo cX12_nextTo 6 (some .int) 3 74 0 0 n0 R0 S O [.ref (zad E 262), .int (zi a1), .int (zi a2), .int (zi a3)] (IR q.1) (some (.int (zi q.1))) n0 R0 S q.2 := by
  refine ofG (L0 := [(0, .ref (zad E 262)), (1, .int (zi a1)), (2, .int (zi a2)), (3, .int (zi a3))]) hq (by decide +kernel) (Nat.le_of_ble_eq_true rfl) rfl (fun K _ C hQ => ?_)
  unfold f_X12_nextTo
  refine r_aload_n (pc := 0) (j := 0) C dX12_nextTo_0 rfl rfl ?_
  refine r_iload_n (pc := 1) (j := 2) C dX12_nextTo_1 rfl rfl ?_
  refine r_bd (fun q9575 e9576 => ?_)
  refine r_cV1 (pc := 2) (k := 262) (As := [.int (zi a2)]) (st := []) C (m_X12_setOf (a1 := a2) ha2 e9576) cal_X12_setOf cl_X12 kd_262 ln_262 q_2008 dX12_nextTo_2 rfl rfl (Nat.le_of_ble_eq_true rfl) (Nat.le_of_ble_eq_true rfl) (Nat.le_of_ble_eq_true rfl) (Nat.le_of_ble_eq_true rfl) (Nat.le_of_ble_eq_true rfl) (fun h9574 => ?_)
  refine r_iload_n (pc := 5) (j := 1) C dX12_nextTo_5 rfl rfl ?_
  refine r_cS1 (pc := 6) (As := [.int (zi q9575), .int (zi a1)]) (st := []) C (m_X12_has (a0 := q9575) (a1 := a1) h9574 ha1 rfl) cal_X12_has q_2040 dX12_nextTo_6 rfl rfl (Nat.le_of_ble_eq_true rfl) (Nat.le_of_ble_eq_true rfl) (Nat.le_of_ble_eq_true rfl) (Nat.le_of_ble_eq_true rfl) (Nat.le_of_ble_eq_true rfl) (fun h9577 => ?_)
  refine r_if_ne (tgt := 15) C h9577.ir dX12_nextTo_9 (by decide) (fun c9578 => ?_) (fun c9578 => ?_)
  · refine r_f c9578 ?_
    refine r_aload_n (pc := 15) (j := 0) C dX12_nextTo_15 rfl rfl ?_
    refine r_aload_n (pc := 16) (j := 0) C dX12_nextTo_16 rfl rfl ?_
    refine r_iload_n (pc := 17) (j := 2) C dX12_nextTo_17 rfl rfl ?_
    refine r_bd (fun q9580 e9581 => ?_)
    refine r_cV1 (pc := 18) (k := 262) (As := [.int (zi a2)]) (st := [.ref (zad E 262)]) C (m_X12_setOf (a1 := a2) ha2 e9581) cal_X12_setOf cl_X12 kd_262 ln_262 q_2008 dX12_nextTo_18 rfl rfl (Nat.le_of_ble_eq_true rfl) (Nat.le_of_ble_eq_true rfl) (Nat.le_of_ble_eq_true rfl) (Nat.le_of_ble_eq_true rfl) (Nat.le_of_ble_eq_true rfl) (fun h9579 => ?_)
    refine r_aload_n (pc := 21) (j := 0) C dX12_nextTo_21 rfl rfl ?_
    refine r_iload_n (pc := 22) (j := 2) C dX12_nextTo_22 rfl rfl ?_
    refine r_bd (fun q9583 e9584 => ?_)
    refine r_cV1 (pc := 23) (k := 262) (As := [.int (zi a2)]) (st := [.int (zi q9580), .ref (zad E 262)]) C (m_X12_placeOf (a1 := a2) ha2 e9584) cal_X12_placeOf cl_X12 kd_262 ln_262 q_2032 dX12_nextTo_23 rfl rfl (Nat.le_of_ble_eq_true rfl) (Nat.le_of_ble_eq_true rfl) (Nat.le_of_ble_eq_true rfl) (Nat.le_of_ble_eq_true rfl) (Nat.le_of_ble_eq_true rfl) (fun h9582 => ?_)
    refine r_bd (fun q9586 e9587 => ?_)
    refine r_cV0 (pc := 26) (k := 262) (As := [.int (zi q9580), .int (zi q9583)]) (st := []) C (m_X12_layRow (a1 := q9580) (a2 := q9583) h9579 h9582 e9587) cal_X12_layRow cl_X12 kd_262 ln_262 q_2036 dX12_nextTo_26 rfl rfl (Nat.le_of_ble_eq_true rfl) (Nat.le_of_ble_eq_true rfl) (Nat.le_of_ble_eq_true rfl) (Nat.le_of_ble_eq_true rfl) (Nat.le_of_ble_eq_true rfl) (fun h9585 => ?_)
    refine r_iconst (v := (-1)) C dX12_nextTo_29 (by decide) ?_
    refine r_istore (L' := [(4, .int (zi (-1))), (0, .ref (zad E 262)), (1, .int (zi a1)), (2, .int (zi a2)), (3, .int (zi a3))]) C dX12_nextTo_30 (by decide) rfl ?_
    refine r_iconst (v := 0) C dX12_nextTo_32 (by decide) ?_
    refine r_istore (L' := [(5, .int (zi 0)), (4, .int (zi (-1))), (0, .ref (zad E 262)), (1, .int (zi a1)), (2, .int (zi a2)), (3, .int (zi a3))]) C dX12_nextTo_33 (by decide) rfl ?_
    refine r_L (L' := [(0, .ref (zad E 262)), (1, .int (zi a1)), (3, .int (zi a3)), (4, .int (zi (-1))), (5, .int (zi 0))]) [2, 3, 5, 1, 0] rfl ?_
    refine r_loop1 (fun s9588 : Int × Int => IR s9588.1 ∧ IR s9588.2) (fun s9588 => S) (fun s9588 => q9586) (fun s9588 => [(0, .ref (zad E 262)), (1, .int (zi a1)), (3, .int (zi a3)), (4, .int (zi s9588.1)), (5, .int (zi s9588.2))]) [] (fun r9611 : Int => IR r9611) (fun r9611 => S) (fun r9611 => q9586) (fun r9611 => [(4, .int (zi r9611))]) 94 (fun r9611 h9612 => ?_) (fun k9590 k9592 k9591 k9593 s9588 h9589 => ?_) ⟨(IRd rfl), (IRd rfl)⟩
    · refine r_iload (pc := 94) (j := 0) C dX12_nextTo_94 rfl ?_
      exact r_ireturn C hQ rfl dX12_nextTo_96 (fun e => by cases e; exact ⟨h9612, rfl, rfl, rfl, rfl, rfl⟩)
    · refine r_iload (pc := 35) (j := 4) C dX12_nextTo_35 rfl ?_
      refine r_aload_n (pc := 37) (j := 0) C dX12_nextTo_37 rfl rfl ?_
      refine r_getO (j := 58) C cl_X12 kd_262 ln_262 gc_262 (by decide) (by decide) rfl q_1611 dX12_nextTo_38 (fun h9594 => ?_)
      refine r_icmp_ge (tgt := 94) C h9589.2 h9594 dX12_nextTo_41 (by decide) (fun c9595 => ?_) (fun c9595 => ?_)
      · refine r_bf c9595 ?_
        refine r_L (L' := [(4, .int (zi s9588.1))]) [3] rfl ?_
        exact k9593 s9588.1 h9589.1
      · refine r_bt c9595 ?_
        refine r_aload_n (pc := 44) (j := 0) C dX12_nextTo_44 rfl rfl ?_
        refine r_getR (j := 50) (r := 283) C cl_X12 kd_262 ln_262 (by decide) rfl r0_262_50 (by decide) q_1603 dX12_nextTo_45 ?_
        refine r_iload (pc := 48) (j := 4) C dX12_nextTo_48 rfl ?_
        refine r_bb ?_
        refine r_iald C kd_283 ln_283 gc_283 h9589.2 dX12_nextTo_50 (fun v9596 h9597 => ?_)
        refine r_iload_n (pc := 51) (j := 1) C dX12_nextTo_51 rfl rfl ?_
        refine r_bb ?_
        refine r_joinb (fun q9600 : Int => IR q9600) (fun q9600 => S) (fun q9600 => q9586) (fun q9600 => [(0, .ref (zad E 262)), (1, .int (zi a1)), (3, .int (zi a3)), (5, .int (zi s9588.2))]) 86 (fun q9600 => [.int (zi q9600)]) (fun q9600 h9601 => ?_) (fun k9602 k9603 => ?_)
        · refine r_istore (L' := [(4, .int (zi q9600)), (0, .ref (zad E 262)), (1, .int (zi a1)), (3, .int (zi a3)), (5, .int (zi s9588.2))]) C dX12_nextTo_86 (by decide) rfl ?_
          refine r_iinc (j := 4) (L' := [(5, .int (zi (wr (s9588.2 + 1)))), (4, .int (zi q9600)), (0, .ref (zad E 262)), (1, .int (zi a1)), (3, .int (zi a3))]) C dX12_nextTo_88 rfl (by decide) rfl ?_
          refine r_goto (tgt := 35) C dX12_nextTo_91 (by decide) ?_
          refine r_L (L' := [(0, .ref (zad E 262)), (1, .int (zi a1)), (3, .int (zi a3)), (4, .int (zi q9600)), (5, .int (zi (wr (s9588.2 + 1))))]) [2, 3, 4, 1, 0] rfl ?_
          exact k9591 (q9600, wr (s9588.2 + 1)) ⟨h9601, (IR_wr _)⟩
        · refine r_cut (v9596 = a1 ∧ ¬ f_X12_isIn (wr (s9588.2 + a3)) 0 (wr ((q9586 262 58) - 1)) = 0) 72 84 [] (fun c9604 => ?_) (fun c9604 => ?_) (fun k9605 k9606 => ?_)
          · refine r_bt c9604 ?_
            refine r_aload_n (pc := 72) (j := 0) C dX12_nextTo_72 rfl rfl ?_
            refine r_getR (j := 50) (r := 283) C cl_X12 kd_262 ln_262 (by decide) rfl r0_262_50 (by decide) q_1603 dX12_nextTo_73 ?_
            refine r_iload (pc := 76) (j := 4) C dX12_nextTo_76 rfl ?_
            refine r_iload_n (pc := 78) (j := 2) C dX12_nextTo_78 rfl rfl ?_
            refine r_iadd C dX12_nextTo_79 ?_
            refine r_bb ?_
            refine r_iald C kd_283 ln_283 gc_283 (IR_wr _) dX12_nextTo_80 (fun v9607 h9608 => ?_)
            refine r_goto (tgt := 86) C dX12_nextTo_81 (by decide) ?_
            refine r_L (L' := [(0, .ref (zad E 262)), (1, .int (zi a1)), (3, .int (zi a3)), (5, .int (zi s9588.2))]) [0, 1, 2, 4] rfl ?_
            exact k9603 v9607 h9608
          · refine r_bf c9604 ?_
            refine r_iload (pc := 84) (j := 3) C dX12_nextTo_84 rfl ?_
            refine r_L (L' := [(0, .ref (zad E 262)), (1, .int (zi a1)), (3, .int (zi a3)), (5, .int (zi s9588.2))]) [0, 1, 2, 4] rfl ?_
            exact k9603 s9588.1 h9589.1
          · refine r_icmp_ne (tgt := 84) C h9597 ha1 dX12_nextTo_52 (by decide) (fun c9609 => ?_) (fun c9609 => ?_)
            · exact k9606 (fun w => c9609 w.1)
            · refine r_iload (pc := 55) (j := 4) C dX12_nextTo_55 rfl ?_
              refine r_iload_n (pc := 57) (j := 2) C dX12_nextTo_57 rfl rfl ?_
              refine r_iadd C dX12_nextTo_58 ?_
              refine r_iconst (v := 0) C dX12_nextTo_59 (by decide) ?_
              refine r_aload_n (pc := 60) (j := 0) C dX12_nextTo_60 rfl rfl ?_
              refine r_getO (j := 58) C cl_X12 kd_262 ln_262 gc_262 (by decide) (by decide) rfl q_1611 dX12_nextTo_61 (fun h9598 => ?_)
              refine r_iconst (v := 1) C dX12_nextTo_64 (by decide) ?_
              refine r_isub C dX12_nextTo_65 ?_
              refine r_cS1 (pc := 66) (As := [.int (zi (wr (s9588.2 + a3))), .int (zi 0), .int (zi (wr ((q9586 262 58) - 1)))]) (st := []) C (m_X12_isIn (a0 := wr (s9588.2 + a3)) (a1 := 0) (a2 := wr ((q9586 262 58) - 1)) (IR_wr _) (IRd rfl) (IR_wr _) rfl) cal_X12_isIn q_1981 dX12_nextTo_66 rfl rfl (Nat.le_of_ble_eq_true rfl) (Nat.le_of_ble_eq_true rfl) (Nat.le_of_ble_eq_true rfl) (Nat.le_of_ble_eq_true rfl) (Nat.le_of_ble_eq_true rfl) (fun h9599 => ?_)
              refine r_if_eq (tgt := 84) C h9599.ir dX12_nextTo_69 (by decide) (fun c9610 => ?_) (fun c9610 => ?_)
              · exact k9606 (fun w => w.2 c9610)
              · exact k9605 ⟨c9609, c9610⟩
  · refine r_t c9578 ?_
    refine r_bipush (v := (-2)) C dX12_nextTo_12 (by decide) ?_
    exact r_ireturn C hQ rfl dX12_nextTo_14 (fun e => by cases e; exact ⟨(IRd rfl), rfl, rfl, rfl, rfl, rfl⟩)

def f_X12_sight (a1 : Int) (a2 : Int) (O : Smo) : Option (Int × Smo) :=
  if (f_X12_isSegment a1 O = 0 ∨ f_X12_isIn a2 0 1 = 0) then
    (some ((-1), O))
  else
    (Option.bind (lp (fun (s9646 : Int × Int × Smo) =>
      if s9646.2.2 262 47 < s9646.2.1 then
        (some (Sum.inr (s9646.1, s9646.2.2)))
      else
        (jn (
          if a2 = 0 then
            (1)
          else
            ((-1))) fun (q9654 : Int) =>
        Option.bind (f_X12_nextTo a1 s9646.2.1 q9654 s9646.2.2) fun (q9660 : Int × Smo) =>
        jn (
          if q9660.1 < 0 then
            (0)
          else
            (zshl 1 q9660.1)) fun (q9662 : Int) =>
        jn (zor s9646.1 q9662) fun (v9667 : Int) =>
        some (Sum.inl (v9667, wr (s9646.2.1 + 1), q9660.2)))) FU (0, 0, O)) fun (r9669 : Int × Smo) =>
    some (r9669.1, r9669.2))
set_option maxRecDepth 100000 in
set_option maxHeartbeats 4000000 in
theorem m_X12_sight {l : Launch} {E : EwT} {S : Sst} {O : Smo} {a1 : Int} (ha1 : IR a1) {a2 : Int} (ha2 : IR a2) {q : Int × Smo} (hq : f_X12_sight a1 a2 O = some q) : MetG l E yX12_sight cX12_sight 6 (some .int) 4 99 0 0 n0 R0 S O [.ref (zad E 262), .int (zi a1), .int (zi a2)] (IR q.1) (some (.int (zi q.1))) n0 R0 S q.2 := by
  refine ofG (L0 := [(0, .ref (zad E 262)), (1, .int (zi a1)), (2, .int (zi a2))]) hq (by decide +kernel) (Nat.le_of_ble_eq_true rfl) rfl (fun K _ C hQ => ?_)
  unfold f_X12_sight
  refine r_aload_n (pc := 0) (j := 0) C dX12_sight_0 rfl rfl ?_
  refine r_iload_n (pc := 1) (j := 1) C dX12_sight_1 rfl rfl ?_
  refine r_cV1 (pc := 2) (k := 262) (As := [.int (zi a1)]) (st := []) C (m_X12_isSegment (a1 := a1) ha1 rfl) cal_X12_isSegment cl_X12 kd_262 ln_262 q_1977 dX12_sight_2 rfl rfl (Nat.le_of_ble_eq_true rfl) (Nat.le_of_ble_eq_true rfl) (Nat.le_of_ble_eq_true rfl) (Nat.le_of_ble_eq_true rfl) (Nat.le_of_ble_eq_true rfl) (fun h9641 => ?_)
  refine r_cut (f_X12_isSegment a1 O = 0 ∨ f_X12_isIn a2 0 1 = 0) 17 19 [] (fun c9643 => ?_) (fun c9643 => ?_) (fun k9644 k9645 => ?_)
  · refine r_t c9643 ?_
    refine r_iconst (v := (-1)) C dX12_sight_17 (by decide) ?_
    exact r_ireturn C hQ rfl dX12_sight_18 (fun e => by cases e; exact ⟨(IRd rfl), rfl, rfl, rfl, rfl, rfl⟩)
  · refine r_f c9643 ?_
    refine r_iconst (v := 0) C dX12_sight_19 (by decide) ?_
    refine r_istore_n (L' := [(3, .int (zi 0)), (0, .ref (zad E 262)), (1, .int (zi a1)), (2, .int (zi a2))]) C dX12_sight_20 rfl (by decide) rfl ?_
    refine r_iconst (v := 0) C dX12_sight_21 (by decide) ?_
    refine r_istore (L' := [(4, .int (zi 0)), (3, .int (zi 0)), (0, .ref (zad E 262)), (1, .int (zi a1)), (2, .int (zi a2))]) C dX12_sight_22 (by decide) rfl ?_
    refine r_L (L' := [(0, .ref (zad E 262)), (1, .int (zi a1)), (2, .int (zi a2)), (3, .int (zi 0)), (4, .int (zi 0))]) [2, 3, 4, 1, 0] rfl ?_
    refine r_loop1 (fun s9646 : Int × Int × Smo => IR s9646.1 ∧ IR s9646.2.1) (fun s9646 => S) (fun s9646 => s9646.2.2) (fun s9646 => [(0, .ref (zad E 262)), (1, .int (zi a1)), (2, .int (zi a2)), (3, .int (zi s9646.1)), (4, .int (zi s9646.2.1))]) [] (fun r9669 : Int × Smo => IR r9669.1) (fun r9669 => S) (fun r9669 => r9669.2) (fun r9669 => [(3, .int (zi r9669.1))]) 73 (fun r9669 h9670 => ?_) (fun k9648 k9650 k9649 k9651 s9646 h9647 => ?_) ⟨(IRd rfl), (IRd rfl)⟩
    · refine r_iload_n (pc := 73) (j := 0) C dX12_sight_73 rfl rfl ?_
      exact r_ireturn C hQ rfl dX12_sight_74 (fun e => by cases e; exact ⟨h9670, rfl, rfl, rfl, rfl, rfl⟩)
    · refine r_iload (pc := 24) (j := 4) C dX12_sight_24 rfl ?_
      refine r_aload_n (pc := 26) (j := 0) C dX12_sight_26 rfl rfl ?_
      refine r_getO (j := 47) C cl_X12 kd_262 ln_262 gc_262 (by decide) (by decide) rfl q_1600 dX12_sight_27 (fun h9652 => ?_)
      refine r_icmp_gt (tgt := 73) C h9647.2 h9652 dX12_sight_30 (by decide) (fun c9653 => ?_) (fun c9653 => ?_)
      · refine r_bt c9653 ?_
        refine r_L (L' := [(3, .int (zi s9646.1))]) [3] rfl ?_
        exact k9651 (s9646.1, s9646.2.2) h9647.1
      · refine r_bf c9653 ?_
        refine r_aload_n (pc := 33) (j := 0) C dX12_sight_33 rfl rfl ?_
        refine r_iload_n (pc := 34) (j := 1) C dX12_sight_34 rfl rfl ?_
        refine r_iload (pc := 35) (j := 4) C dX12_sight_35 rfl ?_
        refine r_iload_n (pc := 37) (j := 2) C dX12_sight_37 rfl rfl ?_
        refine r_bj ?_
        refine r_join (fun q9654 : Int => IR q9654) (fun q9654 => S) (fun q9654 => s9646.2.2) (fun q9654 => [(0, .ref (zad E 262)), (1, .int (zi a1)), (2, .int (zi a2)), (3, .int (zi s9646.1)), (4, .int (zi s9646.2.1))]) 46 (fun q9654 => [.int (zi q9654), .int (zi s9646.2.1), .int (zi a1), .ref (zad E 262)]) (fun q9654 h9655 => ?_) (fun k9656 k9657 => ?_)
        · refine r_bb ?_
          refine r_bd (fun q9660 e9661 => ?_)
          refine r_cV1 (pc := 46) (k := 262) (As := [.int (zi a1), .int (zi s9646.2.1), .int (zi q9654)]) (st := []) C (m_X12_nextTo (a1 := a1) (a2 := s9646.2.1) (a3 := q9654) ha1 h9647.2 h9655 e9661) cal_X12_nextTo cl_X12 kd_262 ln_262 q_2305 dX12_sight_46 rfl rfl (Nat.le_of_ble_eq_true rfl) (Nat.le_of_ble_eq_true rfl) (Nat.le_of_ble_eq_true rfl) (Nat.le_of_ble_eq_true rfl) (Nat.le_of_ble_eq_true rfl) (fun h9659 => ?_)
          refine r_istore (L' := [(5, .int (zi q9660.1)), (0, .ref (zad E 262)), (1, .int (zi a1)), (2, .int (zi a2)), (3, .int (zi s9646.1)), (4, .int (zi s9646.2.1))]) C dX12_sight_49 (by decide) rfl ?_
          refine r_iload_n (pc := 51) (j := 4) C dX12_sight_51 rfl rfl ?_
          refine r_iload (pc := 52) (j := 0) C dX12_sight_52 rfl ?_
          refine r_bj ?_
          refine r_join (fun q9662 : Int => IR q9662) (fun q9662 => S) (fun q9662 => q9660.2) (fun q9662 => [(0, .ref (zad E 262)), (1, .int (zi a1)), (2, .int (zi a2)), (4, .int (zi s9646.2.1))]) 65 (fun q9662 => [.int (zi q9662), .int (zi s9646.1)]) (fun q9662 h9663 => ?_) (fun k9664 k9665 => ?_)
          · refine r_ior C dX12_sight_65 ?_
            refine r_bj ?_
            refine r_jv (i32_IR _) (fun v9667 h9668 => ?_)
            refine r_istore_n (L' := [(3, .int (zi v9667)), (0, .ref (zad E 262)), (1, .int (zi a1)), (2, .int (zi a2)), (4, .int (zi s9646.2.1))]) C dX12_sight_66 rfl (by decide) rfl ?_
            refine r_iinc (j := 4) (L' := [(4, .int (zi (wr (s9646.2.1 + 1)))), (3, .int (zi v9667)), (0, .ref (zad E 262)), (1, .int (zi a1)), (2, .int (zi a2))]) C dX12_sight_67 rfl (by decide) rfl ?_
            refine r_goto (tgt := 24) C dX12_sight_70 (by decide) ?_
            refine r_L (L' := [(0, .ref (zad E 262)), (1, .int (zi a1)), (2, .int (zi a2)), (3, .int (zi v9667)), (4, .int (zi (wr (s9646.2.1 + 1))))]) [2, 3, 4, 1, 0] rfl ?_
            exact k9649 (v9667, wr (s9646.2.1 + 1), q9660.2) ⟨h9668, (IR_wr _)⟩
          · refine r_if_ge (tgt := 61) C h9659 dX12_sight_54 (by decide) (fun c9666 => ?_) (fun c9666 => ?_)
            · refine r_jf c9666 ?_
              refine r_iconst (v := 1) C dX12_sight_61 (by decide) ?_
              refine r_iload (pc := 62) (j := 0) C dX12_sight_62 rfl ?_
              refine r_ishl C dX12_sight_64 ?_
              refine r_L (L' := [(0, .ref (zad E 262)), (1, .int (zi a1)), (2, .int (zi a2)), (4, .int (zi s9646.2.1))]) [1, 2, 3, 5] rfl ?_
              exact k9665 (zshl 1 q9660.1) (i32_IR _)
            · refine r_jt c9666 ?_
              refine r_iconst (v := 0) C dX12_sight_57 (by decide) ?_
              refine r_goto (tgt := 65) C dX12_sight_58 (by decide) ?_
              refine r_L (L' := [(0, .ref (zad E 262)), (1, .int (zi a1)), (2, .int (zi a2)), (4, .int (zi s9646.2.1))]) [1, 2, 3, 5] rfl ?_
              exact k9665 0 (IRd rfl)
        · refine r_if_ne (tgt := 45) C ha2 dX12_sight_38 (by decide) (fun c9658 => ?_) (fun c9658 => ?_)
          · refine r_jf c9658 ?_
            refine r_iconst (v := (-1)) C dX12_sight_45 (by decide) ?_
            exact k9657 (-1) (IRd rfl)
          · refine r_jt c9658 ?_
            refine r_iconst (v := 1) C dX12_sight_41 (by decide) ?_
            refine r_goto (tgt := 46) C dX12_sight_42 (by decide) ?_
            exact k9657 1 (IRd rfl)
  · refine r_if_eq (tgt := 17) C h9641.ir dX12_sight_5 (by decide) (fun c9671 => ?_) (fun c9671 => ?_)
    · exact k9644 (Or.inl c9671)
    · refine r_iload_n (pc := 8) (j := 2) C dX12_sight_8 rfl rfl ?_
      refine r_iconst (v := 0) C dX12_sight_9 (by decide) ?_
      refine r_iconst (v := 1) C dX12_sight_10 (by decide) ?_
      refine r_cS1 (pc := 11) (As := [.int (zi a2), .int (zi 0), .int (zi 1)]) (st := []) C (m_X12_isIn (a0 := a2) (a1 := 0) (a2 := 1) ha2 (IRd rfl) (IRd rfl) rfl) cal_X12_isIn q_1981 dX12_sight_11 rfl rfl (Nat.le_of_ble_eq_true rfl) (Nat.le_of_ble_eq_true rfl) (Nat.le_of_ble_eq_true rfl) (Nat.le_of_ble_eq_true rfl) (Nat.le_of_ble_eq_true rfl) (fun h9642 => ?_)
      refine r_if_ne (tgt := 19) C h9642.ir dX12_sight_14 (by decide) (fun c9672 => ?_) (fun c9672 => ?_)
      · exact k9645 (fun w => w.elim c9671 c9672)
      · exact k9644 (Or.inr c9672)

def f_X12_endOf (a1 : Int) (O : Smo) : Option (Int) :=
  if a1 < O 262 47 then
    (Option.bind (f_X12_placeOf (wr (a1 + 1)) O) fun (q9676 : Int) =>
    some q9676)
  else
    (Option.bind (f_X12_nextEvent O) fun (q9679 : Int) =>
    if q9679 < 0 then
      (Option.bind (f_X12_placeOf a1 O) fun (q9683 : Int) =>
      some q9683)
    else
      (Option.bind (f_X12_nextEvent O) fun (q9686 : Int) =>
      some q9686))
set_option maxRecDepth 100000 in
set_option maxHeartbeats 4000000 in
theorem m_X12_endOf {l : Launch} {E : EwT} {S : Sst} {O : Smo} {a1 : Int} (ha1 : IR a1) {q : Int} (hq : f_X12_endOf a1 O = some q) : MetG l E yX12_endOf cX12_endOf 2 (some .int) 2 40 0 0 n0 R0 S O [.ref (zad E 262), .int (zi a1)] (IR q) (some (.int (zi q))) n0 R0 S O := by
  refine ofG (L0 := [(0, .ref (zad E 262)), (1, .int (zi a1))]) hq (by decide +kernel) (Nat.le_of_ble_eq_true rfl) rfl (fun K _ C hQ => ?_)
  unfold f_X12_endOf
  refine r_iload_n (pc := 0) (j := 1) C dX12_endOf_0 rfl rfl ?_
  refine r_aload_n (pc := 1) (j := 0) C dX12_endOf_1 rfl rfl ?_
  refine r_getO (j := 47) C cl_X12 kd_262 ln_262 gc_262 (by decide) (by decide) rfl q_1600 dX12_endOf_2 (fun h9673 => ?_)
  refine r_icmp_ge (tgt := 18) C ha1 h9673 dX12_endOf_5 (by decide) (fun c9674 => ?_) (fun c9674 => ?_)
  · refine r_f c9674 ?_
    refine r_aload_n (pc := 18) (j := 0) C dX12_endOf_18 rfl rfl ?_
    refine r_bd (fun q9679 e9680 => ?_)
    refine r_cV1 (pc := 19) (k := 262) (As := []) (st := []) C (m_X12_nextEvent  e9680) cal_X12_nextEvent cl_X12 kd_262 ln_262 q_2174 dX12_endOf_19 rfl rfl (Nat.le_of_ble_eq_true rfl) (Nat.le_of_ble_eq_true rfl) (Nat.le_of_ble_eq_true rfl) (Nat.le_of_ble_eq_true rfl) (Nat.le_of_ble_eq_true rfl) (fun h9678 => ?_)
    refine r_if_ge (tgt := 33) C h9678 dX12_endOf_22 (by decide) (fun c9681 => ?_) (fun c9681 => ?_)
    · refine r_f c9681 ?_
      refine r_aload_n (pc := 33) (j := 0) C dX12_endOf_33 rfl rfl ?_
      refine r_bd (fun q9686 e9687 => ?_)
      refine r_cV1 (pc := 34) (k := 262) (As := []) (st := []) C (m_X12_nextEvent  e9687) cal_X12_nextEvent cl_X12 kd_262 ln_262 q_2174 dX12_endOf_34 rfl rfl (Nat.le_of_ble_eq_true rfl) (Nat.le_of_ble_eq_true rfl) (Nat.le_of_ble_eq_true rfl) (Nat.le_of_ble_eq_true rfl) (Nat.le_of_ble_eq_true rfl) (fun h9685 => ?_)
      exact r_ireturn C hQ rfl dX12_endOf_37 (fun e => by cases e; exact ⟨h9685, rfl, rfl, rfl, rfl, rfl⟩)
    · refine r_t c9681 ?_
      refine r_aload_n (pc := 25) (j := 0) C dX12_endOf_25 rfl rfl ?_
      refine r_iload_n (pc := 26) (j := 1) C dX12_endOf_26 rfl rfl ?_
      refine r_bd (fun q9683 e9684 => ?_)
      refine r_cV1 (pc := 27) (k := 262) (As := [.int (zi a1)]) (st := []) C (m_X12_placeOf (a1 := a1) ha1 e9684) cal_X12_placeOf cl_X12 kd_262 ln_262 q_2032 dX12_endOf_27 rfl rfl (Nat.le_of_ble_eq_true rfl) (Nat.le_of_ble_eq_true rfl) (Nat.le_of_ble_eq_true rfl) (Nat.le_of_ble_eq_true rfl) (Nat.le_of_ble_eq_true rfl) (fun h9682 => ?_)
      refine r_goto (tgt := 37) C dX12_endOf_30 (by decide) ?_
      exact r_ireturn C hQ rfl dX12_endOf_37 (fun e => by cases e; exact ⟨h9682, rfl, rfl, rfl, rfl, rfl⟩)
  · refine r_t c9674 ?_
    refine r_aload_n (pc := 8) (j := 0) C dX12_endOf_8 rfl rfl ?_
    refine r_iload_n (pc := 9) (j := 1) C dX12_endOf_9 rfl rfl ?_
    refine r_iconst (v := 1) C dX12_endOf_10 (by decide) ?_
    refine r_iadd C dX12_endOf_11 ?_
    refine r_bd (fun q9676 e9677 => ?_)
    refine r_cV1 (pc := 12) (k := 262) (As := [.int (zi (wr (a1 + 1)))]) (st := []) C (m_X12_placeOf (a1 := wr (a1 + 1)) (IR_wr _) e9677) cal_X12_placeOf cl_X12 kd_262 ln_262 q_2032 dX12_endOf_12 rfl rfl (Nat.le_of_ble_eq_true rfl) (Nat.le_of_ble_eq_true rfl) (Nat.le_of_ble_eq_true rfl) (Nat.le_of_ble_eq_true rfl) (Nat.le_of_ble_eq_true rfl) (fun h9675 => ?_)
    refine r_goto (tgt := 37) C dX12_endOf_15 (by decide) ?_
    exact r_ireturn C hQ rfl dX12_endOf_37 (fun e => by cases e; exact ⟨h9675, rfl, rfl, rfl, rfl, rfl⟩)

def f_X12_trapezes (O : Smo) : Option (Int × Smo) :=
  Option.bind (lp (fun (s9804 : Int × Int × Smo) =>
    if s9804.2.1 < s9804.2.2 262 39 then
      (Option.bind (lp (fun (s9812 : Int × Int × Int × Smo) =>
        if s9812.2.2.2 262 47 < s9812.2.2.1 then
          (some (Sum.inr (s9812.1, s9812.2.2.2)))
        else
          (Option.bind (f_X12_nextTo s9804.2.1 s9812.2.2.1 1 s9812.2.2.2) fun (q9821 : Int × Smo) =>
          Option.bind (
            if 0 < s9812.2.2.1 then
              (Option.bind (f_X12_nextTo s9804.2.1 (wr (s9812.2.2.1 - 1)) 1 q9821.2) fun (q9829 : Int × Smo) =>
              if q9821.1 = q9829.1 then
                (some (s9812.2.1, q9829.2))
              else
                (Option.bind (f_X12_placeOf s9812.2.2.1 q9829.2) fun (q9833 : Int) =>
                some (q9833, q9829.2)))
            else
              (some (s9812.2.1, q9821.2))) fun (q9823 : Int × Smo) =>
          Option.bind (
            if s9812.2.2.1 = q9823.2 262 47 then
              (some (1, q9823.2))
            else
              (Option.bind (f_X12_nextTo s9804.2.1 (wr (s9812.2.2.1 + 1)) 1 q9823.2) fun (q9842 : Int × Smo) =>
              if q9821.1 = q9842.1 then
                (some (0, q9842.2))
              else
                (some (1, q9842.2)))) fun (q9836 : Int × Smo) =>
          Option.bind (
            if (q9821.1 = (-2) ∨ q9836.1 = 0) then
              (some 0)
            else
              (Option.bind (f_X12_endOf s9812.2.2.1 q9836.2) fun (q9853 : Int) =>
              if q9823.1 < q9853 then
                (some 1)
              else
                (some 0))) fun (q9845 : Int) =>
          jn (wr (s9812.1 + (f_X12_truth q9845))) fun (v9859 : Int) =>
          some (Sum.inl (v9859, q9823.1, wr (s9812.2.2.1 + 1), q9836.2)))) FU (s9804.1, 0, 0, s9804.2.2)) fun (r9861 : Int × Smo) =>
      some (Sum.inl (r9861.1, wr (s9804.2.1 + 1), r9861.2)))
    else
      (some (Sum.inr (s9804.1, s9804.2.2)))) FU (0, 0, O)) fun (r9863 : Int × Smo) =>
  some (r9863.1, r9863.2)
set_option maxRecDepth 100000 in
set_option maxHeartbeats 4000000 in
theorem m_X12_trapezes {l : Launch} {E : EwT} {S : Sst} {O : Smo}  {q : Int × Smo} (hq : f_X12_trapezes O = some q) : MetG l E yX12_trapezes cX12_trapezes 7 (some .int) 4 99 0 0 n0 R0 S O [.ref (zad E 262)] (IR q.1) (some (.int (zi q.1))) n0 R0 S q.2 := by
  refine ofG (L0 := [(0, .ref (zad E 262))]) hq (by decide +kernel) (Nat.le_of_ble_eq_true rfl) rfl (fun K _ C hQ => ?_)
  unfold f_X12_trapezes
  refine r_iconst (v := 0) C dX12_trapezes_0 (by decide) ?_
  refine r_istore_n (L' := [(1, .int (zi 0)), (0, .ref (zad E 262))]) C dX12_trapezes_1 rfl (by decide) rfl ?_
  refine r_iconst (v := 0) C dX12_trapezes_2 (by decide) ?_
  refine r_istore_n (L' := [(2, .int (zi 0)), (1, .int (zi 0)), (0, .ref (zad E 262))]) C dX12_trapezes_3 rfl (by decide) rfl ?_
  refine r_L (L' := [(0, .ref (zad E 262)), (1, .int (zi 0)), (2, .int (zi 0))]) [2, 1, 0] rfl ?_
  refine r_loop1 (fun s9804 : Int × Int × Smo => IR s9804.1 ∧ IR s9804.2.1) (fun s9804 => S) (fun s9804 => s9804.2.2) (fun s9804 => [(0, .ref (zad E 262)), (1, .int (zi s9804.1)), (2, .int (zi s9804.2.1))]) [] (fun r9863 : Int × Smo => IR r9863.1) (fun r9863 => S) (fun r9863 => r9863.2) (fun r9863 => [(1, .int (zi r9863.1))]) 139 (fun r9863 h9864 => ?_) (fun k9806 k9808 k9807 k9809 s9804 h9805 => ?_) ⟨(IRd rfl), (IRd rfl)⟩
  · refine r_iload_n (pc := 139) (j := 0) C dX12_trapezes_139 rfl rfl ?_
    exact r_ireturn C hQ rfl dX12_trapezes_140 (fun e => by cases e; exact ⟨h9864, rfl, rfl, rfl, rfl, rfl⟩)
  · refine r_iload_n (pc := 4) (j := 2) C dX12_trapezes_4 rfl rfl ?_
    refine r_aload_n (pc := 5) (j := 0) C dX12_trapezes_5 rfl rfl ?_
    refine r_getO (j := 39) C cl_X12 kd_262 ln_262 gc_262 (by decide) (by decide) rfl q_1592 dX12_trapezes_6 (fun h9810 => ?_)
    refine r_icmp_ge (tgt := 139) C h9805.2 h9810 dX12_trapezes_9 (by decide) (fun c9811 => ?_) (fun c9811 => ?_)
    · refine r_bf c9811 ?_
      refine r_L (L' := [(1, .int (zi s9804.1))]) [1] rfl ?_
      exact k9809 (s9804.1, s9804.2.2) h9805.1
    · refine r_bt c9811 ?_
      refine r_iconst (v := 0) C dX12_trapezes_12 (by decide) ?_
      refine r_istore_n (L' := [(3, .int (zi 0)), (0, .ref (zad E 262)), (1, .int (zi s9804.1)), (2, .int (zi s9804.2.1))]) C dX12_trapezes_13 rfl (by decide) rfl ?_
      refine r_iconst (v := 0) C dX12_trapezes_14 (by decide) ?_
      refine r_istore (L' := [(4, .int (zi 0)), (3, .int (zi 0)), (0, .ref (zad E 262)), (1, .int (zi s9804.1)), (2, .int (zi s9804.2.1))]) C dX12_trapezes_15 (by decide) rfl ?_
      refine r_L (L' := [(0, .ref (zad E 262)), (1, .int (zi s9804.1)), (2, .int (zi s9804.2.1)), (3, .int (zi 0)), (4, .int (zi 0))]) [2, 3, 4, 1, 0] rfl ?_
      refine r_bb ?_
      refine r_loop1 (fun s9812 : Int × Int × Int × Smo => IR s9812.1 ∧ IR s9812.2.1 ∧ IR s9812.2.2.1) (fun s9812 => S) (fun s9812 => s9812.2.2.2) (fun s9812 => [(0, .ref (zad E 262)), (1, .int (zi s9812.1)), (2, .int (zi s9804.2.1)), (3, .int (zi s9812.2.1)), (4, .int (zi s9812.2.2.1))]) [] (fun r9861 : Int × Smo => IR r9861.1) (fun r9861 => S) (fun r9861 => r9861.2) (fun r9861 => [(0, .ref (zad E 262)), (1, .int (zi r9861.1)), (2, .int (zi s9804.2.1))]) 133 (fun r9861 h9862 => ?_) (fun k9814 k9816 k9815 k9817 s9812 h9813 => ?_) ⟨h9805.1, (IRd rfl), (IRd rfl)⟩
      · refine r_iinc (j := 2) (L' := [(2, .int (zi (wr (s9804.2.1 + 1)))), (0, .ref (zad E 262)), (1, .int (zi r9861.1))]) C dX12_trapezes_133 rfl (by decide) rfl ?_
        refine r_goto (tgt := 4) C dX12_trapezes_136 (by decide) ?_
        refine r_L (L' := [(0, .ref (zad E 262)), (1, .int (zi r9861.1)), (2, .int (zi (wr (s9804.2.1 + 1))))]) [1, 2, 0] rfl ?_
        exact k9807 (r9861.1, wr (s9804.2.1 + 1), r9861.2) ⟨h9862, (IR_wr _)⟩
      · refine r_iload (pc := 17) (j := 4) C dX12_trapezes_17 rfl ?_
        refine r_aload_n (pc := 19) (j := 0) C dX12_trapezes_19 rfl rfl ?_
        refine r_getO (j := 47) C cl_X12 kd_262 ln_262 gc_262 (by decide) (by decide) rfl q_1600 dX12_trapezes_20 (fun h9818 => ?_)
        refine r_icmp_gt (tgt := 133) C h9813.2.2 h9818 dX12_trapezes_23 (by decide) (fun c9819 => ?_) (fun c9819 => ?_)
        · refine r_bt c9819 ?_
          refine r_L (L' := [(0, .ref (zad E 262)), (1, .int (zi s9812.1)), (2, .int (zi s9804.2.1))]) [0, 1, 2] rfl ?_
          exact k9817 (s9812.1, s9812.2.2.2) h9813.1
        · refine r_bf c9819 ?_
          refine r_aload_n (pc := 26) (j := 0) C dX12_trapezes_26 rfl rfl ?_
          refine r_iload_n (pc := 27) (j := 2) C dX12_trapezes_27 rfl rfl ?_
          refine r_iload (pc := 28) (j := 4) C dX12_trapezes_28 rfl ?_
          refine r_iconst (v := 1) C dX12_trapezes_30 (by decide) ?_
          refine r_bb ?_
          refine r_bd (fun q9821 e9822 => ?_)
          refine r_cV1 (pc := 31) (k := 262) (As := [.int (zi s9804.2.1), .int (zi s9812.2.2.1), .int (zi 1)]) (st := []) C (m_X12_nextTo (a1 := s9804.2.1) (a2 := s9812.2.2.1) (a3 := 1) h9805.2 h9813.2.2 (IRd rfl) e9822) cal_X12_nextTo cl_X12 kd_262 ln_262 q_2305 dX12_trapezes_31 rfl rfl (Nat.le_of_ble_eq_true rfl) (Nat.le_of_ble_eq_true rfl) (Nat.le_of_ble_eq_true rfl) (Nat.le_of_ble_eq_true rfl) (Nat.le_of_ble_eq_true rfl) (fun h9820 => ?_)
          refine r_istore (L' := [(5, .int (zi q9821.1)), (0, .ref (zad E 262)), (1, .int (zi s9812.1)), (2, .int (zi s9804.2.1)), (3, .int (zi s9812.2.1)), (4, .int (zi s9812.2.2.1))]) C dX12_trapezes_34 (by decide) rfl ?_
          refine r_iload (pc := 36) (j := 5) C dX12_trapezes_36 rfl ?_
          refine r_bb ?_
          refine r_joinb (fun q9823 : Int × Smo => IR q9823.1) (fun q9823 => S) (fun q9823 => q9823.2) (fun q9823 => [(0, .ref (zad E 262)), (1, .int (zi s9812.1)), (2, .int (zi s9804.2.1)), (3, .int (zi q9823.1)), (4, .int (zi s9812.2.2.1)), (5, .int (zi q9821.1))]) 63 (fun q9823 => []) (fun q9823 h9824 => ?_) (fun k9825 k9826 => ?_)
          · refine r_iload (pc := 63) (j := 4) C dX12_trapezes_63 rfl ?_
            refine r_aload_n (pc := 65) (j := 0) C dX12_trapezes_65 rfl rfl ?_
            refine r_getO (j := 47) C cl_X12 kd_262 ln_262 gc_262 (by decide) (by decide) rfl q_1600 dX12_trapezes_66 (fun h9835 => ?_)
            refine r_bb ?_
            refine r_joinb (fun q9836 : Int × Smo => BR q9836.1) (fun q9836 => S) (fun q9836 => q9836.2) (fun q9836 => [(0, .ref (zad E 262)), (1, .int (zi s9812.1)), (2, .int (zi s9804.2.1)), (3, .int (zi q9823.1)), (4, .int (zi s9812.2.2.1)), (5, .int (zi q9821.1))]) 92 (fun q9836 => [.int (zi q9836.1)]) (fun q9836 h9837 => ?_) (fun k9838 k9839 => ?_)
            · refine r_istore (L' := [(6, .int (zi q9836.1)), (0, .ref (zad E 262)), (1, .int (zi s9812.1)), (2, .int (zi s9804.2.1)), (3, .int (zi q9823.1)), (4, .int (zi s9812.2.2.1)), (5, .int (zi q9821.1))]) C dX12_trapezes_92 (by decide) rfl ?_
              refine r_iload_n (pc := 94) (j := 2) C dX12_trapezes_94 rfl rfl ?_
              refine r_iload (pc := 95) (j := 6) C dX12_trapezes_95 rfl ?_
              refine r_bipush (v := (-2)) C dX12_trapezes_97 (by decide) ?_
              refine r_bb ?_
              refine r_joinb (fun q9845 : Int => BR q9845) (fun q9845 => S) (fun q9845 => q9836.2) (fun q9845 => [(0, .ref (zad E 262)), (2, .int (zi s9804.2.1)), (3, .int (zi q9823.1)), (4, .int (zi s9812.2.2.1))]) 122 (fun q9845 => [.int (zi q9845), .int (zi s9812.1)]) (fun q9845 h9846 => ?_) (fun k9847 k9848 => ?_)
              · refine r_cS1 (pc := 122) (As := [.int (zi q9845)]) (st := [.int (zi s9812.1)]) C (m_X12_truth (a0 := q9845) h9846 rfl) cal_X12_truth q_1959 dX12_trapezes_122 rfl rfl (Nat.le_of_ble_eq_true rfl) (Nat.le_of_ble_eq_true rfl) (Nat.le_of_ble_eq_true rfl) (Nat.le_of_ble_eq_true rfl) (Nat.le_of_ble_eq_true rfl) (fun h9858 => ?_)
                refine r_iadd C dX12_trapezes_125 ?_
                refine r_bj ?_
                refine r_jv (IR_wr _) (fun v9859 h9860 => ?_)
                refine r_istore_n (L' := [(1, .int (zi v9859)), (0, .ref (zad E 262)), (2, .int (zi s9804.2.1)), (3, .int (zi q9823.1)), (4, .int (zi s9812.2.2.1))]) C dX12_trapezes_126 rfl (by decide) rfl ?_
                refine r_iinc (j := 4) (L' := [(4, .int (zi (wr (s9812.2.2.1 + 1)))), (1, .int (zi v9859)), (0, .ref (zad E 262)), (2, .int (zi s9804.2.1)), (3, .int (zi q9823.1))]) C dX12_trapezes_127 rfl (by decide) rfl ?_
                refine r_goto (tgt := 17) C dX12_trapezes_130 (by decide) ?_
                refine r_L (L' := [(0, .ref (zad E 262)), (1, .int (zi v9859)), (2, .int (zi s9804.2.1)), (3, .int (zi q9823.1)), (4, .int (zi (wr (s9812.2.2.1 + 1))))]) [2, 1, 3, 4, 0] rfl ?_
                exact k9815 (v9859, q9823.1, wr (s9812.2.2.1 + 1), q9836.2) ⟨h9860, h9824, (IR_wr _)⟩
              · refine r_cut (q9821.1 = (-2) ∨ q9836.1 = 0) 121 107 [.int (zi s9812.1)] (fun c9849 => ?_) (fun c9849 => ?_) (fun k9850 k9851 => ?_)
                · refine r_bt c9849 ?_
                  refine r_iconst (v := 0) C dX12_trapezes_121 (by decide) ?_
                  refine r_L (L' := [(0, .ref (zad E 262)), (2, .int (zi s9804.2.1)), (3, .int (zi q9823.1)), (4, .int (zi s9812.2.2.1))]) [1, 3, 4, 5] rfl ?_
                  exact k9848 0 (BRd rfl)
                · refine r_bf c9849 ?_
                  refine r_aload_n (pc := 107) (j := 1) C dX12_trapezes_107 rfl rfl ?_
                  refine r_iload (pc := 108) (j := 5) C dX12_trapezes_108 rfl ?_
                  refine r_bb ?_
                  refine r_bd (fun q9853 e9854 => ?_)
                  refine r_cV1 (pc := 110) (k := 262) (As := [.int (zi s9812.2.2.1)]) (st := [.int (zi s9812.1)]) C (m_X12_endOf (a1 := s9812.2.2.1) h9813.2.2 e9854) cal_X12_endOf cl_X12 kd_262 ln_262 q_2313 dX12_trapezes_110 rfl rfl (Nat.le_of_ble_eq_true rfl) (Nat.le_of_ble_eq_true rfl) (Nat.le_of_ble_eq_true rfl) (Nat.le_of_ble_eq_true rfl) (Nat.le_of_ble_eq_true rfl) (fun h9852 => ?_)
                  refine r_iload_n (pc := 113) (j := 4) C dX12_trapezes_113 rfl rfl ?_
                  refine r_icmp_le (tgt := 121) C h9852 h9824 dX12_trapezes_114 (by decide) (fun c9855 => ?_) (fun c9855 => ?_)
                  · refine r_bf c9855 ?_
                    refine r_iconst (v := 0) C dX12_trapezes_121 (by decide) ?_
                    refine r_L (L' := [(0, .ref (zad E 262)), (2, .int (zi s9804.2.1)), (3, .int (zi q9823.1)), (4, .int (zi s9812.2.2.1))]) [1, 3, 4, 5] rfl ?_
                    exact k9848 0 (BRd rfl)
                  · refine r_bt c9855 ?_
                    refine r_iconst (v := 1) C dX12_trapezes_117 (by decide) ?_
                    refine r_goto (tgt := 122) C dX12_trapezes_118 (by decide) ?_
                    refine r_L (L' := [(0, .ref (zad E 262)), (2, .int (zi s9804.2.1)), (3, .int (zi q9823.1)), (4, .int (zi s9812.2.2.1))]) [1, 3, 4, 5] rfl ?_
                    exact k9848 1 (BRd rfl)
                · refine r_icmp_eq (tgt := 121) C h9820 (IRd rfl) dX12_trapezes_99 (by decide) (fun c9856 => ?_) (fun c9856 => ?_)
                  · exact k9850 (Or.inl c9856)
                  · refine r_iload (pc := 102) (j := 0) C dX12_trapezes_102 rfl ?_
                    refine r_if_eq (tgt := 121) C h9837.ir dX12_trapezes_104 (by decide) (fun c9857 => ?_) (fun c9857 => ?_)
                    · exact k9850 (Or.inr c9857)
                    · exact k9851 (fun w => w.elim c9856 c9857)
            · refine r_icmp_eq (tgt := 87) C h9813.2.2 h9835 dX12_trapezes_69 (by decide) (fun c9840 => ?_) (fun c9840 => ?_)
              · refine r_bt c9840 ?_
                refine r_iconst (v := 1) C dX12_trapezes_87 (by decide) ?_
                refine r_goto (tgt := 92) C dX12_trapezes_88 (by decide) ?_
                exact k9839 (1, q9823.2) (BRd rfl)
              · refine r_bf c9840 ?_
                refine r_iload (pc := 72) (j := 5) C dX12_trapezes_72 rfl ?_
                refine r_aload_n (pc := 74) (j := 0) C dX12_trapezes_74 rfl rfl ?_
                refine r_iload_n (pc := 75) (j := 2) C dX12_trapezes_75 rfl rfl ?_
                refine r_iload (pc := 76) (j := 4) C dX12_trapezes_76 rfl ?_
                refine r_iconst (v := 1) C dX12_trapezes_78 (by decide) ?_
                refine r_iadd C dX12_trapezes_79 ?_
                refine r_iconst (v := 1) C dX12_trapezes_80 (by decide) ?_
                refine r_bb ?_
                refine r_bd (fun q9842 e9843 => ?_)
                refine r_cV1 (pc := 81) (k := 262) (As := [.int (zi s9804.2.1), .int (zi (wr (s9812.2.2.1 + 1))), .int (zi 1)]) (st := [.int (zi q9821.1)]) C (m_X12_nextTo (a1 := s9804.2.1) (a2 := wr (s9812.2.2.1 + 1)) (a3 := 1) h9805.2 (IR_wr _) (IRd rfl) e9843) cal_X12_nextTo cl_X12 kd_262 ln_262 q_2305 dX12_trapezes_81 rfl rfl (Nat.le_of_ble_eq_true rfl) (Nat.le_of_ble_eq_true rfl) (Nat.le_of_ble_eq_true rfl) (Nat.le_of_ble_eq_true rfl) (Nat.le_of_ble_eq_true rfl) (fun h9841 => ?_)
                refine r_icmp_eq (tgt := 91) C h9820 h9841 dX12_trapezes_84 (by decide) (fun c9844 => ?_) (fun c9844 => ?_)
                · refine r_bt c9844 ?_
                  refine r_iconst (v := 0) C dX12_trapezes_91 (by decide) ?_
                  exact k9839 (0, q9842.2) (BRd rfl)
                · refine r_bf c9844 ?_
                  refine r_iconst (v := 1) C dX12_trapezes_87 (by decide) ?_
                  refine r_goto (tgt := 92) C dX12_trapezes_88 (by decide) ?_
                  exact k9839 (1, q9842.2) (BRd rfl)
          · refine r_if_le (tgt := 63) C h9813.2.2 dX12_trapezes_38 (by decide) (fun c9827 => ?_) (fun c9827 => ?_)
            · refine r_bf c9827 ?_
              refine r_L (L' := [(0, .ref (zad E 262)), (1, .int (zi s9812.1)), (2, .int (zi s9804.2.1)), (3, .int (zi s9812.2.1)), (4, .int (zi s9812.2.2.1)), (5, .int (zi q9821.1))]) [1, 2, 3, 4, 5, 0] rfl ?_
              exact k9826 (s9812.2.1, q9821.2) h9813.2.1
            · refine r_bt c9827 ?_
              refine r_iload (pc := 41) (j := 0) C dX12_trapezes_41 rfl ?_
              refine r_aload_n (pc := 43) (j := 1) C dX12_trapezes_43 rfl rfl ?_
              refine r_iload_n (pc := 44) (j := 3) C dX12_trapezes_44 rfl rfl ?_
              refine r_iload (pc := 45) (j := 5) C dX12_trapezes_45 rfl ?_
              refine r_iconst (v := 1) C dX12_trapezes_47 (by decide) ?_
              refine r_isub C dX12_trapezes_48 ?_
              refine r_iconst (v := 1) C dX12_trapezes_49 (by decide) ?_
              refine r_bb ?_
              refine r_bd (fun q9829 e9830 => ?_)
              refine r_cV1 (pc := 50) (k := 262) (As := [.int (zi s9804.2.1), .int (zi (wr (s9812.2.2.1 - 1))), .int (zi 1)]) (st := [.int (zi q9821.1)]) C (m_X12_nextTo (a1 := s9804.2.1) (a2 := wr (s9812.2.2.1 - 1)) (a3 := 1) h9805.2 (IR_wr _) (IRd rfl) e9830) cal_X12_nextTo cl_X12 kd_262 ln_262 q_2305 dX12_trapezes_50 rfl rfl (Nat.le_of_ble_eq_true rfl) (Nat.le_of_ble_eq_true rfl) (Nat.le_of_ble_eq_true rfl) (Nat.le_of_ble_eq_true rfl) (Nat.le_of_ble_eq_true rfl) (fun h9828 => ?_)
              refine r_icmp_eq (tgt := 63) C h9820 h9828 dX12_trapezes_53 (by decide) (fun c9831 => ?_) (fun c9831 => ?_)
              · refine r_bt c9831 ?_
                refine r_L (L' := [(0, .ref (zad E 262)), (1, .int (zi s9812.1)), (2, .int (zi s9804.2.1)), (3, .int (zi s9812.2.1)), (4, .int (zi s9812.2.2.1)), (5, .int (zi q9821.1))]) [1, 2, 3, 4, 5, 0] rfl ?_
                exact k9826 (s9812.2.1, q9829.2) h9813.2.1
              · refine r_bf c9831 ?_
                refine r_aload_n (pc := 56) (j := 1) C dX12_trapezes_56 rfl rfl ?_
                refine r_iload (pc := 57) (j := 5) C dX12_trapezes_57 rfl ?_
                refine r_bb ?_
                refine r_bd (fun q9833 e9834 => ?_)
                refine r_cV1 (pc := 59) (k := 262) (As := [.int (zi s9812.2.2.1)]) (st := []) C (m_X12_placeOf (a1 := s9812.2.2.1) h9813.2.2 e9834) cal_X12_placeOf cl_X12 kd_262 ln_262 q_2032 dX12_trapezes_59 rfl rfl (Nat.le_of_ble_eq_true rfl) (Nat.le_of_ble_eq_true rfl) (Nat.le_of_ble_eq_true rfl) (Nat.le_of_ble_eq_true rfl) (Nat.le_of_ble_eq_true rfl) (fun h9832 => ?_)
                refine r_istore_n (L' := [(3, .int (zi q9833)), (5, .int (zi q9821.1)), (0, .ref (zad E 262)), (1, .int (zi s9812.1)), (2, .int (zi s9804.2.1)), (4, .int (zi s9812.2.2.1))]) C dX12_trapezes_62 rfl (by decide) rfl ?_
                refine r_L (L' := [(0, .ref (zad E 262)), (1, .int (zi s9812.1)), (2, .int (zi s9804.2.1)), (3, .int (zi q9833)), (4, .int (zi s9812.2.2.1)), (5, .int (zi q9821.1))]) [2, 3, 4, 0, 5, 1] rfl ?_
                exact k9826 (q9833, q9829.2) h9832

def f_X12_layAreas (O : Smo) : Option (Smo) :=
  Option.bind (lp (fun (s9965 : Int × Smo) =>
    if 8 < s9965.1 then
      (some (Sum.inr s9965.2))
    else
      (Option.bind (asetO s9965.2 297 (Ln 297) s9965.1 0) fun (O9972 : Smo) =>
      some (Sum.inl (wr (s9965.1 + 1), O9972)))) FU (0, O)) fun (r9973 : Smo) =>
  Option.bind (lp (fun (s9975 : Int × Smo) =>
    if 60 < s9975.1 then
      (some (Sum.inr s9975.2))
    else
      (Option.bind (f_X12_isSwept s9975.1 s9975.2) fun (q9983 : Int) =>
      if q9983 = 0 then
        (some (Sum.inr s9975.2))
      else
        (Option.bind (f_X12_stampAt s9975.1 s9975.2) fun (q9987 : Int) =>
        Option.bind (f_X12_setOf q9987 s9975.2) fun (q9990 : Int) =>
        Option.bind (lp (fun (s9992 : Int × Smo) =>
          if 60 < s9992.1 then
            (some (Sum.inr s9992.2))
          else
            (Option.bind (f_X12_belowOf q9990 s9975.1 s9992.1 s9992.2) fun (q10000 : Int) =>
            jn (
              if q10000 < 0 then
                (8)
              else
                (q10000)) fun (q10002 : Int) =>
            Option.bind (aget (s9992.2 297) (Ln 297) q10002) fun (v10007 : Int) =>
            Option.bind (asetO s9992.2 297 (Ln 297) q10002 (wr (v10007 + 1))) fun (O10009 : Smo) =>
            some (Sum.inl (wr (s9992.1 + 1), O10009)))) FU (0, s9975.2)) fun (r10010 : Smo) =>
        some (Sum.inl (wr (s9975.1 + 1), r10010))))) FU (0, r9973)) fun (r10012 : Smo) =>
  some r10012
set_option maxRecDepth 100000 in
set_option maxHeartbeats 4000000 in
theorem m_X12_layAreas {l : Launch} {E : EwT} {S : Sst} {O : Smo}  {q : Smo} (hq : f_X12_layAreas O = some q) : MetG l E yX12_layAreas cX12_layAreas 5 none 3 75 0 0 n0 R0 S O [.ref (zad E 262)] (True) none n0 R0 S q := by
  refine ofG (L0 := [(0, .ref (zad E 262))]) hq (by decide +kernel) (Nat.le_of_ble_eq_true rfl) rfl (fun K _ C hQ => ?_)
  unfold f_X12_layAreas
  refine r_iconst (v := 0) C dX12_layAreas_0 (by decide) ?_
  refine r_istore_n (L' := [(1, .int (zi 0)), (0, .ref (zad E 262))]) C dX12_layAreas_1 rfl (by decide) rfl ?_
  refine r_L (L' := [(0, .ref (zad E 262)), (1, .int (zi 0))]) [1, 0] rfl ?_
  refine r_loop1 (fun s9965 : Int × Smo => IR s9965.1) (fun s9965 => S) (fun s9965 => s9965.2) (fun s9965 => [(0, .ref (zad E 262)), (1, .int (zi s9965.1))]) [] (fun r9973 : Smo => True) (fun r9973 => S) (fun r9973 => r9973) (fun r9973 => [(0, .ref (zad E 262))]) 21 (fun r9973 h9974 => ?_) (fun k9967 k9969 k9968 k9970 s9965 h9966 => ?_) (IRd rfl)
  · refine r_iconst (v := 0) C dX12_layAreas_21 (by decide) ?_
    refine r_istore_n (L' := [(1, .int (zi 0)), (0, .ref (zad E 262))]) C dX12_layAreas_22 rfl (by decide) rfl ?_
    refine r_L (L' := [(0, .ref (zad E 262)), (1, .int (zi 0))]) [1, 0] rfl ?_
    refine r_loop1 (fun s9975 : Int × Smo => IR s9975.1) (fun s9975 => S) (fun s9975 => s9975.2) (fun s9975 => [(0, .ref (zad E 262)), (1, .int (zi s9975.1))]) [] (fun r10012 : Smo => True) (fun r10012 => S) (fun r10012 => r10012) (fun r10012 => []) 97 (fun r10012 h10013 => ?_) (fun k9977 k9979 k9978 k9980 s9975 h9976 => ?_) (IRd rfl)
    · exact r_return C hQ dX12_layAreas_97 (fun e => by cases e; exact ⟨trivial, rfl, rfl, rfl, rfl, rfl⟩)
    · refine r_iload_n (pc := 23) (j := 1) C dX12_layAreas_23 rfl rfl ?_
      refine r_bipush (v := 60) C dX12_layAreas_24 (by decide) ?_
      refine r_icmp_gt (tgt := 97) C h9976 (IRd rfl) dX12_layAreas_26 (by decide) (fun c9981 => ?_) (fun c9981 => ?_)
      · refine r_bt c9981 ?_
        refine r_L (L' := []) [] rfl ?_
        exact k9980 s9975.2 trivial
      · refine r_bf c9981 ?_
        refine r_aload_n (pc := 29) (j := 0) C dX12_layAreas_29 rfl rfl ?_
        refine r_iload_n (pc := 30) (j := 1) C dX12_layAreas_30 rfl rfl ?_
        refine r_bb ?_
        refine r_bd (fun q9983 e9984 => ?_)
        refine r_cV1 (pc := 31) (k := 262) (As := [.int (zi s9975.1)]) (st := []) C (m_X12_isSwept (a1 := s9975.1) h9976 e9984) cal_X12_isSwept cl_X12 kd_262 ln_262 q_2170 dX12_layAreas_31 rfl rfl (Nat.le_of_ble_eq_true rfl) (Nat.le_of_ble_eq_true rfl) (Nat.le_of_ble_eq_true rfl) (Nat.le_of_ble_eq_true rfl) (Nat.le_of_ble_eq_true rfl) (fun h9982 => ?_)
        refine r_if_eq (tgt := 97) C h9982.ir dX12_layAreas_34 (by decide) (fun c9985 => ?_) (fun c9985 => ?_)
        · refine r_bt c9985 ?_
          refine r_L (L' := []) [] rfl ?_
          exact k9980 s9975.2 trivial
        · refine r_bf c9985 ?_
          refine r_aload_n (pc := 37) (j := 0) C dX12_layAreas_37 rfl rfl ?_
          refine r_aload_n (pc := 38) (j := 0) C dX12_layAreas_38 rfl rfl ?_
          refine r_iload_n (pc := 39) (j := 1) C dX12_layAreas_39 rfl rfl ?_
          refine r_bb ?_
          refine r_bd (fun q9987 e9988 => ?_)
          refine r_cV1 (pc := 40) (k := 262) (As := [.int (zi s9975.1)]) (st := [.ref (zad E 262)]) C (m_X12_stampAt (a1 := s9975.1) h9976 e9988) cal_X12_stampAt cl_X12 kd_262 ln_262 q_2182 dX12_layAreas_40 rfl rfl (Nat.le_of_ble_eq_true rfl) (Nat.le_of_ble_eq_true rfl) (Nat.le_of_ble_eq_true rfl) (Nat.le_of_ble_eq_true rfl) (Nat.le_of_ble_eq_true rfl) (fun h9986 => ?_)
          refine r_bb ?_
          refine r_bd (fun q9990 e9991 => ?_)
          refine r_cV1 (pc := 43) (k := 262) (As := [.int (zi q9987)]) (st := []) C (m_X12_setOf (a1 := q9987) h9986 e9991) cal_X12_setOf cl_X12 kd_262 ln_262 q_2008 dX12_layAreas_43 rfl rfl (Nat.le_of_ble_eq_true rfl) (Nat.le_of_ble_eq_true rfl) (Nat.le_of_ble_eq_true rfl) (Nat.le_of_ble_eq_true rfl) (Nat.le_of_ble_eq_true rfl) (fun h9989 => ?_)
          refine r_istore_n (L' := [(2, .int (zi q9990)), (0, .ref (zad E 262)), (1, .int (zi s9975.1))]) C dX12_layAreas_46 rfl (by decide) rfl ?_
          refine r_iconst (v := 0) C dX12_layAreas_47 (by decide) ?_
          refine r_istore_n (L' := [(3, .int (zi 0)), (2, .int (zi q9990)), (0, .ref (zad E 262)), (1, .int (zi s9975.1))]) C dX12_layAreas_48 rfl (by decide) rfl ?_
          refine r_L (L' := [(0, .ref (zad E 262)), (1, .int (zi s9975.1)), (2, .int (zi q9990)), (3, .int (zi 0))]) [2, 3, 1, 0] rfl ?_
          refine r_bb ?_
          refine r_loop1 (fun s9992 : Int × Smo => IR s9992.1) (fun s9992 => S) (fun s9992 => s9992.2) (fun s9992 => [(0, .ref (zad E 262)), (1, .int (zi s9975.1)), (2, .int (zi q9990)), (3, .int (zi s9992.1))]) [] (fun r10010 : Smo => True) (fun r10010 => S) (fun r10010 => r10010) (fun r10010 => [(0, .ref (zad E 262)), (1, .int (zi s9975.1))]) 91 (fun r10010 h10011 => ?_) (fun k9994 k9996 k9995 k9997 s9992 h9993 => ?_) (IRd rfl)
          · refine r_iinc (j := 1) (L' := [(1, .int (zi (wr (s9975.1 + 1)))), (0, .ref (zad E 262))]) C dX12_layAreas_91 rfl (by decide) rfl ?_
            refine r_goto (tgt := 23) C dX12_layAreas_94 (by decide) ?_
            refine r_L (L' := [(0, .ref (zad E 262)), (1, .int (zi (wr (s9975.1 + 1))))]) [1, 0] rfl ?_
            exact k9978 (wr (s9975.1 + 1), r10010) (IR_wr _)
          · refine r_iload_n (pc := 49) (j := 3) C dX12_layAreas_49 rfl rfl ?_
            refine r_bipush (v := 60) C dX12_layAreas_50 (by decide) ?_
            refine r_icmp_gt (tgt := 91) C h9993 (IRd rfl) dX12_layAreas_52 (by decide) (fun c9998 => ?_) (fun c9998 => ?_)
            · refine r_bt c9998 ?_
              refine r_L (L' := [(0, .ref (zad E 262)), (1, .int (zi s9975.1))]) [0, 1] rfl ?_
              exact k9997 s9992.2 trivial
            · refine r_bf c9998 ?_
              refine r_aload_n (pc := 55) (j := 0) C dX12_layAreas_55 rfl rfl ?_
              refine r_iload_n (pc := 56) (j := 2) C dX12_layAreas_56 rfl rfl ?_
              refine r_iload_n (pc := 57) (j := 1) C dX12_layAreas_57 rfl rfl ?_
              refine r_iload_n (pc := 58) (j := 3) C dX12_layAreas_58 rfl rfl ?_
              refine r_bb ?_
              refine r_bd (fun q10000 e10001 => ?_)
              refine r_cV1 (pc := 59) (k := 262) (As := [.int (zi q9990), .int (zi s9975.1), .int (zi s9992.1)]) (st := []) C (m_X12_belowOf (a1 := q9990) (a2 := s9975.1) (a3 := s9992.1) h9989 h9976 h9993 e10001) cal_X12_belowOf cl_X12 kd_262 ln_262 q_2186 dX12_layAreas_59 rfl rfl (Nat.le_of_ble_eq_true rfl) (Nat.le_of_ble_eq_true rfl) (Nat.le_of_ble_eq_true rfl) (Nat.le_of_ble_eq_true rfl) (Nat.le_of_ble_eq_true rfl) (fun h9999 => ?_)
              refine r_istore (L' := [(4, .int (zi q10000)), (0, .ref (zad E 262)), (1, .int (zi s9975.1)), (2, .int (zi q9990)), (3, .int (zi s9992.1))]) C dX12_layAreas_62 (by decide) rfl ?_
              refine r_aload_n (pc := 64) (j := 1) C dX12_layAreas_64 rfl rfl ?_
              refine r_getR (j := 68) (r := 297) C cl_X12 kd_262 ln_262 (by decide) rfl r0_262_68 (by decide) q_1621 dX12_layAreas_65 ?_
              refine r_iload (pc := 68) (j := 0) C dX12_layAreas_68 rfl ?_
              refine r_bj ?_
              refine r_join (fun q10002 : Int => IR q10002) (fun q10002 => S) (fun q10002 => s9992.2) (fun q10002 => [(0, .ref (zad E 262)), (1, .int (zi s9975.1)), (2, .int (zi q9990)), (3, .int (zi s9992.1))]) 80 (fun q10002 => [.int (zi q10002), .ref (zad E 297)]) (fun q10002 h10003 => ?_) (fun k10004 k10005 => ?_)
              · refine r_dup2 C dX12_layAreas_80 rfl rfl ?_
                refine r_bb ?_
                refine r_iald C kd_297 ln_297 gc_297 h10003 dX12_layAreas_81 (fun v10007 h10008 => ?_)
                refine r_iconst (v := 1) C dX12_layAreas_82 (by decide) ?_
                refine r_iadd C dX12_layAreas_83 ?_
                refine r_bb ?_
                refine r_iast C kd_297 ln_297 gc_297 h10003 (IR_wr _) dX12_layAreas_84 (fun O10009 => ?_)
                refine r_iinc (j := 3) (L' := [(3, .int (zi (wr (s9992.1 + 1)))), (0, .ref (zad E 262)), (1, .int (zi s9975.1)), (2, .int (zi q9990))]) C dX12_layAreas_85 rfl (by decide) rfl ?_
                refine r_goto (tgt := 49) C dX12_layAreas_88 (by decide) ?_
                refine r_L (L' := [(0, .ref (zad E 262)), (1, .int (zi s9975.1)), (2, .int (zi q9990)), (3, .int (zi (wr (s9992.1 + 1))))]) [1, 2, 3, 0] rfl ?_
                exact k9995 (wr (s9992.1 + 1), O10009) (IR_wr _)
              · refine r_if_ge (tgt := 78) C h9999 dX12_layAreas_70 (by decide) (fun c10006 => ?_) (fun c10006 => ?_)
                · refine r_jf c10006 ?_
                  refine r_iload (pc := 78) (j := 0) C dX12_layAreas_78 rfl ?_
                  refine r_L (L' := [(0, .ref (zad E 262)), (1, .int (zi s9975.1)), (2, .int (zi q9990)), (3, .int (zi s9992.1))]) [1, 2, 3, 4] rfl ?_
                  exact k10005 q10000 h9999
                · refine r_jt c10006 ?_
                  refine r_bipush (v := 8) C dX12_layAreas_73 (by decide) ?_
                  refine r_goto (tgt := 80) C dX12_layAreas_75 (by decide) ?_
                  refine r_L (L' := [(0, .ref (zad E 262)), (1, .int (zi s9975.1)), (2, .int (zi q9990)), (3, .int (zi s9992.1))]) [1, 2, 3, 4] rfl ?_
                  exact k10005 8 (IRd rfl)
  · refine r_iload_n (pc := 2) (j := 1) C dX12_layAreas_2 rfl rfl ?_
    refine r_bipush (v := 8) C dX12_layAreas_3 (by decide) ?_
    refine r_icmp_gt (tgt := 21) C h9966 (IRd rfl) dX12_layAreas_5 (by decide) (fun c9971 => ?_) (fun c9971 => ?_)
    · refine r_bt c9971 ?_
      refine r_L (L' := [(0, .ref (zad E 262))]) [0] rfl ?_
      exact k9970 s9965.2 trivial
    · refine r_bf c9971 ?_
      refine r_aload_n (pc := 8) (j := 0) C dX12_layAreas_8 rfl rfl ?_
      refine r_getR (j := 68) (r := 297) C cl_X12 kd_262 ln_262 (by decide) rfl r0_262_68 (by decide) q_1621 dX12_layAreas_9 ?_
      refine r_iload_n (pc := 12) (j := 1) C dX12_layAreas_12 rfl rfl ?_
      refine r_iconst (v := 0) C dX12_layAreas_13 (by decide) ?_
      refine r_bb ?_
      refine r_iast C kd_297 ln_297 gc_297 h9966 (IRd rfl) dX12_layAreas_14 (fun O9972 => ?_)
      refine r_iinc (j := 1) (L' := [(1, .int (zi (wr (s9965.1 + 1)))), (0, .ref (zad E 262))]) C dX12_layAreas_15 rfl (by decide) rfl ?_
      refine r_goto (tgt := 2) C dX12_layAreas_18 (by decide) ?_
      refine r_L (L' := [(0, .ref (zad E 262)), (1, .int (zi (wr (s9965.1 + 1))))]) [1, 0] rfl ?_
      exact k9968 (wr (s9965.1 + 1), O9972) (IR_wr _)

def f_X12_area (a1 : Int) (O : Smo) : Option (Int × Smo) :=
  if (a1 = (-1) ∨ ¬ f_X12_isSegment a1 O = 0) then
    (Option.bind (f_X12_layAreas O) fun (q10019 : Smo) =>
    jn (
      if a1 < 0 then
        (8)
      else
        (a1)) fun (q10021 : Int) =>
    Option.bind (aget (q10019 297) (Ln 297) q10021) fun (v10026 : Int) =>
    some (v10026, q10019))
  else
    (some ((-2), O))
set_option maxRecDepth 100000 in
set_option maxHeartbeats 4000000 in
theorem m_X12_area {l : Launch} {E : EwT} {S : Sst} {O : Smo} {a1 : Int} (ha1 : IR a1) {q : Int × Smo} (hq : f_X12_area a1 O = some q) : MetG l E yX12_area cX12_area 2 (some .int) 4 99 0 0 n0 R0 S O [.ref (zad E 262), .int (zi a1)] (IR q.1) (some (.int (zi q.1))) n0 R0 S q.2 := by
  refine ofG (L0 := [(0, .ref (zad E 262)), (1, .int (zi a1))]) hq (by decide +kernel) (Nat.le_of_ble_eq_true rfl) rfl (fun K _ C hQ => ?_)
  unfold f_X12_area
  refine r_iload_n (pc := 0) (j := 1) C dX12_area_0 rfl rfl ?_
  refine r_iconst (v := (-1)) C dX12_area_1 (by decide) ?_
  refine r_cut (a1 = (-1) ∨ ¬ f_X12_isSegment a1 O = 0) 16 13 [] (fun c10015 => ?_) (fun c10015 => ?_) (fun k10016 k10017 => ?_)
  · refine r_t c10015 ?_
    refine r_aload_n (pc := 16) (j := 0) C dX12_area_16 rfl rfl ?_
    refine r_bd (fun q10019 e10020 => ?_)
    refine r_cV0 (pc := 17) (k := 262) (As := []) (st := []) C (m_X12_layAreas  e10020) cal_X12_layAreas cl_X12 kd_262 ln_262 q_2321 dX12_area_17 rfl rfl (Nat.le_of_ble_eq_true rfl) (Nat.le_of_ble_eq_true rfl) (Nat.le_of_ble_eq_true rfl) (Nat.le_of_ble_eq_true rfl) (Nat.le_of_ble_eq_true rfl) (fun h10018 => ?_)
    refine r_aload_n (pc := 20) (j := 0) C dX12_area_20 rfl rfl ?_
    refine r_getR (j := 68) (r := 297) C cl_X12 kd_262 ln_262 (by decide) rfl r0_262_68 (by decide) q_1621 dX12_area_21 ?_
    refine r_iload_n (pc := 24) (j := 1) C dX12_area_24 rfl rfl ?_
    refine r_join (fun q10021 : Int => IR q10021) (fun q10021 => S) (fun q10021 => q10019) (fun q10021 => []) 34 (fun q10021 => [.int (zi q10021), .ref (zad E 297)]) (fun q10021 h10022 => ?_) (fun k10023 k10024 => ?_)
    · refine r_iald C kd_297 ln_297 gc_297 h10022 dX12_area_34 (fun v10026 h10027 => ?_)
      exact r_ireturn C hQ rfl dX12_area_35 (fun e => by cases e; exact ⟨h10027, rfl, rfl, rfl, rfl, rfl⟩)
    · refine r_if_ge (tgt := 33) C ha1 dX12_area_25 (by decide) (fun c10025 => ?_) (fun c10025 => ?_)
      · refine r_jf c10025 ?_
        refine r_iload_n (pc := 33) (j := 1) C dX12_area_33 rfl rfl ?_
        refine r_L (L' := []) [] rfl ?_
        exact k10024 a1 ha1
      · refine r_jt c10025 ?_
        refine r_bipush (v := 8) C dX12_area_28 (by decide) ?_
        refine r_goto (tgt := 34) C dX12_area_30 (by decide) ?_
        refine r_L (L' := []) [] rfl ?_
        exact k10024 8 (IRd rfl)
  · refine r_f c10015 ?_
    refine r_bipush (v := (-2)) C dX12_area_13 (by decide) ?_
    exact r_ireturn C hQ rfl dX12_area_15 (fun e => by cases e; exact ⟨(IRd rfl), rfl, rfl, rfl, rfl, rfl⟩)
  · refine r_icmp_eq (tgt := 16) C ha1 (IRd rfl) dX12_area_2 (by decide) (fun c10028 => ?_) (fun c10028 => ?_)
    · exact k10016 (Or.inl c10028)
    · refine r_aload_n (pc := 5) (j := 0) C dX12_area_5 rfl rfl ?_
      refine r_iload_n (pc := 6) (j := 1) C dX12_area_6 rfl rfl ?_
      refine r_cV1 (pc := 7) (k := 262) (As := [.int (zi a1)]) (st := []) C (m_X12_isSegment (a1 := a1) ha1 rfl) cal_X12_isSegment cl_X12 kd_262 ln_262 q_1977 dX12_area_7 rfl rfl (Nat.le_of_ble_eq_true rfl) (Nat.le_of_ble_eq_true rfl) (Nat.le_of_ble_eq_true rfl) (Nat.le_of_ble_eq_true rfl) (Nat.le_of_ble_eq_true rfl) (fun h10014 => ?_)
      refine r_if_ne (tgt := 16) C h10014.ir dX12_area_10 (by decide) (fun c10029 => ?_) (fun c10029 => ?_)
      · exact k10016 (Or.inr c10029)
      · exact k10017 (fun w => w.elim c10028 (fun x => x c10029))

def f_X12_largest (O : Smo) : Option (Int × Smo) :=
  Option.bind (f_X12_layAreas O) fun (q10052 : Smo) =>
  Option.bind (lp (fun (s10054 : Int × Int) =>
    if s10054.2 < q10052 262 39 then
      (Option.bind (
        if s10054.1 < 0 then
          (some s10054.2)
        else
          (Option.bind (aget (q10052 297) (Ln 297) s10054.2) fun (v10067 : Int) =>
          Option.bind (aget (q10052 297) (Ln 297) s10054.1) fun (v10069 : Int) =>
          if v10069 < v10067 then
            (some s10054.2)
          else
            (some s10054.1))) fun (q10062 : Int) =>
      some (Sum.inl (q10062, wr (s10054.2 + 1))))
    else
      (some (Sum.inr s10054.1))) FU ((-1), 0)) fun (r10072 : Int) =>
  some (r10072, q10052)
set_option maxRecDepth 100000 in
set_option maxHeartbeats 4000000 in
theorem m_X12_largest {l : Launch} {E : EwT} {S : Sst} {O : Smo}  {q : Int × Smo} (hq : f_X12_largest O = some q) : MetG l E yX12_largest cX12_largest 3 (some .int) 4 99 0 0 n0 R0 S O [.ref (zad E 262)] (IR q.1) (some (.int (zi q.1))) n0 R0 S q.2 := by
  refine ofG (L0 := [(0, .ref (zad E 262))]) hq (by decide +kernel) (Nat.le_of_ble_eq_true rfl) rfl (fun K _ C hQ => ?_)
  unfold f_X12_largest
  refine r_aload_n (pc := 0) (j := 0) C dX12_largest_0 rfl rfl ?_
  refine r_bd (fun q10052 e10053 => ?_)
  refine r_cV0 (pc := 1) (k := 262) (As := []) (st := []) C (m_X12_layAreas  e10053) cal_X12_layAreas cl_X12 kd_262 ln_262 q_2321 dX12_largest_1 rfl rfl (Nat.le_of_ble_eq_true rfl) (Nat.le_of_ble_eq_true rfl) (Nat.le_of_ble_eq_true rfl) (Nat.le_of_ble_eq_true rfl) (Nat.le_of_ble_eq_true rfl) (fun h10051 => ?_)
  refine r_iconst (v := (-1)) C dX12_largest_4 (by decide) ?_
  refine r_istore_n (L' := [(1, .int (zi (-1))), (0, .ref (zad E 262))]) C dX12_largest_5 rfl (by decide) rfl ?_
  refine r_iconst (v := 0) C dX12_largest_6 (by decide) ?_
  refine r_istore_n (L' := [(2, .int (zi 0)), (1, .int (zi (-1))), (0, .ref (zad E 262))]) C dX12_largest_7 rfl (by decide) rfl ?_
  refine r_L (L' := [(0, .ref (zad E 262)), (1, .int (zi (-1))), (2, .int (zi 0))]) [2, 1, 0] rfl ?_
  refine r_loop1 (fun s10054 : Int × Int => IR s10054.1 ∧ IR s10054.2) (fun s10054 => S) (fun s10054 => q10052) (fun s10054 => [(0, .ref (zad E 262)), (1, .int (zi s10054.1)), (2, .int (zi s10054.2))]) [] (fun r10072 : Int => IR r10072) (fun r10072 => S) (fun r10072 => q10052) (fun r10072 => [(1, .int (zi r10072))]) 47 (fun r10072 h10073 => ?_) (fun k10056 k10058 k10057 k10059 s10054 h10055 => ?_) ⟨(IRd rfl), (IRd rfl)⟩
  · refine r_iload_n (pc := 47) (j := 0) C dX12_largest_47 rfl rfl ?_
    exact r_ireturn C hQ rfl dX12_largest_48 (fun e => by cases e; exact ⟨h10073, rfl, rfl, rfl, rfl, rfl⟩)
  · refine r_iload_n (pc := 8) (j := 2) C dX12_largest_8 rfl rfl ?_
    refine r_aload_n (pc := 9) (j := 0) C dX12_largest_9 rfl rfl ?_
    refine r_getO (j := 39) C cl_X12 kd_262 ln_262 gc_262 (by decide) (by decide) rfl q_1592 dX12_largest_10 (fun h10060 => ?_)
    refine r_icmp_ge (tgt := 47) C h10055.2 h10060 dX12_largest_13 (by decide) (fun c10061 => ?_) (fun c10061 => ?_)
    · refine r_bf c10061 ?_
      refine r_L (L' := [(1, .int (zi s10054.1))]) [1] rfl ?_
      exact k10059 s10054.1 h10055.1
    · refine r_bt c10061 ?_
      refine r_iload_n (pc := 16) (j := 1) C dX12_largest_16 rfl rfl ?_
      refine r_bb ?_
      refine r_joinb (fun q10062 : Int => IR q10062) (fun q10062 => S) (fun q10062 => q10052) (fun q10062 => [(0, .ref (zad E 262)), (2, .int (zi s10054.2))]) 40 (fun q10062 => [.int (zi q10062)]) (fun q10062 h10063 => ?_) (fun k10064 k10065 => ?_)
      · refine r_istore_n (L' := [(1, .int (zi q10062)), (0, .ref (zad E 262)), (2, .int (zi s10054.2))]) C dX12_largest_40 rfl (by decide) rfl ?_
        refine r_iinc (j := 2) (L' := [(2, .int (zi (wr (s10054.2 + 1)))), (1, .int (zi q10062)), (0, .ref (zad E 262))]) C dX12_largest_41 rfl (by decide) rfl ?_
        refine r_goto (tgt := 8) C dX12_largest_44 (by decide) ?_
        refine r_L (L' := [(0, .ref (zad E 262)), (1, .int (zi q10062)), (2, .int (zi (wr (s10054.2 + 1))))]) [2, 1, 0] rfl ?_
        exact k10057 (q10062, wr (s10054.2 + 1)) ⟨h10063, (IR_wr _)⟩
      · refine r_if_lt (tgt := 35) C h10055.1 dX12_largest_17 (by decide) (fun c10066 => ?_) (fun c10066 => ?_)
        · refine r_bt c10066 ?_
          refine r_iload_n (pc := 35) (j := 2) C dX12_largest_35 rfl rfl ?_
          refine r_goto (tgt := 40) C dX12_largest_36 (by decide) ?_
          refine r_L (L' := [(0, .ref (zad E 262)), (2, .int (zi s10054.2))]) [0, 2] rfl ?_
          exact k10065 s10054.2 h10055.2
        · refine r_bf c10066 ?_
          refine r_aload_n (pc := 20) (j := 0) C dX12_largest_20 rfl rfl ?_
          refine r_getR (j := 68) (r := 297) C cl_X12 kd_262 ln_262 (by decide) rfl r0_262_68 (by decide) q_1621 dX12_largest_21 ?_
          refine r_iload_n (pc := 24) (j := 2) C dX12_largest_24 rfl rfl ?_
          refine r_bb ?_
          refine r_iald C kd_297 ln_297 gc_297 h10055.2 dX12_largest_25 (fun v10067 h10068 => ?_)
          refine r_aload_n (pc := 26) (j := 0) C dX12_largest_26 rfl rfl ?_
          refine r_getR (j := 68) (r := 297) C cl_X12 kd_262 ln_262 (by decide) rfl r0_262_68 (by decide) q_1621 dX12_largest_27 ?_
          refine r_iload_n (pc := 30) (j := 1) C dX12_largest_30 rfl rfl ?_
          refine r_bb ?_
          refine r_iald C kd_297 ln_297 gc_297 h10055.1 dX12_largest_31 (fun v10069 h10070 => ?_)
          refine r_icmp_le (tgt := 39) C h10068 h10070 dX12_largest_32 (by decide) (fun c10071 => ?_) (fun c10071 => ?_)
          · refine r_bf c10071 ?_
            refine r_iload_n (pc := 39) (j := 1) C dX12_largest_39 rfl rfl ?_
            refine r_L (L' := [(0, .ref (zad E 262)), (2, .int (zi s10054.2))]) [0, 2] rfl ?_
            exact k10065 s10054.1 h10055.1
          · refine r_bt c10071 ?_
            refine r_iload_n (pc := 35) (j := 2) C dX12_largest_35 rfl rfl ?_
            refine r_goto (tgt := 40) C dX12_largest_36 (by decide) ?_
            refine r_L (L' := [(0, .ref (zad E 262)), (2, .int (zi s10054.2))]) [0, 2] rfl ?_
            exact k10065 s10054.2 h10055.2

def f_X12_hidden (a1 : Int) (O : Smo) : Option (Int) :=
  if f_X12_isIn a1 0 2 = 0 then
    (some (-1))
  else
    (Option.bind (lp (fun (s10134 : Int × Int × Int × Int) =>
      if 60 < s10134.2.2.2 then
        (some (Sum.inr (s10134.1, s10134.2.1, s10134.2.2.1)))
      else
        (Option.bind (f_X12_isSwept s10134.2.2.2 O) fun (q10142 : Int) =>
        if q10142 = 0 then
          (some (Sum.inr (s10134.1, s10134.2.1, s10134.2.2.1)))
        else
          (Option.bind (lp (fun (s10145 : Int × Int × Int × Int) =>
            if 60 < s10145.2.2.2 then
              (some (Sum.inr (s10145.1, s10145.2.1, s10145.2.2.1)))
            else
              (Option.bind (f_X12_crossedAt s10134.2.2.2 s10145.2.2.2 O) fun (q10153 : Int) =>
              jn (
                if s10145.2.2.1 < q10153 then
                  ((s10134.2.2.2, s10145.2.2.2, q10153))
                else
                  ((s10145.1, s10145.2.1, s10145.2.2.1))) fun (q10155 : Int × Int × Int) =>
              some (Sum.inl (q10155.1, q10155.2.1, q10155.2.2, wr (s10145.2.2.2 + 1))))) FU (s10134.1, s10134.2.1, s10134.2.2.1, 0)) fun (r10160 : Int × Int × Int) =>
          some (Sum.inl (r10160.1, r10160.2.1, r10160.2.2, wr (s10134.2.2.2 + 1)))))) FU ((-1), (-1), (-1), 0)) fun (r10162 : Int × Int × Int) =>
    if a1 = 0 then
      (some r10162.1)
    else
      (if a1 = 1 then
        (some r10162.2.1)
      else
        (some r10162.2.2)))
set_option maxRecDepth 100000 in
set_option maxHeartbeats 4000000 in
theorem m_X12_hidden {l : Launch} {E : EwT} {S : Sst} {O : Smo} {a1 : Int} (ha1 : IR a1) {q : Int} (hq : f_X12_hidden a1 O = some q) : MetG l E yX12_hidden cX12_hidden 8 (some .int) 3 69 0 0 n0 R0 S O [.ref (zad E 262), .int (zi a1)] (IR q) (some (.int (zi q))) n0 R0 S O := by
  refine ofG (L0 := [(0, .ref (zad E 262)), (1, .int (zi a1))]) hq (by decide +kernel) (Nat.le_of_ble_eq_true rfl) rfl (fun K _ C hQ => ?_)
  unfold f_X12_hidden
  refine r_iload_n (pc := 0) (j := 1) C dX12_hidden_0 rfl rfl ?_
  refine r_iconst (v := 0) C dX12_hidden_1 (by decide) ?_
  refine r_iconst (v := 2) C dX12_hidden_2 (by decide) ?_
  refine r_cS1 (pc := 3) (As := [.int (zi a1), .int (zi 0), .int (zi 2)]) (st := []) C (m_X12_isIn (a0 := a1) (a1 := 0) (a2 := 2) ha1 (IRd rfl) (IRd rfl) rfl) cal_X12_isIn q_1981 dX12_hidden_3 rfl rfl (Nat.le_of_ble_eq_true rfl) (Nat.le_of_ble_eq_true rfl) (Nat.le_of_ble_eq_true rfl) (Nat.le_of_ble_eq_true rfl) (Nat.le_of_ble_eq_true rfl) (fun h10132 => ?_)
  refine r_if_ne (tgt := 11) C h10132.ir dX12_hidden_6 (by decide) (fun c10133 => ?_) (fun c10133 => ?_)
  · refine r_f c10133 ?_
    refine r_iconst (v := (-1)) C dX12_hidden_11 (by decide) ?_
    refine r_istore_n (L' := [(2, .int (zi (-1))), (0, .ref (zad E 262)), (1, .int (zi a1))]) C dX12_hidden_12 rfl (by decide) rfl ?_
    refine r_iconst (v := (-1)) C dX12_hidden_13 (by decide) ?_
    refine r_istore_n (L' := [(3, .int (zi (-1))), (2, .int (zi (-1))), (0, .ref (zad E 262)), (1, .int (zi a1))]) C dX12_hidden_14 rfl (by decide) rfl ?_
    refine r_iconst (v := (-1)) C dX12_hidden_15 (by decide) ?_
    refine r_istore (L' := [(4, .int (zi (-1))), (3, .int (zi (-1))), (2, .int (zi (-1))), (0, .ref (zad E 262)), (1, .int (zi a1))]) C dX12_hidden_16 (by decide) rfl ?_
    refine r_iconst (v := 0) C dX12_hidden_18 (by decide) ?_
    refine r_istore (L' := [(5, .int (zi 0)), (4, .int (zi (-1))), (3, .int (zi (-1))), (2, .int (zi (-1))), (0, .ref (zad E 262)), (1, .int (zi a1))]) C dX12_hidden_19 (by decide) rfl ?_
    refine r_L (L' := [(0, .ref (zad E 262)), (1, .int (zi a1)), (2, .int (zi (-1))), (3, .int (zi (-1))), (4, .int (zi (-1))), (5, .int (zi 0))]) [4, 5, 3, 2, 1, 0] rfl ?_
    refine r_loop1 (fun s10134 : Int × Int × Int × Int => IR s10134.1 ∧ IR s10134.2.1 ∧ IR s10134.2.2.1 ∧ IR s10134.2.2.2) (fun s10134 => S) (fun s10134 => O) (fun s10134 => [(0, .ref (zad E 262)), (1, .int (zi a1)), (2, .int (zi s10134.1)), (3, .int (zi s10134.2.1)), (4, .int (zi s10134.2.2.1)), (5, .int (zi s10134.2.2.2))]) [] (fun r10162 : Int × Int × Int => IR r10162.1 ∧ IR r10162.2.1 ∧ IR r10162.2.2) (fun r10162 => S) (fun r10162 => O) (fun r10162 => [(1, .int (zi a1)), (2, .int (zi r10162.1)), (3, .int (zi r10162.2.1)), (4, .int (zi r10162.2.2))]) 89 (fun r10162 h10163 => ?_) (fun k10136 k10138 k10137 k10139 s10134 h10135 => ?_) ⟨(IRd rfl), (IRd rfl), (IRd rfl), (IRd rfl)⟩
    · refine r_iload_n (pc := 89) (j := 0) C dX12_hidden_89 rfl rfl ?_
      refine r_if_ne (tgt := 97) C ha1 dX12_hidden_90 (by decide) (fun c10164 => ?_) (fun c10164 => ?_)
      · refine r_f c10164 ?_
        refine r_iload_n (pc := 97) (j := 0) C dX12_hidden_97 rfl rfl ?_
        refine r_iconst (v := 1) C dX12_hidden_98 (by decide) ?_
        refine r_icmp_ne (tgt := 106) C ha1 (IRd rfl) dX12_hidden_99 (by decide) (fun c10165 => ?_) (fun c10165 => ?_)
        · refine r_f c10165 ?_
          refine r_iload (pc := 106) (j := 3) C dX12_hidden_106 rfl ?_
          exact r_ireturn C hQ rfl dX12_hidden_108 (fun e => by cases e; exact ⟨h10163.2.2, rfl, rfl, rfl, rfl, rfl⟩)
        · refine r_t c10165 ?_
          refine r_iload_n (pc := 102) (j := 2) C dX12_hidden_102 rfl rfl ?_
          refine r_goto (tgt := 108) C dX12_hidden_103 (by decide) ?_
          exact r_ireturn C hQ rfl dX12_hidden_108 (fun e => by cases e; exact ⟨h10163.2.1, rfl, rfl, rfl, rfl, rfl⟩)
      · refine r_t c10164 ?_
        refine r_iload_n (pc := 93) (j := 1) C dX12_hidden_93 rfl rfl ?_
        refine r_goto (tgt := 108) C dX12_hidden_94 (by decide) ?_
        exact r_ireturn C hQ rfl dX12_hidden_108 (fun e => by cases e; exact ⟨h10163.1, rfl, rfl, rfl, rfl, rfl⟩)
    · refine r_iload (pc := 21) (j := 5) C dX12_hidden_21 rfl ?_
      refine r_bipush (v := 60) C dX12_hidden_23 (by decide) ?_
      refine r_icmp_gt (tgt := 89) C h10135.2.2.2 (IRd rfl) dX12_hidden_25 (by decide) (fun c10140 => ?_) (fun c10140 => ?_)
      · refine r_bt c10140 ?_
        refine r_L (L' := [(1, .int (zi a1)), (2, .int (zi s10134.1)), (3, .int (zi s10134.2.1)), (4, .int (zi s10134.2.2.1))]) [1, 2, 3, 4] rfl ?_
        exact k10139 (s10134.1, s10134.2.1, s10134.2.2.1) ⟨h10135.1, h10135.2.1, h10135.2.2.1⟩
      · refine r_bf c10140 ?_
        refine r_aload_n (pc := 28) (j := 0) C dX12_hidden_28 rfl rfl ?_
        refine r_iload (pc := 29) (j := 5) C dX12_hidden_29 rfl ?_
        refine r_bb ?_
        refine r_bd (fun q10142 e10143 => ?_)
        refine r_cV1 (pc := 31) (k := 262) (As := [.int (zi s10134.2.2.2)]) (st := []) C (m_X12_isSwept (a1 := s10134.2.2.2) h10135.2.2.2 e10143) cal_X12_isSwept cl_X12 kd_262 ln_262 q_2170 dX12_hidden_31 rfl rfl (Nat.le_of_ble_eq_true rfl) (Nat.le_of_ble_eq_true rfl) (Nat.le_of_ble_eq_true rfl) (Nat.le_of_ble_eq_true rfl) (Nat.le_of_ble_eq_true rfl) (fun h10141 => ?_)
        refine r_if_eq (tgt := 89) C h10141.ir dX12_hidden_34 (by decide) (fun c10144 => ?_) (fun c10144 => ?_)
        · refine r_bt c10144 ?_
          refine r_L (L' := [(1, .int (zi a1)), (2, .int (zi s10134.1)), (3, .int (zi s10134.2.1)), (4, .int (zi s10134.2.2.1))]) [1, 2, 3, 4] rfl ?_
          exact k10139 (s10134.1, s10134.2.1, s10134.2.2.1) ⟨h10135.1, h10135.2.1, h10135.2.2.1⟩
        · refine r_bf c10144 ?_
          refine r_iconst (v := 0) C dX12_hidden_37 (by decide) ?_
          refine r_istore (L' := [(6, .int (zi 0)), (0, .ref (zad E 262)), (1, .int (zi a1)), (2, .int (zi s10134.1)), (3, .int (zi s10134.2.1)), (4, .int (zi s10134.2.2.1)), (5, .int (zi s10134.2.2.2))]) C dX12_hidden_38 (by decide) rfl ?_
          refine r_L (L' := [(0, .ref (zad E 262)), (1, .int (zi a1)), (2, .int (zi s10134.1)), (3, .int (zi s10134.2.1)), (4, .int (zi s10134.2.2.1)), (5, .int (zi s10134.2.2.2)), (6, .int (zi 0))]) [1, 2, 3, 4, 5, 6, 0] rfl ?_
          refine r_bb ?_
          refine r_loop1 (fun s10145 : Int × Int × Int × Int => IR s10145.1 ∧ IR s10145.2.1 ∧ IR s10145.2.2.1 ∧ IR s10145.2.2.2) (fun s10145 => S) (fun s10145 => O) (fun s10145 => [(0, .ref (zad E 262)), (1, .int (zi a1)), (2, .int (zi s10145.1)), (3, .int (zi s10145.2.1)), (4, .int (zi s10145.2.2.1)), (5, .int (zi s10134.2.2.2)), (6, .int (zi s10145.2.2.2))]) [] (fun r10160 : Int × Int × Int => IR r10160.1 ∧ IR r10160.2.1 ∧ IR r10160.2.2) (fun r10160 => S) (fun r10160 => O) (fun r10160 => [(0, .ref (zad E 262)), (1, .int (zi a1)), (2, .int (zi r10160.1)), (3, .int (zi r10160.2.1)), (4, .int (zi r10160.2.2)), (5, .int (zi s10134.2.2.2))]) 83 (fun r10160 h10161 => ?_) (fun k10147 k10149 k10148 k10150 s10145 h10146 => ?_) ⟨h10135.1, h10135.2.1, h10135.2.2.1, (IRd rfl)⟩
          · refine r_iinc (j := 5) (L' := [(5, .int (zi (wr (s10134.2.2.2 + 1)))), (0, .ref (zad E 262)), (1, .int (zi a1)), (2, .int (zi r10160.1)), (3, .int (zi r10160.2.1)), (4, .int (zi r10160.2.2))]) C dX12_hidden_83 rfl (by decide) rfl ?_
            refine r_goto (tgt := 21) C dX12_hidden_86 (by decide) ?_
            refine r_L (L' := [(0, .ref (zad E 262)), (1, .int (zi a1)), (2, .int (zi r10160.1)), (3, .int (zi r10160.2.1)), (4, .int (zi r10160.2.2)), (5, .int (zi (wr (s10134.2.2.2 + 1))))]) [1, 2, 3, 4, 5, 0] rfl ?_
            exact k10137 (r10160.1, r10160.2.1, r10160.2.2, wr (s10134.2.2.2 + 1)) ⟨h10161.1, h10161.2.1, h10161.2.2, (IR_wr _)⟩
          · refine r_iload (pc := 40) (j := 6) C dX12_hidden_40 rfl ?_
            refine r_bipush (v := 60) C dX12_hidden_42 (by decide) ?_
            refine r_icmp_gt (tgt := 83) C h10146.2.2.2 (IRd rfl) dX12_hidden_44 (by decide) (fun c10151 => ?_) (fun c10151 => ?_)
            · refine r_bt c10151 ?_
              refine r_L (L' := [(0, .ref (zad E 262)), (1, .int (zi a1)), (2, .int (zi s10145.1)), (3, .int (zi s10145.2.1)), (4, .int (zi s10145.2.2.1)), (5, .int (zi s10134.2.2.2))]) [0, 1, 2, 3, 4, 5] rfl ?_
              exact k10150 (s10145.1, s10145.2.1, s10145.2.2.1) ⟨h10146.1, h10146.2.1, h10146.2.2.1⟩
            · refine r_bf c10151 ?_
              refine r_aload_n (pc := 47) (j := 0) C dX12_hidden_47 rfl rfl ?_
              refine r_iload (pc := 48) (j := 5) C dX12_hidden_48 rfl ?_
              refine r_iload (pc := 50) (j := 6) C dX12_hidden_50 rfl ?_
              refine r_bb ?_
              refine r_bd (fun q10153 e10154 => ?_)
              refine r_cV1 (pc := 52) (k := 262) (As := [.int (zi s10134.2.2.2), .int (zi s10145.2.2.2)]) (st := []) C (m_X12_crossedAt (a1 := s10134.2.2.2) (a2 := s10145.2.2.2) h10135.2.2.2 h10146.2.2.2 e10154) cal_X12_crossedAt cl_X12 kd_262 ln_262 q_2221 dX12_hidden_52 rfl rfl (Nat.le_of_ble_eq_true rfl) (Nat.le_of_ble_eq_true rfl) (Nat.le_of_ble_eq_true rfl) (Nat.le_of_ble_eq_true rfl) (Nat.le_of_ble_eq_true rfl) (fun h10152 => ?_)
              refine r_istore (L' := [(7, .int (zi q10153)), (0, .ref (zad E 262)), (1, .int (zi a1)), (2, .int (zi s10145.1)), (3, .int (zi s10145.2.1)), (4, .int (zi s10145.2.2.1)), (5, .int (zi s10134.2.2.2)), (6, .int (zi s10145.2.2.2))]) C dX12_hidden_55 (by decide) rfl ?_
              refine r_iload (pc := 57) (j := 0) C dX12_hidden_57 rfl ?_
              refine r_iload (pc := 59) (j := 5) C dX12_hidden_59 rfl ?_
              refine r_bj ?_
              refine r_join (fun q10155 : Int × Int × Int => IR q10155.1 ∧ IR q10155.2.1 ∧ IR q10155.2.2) (fun q10155 => S) (fun q10155 => O) (fun q10155 => [(0, .ref (zad E 262)), (1, .int (zi a1)), (2, .int (zi q10155.1)), (3, .int (zi q10155.2.1)), (4, .int (zi q10155.2.2)), (5, .int (zi s10134.2.2.2)), (6, .int (zi s10145.2.2.2))]) 77 (fun q10155 => []) (fun q10155 h10156 => ?_) (fun k10157 k10158 => ?_)
              · refine r_iinc (j := 6) (L' := [(6, .int (zi (wr (s10145.2.2.2 + 1)))), (0, .ref (zad E 262)), (1, .int (zi a1)), (2, .int (zi q10155.1)), (3, .int (zi q10155.2.1)), (4, .int (zi q10155.2.2)), (5, .int (zi s10134.2.2.2))]) C dX12_hidden_77 rfl (by decide) rfl ?_
                refine r_goto (tgt := 40) C dX12_hidden_80 (by decide) ?_
                refine r_L (L' := [(0, .ref (zad E 262)), (1, .int (zi a1)), (2, .int (zi q10155.1)), (3, .int (zi q10155.2.1)), (4, .int (zi q10155.2.2)), (5, .int (zi s10134.2.2.2)), (6, .int (zi (wr (s10145.2.2.2 + 1))))]) [1, 2, 3, 4, 5, 6, 0] rfl ?_
                exact k10148 (q10155.1, q10155.2.1, q10155.2.2, wr (s10145.2.2.2 + 1)) ⟨h10156.1, h10156.2.1, h10156.2.2, (IR_wr _)⟩
              · refine r_icmp_gt (tgt := 67) C h10152 h10146.2.2.1 dX12_hidden_61 (by decide) (fun c10159 => ?_) (fun c10159 => ?_)
                · refine r_jt c10159 ?_
                  refine r_iload (pc := 67) (j := 6) C dX12_hidden_67 rfl ?_
                  refine r_istore_n (L' := [(2, .int (zi s10134.2.2.2)), (7, .int (zi q10153)), (0, .ref (zad E 262)), (1, .int (zi a1)), (3, .int (zi s10145.2.1)), (4, .int (zi s10145.2.2.1)), (5, .int (zi s10134.2.2.2)), (6, .int (zi s10145.2.2.2))]) C dX12_hidden_69 rfl (by decide) rfl ?_
                  refine r_iload (pc := 70) (j := 7) C dX12_hidden_70 rfl ?_
                  refine r_istore_n (L' := [(3, .int (zi s10145.2.2.2)), (2, .int (zi s10134.2.2.2)), (7, .int (zi q10153)), (0, .ref (zad E 262)), (1, .int (zi a1)), (4, .int (zi s10145.2.2.1)), (5, .int (zi s10134.2.2.2)), (6, .int (zi s10145.2.2.2))]) C dX12_hidden_72 rfl (by decide) rfl ?_
                  refine r_iload (pc := 73) (j := 2) C dX12_hidden_73 rfl ?_
                  refine r_istore (L' := [(4, .int (zi q10153)), (3, .int (zi s10145.2.2.2)), (2, .int (zi s10134.2.2.2)), (7, .int (zi q10153)), (0, .ref (zad E 262)), (1, .int (zi a1)), (5, .int (zi s10134.2.2.2)), (6, .int (zi s10145.2.2.2))]) C dX12_hidden_75 (by decide) rfl ?_
                  refine r_L (L' := [(0, .ref (zad E 262)), (1, .int (zi a1)), (2, .int (zi s10134.2.2.2)), (3, .int (zi s10145.2.2.2)), (4, .int (zi q10153)), (5, .int (zi s10134.2.2.2)), (6, .int (zi s10145.2.2.2))]) [4, 5, 2, 1, 0, 6, 7] rfl ?_
                  exact k10158 (s10134.2.2.2, s10145.2.2.2, q10153) ⟨h10135.2.2.2, h10146.2.2.2, h10152⟩
                · refine r_jf c10159 ?_
                  refine r_goto (tgt := 77) C dX12_hidden_64 (by decide) ?_
                  refine r_L (L' := [(0, .ref (zad E 262)), (1, .int (zi a1)), (2, .int (zi s10145.1)), (3, .int (zi s10145.2.1)), (4, .int (zi s10145.2.2.1)), (5, .int (zi s10134.2.2.2)), (6, .int (zi s10145.2.2.2))]) [1, 2, 3, 4, 5, 6, 7] rfl ?_
                  exact k10158 (s10145.1, s10145.2.1, s10145.2.2.1) ⟨h10146.1, h10146.2.1, h10146.2.2.1⟩
  · refine r_t c10133 ?_
    refine r_iconst (v := (-1)) C dX12_hidden_9 (by decide) ?_
    exact r_ireturn C hQ rfl dX12_hidden_10 (fun e => by cases e; exact ⟨(IRd rfl), rfl, rfl, rfl, rfl, rfl⟩)

def f_X12_next (O : Smo) : Option (Int) :=
  Option.bind (f_X12_nextEvent O) fun (q10167 : Int) =>
  some q10167
set_option maxRecDepth 100000 in
set_option maxHeartbeats 4000000 in
theorem m_X12_next {l : Launch} {E : EwT} {S : Sst} {O : Smo}  {q : Int} (hq : f_X12_next O = some q) : MetG l E yX12_next cX12_next 1 (some .int) 2 40 0 0 n0 R0 S O [.ref (zad E 262)] (IR q) (some (.int (zi q))) n0 R0 S O := by
  refine ofG (L0 := [(0, .ref (zad E 262))]) hq (by decide +kernel) (Nat.le_of_ble_eq_true rfl) rfl (fun K _ C hQ => ?_)
  unfold f_X12_next
  refine r_aload_n (pc := 0) (j := 0) C dX12_next_0 rfl rfl ?_
  refine r_bd (fun q10167 e10168 => ?_)
  refine r_cV1 (pc := 1) (k := 262) (As := []) (st := []) C (m_X12_nextEvent  e10168) cal_X12_nextEvent cl_X12 kd_262 ln_262 q_2174 dX12_next_1 rfl rfl (Nat.le_of_ble_eq_true rfl) (Nat.le_of_ble_eq_true rfl) (Nat.le_of_ble_eq_true rfl) (Nat.le_of_ble_eq_true rfl) (Nat.le_of_ble_eq_true rfl) (fun h10166 => ?_)
  exact r_ireturn C hQ rfl dX12_next_4 (fun e => by cases e; exact ⟨h10166, rfl, rfl, rfl, rfl, rfl⟩)

def f_X12_events (O : Smo) : Int :=
  O 262 45
set_option maxRecDepth 100000 in
set_option maxHeartbeats 4000000 in
theorem m_X12_events {l : Launch} {E : EwT} {S : Sst} {O : Smo}  {q : Int} (hq : f_X12_events O = q) : MetG l E yX12_events cX12_events 1 (some .int) 0 0 0 0 n0 R0 S O [.ref (zad E 262)] (IR q) (some (.int (zi q))) n0 R0 S O := by
  refine ofG (L0 := [(0, .ref (zad E 262))]) hq (by decide +kernel) (Nat.le_of_ble_eq_true rfl) rfl (fun K _ C hQ => ?_)
  unfold f_X12_events
  refine r_aload_n (pc := 0) (j := 0) C dX12_events_0 rfl rfl ?_
  refine r_getO (j := 45) C cl_X12 kd_262 ln_262 gc_262 (by decide) (by decide) rfl q_1598 dX12_events_1 (fun h10169 => ?_)
  exact r_ireturn C hQ rfl dX12_events_4 (fun e => by subst e; exact ⟨h10169, rfl, rfl, rfl, rfl, rfl⟩)

def f_X12_lies (a1 : Int) (O : Smo) : Option (Int) :=
  if f_X12_isIn a1 0 (wr ((O 262 62) - 1)) = 0 then
    (some (-2))
  else
    (Option.bind (aget (O 292) (Ln 292) a1) fun (v10173 : Int) =>
    some v10173)
set_option maxRecDepth 100000 in
set_option maxHeartbeats 4000000 in
theorem m_X12_lies {l : Launch} {E : EwT} {S : Sst} {O : Smo} {a1 : Int} (ha1 : IR a1) {q : Int} (hq : f_X12_lies a1 O = some q) : MetG l E yX12_lies cX12_lies 2 (some .int) 1 22 0 0 n0 R0 S O [.ref (zad E 262), .int (zi a1)] (IR q) (some (.int (zi q))) n0 R0 S O := by
  refine ofG (L0 := [(0, .ref (zad E 262)), (1, .int (zi a1))]) hq (by decide +kernel) (Nat.le_of_ble_eq_true rfl) rfl (fun K _ C hQ => ?_)
  unfold f_X12_lies
  refine r_iload_n (pc := 0) (j := 1) C dX12_lies_0 rfl rfl ?_
  refine r_iconst (v := 0) C dX12_lies_1 (by decide) ?_
  refine r_aload_n (pc := 2) (j := 0) C dX12_lies_2 rfl rfl ?_
  refine r_getO (j := 62) C cl_X12 kd_262 ln_262 gc_262 (by decide) (by decide) rfl q_1615 dX12_lies_3 (fun h10170 => ?_)
  refine r_iconst (v := 1) C dX12_lies_6 (by decide) ?_
  refine r_isub C dX12_lies_7 ?_
  refine r_cS1 (pc := 8) (As := [.int (zi a1), .int (zi 0), .int (zi (wr ((O 262 62) - 1)))]) (st := []) C (m_X12_isIn (a0 := a1) (a1 := 0) (a2 := wr ((O 262 62) - 1)) ha1 (IRd rfl) (IR_wr _) rfl) cal_X12_isIn q_1981 dX12_lies_8 rfl rfl (Nat.le_of_ble_eq_true rfl) (Nat.le_of_ble_eq_true rfl) (Nat.le_of_ble_eq_true rfl) (Nat.le_of_ble_eq_true rfl) (Nat.le_of_ble_eq_true rfl) (fun h10171 => ?_)
  refine r_if_eq (tgt := 23) C h10171.ir dX12_lies_11 (by decide) (fun c10172 => ?_) (fun c10172 => ?_)
  · refine r_t c10172 ?_
    refine r_bipush (v := (-2)) C dX12_lies_23 (by decide) ?_
    exact r_ireturn C hQ rfl dX12_lies_25 (fun e => by cases e; exact ⟨(IRd rfl), rfl, rfl, rfl, rfl, rfl⟩)
  · refine r_f c10172 ?_
    refine r_aload_n (pc := 14) (j := 0) C dX12_lies_14 rfl rfl ?_
    refine r_getR (j := 61) (r := 292) C cl_X12 kd_262 ln_262 (by decide) rfl r0_262_61 (by decide) q_1614 dX12_lies_15 ?_
    refine r_iload_n (pc := 18) (j := 1) C dX12_lies_18 rfl rfl ?_
    refine r_iald C kd_292 ln_292 gc_292 ha1 dX12_lies_19 (fun v10173 h10174 => ?_)
    refine r_goto (tgt := 25) C dX12_lies_20 (by decide) ?_
    exact r_ireturn C hQ rfl dX12_lies_25 (fun e => by cases e; exact ⟨h10174, rfl, rfl, rfl, rfl, rfl⟩)

def f_X12_seen (a1 : Int) (a2 : Int) (O : Smo) : Option (Int × Smo) :=
  if ((a1 = (-1) ∨ ¬ f_X12_isSegment a1 O = 0) ∧ ¬ O 262 73 = 30) then
    (Option.bind (asetO O 298 (Ln 298) (O 262 73) a1) fun (O10181 : Smo) =>
    Option.bind (asetO O10181 301 (Ln 301) (O10181 262 73) a2) fun (O10183 : Smo) =>
    Option.bind (asetO O10183 299 (Ln 299) (O10183 262 73) (O10183 262 74)) fun (O10186 : Smo) =>
    Option.bind (asetO O10186 300 (Ln 300) (O10186 262 73) (-1)) fun (O10188 : Smo) =>
    jn (up2 O10188 262 73 (wr ((O10188 262 73) + 1))) fun (O10190 : Smo) =>
    some (wr ((O10190 262 73) - 1), O10190))
  else
    (some ((-1), O))
set_option maxRecDepth 100000 in
set_option maxHeartbeats 4000000 in
theorem m_X12_seen {l : Launch} {E : EwT} {S : Sst} {O : Smo} {a1 : Int} (ha1 : IR a1) {a2 : Int} (ha2 : BR a2) {q : Int × Smo} (hq : f_X12_seen a1 a2 O = some q) : MetG l E yX12_seen cX12_seen 3 (some .int) 2 43 0 0 n0 R0 S O [.ref (zad E 262), .int (zi a1), .int (zi a2)] (IR q.1) (some (.int (zi q.1))) n0 R0 S q.2 := by
  refine ofG (L0 := [(0, .ref (zad E 262)), (1, .int (zi a1)), (2, .int (zi a2))]) hq (by decide +kernel) (Nat.le_of_ble_eq_true rfl) rfl (fun K _ C hQ => ?_)
  unfold f_X12_seen
  refine r_iload_n (pc := 0) (j := 1) C dX12_seen_0 rfl rfl ?_
  refine r_iconst (v := (-1)) C dX12_seen_1 (by decide) ?_
  refine r_cut ((a1 = (-1) ∨ ¬ f_X12_isSegment a1 O = 0) ∧ ¬ O 262 73 = 30) 24 22 [] (fun c10177 => ?_) (fun c10177 => ?_) (fun k10178 k10179 => ?_)
  · refine r_t c10177 ?_
    refine r_aload_n (pc := 24) (j := 0) C dX12_seen_24 rfl rfl ?_
    refine r_getR (j := 69) (r := 298) C cl_X12 kd_262 ln_262 (by decide) rfl r0_262_69 (by decide) q_1622 dX12_seen_25 ?_
    refine r_aload_n (pc := 28) (j := 0) C dX12_seen_28 rfl rfl ?_
    refine r_getO (j := 73) C cl_X12 kd_262 ln_262 gc_262 (by decide) (by decide) rfl q_1626 dX12_seen_29 (fun h10180 => ?_)
    refine r_iload_n (pc := 32) (j := 1) C dX12_seen_32 rfl rfl ?_
    refine r_iast C kd_298 ln_298 gc_298 h10180 ha1 dX12_seen_33 (fun O10181 => ?_)
    refine r_aload_n (pc := 34) (j := 0) C dX12_seen_34 rfl rfl ?_
    refine r_getR (j := 72) (r := 301) C cl_X12 kd_262 ln_262 (by decide) rfl r0_262_72 (by decide) q_1625 dX12_seen_35 ?_
    refine r_aload_n (pc := 38) (j := 0) C dX12_seen_38 rfl rfl ?_
    refine r_getO (j := 73) C cl_X12 kd_262 ln_262 gc_262 (by decide) (by decide) rfl q_1626 dX12_seen_39 (fun h10182 => ?_)
    refine r_iload_n (pc := 42) (j := 2) C dX12_seen_42 rfl rfl ?_
    refine r_zast C kd_301 ln_301 gc_301 h10182 ha2 dX12_seen_43 (fun O10183 => ?_)
    refine r_aload_n (pc := 44) (j := 0) C dX12_seen_44 rfl rfl ?_
    refine r_getR (j := 70) (r := 299) C cl_X12 kd_262 ln_262 (by decide) rfl r0_262_70 (by decide) q_1623 dX12_seen_45 ?_
    refine r_aload_n (pc := 48) (j := 0) C dX12_seen_48 rfl rfl ?_
    refine r_getO (j := 73) C cl_X12 kd_262 ln_262 gc_262 (by decide) (by decide) rfl q_1626 dX12_seen_49 (fun h10184 => ?_)
    refine r_aload_n (pc := 52) (j := 0) C dX12_seen_52 rfl rfl ?_
    refine r_getO (j := 74) C cl_X12 kd_262 ln_262 gc_262 (by decide) (by decide) rfl q_1627 dX12_seen_53 (fun h10185 => ?_)
    refine r_iast C kd_299 ln_299 gc_299 h10184 h10185 dX12_seen_56 (fun O10186 => ?_)
    refine r_aload_n (pc := 57) (j := 0) C dX12_seen_57 rfl rfl ?_
    refine r_getR (j := 71) (r := 300) C cl_X12 kd_262 ln_262 (by decide) rfl r0_262_71 (by decide) q_1624 dX12_seen_58 ?_
    refine r_aload_n (pc := 61) (j := 0) C dX12_seen_61 rfl rfl ?_
    refine r_getO (j := 73) C cl_X12 kd_262 ln_262 gc_262 (by decide) (by decide) rfl q_1626 dX12_seen_62 (fun h10187 => ?_)
    refine r_iconst (v := (-1)) C dX12_seen_65 (by decide) ?_
    refine r_iast C kd_300 ln_300 gc_300 h10187 (IRd rfl) dX12_seen_66 (fun O10188 => ?_)
    refine r_aload_n (pc := 67) (j := 0) C dX12_seen_67 rfl rfl ?_
    refine r_dup C dX12_seen_68 rfl ?_
    refine r_getO (j := 73) C cl_X12 kd_262 ln_262 gc_262 (by decide) (by decide) rfl q_1626 dX12_seen_69 (fun h10189 => ?_)
    refine r_iconst (v := 1) C dX12_seen_72 (by decide) ?_
    refine r_iadd C dX12_seen_73 ?_
    refine r_putO C cl_X12 kd_262 ln_262 gc_262 (by decide) (by decide) rfl rfl rfl (IR_wr _) q_1626 dX12_seen_74 (fun O10190 => ?_)
    refine r_aload_n (pc := 77) (j := 0) C dX12_seen_77 rfl rfl ?_
    refine r_getO (j := 73) C cl_X12 kd_262 ln_262 gc_262 (by decide) (by decide) rfl q_1626 dX12_seen_78 (fun h10191 => ?_)
    refine r_iconst (v := 1) C dX12_seen_81 (by decide) ?_
    refine r_isub C dX12_seen_82 ?_
    exact r_ireturn C hQ rfl dX12_seen_83 (fun e => by cases e; exact ⟨(IR_wr _), rfl, rfl, rfl, rfl, rfl⟩)
  · refine r_f c10177 ?_
    refine r_iconst (v := (-1)) C dX12_seen_22 (by decide) ?_
    exact r_ireturn C hQ rfl dX12_seen_23 (fun e => by cases e; exact ⟨(IRd rfl), rfl, rfl, rfl, rfl, rfl⟩)
  · refine r_icmp_eq (tgt := 13) C ha1 (IRd rfl) dX12_seen_2 (by decide) (fun c10192 => ?_) (fun c10192 => ?_)
    · refine r_aload_n (pc := 13) (j := 0) C dX12_seen_13 rfl rfl ?_
      refine r_getO (j := 73) C cl_X12 kd_262 ln_262 gc_262 (by decide) (by decide) rfl q_1626 dX12_seen_14 (fun h10176 => ?_)
      refine r_bipush (v := 30) C dX12_seen_17 (by decide) ?_
      refine r_icmp_ne (tgt := 24) C h10176 (IRd rfl) dX12_seen_19 (by decide) (fun c10193 => ?_) (fun c10193 => ?_)
      · exact k10178 ⟨(Or.inl c10192), c10193⟩
      · exact k10179 (fun w => w.2 c10193)
    · refine r_aload_n (pc := 5) (j := 0) C dX12_seen_5 rfl rfl ?_
      refine r_iload_n (pc := 6) (j := 1) C dX12_seen_6 rfl rfl ?_
      refine r_cV1 (pc := 7) (k := 262) (As := [.int (zi a1)]) (st := []) C (m_X12_isSegment (a1 := a1) ha1 rfl) cal_X12_isSegment cl_X12 kd_262 ln_262 q_1977 dX12_seen_7 rfl rfl (Nat.le_of_ble_eq_true rfl) (Nat.le_of_ble_eq_true rfl) (Nat.le_of_ble_eq_true rfl) (Nat.le_of_ble_eq_true rfl) (Nat.le_of_ble_eq_true rfl) (fun h10175 => ?_)
      refine r_if_eq (tgt := 22) C h10175.ir dX12_seen_10 (by decide) (fun c10194 => ?_) (fun c10194 => ?_)
      · exact k10179 (fun w => (fun w => w.elim c10192 (fun x => x c10194)) w.1)
      · refine r_aload_n (pc := 13) (j := 0) C dX12_seen_13 rfl rfl ?_
        refine r_getO (j := 73) C cl_X12 kd_262 ln_262 gc_262 (by decide) (by decide) rfl q_1626 dX12_seen_14 (fun h10176 => ?_)
        refine r_bipush (v := 30) C dX12_seen_17 (by decide) ?_
        refine r_icmp_ne (tgt := 24) C h10176 (IRd rfl) dX12_seen_19 (by decide) (fun c10195 => ?_) (fun c10195 => ?_)
        · exact k10178 ⟨(Or.inr c10194), c10195⟩
        · exact k10179 (fun w => w.2 c10195)

def f_X12_untell (a1 : Int) (O : Smo) : Option (Int × Smo) :=
  jk (fun (q10198 : Smo) =>
    some (0, q10198)) fun k10200 =>
  if f_X12_isIn a1 0 (wr ((O 262 73) - 1)) = 0 then
    (k10200 O)
  else
    (Option.bind (aget (O 300) (Ln 300) a1) fun (v10203 : Int) =>
    if v10203 < 0 then
      (Option.bind (asetO O 300 (Ln 300) a1 (O 262 74)) fun (O10207 : Smo) =>
      some (1, O10207))
    else
      (k10200 O))
set_option maxRecDepth 100000 in
set_option maxHeartbeats 4000000 in
theorem m_X12_untell {l : Launch} {E : EwT} {S : Sst} {O : Smo} {a1 : Int} (ha1 : IR a1) {q : Int × Smo} (hq : f_X12_untell a1 O = some q) : MetG l E yX12_untell cX12_untell 2 (some .boolean) 1 22 0 0 n0 R0 S O [.ref (zad E 262), .int (zi a1)] (BR q.1) (some (.int (zi q.1))) n0 R0 S q.2 := by
  refine ofG (L0 := [(0, .ref (zad E 262)), (1, .int (zi a1))]) hq (by decide +kernel) (Nat.le_of_ble_eq_true rfl) rfl (fun K _ C hQ => ?_)
  unfold f_X12_untell
  refine r_iload_n (pc := 0) (j := 1) C dX12_untell_0 rfl rfl ?_
  refine r_iconst (v := 0) C dX12_untell_1 (by decide) ?_
  refine r_aload_n (pc := 2) (j := 0) C dX12_untell_2 rfl rfl ?_
  refine r_getO (j := 73) C cl_X12 kd_262 ln_262 gc_262 (by decide) (by decide) rfl q_1626 dX12_untell_3 (fun h10196 => ?_)
  refine r_iconst (v := 1) C dX12_untell_6 (by decide) ?_
  refine r_isub C dX12_untell_7 ?_
  refine r_cS1 (pc := 8) (As := [.int (zi a1), .int (zi 0), .int (zi (wr ((O 262 73) - 1)))]) (st := []) C (m_X12_isIn (a0 := a1) (a1 := 0) (a2 := wr ((O 262 73) - 1)) ha1 (IRd rfl) (IR_wr _) rfl) cal_X12_isIn q_1981 dX12_untell_8 rfl rfl (Nat.le_of_ble_eq_true rfl) (Nat.le_of_ble_eq_true rfl) (Nat.le_of_ble_eq_true rfl) (Nat.le_of_ble_eq_true rfl) (Nat.le_of_ble_eq_true rfl) (fun h10197 => ?_)
  refine r_jk (fun q10198 : Smo => True) (fun q10198 => S) (fun q10198 => q10198) (fun q10198 => []) 23 (fun q10198 => []) (fun q10198 h10199 => ?_) (fun k10200 k10201 => ?_)
  · refine r_iconst (v := 0) C dX12_untell_23 (by decide) ?_
    exact r_ireturn C hQ (nar_z (BRd rfl)) dX12_untell_24 (fun e => by cases e; exact ⟨(BRd rfl), rfl, rfl, rfl, rfl, rfl⟩)
  · refine r_if_eq (tgt := 23) C h10197.ir dX12_untell_11 (by decide) (fun c10202 => ?_) (fun c10202 => ?_)
    · refine r_t c10202 ?_
      refine r_L (L' := []) [] rfl ?_
      exact k10201 O trivial
    · refine r_f c10202 ?_
      refine r_aload_n (pc := 14) (j := 0) C dX12_untell_14 rfl rfl ?_
      refine r_getR (j := 71) (r := 300) C cl_X12 kd_262 ln_262 (by decide) rfl r0_262_71 (by decide) q_1624 dX12_untell_15 ?_
      refine r_iload_n (pc := 18) (j := 1) C dX12_untell_18 rfl rfl ?_
      refine r_iald C kd_300 ln_300 gc_300 ha1 dX12_untell_19 (fun v10203 h10204 => ?_)
      refine r_if_lt (tgt := 25) C h10204 dX12_untell_20 (by decide) (fun c10205 => ?_) (fun c10205 => ?_)
      · refine r_t c10205 ?_
        refine r_aload_n (pc := 25) (j := 0) C dX12_untell_25 rfl rfl ?_
        refine r_getR (j := 71) (r := 300) C cl_X12 kd_262 ln_262 (by decide) rfl r0_262_71 (by decide) q_1624 dX12_untell_26 ?_
        refine r_iload_n (pc := 29) (j := 1) C dX12_untell_29 rfl rfl ?_
        refine r_aload_n (pc := 30) (j := 0) C dX12_untell_30 rfl rfl ?_
        refine r_getO (j := 74) C cl_X12 kd_262 ln_262 gc_262 (by decide) (by decide) rfl q_1627 dX12_untell_31 (fun h10206 => ?_)
        refine r_iast C kd_300 ln_300 gc_300 ha1 h10206 dX12_untell_34 (fun O10207 => ?_)
        refine r_iconst (v := 1) C dX12_untell_35 (by decide) ?_
        exact r_ireturn C hQ (nar_z (BRd rfl)) dX12_untell_36 (fun e => by cases e; exact ⟨(BRd rfl), rfl, rfl, rfl, rfl, rfl⟩)
      · refine r_f c10205 ?_
        refine r_L (L' := []) [] rfl ?_
        exact k10201 O trivial

def f_X12_later (a1 : Int) (O : Smo) : Int × Smo :=
  if ((a1 < 0 ∨ 1000 < a1) ∨ 100000 < wr ((O 262 74) + a1)) then
    (((-1), O))
  else
    (jn (up2 O 262 74 (wr ((O 262 74) + a1))) fun (O10213 : Smo) =>
    (O10213 262 74, O10213))
set_option maxRecDepth 100000 in
set_option maxHeartbeats 4000000 in
theorem m_X12_later {l : Launch} {E : EwT} {S : Sst} {O : Smo} {a1 : Int} (ha1 : IR a1) {q : Int × Smo} (hq : f_X12_later a1 O = q) : MetG l E yX12_later cX12_later 2 (some .int) 0 0 0 0 n0 R0 S O [.ref (zad E 262), .int (zi a1)] (IR q.1) (some (.int (zi q.1))) n0 R0 S q.2 := by
  refine ofG (L0 := [(0, .ref (zad E 262)), (1, .int (zi a1))]) hq (by decide +kernel) (Nat.le_of_ble_eq_true rfl) rfl (fun K _ C hQ => ?_)
  unfold f_X12_later
  refine r_iload_n (pc := 0) (j := 1) C dX12_later_0 rfl rfl ?_
  refine r_cut ((a1 < 0 ∨ 1000 < a1) ∨ 100000 < wr ((O 262 74) + a1)) 23 25 [] (fun c10209 => ?_) (fun c10209 => ?_) (fun k10210 k10211 => ?_)
  · refine r_t c10209 ?_
    refine r_iconst (v := (-1)) C dX12_later_23 (by decide) ?_
    exact r_ireturn C hQ rfl dX12_later_24 (fun e => by subst e; exact ⟨(IRd rfl), rfl, rfl, rfl, rfl, rfl⟩)
  · refine r_f c10209 ?_
    refine r_aload_n (pc := 25) (j := 0) C dX12_later_25 rfl rfl ?_
    refine r_dup C dX12_later_26 rfl ?_
    refine r_getO (j := 74) C cl_X12 kd_262 ln_262 gc_262 (by decide) (by decide) rfl q_1627 dX12_later_27 (fun h10212 => ?_)
    refine r_iload_n (pc := 30) (j := 1) C dX12_later_30 rfl rfl ?_
    refine r_iadd C dX12_later_31 ?_
    refine r_putO C cl_X12 kd_262 ln_262 gc_262 (by decide) (by decide) rfl rfl rfl (IR_wr _) q_1627 dX12_later_32 (fun O10213 => ?_)
    refine r_aload_n (pc := 35) (j := 0) C dX12_later_35 rfl rfl ?_
    refine r_getO (j := 74) C cl_X12 kd_262 ln_262 gc_262 (by decide) (by decide) rfl q_1627 dX12_later_36 (fun h10214 => ?_)
    exact r_ireturn C hQ rfl dX12_later_39 (fun e => by subst e; exact ⟨h10214, rfl, rfl, rfl, rfl, rfl⟩)
  · refine r_if_lt (tgt := 23) C ha1 dX12_later_1 (by decide) (fun c10215 => ?_) (fun c10215 => ?_)
    · exact k10210 (Or.inl (Or.inl c10215))
    · refine r_iload_n (pc := 4) (j := 1) C dX12_later_4 rfl rfl ?_
      refine r_sipush (v := 1000) C dX12_later_5 (by decide) ?_
      refine r_icmp_gt (tgt := 23) C ha1 (IRd rfl) dX12_later_8 (by decide) (fun c10216 => ?_) (fun c10216 => ?_)
      · exact k10210 (Or.inl (Or.inr c10216))
      · refine r_aload_n (pc := 11) (j := 0) C dX12_later_11 rfl rfl ?_
        refine r_getO (j := 74) C cl_X12 kd_262 ln_262 gc_262 (by decide) (by decide) rfl q_1627 dX12_later_12 (fun h10208 => ?_)
        refine r_iload_n (pc := 15) (j := 1) C dX12_later_15 rfl rfl ?_
        refine r_iadd C dX12_later_16 ?_
        refine r_ldcw (v := 100000) C q_2357 dX12_later_17 (by decide) ?_
        refine r_icmp_le (tgt := 25) C (IR_wr _) (IRd rfl) dX12_later_20 (by decide) (fun c10217 => ?_) (fun c10217 => ?_)
        · exact k10211 (fun w => w.elim (fun w => w.elim c10215 c10216) c10217)
        · exact k10210 (Or.inr c10217)

def f_X12_layFits (a1 : Int) (a2 : Int) (O : Smo) : Option (Int × Smo) :=
  Option.bind (lp (fun (s10383 : Int × Int × Smo) =>
    if 60 < s10383.2.1 then
      (some (Sum.inr (s10383.1, s10383.2.2)))
    else
      (Option.bind (lp (fun (s10390 : Int × Int) =>
        if s10390.2 < s10383.2.2 262 39 then
          (Option.bind (f_X12_isOver s10390.2 s10383.2.1 s10383.2.2) fun (q10399 : Int) =>
          jn (zor s10390.1 (zshl (f_X12_truth q10399) s10390.2)) fun (v10402 : Int) =>
          some (Sum.inl (v10402, wr (s10390.2 + 1))))
        else
          (some (Sum.inr s10390.1))) FU (0, 0)) fun (r10404 : Int) =>
      Option.bind (f_X12_belowOf r10404 s10383.2.1 a1 s10383.2.2) fun (q10407 : Int) =>
      Option.bind (asetO s10383.2.2 302 (Ln 302) s10383.2.1 q10407) fun (O10409 : Smo) =>
      Option.bind (lp (fun (s10410 : Int × Int) =>
        if s10410.2 < O10409 262 73 then
          (Option.bind (
            if s10410.1 = 0 then
              (some 0)
            else
              (Option.bind (aget (O10409 299) (Ln 299) s10410.2) fun (v10423 : Int) =>
              jk (fun (q10425 : Unit) =>
                some 1) fun k10427 =>
              if a2 < v10423 then
                (k10427 ())
              else
                (Option.bind (aget (O10409 300) (Ln 300) s10410.2) fun (v10430 : Int) =>
                jk (fun (q10432 : Unit) =>
                  Option.bind (aget (O10409 302) (Ln 302) s10383.2.1) fun (v10440 : Int) =>
                  Option.bind (aget (O10409 298) (Ln 298) s10410.2) fun (v10442 : Int) =>
                  jn (
                    if v10440 = v10442 then
                      (1)
                    else
                      (0)) fun (q10444 : Int) =>
                  Option.bind (aget (O10409 301) (Ln 301) s10410.2) fun (v10449 : Int) =>
                  if q10444 = v10449 then
                    (k10427 ())
                  else
                    (some 0)) fun k10434 =>
                if v10430 < 0 then
                  (k10434 ())
                else
                  (Option.bind (aget (O10409 300) (Ln 300) s10410.2) fun (v10437 : Int) =>
                  if a2 < v10437 then
                    (k10434 ())
                  else
                    (k10427 ()))))) fun (q10418 : Int) =>
          some (Sum.inl (q10418, wr (s10410.2 + 1))))
        else
          (some (Sum.inr s10410.1))) FU (1, 0)) fun (r10452 : Int) =>
      Option.bind (asetO O10409 303 (Ln 303) s10383.2.1 r10452) fun (O10454 : Smo) =>
      jn (wr (s10383.1 + (f_X12_truth r10452))) fun (v10456 : Int) =>
      some (Sum.inl (v10456, wr (s10383.2.1 + 1), O10454)))) FU (0, 0, O)) fun (r10458 : Int × Smo) =>
  some (r10458.1, r10458.2)
set_option maxRecDepth 100000 in
set_option maxHeartbeats 4000000 in
theorem m_X12_layFits {l : Launch} {E : EwT} {S : Sst} {O : Smo} {a1 : Int} (ha1 : IR a1) {a2 : Int} (ha2 : IR a2) {q : Int × Smo} (hq : f_X12_layFits a1 a2 O = some q) : MetG l E yX12_layFits cX12_layFits 8 (some .int) 3 75 0 0 n0 R0 S O [.ref (zad E 262), .int (zi a1), .int (zi a2)] (IR q.1) (some (.int (zi q.1))) n0 R0 S q.2 := by
  refine ofG (L0 := [(0, .ref (zad E 262)), (1, .int (zi a1)), (2, .int (zi a2))]) hq (by decide +kernel) (Nat.le_of_ble_eq_true rfl) rfl (fun K _ C hQ => ?_)
  unfold f_X12_layFits
  refine r_iconst (v := 0) C dX12_layFits_0 (by decide) ?_
  refine r_istore_n (L' := [(3, .int (zi 0)), (0, .ref (zad E 262)), (1, .int (zi a1)), (2, .int (zi a2))]) C dX12_layFits_1 rfl (by decide) rfl ?_
  refine r_iconst (v := 0) C dX12_layFits_2 (by decide) ?_
  refine r_istore (L' := [(4, .int (zi 0)), (3, .int (zi 0)), (0, .ref (zad E 262)), (1, .int (zi a1)), (2, .int (zi a2))]) C dX12_layFits_3 (by decide) rfl ?_
  refine r_L (L' := [(0, .ref (zad E 262)), (1, .int (zi a1)), (2, .int (zi a2)), (3, .int (zi 0)), (4, .int (zi 0))]) [2, 3, 4, 1, 0] rfl ?_
  refine r_loop1 (fun s10383 : Int × Int × Smo => IR s10383.1 ∧ IR s10383.2.1) (fun s10383 => S) (fun s10383 => s10383.2.2) (fun s10383 => [(0, .ref (zad E 262)), (1, .int (zi a1)), (2, .int (zi a2)), (3, .int (zi s10383.1)), (4, .int (zi s10383.2.1))]) [] (fun r10458 : Int × Smo => IR r10458.1) (fun r10458 => S) (fun r10458 => r10458.2) (fun r10458 => [(3, .int (zi r10458.1))]) 188 (fun r10458 h10459 => ?_) (fun k10385 k10387 k10386 k10388 s10383 h10384 => ?_) ⟨(IRd rfl), (IRd rfl)⟩
  · refine r_iload_n (pc := 188) (j := 0) C dX12_layFits_188 rfl rfl ?_
    exact r_ireturn C hQ rfl dX12_layFits_189 (fun e => by cases e; exact ⟨h10459, rfl, rfl, rfl, rfl, rfl⟩)
  · refine r_iload (pc := 5) (j := 4) C dX12_layFits_5 rfl ?_
    refine r_bipush (v := 60) C dX12_layFits_7 (by decide) ?_
    refine r_icmp_gt (tgt := 188) C h10384.2 (IRd rfl) dX12_layFits_9 (by decide) (fun c10389 => ?_) (fun c10389 => ?_)
    · refine r_bt c10389 ?_
      refine r_L (L' := [(3, .int (zi s10383.1))]) [3] rfl ?_
      exact k10388 (s10383.1, s10383.2.2) h10384.1
    · refine r_bf c10389 ?_
      refine r_iconst (v := 0) C dX12_layFits_12 (by decide) ?_
      refine r_istore (L' := [(5, .int (zi 0)), (0, .ref (zad E 262)), (1, .int (zi a1)), (2, .int (zi a2)), (3, .int (zi s10383.1)), (4, .int (zi s10383.2.1))]) C dX12_layFits_13 (by decide) rfl ?_
      refine r_iconst (v := 0) C dX12_layFits_15 (by decide) ?_
      refine r_istore (L' := [(6, .int (zi 0)), (5, .int (zi 0)), (0, .ref (zad E 262)), (1, .int (zi a1)), (2, .int (zi a2)), (3, .int (zi s10383.1)), (4, .int (zi s10383.2.1))]) C dX12_layFits_16 (by decide) rfl ?_
      refine r_L (L' := [(0, .ref (zad E 262)), (1, .int (zi a1)), (2, .int (zi a2)), (3, .int (zi s10383.1)), (4, .int (zi s10383.2.1)), (5, .int (zi 0)), (6, .int (zi 0))]) [2, 3, 4, 5, 6, 1, 0] rfl ?_
      refine r_bb ?_
      refine r_loop1 (fun s10390 : Int × Int => IR s10390.1 ∧ IR s10390.2) (fun s10390 => S) (fun s10390 => s10383.2.2) (fun s10390 => [(0, .ref (zad E 262)), (1, .int (zi a1)), (2, .int (zi a2)), (3, .int (zi s10383.1)), (4, .int (zi s10383.2.1)), (5, .int (zi s10390.1)), (6, .int (zi s10390.2))]) [] (fun r10404 : Int => IR r10404) (fun r10404 => S) (fun r10404 => s10383.2.2) (fun r10404 => [(0, .ref (zad E 262)), (1, .int (zi a1)), (2, .int (zi a2)), (3, .int (zi s10383.1)), (4, .int (zi s10383.2.1)), (5, .int (zi r10404))]) 52 (fun r10404 h10405 => ?_) (fun k10392 k10394 k10393 k10395 s10390 h10391 => ?_) ⟨(IRd rfl), (IRd rfl)⟩
      · refine r_aload_n (pc := 52) (j := 0) C dX12_layFits_52 rfl rfl ?_
        refine r_getR (j := 75) (r := 302) C cl_X12 kd_262 ln_262 (by decide) rfl r0_262_75 (by decide) q_1628 dX12_layFits_53 ?_
        refine r_iload (pc := 56) (j := 4) C dX12_layFits_56 rfl ?_
        refine r_aload_n (pc := 58) (j := 0) C dX12_layFits_58 rfl rfl ?_
        refine r_iload (pc := 59) (j := 5) C dX12_layFits_59 rfl ?_
        refine r_iload (pc := 61) (j := 4) C dX12_layFits_61 rfl ?_
        refine r_iload_n (pc := 63) (j := 1) C dX12_layFits_63 rfl rfl ?_
        refine r_bb ?_
        refine r_bd (fun q10407 e10408 => ?_)
        refine r_cV1 (pc := 64) (k := 262) (As := [.int (zi r10404), .int (zi s10383.2.1), .int (zi a1)]) (st := [.int (zi s10383.2.1), .ref (zad E 302)]) C (m_X12_belowOf (a1 := r10404) (a2 := s10383.2.1) (a3 := a1) h10405 h10384.2 ha1 e10408) cal_X12_belowOf cl_X12 kd_262 ln_262 q_2186 dX12_layFits_64 rfl rfl (Nat.le_of_ble_eq_true rfl) (Nat.le_of_ble_eq_true rfl) (Nat.le_of_ble_eq_true rfl) (Nat.le_of_ble_eq_true rfl) (Nat.le_of_ble_eq_true rfl) (fun h10406 => ?_)
        refine r_bb ?_
        refine r_iast C kd_302 ln_302 gc_302 h10384.2 h10406 dX12_layFits_67 (fun O10409 => ?_)
        refine r_iconst (v := 1) C dX12_layFits_68 (by decide) ?_
        refine r_istore (L' := [(6, .int (zi 1)), (0, .ref (zad E 262)), (1, .int (zi a1)), (2, .int (zi a2)), (3, .int (zi s10383.1)), (4, .int (zi s10383.2.1)), (5, .int (zi r10404))]) C dX12_layFits_69 (by decide) rfl ?_
        refine r_iconst (v := 0) C dX12_layFits_71 (by decide) ?_
        refine r_istore (L' := [(7, .int (zi 0)), (6, .int (zi 1)), (0, .ref (zad E 262)), (1, .int (zi a1)), (2, .int (zi a2)), (3, .int (zi s10383.1)), (4, .int (zi s10383.2.1)), (5, .int (zi r10404))]) C dX12_layFits_72 (by decide) rfl ?_
        refine r_L (L' := [(0, .ref (zad E 262)), (1, .int (zi a1)), (2, .int (zi a2)), (3, .int (zi s10383.1)), (4, .int (zi s10383.2.1)), (6, .int (zi 1)), (7, .int (zi 0))]) [2, 3, 4, 5, 6, 1, 0] rfl ?_
        refine r_bb ?_
        refine r_loop1 (fun s10410 : Int × Int => BR s10410.1 ∧ IR s10410.2) (fun s10410 => S) (fun s10410 => O10409) (fun s10410 => [(0, .ref (zad E 262)), (1, .int (zi a1)), (2, .int (zi a2)), (3, .int (zi s10383.1)), (4, .int (zi s10383.2.1)), (6, .int (zi s10410.1)), (7, .int (zi s10410.2))]) [] (fun r10452 : Int => BR r10452) (fun r10452 => S) (fun r10452 => O10409) (fun r10452 => [(0, .ref (zad E 262)), (1, .int (zi a1)), (2, .int (zi a2)), (3, .int (zi s10383.1)), (4, .int (zi s10383.2.1)), (6, .int (zi r10452))]) 165 (fun r10452 h10453 => ?_) (fun k10412 k10414 k10413 k10415 s10410 h10411 => ?_) ⟨(BRd rfl), (IRd rfl)⟩
        · refine r_aload_n (pc := 165) (j := 0) C dX12_layFits_165 rfl rfl ?_
          refine r_getR (j := 76) (r := 303) C cl_X12 kd_262 ln_262 (by decide) rfl r0_262_76 (by decide) q_1629 dX12_layFits_166 ?_
          refine r_iload (pc := 169) (j := 4) C dX12_layFits_169 rfl ?_
          refine r_iload (pc := 171) (j := 5) C dX12_layFits_171 rfl ?_
          refine r_bb ?_
          refine r_zast C kd_303 ln_303 gc_303 h10384.2 h10453 dX12_layFits_173 (fun O10454 => ?_)
          refine r_iload_n (pc := 174) (j := 3) C dX12_layFits_174 rfl rfl ?_
          refine r_iload (pc := 175) (j := 5) C dX12_layFits_175 rfl ?_
          refine r_cS1 (pc := 177) (As := [.int (zi r10452)]) (st := [.int (zi s10383.1)]) C (m_X12_truth (a0 := r10452) h10453 rfl) cal_X12_truth q_1959 dX12_layFits_177 rfl rfl (Nat.le_of_ble_eq_true rfl) (Nat.le_of_ble_eq_true rfl) (Nat.le_of_ble_eq_true rfl) (Nat.le_of_ble_eq_true rfl) (Nat.le_of_ble_eq_true rfl) (fun h10455 => ?_)
          refine r_iadd C dX12_layFits_180 ?_
          refine r_bj ?_
          refine r_jv (IR_wr _) (fun v10456 h10457 => ?_)
          refine r_istore_n (L' := [(3, .int (zi v10456)), (0, .ref (zad E 262)), (1, .int (zi a1)), (2, .int (zi a2)), (4, .int (zi s10383.2.1)), (6, .int (zi r10452))]) C dX12_layFits_181 rfl (by decide) rfl ?_
          refine r_iinc (j := 4) (L' := [(4, .int (zi (wr (s10383.2.1 + 1)))), (3, .int (zi v10456)), (0, .ref (zad E 262)), (1, .int (zi a1)), (2, .int (zi a2)), (6, .int (zi r10452))]) C dX12_layFits_182 rfl (by decide) rfl ?_
          refine r_goto (tgt := 5) C dX12_layFits_185 (by decide) ?_
          refine r_L (L' := [(0, .ref (zad E 262)), (1, .int (zi a1)), (2, .int (zi a2)), (3, .int (zi v10456)), (4, .int (zi (wr (s10383.2.1 + 1))))]) [2, 3, 4, 1, 0] rfl ?_
          exact k10386 (v10456, wr (s10383.2.1 + 1), O10454) ⟨h10457, (IR_wr _)⟩
        · refine r_iload (pc := 74) (j := 6) C dX12_layFits_74 rfl ?_
          refine r_aload_n (pc := 76) (j := 0) C dX12_layFits_76 rfl rfl ?_
          refine r_getO (j := 73) C cl_X12 kd_262 ln_262 gc_262 (by decide) (by decide) rfl q_1626 dX12_layFits_77 (fun h10416 => ?_)
          refine r_icmp_ge (tgt := 165) C h10411.2 h10416 dX12_layFits_80 (by decide) (fun c10417 => ?_) (fun c10417 => ?_)
          · refine r_bf c10417 ?_
            refine r_L (L' := [(0, .ref (zad E 262)), (1, .int (zi a1)), (2, .int (zi a2)), (3, .int (zi s10383.1)), (4, .int (zi s10383.2.1)), (6, .int (zi s10410.1))]) [0, 1, 2, 3, 4, 5] rfl ?_
            exact k10415 s10410.1 h10411.1
          · refine r_bt c10417 ?_
            refine r_iload (pc := 83) (j := 5) C dX12_layFits_83 rfl ?_
            refine r_bb ?_
            refine r_joinb (fun q10418 : Int => BR q10418) (fun q10418 => S) (fun q10418 => O10409) (fun q10418 => [(0, .ref (zad E 262)), (1, .int (zi a1)), (2, .int (zi a2)), (3, .int (zi s10383.1)), (4, .int (zi s10383.2.1)), (7, .int (zi s10410.2))]) 157 (fun q10418 => [.int (zi q10418)]) (fun q10418 h10419 => ?_) (fun k10420 k10421 => ?_)
            · refine r_istore (L' := [(6, .int (zi q10418)), (0, .ref (zad E 262)), (1, .int (zi a1)), (2, .int (zi a2)), (3, .int (zi s10383.1)), (4, .int (zi s10383.2.1)), (7, .int (zi s10410.2))]) C dX12_layFits_157 (by decide) rfl ?_
              refine r_iinc (j := 6) (L' := [(7, .int (zi (wr (s10410.2 + 1)))), (6, .int (zi q10418)), (0, .ref (zad E 262)), (1, .int (zi a1)), (2, .int (zi a2)), (3, .int (zi s10383.1)), (4, .int (zi s10383.2.1))]) C dX12_layFits_159 rfl (by decide) rfl ?_
              refine r_goto (tgt := 74) C dX12_layFits_162 (by decide) ?_
              refine r_L (L' := [(0, .ref (zad E 262)), (1, .int (zi a1)), (2, .int (zi a2)), (3, .int (zi s10383.1)), (4, .int (zi s10383.2.1)), (6, .int (zi q10418)), (7, .int (zi (wr (s10410.2 + 1))))]) [2, 3, 4, 5, 6, 1, 0] rfl ?_
              exact k10413 (q10418, wr (s10410.2 + 1)) ⟨h10419, (IR_wr _)⟩
            · refine r_if_eq (tgt := 156) C h10411.1.ir dX12_layFits_85 (by decide) (fun c10422 => ?_) (fun c10422 => ?_)
              · refine r_bt c10422 ?_
                refine r_iconst (v := 0) C dX12_layFits_156 (by decide) ?_
                refine r_L (L' := [(0, .ref (zad E 262)), (1, .int (zi a1)), (2, .int (zi a2)), (3, .int (zi s10383.1)), (4, .int (zi s10383.2.1)), (7, .int (zi s10410.2))]) [0, 1, 2, 3, 4, 6] rfl ?_
                exact k10421 0 (BRd rfl)
              · refine r_bf c10422 ?_
                refine r_aload_n (pc := 88) (j := 0) C dX12_layFits_88 rfl rfl ?_
                refine r_getR (j := 70) (r := 299) C cl_X12 kd_262 ln_262 (by decide) rfl r0_262_70 (by decide) q_1623 dX12_layFits_89 ?_
                refine r_iload (pc := 92) (j := 6) C dX12_layFits_92 rfl ?_
                refine r_bb ?_
                refine r_iald C kd_299 ln_299 gc_299 h10411.2 dX12_layFits_94 (fun v10423 h10424 => ?_)
                refine r_iload_n (pc := 95) (j := 2) C dX12_layFits_95 rfl rfl ?_
                refine r_jkb (fun q10425 : Unit => True) (fun q10425 => S) (fun q10425 => O10409) (fun q10425 => [(0, .ref (zad E 262)), (1, .int (zi a1)), (2, .int (zi a2)), (3, .int (zi s10383.1)), (4, .int (zi s10383.2.1)), (7, .int (zi s10410.2))]) 152 (fun q10425 => []) (fun q10425 h10426 => ?_) (fun k10427 k10428 => ?_)
                · refine r_iconst (v := 1) C dX12_layFits_152 (by decide) ?_
                  refine r_goto (tgt := 157) C dX12_layFits_153 (by decide) ?_
                  exact k10421 1 (BRd rfl)
                · refine r_icmp_gt (tgt := 152) C h10424 ha2 dX12_layFits_96 (by decide) (fun c10429 => ?_) (fun c10429 => ?_)
                  · refine r_bt c10429 ?_
                    refine r_L (L' := [(0, .ref (zad E 262)), (1, .int (zi a1)), (2, .int (zi a2)), (3, .int (zi s10383.1)), (4, .int (zi s10383.2.1)), (7, .int (zi s10410.2))]) [0, 1, 2, 3, 4, 6] rfl ?_
                    exact k10428 () trivial
                  · refine r_bf c10429 ?_
                    refine r_aload_n (pc := 99) (j := 0) C dX12_layFits_99 rfl rfl ?_
                    refine r_getR (j := 71) (r := 300) C cl_X12 kd_262 ln_262 (by decide) rfl r0_262_71 (by decide) q_1624 dX12_layFits_100 ?_
                    refine r_iload (pc := 103) (j := 6) C dX12_layFits_103 rfl ?_
                    refine r_bb ?_
                    refine r_iald C kd_300 ln_300 gc_300 h10411.2 dX12_layFits_105 (fun v10430 h10431 => ?_)
                    refine r_jkb (fun q10432 : Unit => True) (fun q10432 => S) (fun q10432 => O10409) (fun q10432 => [(0, .ref (zad E 262)), (1, .int (zi a1)), (2, .int (zi a2)), (3, .int (zi s10383.1)), (4, .int (zi s10383.2.1)), (7, .int (zi s10410.2))]) 120 (fun q10432 => []) (fun q10432 h10433 => ?_) (fun k10434 k10435 => ?_)
                    · refine r_aload_n (pc := 120) (j := 0) C dX12_layFits_120 rfl rfl ?_
                      refine r_getR (j := 75) (r := 302) C cl_X12 kd_262 ln_262 (by decide) rfl r0_262_75 (by decide) q_1628 dX12_layFits_121 ?_
                      refine r_iload (pc := 124) (j := 4) C dX12_layFits_124 rfl ?_
                      refine r_bb ?_
                      refine r_iald C kd_302 ln_302 gc_302 h10384.2 dX12_layFits_126 (fun v10440 h10441 => ?_)
                      refine r_aload_n (pc := 127) (j := 0) C dX12_layFits_127 rfl rfl ?_
                      refine r_getR (j := 69) (r := 298) C cl_X12 kd_262 ln_262 (by decide) rfl r0_262_69 (by decide) q_1622 dX12_layFits_128 ?_
                      refine r_iload (pc := 131) (j := 5) C dX12_layFits_131 rfl ?_
                      refine r_bb ?_
                      refine r_iald C kd_298 ln_298 gc_298 h10411.2 dX12_layFits_133 (fun v10442 h10443 => ?_)
                      refine r_bj ?_
                      refine r_join (fun q10444 : Int => BR q10444) (fun q10444 => S) (fun q10444 => O10409) (fun q10444 => [(0, .ref (zad E 262)), (1, .int (zi a1)), (2, .int (zi a2)), (3, .int (zi s10383.1)), (4, .int (zi s10383.2.1)), (7, .int (zi s10410.2))]) 142 (fun q10444 => [.int (zi q10444)]) (fun q10444 h10445 => ?_) (fun k10446 k10447 => ?_)
                      · refine r_aload_n (pc := 142) (j := 0) C dX12_layFits_142 rfl rfl ?_
                        refine r_getR (j := 72) (r := 301) C cl_X12 kd_262 ln_262 (by decide) rfl r0_262_72 (by decide) q_1625 dX12_layFits_143 ?_
                        refine r_iload (pc := 146) (j := 5) C dX12_layFits_146 rfl ?_
                        refine r_bb ?_
                        refine r_zald C kd_301 ln_301 gc_301 h10411.2 dX12_layFits_148 (fun v10449 h10450 => ?_)
                        refine r_icmp_ne (tgt := 156) C h10445.ir h10450.ir dX12_layFits_149 (by decide) (fun c10451 => ?_) (fun c10451 => ?_)
                        · refine r_bf c10451 ?_
                          refine r_iconst (v := 0) C dX12_layFits_156 (by decide) ?_
                          exact k10421 0 (BRd rfl)
                        · refine r_bt c10451 ?_
                          exact k10428 () trivial
                      · refine r_icmp_ne (tgt := 141) C h10441 h10443 dX12_layFits_134 (by decide) (fun c10448 => ?_) (fun c10448 => ?_)
                        · refine r_jf c10448 ?_
                          refine r_iconst (v := 0) C dX12_layFits_141 (by decide) ?_
                          exact k10447 0 (BRd rfl)
                        · refine r_jt c10448 ?_
                          refine r_iconst (v := 1) C dX12_layFits_137 (by decide) ?_
                          refine r_goto (tgt := 142) C dX12_layFits_138 (by decide) ?_
                          exact k10447 1 (BRd rfl)
                    · refine r_if_lt (tgt := 120) C h10431 dX12_layFits_106 (by decide) (fun c10436 => ?_) (fun c10436 => ?_)
                      · refine r_bt c10436 ?_
                        refine r_L (L' := [(0, .ref (zad E 262)), (1, .int (zi a1)), (2, .int (zi a2)), (3, .int (zi s10383.1)), (4, .int (zi s10383.2.1)), (7, .int (zi s10410.2))]) [0, 1, 2, 3, 4, 6] rfl ?_
                        exact k10435 () trivial
                      · refine r_bf c10436 ?_
                        refine r_aload_n (pc := 109) (j := 0) C dX12_layFits_109 rfl rfl ?_
                        refine r_getR (j := 71) (r := 300) C cl_X12 kd_262 ln_262 (by decide) rfl r0_262_71 (by decide) q_1624 dX12_layFits_110 ?_
                        refine r_iload (pc := 113) (j := 6) C dX12_layFits_113 rfl ?_
                        refine r_bb ?_
                        refine r_iald C kd_300 ln_300 gc_300 h10411.2 dX12_layFits_115 (fun v10437 h10438 => ?_)
                        refine r_iload_n (pc := 116) (j := 2) C dX12_layFits_116 rfl rfl ?_
                        refine r_icmp_le (tgt := 152) C h10438 ha2 dX12_layFits_117 (by decide) (fun c10439 => ?_) (fun c10439 => ?_)
                        · refine r_bf c10439 ?_
                          refine r_L (L' := [(0, .ref (zad E 262)), (1, .int (zi a1)), (2, .int (zi a2)), (3, .int (zi s10383.1)), (4, .int (zi s10383.2.1)), (7, .int (zi s10410.2))]) [0, 1, 2, 3, 4, 6] rfl ?_
                          exact k10428 () trivial
                        · refine r_bt c10439 ?_
                          refine r_L (L' := [(0, .ref (zad E 262)), (1, .int (zi a1)), (2, .int (zi a2)), (3, .int (zi s10383.1)), (4, .int (zi s10383.2.1)), (7, .int (zi s10410.2))]) [0, 1, 2, 3, 4, 6] rfl ?_
                          exact k10435 () trivial
      · refine r_iload (pc := 18) (j := 6) C dX12_layFits_18 rfl ?_
        refine r_aload_n (pc := 20) (j := 0) C dX12_layFits_20 rfl rfl ?_
        refine r_getO (j := 39) C cl_X12 kd_262 ln_262 gc_262 (by decide) (by decide) rfl q_1592 dX12_layFits_21 (fun h10396 => ?_)
        refine r_icmp_ge (tgt := 52) C h10391.2 h10396 dX12_layFits_24 (by decide) (fun c10397 => ?_) (fun c10397 => ?_)
        · refine r_bf c10397 ?_
          refine r_L (L' := [(0, .ref (zad E 262)), (1, .int (zi a1)), (2, .int (zi a2)), (3, .int (zi s10383.1)), (4, .int (zi s10383.2.1)), (5, .int (zi s10390.1))]) [0, 1, 2, 3, 4, 5] rfl ?_
          exact k10395 s10390.1 h10391.1
        · refine r_bt c10397 ?_
          refine r_iload (pc := 27) (j := 5) C dX12_layFits_27 rfl ?_
          refine r_aload_n (pc := 29) (j := 0) C dX12_layFits_29 rfl rfl ?_
          refine r_iload (pc := 30) (j := 6) C dX12_layFits_30 rfl ?_
          refine r_iload (pc := 32) (j := 4) C dX12_layFits_32 rfl ?_
          refine r_bb ?_
          refine r_bd (fun q10399 e10400 => ?_)
          refine r_cV1 (pc := 34) (k := 262) (As := [.int (zi s10390.2), .int (zi s10383.2.1)]) (st := [.int (zi s10390.1)]) C (m_X12_isOver (a1 := s10390.2) (a2 := s10383.2.1) h10391.2 h10384.2 e10400) cal_X12_isOver cl_X12 kd_262 ln_262 q_1984 dX12_layFits_34 rfl rfl (Nat.le_of_ble_eq_true rfl) (Nat.le_of_ble_eq_true rfl) (Nat.le_of_ble_eq_true rfl) (Nat.le_of_ble_eq_true rfl) (Nat.le_of_ble_eq_true rfl) (fun h10398 => ?_)
          refine r_cS1 (pc := 37) (As := [.int (zi q10399)]) (st := [.int (zi s10390.1)]) C (m_X12_truth (a0 := q10399) h10398 rfl) cal_X12_truth q_1959 dX12_layFits_37 rfl rfl (Nat.le_of_ble_eq_true rfl) (Nat.le_of_ble_eq_true rfl) (Nat.le_of_ble_eq_true rfl) (Nat.le_of_ble_eq_true rfl) (Nat.le_of_ble_eq_true rfl) (fun h10401 => ?_)
          refine r_iload (pc := 40) (j := 6) C dX12_layFits_40 rfl ?_
          refine r_ishl C dX12_layFits_42 ?_
          refine r_ior C dX12_layFits_43 ?_
          refine r_bj ?_
          refine r_jv (i32_IR _) (fun v10402 h10403 => ?_)
          refine r_istore (L' := [(5, .int (zi v10402)), (0, .ref (zad E 262)), (1, .int (zi a1)), (2, .int (zi a2)), (3, .int (zi s10383.1)), (4, .int (zi s10383.2.1)), (6, .int (zi s10390.2))]) C dX12_layFits_44 (by decide) rfl ?_
          refine r_iinc (j := 6) (L' := [(6, .int (zi (wr (s10390.2 + 1)))), (5, .int (zi v10402)), (0, .ref (zad E 262)), (1, .int (zi a1)), (2, .int (zi a2)), (3, .int (zi s10383.1)), (4, .int (zi s10383.2.1))]) C dX12_layFits_46 rfl (by decide) rfl ?_
          refine r_goto (tgt := 18) C dX12_layFits_49 (by decide) ?_
          refine r_L (L' := [(0, .ref (zad E 262)), (1, .int (zi a1)), (2, .int (zi a2)), (3, .int (zi s10383.1)), (4, .int (zi s10383.2.1)), (5, .int (zi v10402)), (6, .int (zi (wr (s10390.2 + 1))))]) [2, 3, 4, 5, 6, 1, 0] rfl ?_
          exact k10393 (v10402, wr (s10390.2 + 1)) ⟨h10403, (IR_wr _)⟩

def f_X12_isHeight (a0 : Int) : Int :=
  f_X12_isIn a0 (-9) 99
set_option maxRecDepth 100000 in
set_option maxHeartbeats 4000000 in
theorem m_X12_isHeight {l : Launch} {E : EwT} {n : Nat} {R : Srf} {S : Sst} {O : Smo} {a0 : Int} (ha0 : IR a0) {q : Int} (hq : f_X12_isHeight a0 = q) : MetG l E yX12_isHeight cX12_isHeight 1 (some .boolean) 1 22 0 0 n R S O [.int (zi a0)] (BR q) (some (.int (zi q))) n R S O := by
  refine ofG (L0 := [(0, .int (zi a0))]) hq (by decide +kernel) (Nat.le_of_ble_eq_true rfl) rfl (fun K _ C hQ => ?_)
  unfold f_X12_isHeight
  refine r_iload_n (pc := 0) (j := 0) C dX12_isHeight_0 rfl rfl ?_
  refine r_bipush (v := (-9)) C dX12_isHeight_1 (by decide) ?_
  refine r_bipush (v := 99) C dX12_isHeight_3 (by decide) ?_
  refine r_cS1 (pc := 5) (As := [.int (zi a0), .int (zi (-9)), .int (zi 99)]) (st := []) C (m_X12_isIn (a0 := a0) (a1 := (-9)) (a2 := 99) ha0 (IRd rfl) (IRd rfl) rfl) cal_X12_isIn q_1981 dX12_isHeight_5 rfl rfl (Nat.le_of_ble_eq_true rfl) (Nat.le_of_ble_eq_true rfl) (Nat.le_of_ble_eq_true rfl) (Nat.le_of_ble_eq_true rfl) (Nat.le_of_ble_eq_true rfl) (fun h10460 => ?_)
  exact r_ireturn C hQ (nar_z h10460) dX12_isHeight_8 (fun e => by subst e; exact ⟨h10460, rfl, rfl, rfl, rfl, rfl⟩)

def f_X12_fits (a1 : Int) (a2 : Int) (O : Smo) : Option (Int × Smo) :=
  if f_X12_isHeight a1 = 0 then
    (some ((-1), O))
  else
    (Option.bind (f_X12_layFits a1 a2 O) fun (q10464 : Int × Smo) =>
    some (q10464.1, q10464.2))
set_option maxRecDepth 100000 in
set_option maxHeartbeats 4000000 in
theorem m_X12_fits {l : Launch} {E : EwT} {S : Sst} {O : Smo} {a1 : Int} (ha1 : IR a1) {a2 : Int} (ha2 : IR a2) {q : Int × Smo} (hq : f_X12_fits a1 a2 O = some q) : MetG l E yX12_fits cX12_fits 3 (some .int) 4 102 0 0 n0 R0 S O [.ref (zad E 262), .int (zi a1), .int (zi a2)] (IR q.1) (some (.int (zi q.1))) n0 R0 S q.2 := by
  refine ofG (L0 := [(0, .ref (zad E 262)), (1, .int (zi a1)), (2, .int (zi a2))]) hq (by decide +kernel) (Nat.le_of_ble_eq_true rfl) rfl (fun K _ C hQ => ?_)
  unfold f_X12_fits
  refine r_iload_n (pc := 0) (j := 1) C dX12_fits_0 rfl rfl ?_
  refine r_cS1 (pc := 1) (As := [.int (zi a1)]) (st := []) C (m_X12_isHeight (a0 := a1) ha1 rfl) cal_X12_isHeight q_2362 dX12_fits_1 rfl rfl (Nat.le_of_ble_eq_true rfl) (Nat.le_of_ble_eq_true rfl) (Nat.le_of_ble_eq_true rfl) (Nat.le_of_ble_eq_true rfl) (Nat.le_of_ble_eq_true rfl) (fun h10461 => ?_)
  refine r_if_eq (tgt := 16) C h10461.ir dX12_fits_4 (by decide) (fun c10462 => ?_) (fun c10462 => ?_)
  · refine r_t c10462 ?_
    refine r_iconst (v := (-1)) C dX12_fits_16 (by decide) ?_
    exact r_ireturn C hQ rfl dX12_fits_17 (fun e => by cases e; exact ⟨(IRd rfl), rfl, rfl, rfl, rfl, rfl⟩)
  · refine r_f c10462 ?_
    refine r_aload_n (pc := 7) (j := 0) C dX12_fits_7 rfl rfl ?_
    refine r_iload_n (pc := 8) (j := 1) C dX12_fits_8 rfl rfl ?_
    refine r_iload_n (pc := 9) (j := 2) C dX12_fits_9 rfl rfl ?_
    refine r_bd (fun q10464 e10465 => ?_)
    refine r_cV1 (pc := 10) (k := 262) (As := [.int (zi a1), .int (zi a2)]) (st := []) C (m_X12_layFits (a1 := a1) (a2 := a2) ha1 ha2 e10465) cal_X12_layFits cl_X12 kd_262 ln_262 q_2365 dX12_fits_10 rfl rfl (Nat.le_of_ble_eq_true rfl) (Nat.le_of_ble_eq_true rfl) (Nat.le_of_ble_eq_true rfl) (Nat.le_of_ble_eq_true rfl) (Nat.le_of_ble_eq_true rfl) (fun h10463 => ?_)
    refine r_goto (tgt := 17) C dX12_fits_13 (by decide) ?_
    exact r_ireturn C hQ rfl dX12_fits_17 (fun e => by cases e; exact ⟨h10463, rfl, rfl, rfl, rfl, rfl⟩)

def f_X12_sure (a1 : Int) (a2 : Int) (a3 : Int) (O : Smo) : Option (Int × Smo) :=
  jk (fun (q10500 : Smo) =>
    some ((-1), q10500)) fun k10502 =>
  if (f_X12_isHeight a1 = 0 ∨ f_X12_isIn a2 0 1 = 0) then
    (k10502 O)
  else
    (Option.bind (f_X12_layFits a1 a3 O) fun (q10508 : Int × Smo) =>
    if q10508.1 = 0 then
      (k10502 q10508.2)
    else
      (Option.bind (lp (fun (s10511 : Int × Int) =>
        if 60 < s10511.2 then
          (some (Sum.inr s10511.1))
        else
          (Option.bind (aget (q10508.2 303) (Ln 303) s10511.2) fun (v10518 : Int) =>
          jn (
            if v10518 = 0 then
              (s10511.1)
            else
              (if (s10511.1 < 0 ∨ a2 = 1) then
                (s10511.2)
              else
                (s10511.1))) fun (q10520 : Int) =>
          some (Sum.inl (q10520, wr (s10511.2 + 1))))) FU ((-1), 0)) fun (r10530 : Int) =>
      some (r10530, q10508.2)))
set_option maxRecDepth 100000 in
set_option maxHeartbeats 4000000 in
theorem m_X12_sure {l : Launch} {E : EwT} {S : Sst} {O : Smo} {a1 : Int} (ha1 : IR a1) {a2 : Int} (ha2 : IR a2) {a3 : Int} (ha3 : IR a3) {q : Int × Smo} (hq : f_X12_sure a1 a2 a3 O = some q) : MetG l E yX12_sure cX12_sure 6 (some .int) 4 102 0 0 n0 R0 S O [.ref (zad E 262), .int (zi a1), .int (zi a2), .int (zi a3)] (IR q.1) (some (.int (zi q.1))) n0 R0 S q.2 := by
  refine ofG (L0 := [(0, .ref (zad E 262)), (1, .int (zi a1)), (2, .int (zi a2)), (3, .int (zi a3))]) hq (by decide +kernel) (Nat.le_of_ble_eq_true rfl) rfl (fun K _ C hQ => ?_)
  unfold f_X12_sure
  refine r_iload_n (pc := 0) (j := 1) C dX12_sure_0 rfl rfl ?_
  refine r_cS1 (pc := 1) (As := [.int (zi a1)]) (st := []) C (m_X12_isHeight (a0 := a1) ha1 rfl) cal_X12_isHeight q_2362 dX12_sure_1 rfl rfl (Nat.le_of_ble_eq_true rfl) (Nat.le_of_ble_eq_true rfl) (Nat.le_of_ble_eq_true rfl) (Nat.le_of_ble_eq_true rfl) (Nat.le_of_ble_eq_true rfl) (fun h10498 => ?_)
  refine r_jk (fun q10500 : Smo => True) (fun q10500 => S) (fun q10500 => q10500) (fun q10500 => []) 25 (fun q10500 => []) (fun q10500 h10501 => ?_) (fun k10502 k10503 => ?_)
  · refine r_iconst (v := (-1)) C dX12_sure_25 (by decide) ?_
    exact r_ireturn C hQ rfl dX12_sure_26 (fun e => by cases e; exact ⟨(IRd rfl), rfl, rfl, rfl, rfl, rfl⟩)
  · refine r_cut (f_X12_isHeight a1 = 0 ∨ f_X12_isIn a2 0 1 = 0) 25 16 [] (fun c10504 => ?_) (fun c10504 => ?_) (fun k10505 k10506 => ?_)
    · refine r_t c10504 ?_
      refine r_L (L' := []) [] rfl ?_
      exact k10503 O trivial
    · refine r_f c10504 ?_
      refine r_aload_n (pc := 16) (j := 0) C dX12_sure_16 rfl rfl ?_
      refine r_iload_n (pc := 17) (j := 1) C dX12_sure_17 rfl rfl ?_
      refine r_iload_n (pc := 18) (j := 3) C dX12_sure_18 rfl rfl ?_
      refine r_bd (fun q10508 e10509 => ?_)
      refine r_cV1 (pc := 19) (k := 262) (As := [.int (zi a1), .int (zi a3)]) (st := []) C (m_X12_layFits (a1 := a1) (a2 := a3) ha1 ha3 e10509) cal_X12_layFits cl_X12 kd_262 ln_262 q_2365 dX12_sure_19 rfl rfl (Nat.le_of_ble_eq_true rfl) (Nat.le_of_ble_eq_true rfl) (Nat.le_of_ble_eq_true rfl) (Nat.le_of_ble_eq_true rfl) (Nat.le_of_ble_eq_true rfl) (fun h10507 => ?_)
      refine r_if_ne (tgt := 27) C h10507 dX12_sure_22 (by decide) (fun c10510 => ?_) (fun c10510 => ?_)
      · refine r_f c10510 ?_
        refine r_iconst (v := (-1)) C dX12_sure_27 (by decide) ?_
        refine r_istore (L' := [(4, .int (zi (-1))), (0, .ref (zad E 262)), (1, .int (zi a1)), (2, .int (zi a2)), (3, .int (zi a3))]) C dX12_sure_28 (by decide) rfl ?_
        refine r_iconst (v := 0) C dX12_sure_30 (by decide) ?_
        refine r_istore (L' := [(5, .int (zi 0)), (4, .int (zi (-1))), (0, .ref (zad E 262)), (1, .int (zi a1)), (2, .int (zi a2)), (3, .int (zi a3))]) C dX12_sure_31 (by decide) rfl ?_
        refine r_L (L' := [(0, .ref (zad E 262)), (2, .int (zi a2)), (4, .int (zi (-1))), (5, .int (zi 0))]) [2, 4, 1, 0] rfl ?_
        refine r_loop1 (fun s10511 : Int × Int => IR s10511.1 ∧ IR s10511.2) (fun s10511 => S) (fun s10511 => q10508.2) (fun s10511 => [(0, .ref (zad E 262)), (2, .int (zi a2)), (4, .int (zi s10511.1)), (5, .int (zi s10511.2))]) [] (fun r10530 : Int => IR r10530) (fun r10530 => S) (fun r10530 => q10508.2) (fun r10530 => [(4, .int (zi r10530))]) 70 (fun r10530 h10531 => ?_) (fun k10513 k10515 k10514 k10516 s10511 h10512 => ?_) ⟨(IRd rfl), (IRd rfl)⟩
        · refine r_iload (pc := 70) (j := 0) C dX12_sure_70 rfl ?_
          exact r_ireturn C hQ rfl dX12_sure_72 (fun e => by cases e; exact ⟨h10531, rfl, rfl, rfl, rfl, rfl⟩)
        · refine r_iload (pc := 33) (j := 3) C dX12_sure_33 rfl ?_
          refine r_bipush (v := 60) C dX12_sure_35 (by decide) ?_
          refine r_icmp_gt (tgt := 70) C h10512.2 (IRd rfl) dX12_sure_37 (by decide) (fun c10517 => ?_) (fun c10517 => ?_)
          · refine r_bt c10517 ?_
            refine r_L (L' := [(4, .int (zi s10511.1))]) [2] rfl ?_
            exact k10516 s10511.1 h10512.1
          · refine r_bf c10517 ?_
            refine r_aload_n (pc := 40) (j := 0) C dX12_sure_40 rfl rfl ?_
            refine r_getR (j := 76) (r := 303) C cl_X12 kd_262 ln_262 (by decide) rfl r0_262_76 (by decide) q_1629 dX12_sure_41 ?_
            refine r_iload (pc := 44) (j := 3) C dX12_sure_44 rfl ?_
            refine r_bb ?_
            refine r_zald C kd_303 ln_303 gc_303 h10512.2 dX12_sure_46 (fun v10518 h10519 => ?_)
            refine r_bj ?_
            refine r_join (fun q10520 : Int => IR q10520) (fun q10520 => S) (fun q10520 => q10508.2) (fun q10520 => [(0, .ref (zad E 262)), (2, .int (zi a2)), (4, .int (zi q10520)), (5, .int (zi s10511.2))]) 64 (fun q10520 => []) (fun q10520 h10521 => ?_) (fun k10522 k10523 => ?_)
            · refine r_iinc (j := 3) (L' := [(5, .int (zi (wr (s10511.2 + 1)))), (0, .ref (zad E 262)), (2, .int (zi a2)), (4, .int (zi q10520))]) C dX12_sure_64 rfl (by decide) rfl ?_
              refine r_goto (tgt := 33) C dX12_sure_67 (by decide) ?_
              refine r_L (L' := [(0, .ref (zad E 262)), (2, .int (zi a2)), (4, .int (zi q10520)), (5, .int (zi (wr (s10511.2 + 1))))]) [1, 2, 3, 0] rfl ?_
              exact k10514 (q10520, wr (s10511.2 + 1)) ⟨h10521, (IR_wr _)⟩
            · refine r_if_eq (tgt := 64) C h10519.ir dX12_sure_47 (by decide) (fun c10524 => ?_) (fun c10524 => ?_)
              · refine r_jt c10524 ?_
                exact k10523 s10511.1 h10512.1
              · refine r_jf c10524 ?_
                refine r_iload (pc := 50) (j := 2) C dX12_sure_50 rfl ?_
                refine r_cut (s10511.1 < 0 ∨ a2 = 1) 60 64 [] (fun c10525 => ?_) (fun c10525 => ?_) (fun k10526 k10527 => ?_)
                · refine r_jt c10525 ?_
                  refine r_iload (pc := 60) (j := 3) C dX12_sure_60 rfl ?_
                  refine r_istore (L' := [(4, .int (zi s10511.2)), (0, .ref (zad E 262)), (2, .int (zi a2)), (5, .int (zi s10511.2))]) C dX12_sure_62 (by decide) rfl ?_
                  refine r_L (L' := [(0, .ref (zad E 262)), (2, .int (zi a2)), (4, .int (zi s10511.2)), (5, .int (zi s10511.2))]) [1, 2, 0, 3] rfl ?_
                  exact k10523 s10511.2 h10512.2
                · refine r_jf c10525 ?_
                  exact k10523 s10511.1 h10512.1
                · refine r_if_lt (tgt := 60) C h10512.1 dX12_sure_52 (by decide) (fun c10528 => ?_) (fun c10528 => ?_)
                  · exact k10526 (Or.inl c10528)
                  · refine r_iload_n (pc := 55) (j := 1) C dX12_sure_55 rfl rfl ?_
                    refine r_iconst (v := 1) C dX12_sure_56 (by decide) ?_
                    refine r_icmp_ne (tgt := 64) C ha2 (IRd rfl) dX12_sure_57 (by decide) (fun c10529 => ?_) (fun c10529 => ?_)
                    · exact k10527 (fun w => w.elim c10528 c10529)
                    · exact k10526 (Or.inr c10529)
      · refine r_t c10510 ?_
        refine r_L (L' := []) [] rfl ?_
        exact k10503 q10508.2 trivial
    · refine r_if_eq (tgt := 25) C h10498.ir dX12_sure_4 (by decide) (fun c10532 => ?_) (fun c10532 => ?_)
      · exact k10505 (Or.inl c10532)
      · refine r_iload_n (pc := 7) (j := 2) C dX12_sure_7 rfl rfl ?_
        refine r_iconst (v := 0) C dX12_sure_8 (by decide) ?_
        refine r_iconst (v := 1) C dX12_sure_9 (by decide) ?_
        refine r_cS1 (pc := 10) (As := [.int (zi a2), .int (zi 0), .int (zi 1)]) (st := []) C (m_X12_isIn (a0 := a2) (a1 := 0) (a2 := 1) ha2 (IRd rfl) (IRd rfl) rfl) cal_X12_isIn q_1981 dX12_sure_10 rfl rfl (Nat.le_of_ble_eq_true rfl) (Nat.le_of_ble_eq_true rfl) (Nat.le_of_ble_eq_true rfl) (Nat.le_of_ble_eq_true rfl) (Nat.le_of_ble_eq_true rfl) (fun h10499 => ?_)
        refine r_if_eq (tgt := 25) C h10499.ir dX12_sure_13 (by decide) (fun c10533 => ?_) (fun c10533 => ?_)
        · exact k10505 (Or.inr c10533)
        · exact k10506 (fun w => w.elim c10532 c10533)

def f_X12_leftBy (a1 : Int) (a2 : Int) (O : Smo) : Option (Int) :=
  Option.bind (lp (fun (s10554 : Int × Int) =>
    if 60 < s10554.2 then
      (some (Sum.inr s10554.1))
    else
      (Option.bind (aget (O 303) (Ln 303) s10554.2) fun (v10561 : Int) =>
      Option.bind (
        if v10561 = 0 then
          (some 0)
        else
          (Option.bind (aget (O 302) (Ln 302) s10554.2) fun (v10568 : Int) =>
          if v10568 = a1 then
            (some 1)
          else
            (some 0))) fun (q10563 : Int) =>
      jn (wr (s10554.1 + (f_X12_truth q10563))) fun (v10572 : Int) =>
      some (Sum.inl (v10572, wr (s10554.2 + 1))))) FU (0, 0)) fun (r10574 : Int) =>
  some (f_X12_greater r10574 (wr (a2 - r10574)))
set_option maxRecDepth 100000 in
set_option maxHeartbeats 4000000 in
theorem m_X12_leftBy {l : Launch} {E : EwT} {S : Sst} {O : Smo} {a1 : Int} (ha1 : IR a1) {a2 : Int} (ha2 : IR a2) {q : Int} (hq : f_X12_leftBy a1 a2 O = some q) : MetG l E yX12_leftBy cX12_leftBy 5 (some .int) 1 21 0 0 n0 R0 S O [.ref (zad E 262), .int (zi a1), .int (zi a2)] (IR q) (some (.int (zi q))) n0 R0 S O := by
  refine ofG (L0 := [(0, .ref (zad E 262)), (1, .int (zi a1)), (2, .int (zi a2))]) hq (by decide +kernel) (Nat.le_of_ble_eq_true rfl) rfl (fun K _ C hQ => ?_)
  unfold f_X12_leftBy
  refine r_iconst (v := 0) C dX12_leftBy_0 (by decide) ?_
  refine r_istore_n (L' := [(3, .int (zi 0)), (0, .ref (zad E 262)), (1, .int (zi a1)), (2, .int (zi a2))]) C dX12_leftBy_1 rfl (by decide) rfl ?_
  refine r_iconst (v := 0) C dX12_leftBy_2 (by decide) ?_
  refine r_istore (L' := [(4, .int (zi 0)), (3, .int (zi 0)), (0, .ref (zad E 262)), (1, .int (zi a1)), (2, .int (zi a2))]) C dX12_leftBy_3 (by decide) rfl ?_
  refine r_L (L' := [(0, .ref (zad E 262)), (1, .int (zi a1)), (2, .int (zi a2)), (3, .int (zi 0)), (4, .int (zi 0))]) [2, 3, 4, 1, 0] rfl ?_
  refine r_loop1 (fun s10554 : Int × Int => IR s10554.1 ∧ IR s10554.2) (fun s10554 => S) (fun s10554 => O) (fun s10554 => [(0, .ref (zad E 262)), (1, .int (zi a1)), (2, .int (zi a2)), (3, .int (zi s10554.1)), (4, .int (zi s10554.2))]) [] (fun r10574 : Int => IR r10574) (fun r10574 => S) (fun r10574 => O) (fun r10574 => [(2, .int (zi a2)), (3, .int (zi r10574))]) 50 (fun r10574 h10575 => ?_) (fun k10556 k10558 k10557 k10559 s10554 h10555 => ?_) ⟨(IRd rfl), (IRd rfl)⟩
  · refine r_iload_n (pc := 50) (j := 1) C dX12_leftBy_50 rfl rfl ?_
    refine r_iload_n (pc := 51) (j := 0) C dX12_leftBy_51 rfl rfl ?_
    refine r_iload_n (pc := 52) (j := 1) C dX12_leftBy_52 rfl rfl ?_
    refine r_isub C dX12_leftBy_53 ?_
    refine r_cS1 (pc := 54) (As := [.int (zi r10574), .int (zi (wr (a2 - r10574)))]) (st := []) C (m_X12_greater (a0 := r10574) (a1 := wr (a2 - r10574)) h10575 (IR_wr _) rfl) cal_X12_greater q_1894 dX12_leftBy_54 rfl rfl (Nat.le_of_ble_eq_true rfl) (Nat.le_of_ble_eq_true rfl) (Nat.le_of_ble_eq_true rfl) (Nat.le_of_ble_eq_true rfl) (Nat.le_of_ble_eq_true rfl) (fun h10576 => ?_)
    exact r_ireturn C hQ rfl dX12_leftBy_57 (fun e => by cases e; exact ⟨h10576, rfl, rfl, rfl, rfl, rfl⟩)
  · refine r_iload (pc := 5) (j := 4) C dX12_leftBy_5 rfl ?_
    refine r_bipush (v := 60) C dX12_leftBy_7 (by decide) ?_
    refine r_icmp_gt (tgt := 50) C h10555.2 (IRd rfl) dX12_leftBy_9 (by decide) (fun c10560 => ?_) (fun c10560 => ?_)
    · refine r_bt c10560 ?_
      refine r_L (L' := [(2, .int (zi a2)), (3, .int (zi s10554.1))]) [2, 3] rfl ?_
      exact k10559 s10554.1 h10555.1
    · refine r_bf c10560 ?_
      refine r_iload_n (pc := 12) (j := 3) C dX12_leftBy_12 rfl rfl ?_
      refine r_aload_n (pc := 13) (j := 0) C dX12_leftBy_13 rfl rfl ?_
      refine r_getR (j := 76) (r := 303) C cl_X12 kd_262 ln_262 (by decide) rfl r0_262_76 (by decide) q_1629 dX12_leftBy_14 ?_
      refine r_iload (pc := 17) (j := 4) C dX12_leftBy_17 rfl ?_
      refine r_bb ?_
      refine r_zald C kd_303 ln_303 gc_303 h10555.2 dX12_leftBy_19 (fun v10561 h10562 => ?_)
      refine r_bb ?_
      refine r_joinb (fun q10563 : Int => BR q10563) (fun q10563 => S) (fun q10563 => O) (fun q10563 => [(0, .ref (zad E 262)), (1, .int (zi a1)), (2, .int (zi a2)), (4, .int (zi s10554.2))]) 39 (fun q10563 => [.int (zi q10563), .int (zi s10554.1)]) (fun q10563 h10564 => ?_) (fun k10565 k10566 => ?_)
      · refine r_cS1 (pc := 39) (As := [.int (zi q10563)]) (st := [.int (zi s10554.1)]) C (m_X12_truth (a0 := q10563) h10564 rfl) cal_X12_truth q_1959 dX12_leftBy_39 rfl rfl (Nat.le_of_ble_eq_true rfl) (Nat.le_of_ble_eq_true rfl) (Nat.le_of_ble_eq_true rfl) (Nat.le_of_ble_eq_true rfl) (Nat.le_of_ble_eq_true rfl) (fun h10571 => ?_)
        refine r_iadd C dX12_leftBy_42 ?_
        refine r_bj ?_
        refine r_jv (IR_wr _) (fun v10572 h10573 => ?_)
        refine r_istore_n (L' := [(3, .int (zi v10572)), (0, .ref (zad E 262)), (1, .int (zi a1)), (2, .int (zi a2)), (4, .int (zi s10554.2))]) C dX12_leftBy_43 rfl (by decide) rfl ?_
        refine r_iinc (j := 4) (L' := [(4, .int (zi (wr (s10554.2 + 1)))), (3, .int (zi v10572)), (0, .ref (zad E 262)), (1, .int (zi a1)), (2, .int (zi a2))]) C dX12_leftBy_44 rfl (by decide) rfl ?_
        refine r_goto (tgt := 5) C dX12_leftBy_47 (by decide) ?_
        refine r_L (L' := [(0, .ref (zad E 262)), (1, .int (zi a1)), (2, .int (zi a2)), (3, .int (zi v10572)), (4, .int (zi (wr (s10554.2 + 1))))]) [2, 3, 4, 1, 0] rfl ?_
        exact k10557 (v10572, wr (s10554.2 + 1)) ⟨h10573, (IR_wr _)⟩
      · refine r_if_eq (tgt := 38) C h10562.ir dX12_leftBy_20 (by decide) (fun c10567 => ?_) (fun c10567 => ?_)
        · refine r_bt c10567 ?_
          refine r_iconst (v := 0) C dX12_leftBy_38 (by decide) ?_
          refine r_L (L' := [(0, .ref (zad E 262)), (1, .int (zi a1)), (2, .int (zi a2)), (4, .int (zi s10554.2))]) [0, 1, 2, 4] rfl ?_
          exact k10566 0 (BRd rfl)
        · refine r_bf c10567 ?_
          refine r_aload_n (pc := 23) (j := 0) C dX12_leftBy_23 rfl rfl ?_
          refine r_getR (j := 75) (r := 302) C cl_X12 kd_262 ln_262 (by decide) rfl r0_262_75 (by decide) q_1628 dX12_leftBy_24 ?_
          refine r_iload (pc := 27) (j := 4) C dX12_leftBy_27 rfl ?_
          refine r_bb ?_
          refine r_iald C kd_302 ln_302 gc_302 h10555.2 dX12_leftBy_29 (fun v10568 h10569 => ?_)
          refine r_iload_n (pc := 30) (j := 1) C dX12_leftBy_30 rfl rfl ?_
          refine r_icmp_ne (tgt := 38) C h10569 ha1 dX12_leftBy_31 (by decide) (fun c10570 => ?_) (fun c10570 => ?_)
          · refine r_bf c10570 ?_
            refine r_iconst (v := 0) C dX12_leftBy_38 (by decide) ?_
            refine r_L (L' := [(0, .ref (zad E 262)), (1, .int (zi a1)), (2, .int (zi a2)), (4, .int (zi s10554.2))]) [0, 1, 2, 4] rfl ?_
            exact k10566 0 (BRd rfl)
          · refine r_bt c10570 ?_
            refine r_iconst (v := 1) C dX12_leftBy_34 (by decide) ?_
            refine r_goto (tgt := 39) C dX12_leftBy_35 (by decide) ?_
            refine r_L (L' := [(0, .ref (zad E 262)), (1, .int (zi a1)), (2, .int (zi a2)), (4, .int (zi s10554.2))]) [0, 1, 2, 4] rfl ?_
            exact k10566 1 (BRd rfl)

def f_X12_ask (a1 : Int) (a2 : Int) (a3 : Int) (O : Smo) : Option (Int × Smo) :=
  if ((f_X12_isHeight a1 = 0 ∨ f_X12_isIn a2 0 1 = 0) ∨ O 262 39 = 0) then
    (some ((-1), O))
  else
    (Option.bind (f_X12_layFits a1 a3 O) fun (q10642 : Int × Smo) =>
    if q10642.1 = 0 then
      (some ((-1), q10642.2))
    else
      (Option.bind (lp (fun (s10645 : Int × Int) =>
        if s10645.2 < q10642.2 262 39 then
          (Option.bind (f_X12_leftBy s10645.2 q10642.1 q10642.2) fun (q10654 : Int) =>
          Option.bind (f_X12_leftBy s10645.1 q10642.1 q10642.2) fun (q10657 : Int) =>
          jn (
            if q10654 < q10657 then
              (s10645.2)
            else
              (s10645.1)) fun (q10659 : Int) =>
          some (Sum.inl (q10659, wr (s10645.2 + 1))))
        else
          (some (Sum.inr s10645.1))) FU (0, 1)) fun (r10664 : Int) =>
      if a2 = 0 then
        (some (r10664, q10642.2))
      else
        (Option.bind (f_X12_leftBy r10664 q10642.1 q10642.2) fun (q10668 : Int) =>
        some (q10668, q10642.2))))
set_option maxRecDepth 100000 in
set_option maxHeartbeats 4000000 in
theorem m_X12_ask {l : Launch} {E : EwT} {S : Sst} {O : Smo} {a1 : Int} (ha1 : IR a1) {a2 : Int} (ha2 : IR a2) {a3 : Int} (ha3 : IR a3) {q : Int × Smo} (hq : f_X12_ask a1 a2 a3 O = some q) : MetG l E yX12_ask cX12_ask 7 (some .int) 4 102 0 0 n0 R0 S O [.ref (zad E 262), .int (zi a1), .int (zi a2), .int (zi a3)] (IR q.1) (some (.int (zi q.1))) n0 R0 S q.2 := by
  refine ofG (L0 := [(0, .ref (zad E 262)), (1, .int (zi a1)), (2, .int (zi a2)), (3, .int (zi a3))]) hq (by decide +kernel) (Nat.le_of_ble_eq_true rfl) rfl (fun K _ C hQ => ?_)
  unfold f_X12_ask
  refine r_iload_n (pc := 0) (j := 1) C dX12_ask_0 rfl rfl ?_
  refine r_cS1 (pc := 1) (As := [.int (zi a1)]) (st := []) C (m_X12_isHeight (a0 := a1) ha1 rfl) cal_X12_isHeight q_2362 dX12_ask_1 rfl rfl (Nat.le_of_ble_eq_true rfl) (Nat.le_of_ble_eq_true rfl) (Nat.le_of_ble_eq_true rfl) (Nat.le_of_ble_eq_true rfl) (Nat.le_of_ble_eq_true rfl) (fun h10635 => ?_)
  refine r_cut ((f_X12_isHeight a1 = 0 ∨ f_X12_isIn a2 0 1 = 0) ∨ O 262 39 = 0) 23 25 [] (fun c10638 => ?_) (fun c10638 => ?_) (fun k10639 k10640 => ?_)
  · refine r_t c10638 ?_
    refine r_iconst (v := (-1)) C dX12_ask_23 (by decide) ?_
    exact r_ireturn C hQ rfl dX12_ask_24 (fun e => by cases e; exact ⟨(IRd rfl), rfl, rfl, rfl, rfl, rfl⟩)
  · refine r_f c10638 ?_
    refine r_aload_n (pc := 25) (j := 0) C dX12_ask_25 rfl rfl ?_
    refine r_iload_n (pc := 26) (j := 1) C dX12_ask_26 rfl rfl ?_
    refine r_iload_n (pc := 27) (j := 3) C dX12_ask_27 rfl rfl ?_
    refine r_bd (fun q10642 e10643 => ?_)
    refine r_cV1 (pc := 28) (k := 262) (As := [.int (zi a1), .int (zi a3)]) (st := []) C (m_X12_layFits (a1 := a1) (a2 := a3) ha1 ha3 e10643) cal_X12_layFits cl_X12 kd_262 ln_262 q_2365 dX12_ask_28 rfl rfl (Nat.le_of_ble_eq_true rfl) (Nat.le_of_ble_eq_true rfl) (Nat.le_of_ble_eq_true rfl) (Nat.le_of_ble_eq_true rfl) (Nat.le_of_ble_eq_true rfl) (fun h10641 => ?_)
    refine r_istore (L' := [(4, .int (zi q10642.1)), (0, .ref (zad E 262)), (1, .int (zi a1)), (2, .int (zi a2)), (3, .int (zi a3))]) C dX12_ask_31 (by decide) rfl ?_
    refine r_iload (pc := 33) (j := 0) C dX12_ask_33 rfl ?_
    refine r_if_ne (tgt := 40) C h10641 dX12_ask_35 (by decide) (fun c10644 => ?_) (fun c10644 => ?_)
    · refine r_f c10644 ?_
      refine r_iconst (v := 0) C dX12_ask_40 (by decide) ?_
      refine r_istore (L' := [(5, .int (zi 0)), (4, .int (zi q10642.1)), (0, .ref (zad E 262)), (1, .int (zi a1)), (2, .int (zi a2)), (3, .int (zi a3))]) C dX12_ask_41 (by decide) rfl ?_
      refine r_iconst (v := 1) C dX12_ask_43 (by decide) ?_
      refine r_istore (L' := [(6, .int (zi 1)), (5, .int (zi 0)), (4, .int (zi q10642.1)), (0, .ref (zad E 262)), (1, .int (zi a1)), (2, .int (zi a2)), (3, .int (zi a3))]) C dX12_ask_44 (by decide) rfl ?_
      refine r_L (L' := [(0, .ref (zad E 262)), (2, .int (zi a2)), (4, .int (zi q10642.1)), (5, .int (zi 0)), (6, .int (zi 1))]) [3, 5, 2, 1, 0] rfl ?_
      refine r_loop1 (fun s10645 : Int × Int => IR s10645.1 ∧ IR s10645.2) (fun s10645 => S) (fun s10645 => q10642.2) (fun s10645 => [(0, .ref (zad E 262)), (2, .int (zi a2)), (4, .int (zi q10642.1)), (5, .int (zi s10645.1)), (6, .int (zi s10645.2))]) [] (fun r10664 : Int => IR r10664) (fun r10664 => S) (fun r10664 => q10642.2) (fun r10664 => [(0, .ref (zad E 262)), (2, .int (zi a2)), (4, .int (zi q10642.1)), (5, .int (zi r10664))]) 89 (fun r10664 h10665 => ?_) (fun k10647 k10649 k10648 k10650 s10645 h10646 => ?_) ⟨(IRd rfl), (IRd rfl)⟩
      · refine r_iload_n (pc := 89) (j := 1) C dX12_ask_89 rfl rfl ?_
        refine r_if_ne (tgt := 98) C ha2 dX12_ask_90 (by decide) (fun c10666 => ?_) (fun c10666 => ?_)
        · refine r_f c10666 ?_
          refine r_aload_n (pc := 98) (j := 0) C dX12_ask_98 rfl rfl ?_
          refine r_iload (pc := 99) (j := 3) C dX12_ask_99 rfl ?_
          refine r_iload (pc := 101) (j := 2) C dX12_ask_101 rfl ?_
          refine r_bd (fun q10668 e10669 => ?_)
          refine r_cV1 (pc := 103) (k := 262) (As := [.int (zi r10664), .int (zi q10642.1)]) (st := []) C (m_X12_leftBy (a1 := r10664) (a2 := q10642.1) h10665 h10641 e10669) cal_X12_leftBy cl_X12 kd_262 ln_262 q_2377 dX12_ask_103 rfl rfl (Nat.le_of_ble_eq_true rfl) (Nat.le_of_ble_eq_true rfl) (Nat.le_of_ble_eq_true rfl) (Nat.le_of_ble_eq_true rfl) (Nat.le_of_ble_eq_true rfl) (fun h10667 => ?_)
          exact r_ireturn C hQ rfl dX12_ask_106 (fun e => by cases e; exact ⟨h10667, rfl, rfl, rfl, rfl, rfl⟩)
        · refine r_t c10666 ?_
          refine r_iload (pc := 93) (j := 3) C dX12_ask_93 rfl ?_
          refine r_goto (tgt := 106) C dX12_ask_95 (by decide) ?_
          exact r_ireturn C hQ rfl dX12_ask_106 (fun e => by cases e; exact ⟨h10665, rfl, rfl, rfl, rfl, rfl⟩)
      · refine r_iload (pc := 46) (j := 4) C dX12_ask_46 rfl ?_
        refine r_aload_n (pc := 48) (j := 0) C dX12_ask_48 rfl rfl ?_
        refine r_getO (j := 39) C cl_X12 kd_262 ln_262 gc_262 (by decide) (by decide) rfl q_1592 dX12_ask_49 (fun h10651 => ?_)
        refine r_icmp_ge (tgt := 89) C h10646.2 h10651 dX12_ask_52 (by decide) (fun c10652 => ?_) (fun c10652 => ?_)
        · refine r_bf c10652 ?_
          refine r_L (L' := [(0, .ref (zad E 262)), (2, .int (zi a2)), (4, .int (zi q10642.1)), (5, .int (zi s10645.1))]) [0, 1, 2, 3] rfl ?_
          exact k10650 s10645.1 h10646.1
        · refine r_bt c10652 ?_
          refine r_aload_n (pc := 55) (j := 0) C dX12_ask_55 rfl rfl ?_
          refine r_iload (pc := 56) (j := 4) C dX12_ask_56 rfl ?_
          refine r_iload (pc := 58) (j := 2) C dX12_ask_58 rfl ?_
          refine r_bb ?_
          refine r_bd (fun q10654 e10655 => ?_)
          refine r_cV1 (pc := 60) (k := 262) (As := [.int (zi s10645.2), .int (zi q10642.1)]) (st := []) C (m_X12_leftBy (a1 := s10645.2) (a2 := q10642.1) h10646.2 h10641 e10655) cal_X12_leftBy cl_X12 kd_262 ln_262 q_2377 dX12_ask_60 rfl rfl (Nat.le_of_ble_eq_true rfl) (Nat.le_of_ble_eq_true rfl) (Nat.le_of_ble_eq_true rfl) (Nat.le_of_ble_eq_true rfl) (Nat.le_of_ble_eq_true rfl) (fun h10653 => ?_)
          refine r_aload_n (pc := 63) (j := 0) C dX12_ask_63 rfl rfl ?_
          refine r_iload (pc := 64) (j := 3) C dX12_ask_64 rfl ?_
          refine r_iload (pc := 66) (j := 2) C dX12_ask_66 rfl ?_
          refine r_bb ?_
          refine r_bd (fun q10657 e10658 => ?_)
          refine r_cV1 (pc := 68) (k := 262) (As := [.int (zi s10645.1), .int (zi q10642.1)]) (st := [.int (zi q10654)]) C (m_X12_leftBy (a1 := s10645.1) (a2 := q10642.1) h10646.1 h10641 e10658) cal_X12_leftBy cl_X12 kd_262 ln_262 q_2377 dX12_ask_68 rfl rfl (Nat.le_of_ble_eq_true rfl) (Nat.le_of_ble_eq_true rfl) (Nat.le_of_ble_eq_true rfl) (Nat.le_of_ble_eq_true rfl) (Nat.le_of_ble_eq_true rfl) (fun h10656 => ?_)
          refine r_bj ?_
          refine r_join (fun q10659 : Int => IR q10659) (fun q10659 => S) (fun q10659 => q10642.2) (fun q10659 => [(0, .ref (zad E 262)), (2, .int (zi a2)), (4, .int (zi q10642.1)), (6, .int (zi s10645.2))]) 81 (fun q10659 => [.int (zi q10659)]) (fun q10659 h10660 => ?_) (fun k10661 k10662 => ?_)
          · refine r_istore (L' := [(5, .int (zi q10659)), (0, .ref (zad E 262)), (2, .int (zi a2)), (4, .int (zi q10642.1)), (6, .int (zi s10645.2))]) C dX12_ask_81 (by decide) rfl ?_
            refine r_iinc (j := 4) (L' := [(6, .int (zi (wr (s10645.2 + 1)))), (5, .int (zi q10659)), (0, .ref (zad E 262)), (2, .int (zi a2)), (4, .int (zi q10642.1))]) C dX12_ask_83 rfl (by decide) rfl ?_
            refine r_goto (tgt := 46) C dX12_ask_86 (by decide) ?_
            refine r_L (L' := [(0, .ref (zad E 262)), (2, .int (zi a2)), (4, .int (zi q10642.1)), (5, .int (zi q10659)), (6, .int (zi (wr (s10645.2 + 1))))]) [2, 3, 4, 1, 0] rfl ?_
            exact k10648 (q10659, wr (s10645.2 + 1)) ⟨h10660, (IR_wr _)⟩
          · refine r_icmp_ge (tgt := 79) C h10653 h10656 dX12_ask_71 (by decide) (fun c10663 => ?_) (fun c10663 => ?_)
            · refine r_jf c10663 ?_
              refine r_iload (pc := 79) (j := 3) C dX12_ask_79 rfl ?_
              refine r_L (L' := [(0, .ref (zad E 262)), (2, .int (zi a2)), (4, .int (zi q10642.1)), (6, .int (zi s10645.2))]) [0, 1, 2, 4] rfl ?_
              exact k10662 s10645.1 h10646.1
            · refine r_jt c10663 ?_
              refine r_iload (pc := 74) (j := 4) C dX12_ask_74 rfl ?_
              refine r_goto (tgt := 81) C dX12_ask_76 (by decide) ?_
              refine r_L (L' := [(0, .ref (zad E 262)), (2, .int (zi a2)), (4, .int (zi q10642.1)), (6, .int (zi s10645.2))]) [0, 1, 2, 4] rfl ?_
              exact k10662 s10645.2 h10646.2
    · refine r_t c10644 ?_
      refine r_iconst (v := (-1)) C dX12_ask_38 (by decide) ?_
      exact r_ireturn C hQ rfl dX12_ask_39 (fun e => by cases e; exact ⟨(IRd rfl), rfl, rfl, rfl, rfl, rfl⟩)
  · refine r_if_eq (tgt := 23) C h10635.ir dX12_ask_4 (by decide) (fun c10670 => ?_) (fun c10670 => ?_)
    · exact k10639 (Or.inl (Or.inl c10670))
    · refine r_iload_n (pc := 7) (j := 2) C dX12_ask_7 rfl rfl ?_
      refine r_iconst (v := 0) C dX12_ask_8 (by decide) ?_
      refine r_iconst (v := 1) C dX12_ask_9 (by decide) ?_
      refine r_cS1 (pc := 10) (As := [.int (zi a2), .int (zi 0), .int (zi 1)]) (st := []) C (m_X12_isIn (a0 := a2) (a1 := 0) (a2 := 1) ha2 (IRd rfl) (IRd rfl) rfl) cal_X12_isIn q_1981 dX12_ask_10 rfl rfl (Nat.le_of_ble_eq_true rfl) (Nat.le_of_ble_eq_true rfl) (Nat.le_of_ble_eq_true rfl) (Nat.le_of_ble_eq_true rfl) (Nat.le_of_ble_eq_true rfl) (fun h10636 => ?_)
      refine r_if_eq (tgt := 23) C h10636.ir dX12_ask_13 (by decide) (fun c10671 => ?_) (fun c10671 => ?_)
      · exact k10639 (Or.inl (Or.inr c10671))
      · refine r_aload_n (pc := 16) (j := 0) C dX12_ask_16 rfl rfl ?_
        refine r_getO (j := 39) C cl_X12 kd_262 ln_262 gc_262 (by decide) (by decide) rfl q_1592 dX12_ask_17 (fun h10637 => ?_)
        refine r_if_ne (tgt := 25) C h10637 dX12_ask_20 (by decide) (fun c10672 => ?_) (fun c10672 => ?_)
        · exact k10640 (fun w => w.elim (fun w => w.elim c10670 c10671) c10672)
        · exact k10639 (Or.inr c10672)

def f_X12_isBox (a0 : Int) : Int :=
  if (a0 < 0 ∨ ¬ a0 < 3) then
    (0)
  else
    (1)
set_option maxRecDepth 100000 in
set_option maxHeartbeats 4000000 in
theorem m_X12_isBox {l : Launch} {E : EwT} {n : Nat} {R : Srf} {S : Sst} {O : Smo} {a0 : Int} (ha0 : IR a0) {q : Int} (hq : f_X12_isBox a0 = q) : MetG l E yX12_isBox cX12_isBox 1 (some .boolean) 0 0 0 0 n R S O [.int (zi a0)] (BR q) (some (.int (zi q))) n R S O := by
  refine ofG (L0 := [(0, .int (zi a0))]) hq (by decide +kernel) (Nat.le_of_ble_eq_true rfl) rfl (fun K _ C hQ => ?_)
  unfold f_X12_isBox
  refine r_iload_n (pc := 0) (j := 0) C dX12_isBox_0 rfl rfl ?_
  refine r_cut (a0 < 0 ∨ ¬ a0 < 3) 13 9 [] (fun c10673 => ?_) (fun c10673 => ?_) (fun k10674 k10675 => ?_)
  · refine r_t c10673 ?_
    refine r_iconst (v := 0) C dX12_isBox_13 (by decide) ?_
    exact r_ireturn C hQ (nar_z (BRd rfl)) dX12_isBox_14 (fun e => by subst e; exact ⟨(BRd rfl), rfl, rfl, rfl, rfl, rfl⟩)
  · refine r_f c10673 ?_
    refine r_iconst (v := 1) C dX12_isBox_9 (by decide) ?_
    refine r_goto (tgt := 14) C dX12_isBox_10 (by decide) ?_
    exact r_ireturn C hQ (nar_z (BRd rfl)) dX12_isBox_14 (fun e => by subst e; exact ⟨(BRd rfl), rfl, rfl, rfl, rfl, rfl⟩)
  · refine r_if_lt (tgt := 13) C ha0 dX12_isBox_1 (by decide) (fun c10676 => ?_) (fun c10676 => ?_)
    · exact k10674 (Or.inl c10676)
    · refine r_iload_n (pc := 4) (j := 0) C dX12_isBox_4 rfl rfl ?_
      refine r_iconst (v := 3) C dX12_isBox_5 (by decide) ?_
      refine r_icmp_ge (tgt := 13) C ha0 (IRd rfl) dX12_isBox_6 (by decide) (fun c10677 => ?_) (fun c10677 => ?_)
      · exact k10674 (Or.inr c10677)
      · exact k10675 (fun w => w.elim c10676 (fun x => x c10677))

def f_X12_image (a1 : Int) (O : Smo) : Option (Int × Smo) :=
  if f_X12_isBox a1 = 0 then
    (some ((-1), O))
  else
    (Option.bind (asetO O 304 (Ln 304) a1 1) fun (O10727 : Smo) =>
    Option.bind (asetO O10727 306 (Ln 306) a1 (O10727 262 47)) fun (O10729 : Smo) =>
    Option.bind (lp (fun (s10730 : Int × Smo) =>
      if s10730.1 < 7565 then
        (Option.bind (aget (s10730.2 282) (Ln 282) s10730.1) fun (v10737 : Int) =>
        Option.bind (asetO s10730.2 305 (Ln 305) (wr ((wr (7565 * a1)) + s10730.1)) v10737) fun (O10739 : Smo) =>
        some (Sum.inl (wr (s10730.1 + 1), O10739)))
      else
        (some (Sum.inr s10730.2))) FU (0, O10729)) fun (r10740 : Smo) =>
    Option.bind (lp (fun (s10742 : Int × Smo) =>
      Option.bind (f_X12_nodeMany s10742.2) fun (q10749 : Int) =>
      if s10742.1 < q10749 then
        (Option.bind (f_X12_usedUpTo s10742.1 (s10742.2 262 47) s10742.2) fun (q10754 : Int) =>
        Option.bind (asetO s10742.2 305 (Ln 305) (wr ((wr ((wr (7565 * a1)) + 1485)) + s10742.1)) q10754) fun (O10756 : Smo) =>
        some (Sum.inl (wr (s10742.1 + 1), O10756)))
      else
        (some (Sum.inr s10742.2))) FU (0, r10740)) fun (r10757 : Smo) =>
    some (r10757 262 47, r10757))
set_option maxRecDepth 100000 in
set_option maxHeartbeats 4000000 in
theorem m_X12_image {l : Launch} {E : EwT} {S : Sst} {O : Smo} {a1 : Int} (ha1 : IR a1) {q : Int × Smo} (hq : f_X12_image a1 O = some q) : MetG l E yX12_image cX12_image 3 (some .int) 2 44 0 0 n0 R0 S O [.ref (zad E 262), .int (zi a1)] (IR q.1) (some (.int (zi q.1))) n0 R0 S q.2 := by
  refine ofG (L0 := [(0, .ref (zad E 262)), (1, .int (zi a1))]) hq (by decide +kernel) (Nat.le_of_ble_eq_true rfl) rfl (fun K _ C hQ => ?_)
  unfold f_X12_image
  refine r_iload_n (pc := 0) (j := 1) C dX12_image_0 rfl rfl ?_
  refine r_cS1 (pc := 1) (As := [.int (zi a1)]) (st := []) C (m_X12_isBox (a0 := a1) ha1 rfl) cal_X12_isBox q_2385 dX12_image_1 rfl rfl (Nat.le_of_ble_eq_true rfl) (Nat.le_of_ble_eq_true rfl) (Nat.le_of_ble_eq_true rfl) (Nat.le_of_ble_eq_true rfl) (Nat.le_of_ble_eq_true rfl) (fun h10725 => ?_)
  refine r_if_ne (tgt := 9) C h10725.ir dX12_image_4 (by decide) (fun c10726 => ?_) (fun c10726 => ?_)
  · refine r_f c10726 ?_
    refine r_aload_n (pc := 9) (j := 0) C dX12_image_9 rfl rfl ?_
    refine r_getR (j := 77) (r := 304) C cl_X12 kd_262 ln_262 (by decide) rfl r0_262_77 (by decide) q_1630 dX12_image_10 ?_
    refine r_iload_n (pc := 13) (j := 1) C dX12_image_13 rfl rfl ?_
    refine r_iconst (v := 1) C dX12_image_14 (by decide) ?_
    refine r_zast C kd_304 ln_304 gc_304 ha1 (BRd rfl) dX12_image_15 (fun O10727 => ?_)
    refine r_aload_n (pc := 16) (j := 0) C dX12_image_16 rfl rfl ?_
    refine r_getR (j := 79) (r := 306) C cl_X12 kd_262 ln_262 (by decide) rfl r0_262_79 (by decide) q_1632 dX12_image_17 ?_
    refine r_iload_n (pc := 20) (j := 1) C dX12_image_20 rfl rfl ?_
    refine r_aload_n (pc := 21) (j := 0) C dX12_image_21 rfl rfl ?_
    refine r_getO (j := 47) C cl_X12 kd_262 ln_262 gc_262 (by decide) (by decide) rfl q_1600 dX12_image_22 (fun h10728 => ?_)
    refine r_iast C kd_306 ln_306 gc_306 ha1 h10728 dX12_image_25 (fun O10729 => ?_)
    refine r_iconst (v := 0) C dX12_image_26 (by decide) ?_
    refine r_istore_n (L' := [(2, .int (zi 0)), (0, .ref (zad E 262)), (1, .int (zi a1))]) C dX12_image_27 rfl (by decide) rfl ?_
    refine r_L (L' := [(0, .ref (zad E 262)), (1, .int (zi a1)), (2, .int (zi 0))]) [1, 2, 0] rfl ?_
    refine r_loop1 (fun s10730 : Int × Smo => IR s10730.1) (fun s10730 => S) (fun s10730 => s10730.2) (fun s10730 => [(0, .ref (zad E 262)), (1, .int (zi a1)), (2, .int (zi s10730.1))]) [] (fun r10740 : Smo => True) (fun r10740 => S) (fun r10740 => r10740) (fun r10740 => [(0, .ref (zad E 262)), (1, .int (zi a1))]) 59 (fun r10740 h10741 => ?_) (fun k10732 k10734 k10733 k10735 s10730 h10731 => ?_) (IRd rfl)
    · refine r_iconst (v := 0) C dX12_image_59 (by decide) ?_
      refine r_istore_n (L' := [(2, .int (zi 0)), (0, .ref (zad E 262)), (1, .int (zi a1))]) C dX12_image_60 rfl (by decide) rfl ?_
      refine r_L (L' := [(0, .ref (zad E 262)), (1, .int (zi a1)), (2, .int (zi 0))]) [1, 2, 0] rfl ?_
      refine r_loop1 (fun s10742 : Int × Smo => IR s10742.1) (fun s10742 => S) (fun s10742 => s10742.2) (fun s10742 => [(0, .ref (zad E 262)), (1, .int (zi a1)), (2, .int (zi s10742.1))]) [] (fun r10757 : Smo => True) (fun r10757 => S) (fun r10757 => r10757) (fun r10757 => [(0, .ref (zad E 262))]) 100 (fun r10757 h10758 => ?_) (fun k10744 k10746 k10745 k10747 s10742 h10743 => ?_) (IRd rfl)
      · refine r_aload_n (pc := 100) (j := 0) C dX12_image_100 rfl rfl ?_
        refine r_getO (j := 47) C cl_X12 kd_262 ln_262 gc_262 (by decide) (by decide) rfl q_1600 dX12_image_101 (fun h10759 => ?_)
        exact r_ireturn C hQ rfl dX12_image_104 (fun e => by cases e; exact ⟨h10759, rfl, rfl, rfl, rfl, rfl⟩)
      · refine r_iload_n (pc := 61) (j := 2) C dX12_image_61 rfl rfl ?_
        refine r_aload_n (pc := 62) (j := 0) C dX12_image_62 rfl rfl ?_
        refine r_bb ?_
        refine r_bd (fun q10749 e10750 => ?_)
        refine r_cV1 (pc := 63) (k := 262) (As := []) (st := [.int (zi s10742.1)]) C (m_X12_nodeMany  e10750) cal_X12_nodeMany cl_X12 kd_262 ln_262 q_2020 dX12_image_63 rfl rfl (Nat.le_of_ble_eq_true rfl) (Nat.le_of_ble_eq_true rfl) (Nat.le_of_ble_eq_true rfl) (Nat.le_of_ble_eq_true rfl) (Nat.le_of_ble_eq_true rfl) (fun h10748 => ?_)
        refine r_icmp_ge (tgt := 100) C h10743 h10748 dX12_image_66 (by decide) (fun c10751 => ?_) (fun c10751 => ?_)
        · refine r_bf c10751 ?_
          refine r_L (L' := [(0, .ref (zad E 262))]) [0] rfl ?_
          exact k10747 s10742.2 trivial
        · refine r_bt c10751 ?_
          refine r_aload_n (pc := 69) (j := 0) C dX12_image_69 rfl rfl ?_
          refine r_getR (j := 78) (r := 305) C cl_X12 kd_262 ln_262 (by decide) rfl r0_262_78 (by decide) q_1631 dX12_image_70 ?_
          refine r_sipush (v := 7565) C dX12_image_73 (by decide) ?_
          refine r_iload_n (pc := 76) (j := 1) C dX12_image_76 rfl rfl ?_
          refine r_imul C dX12_image_77 ?_
          refine r_sipush (v := 1485) C dX12_image_78 (by decide) ?_
          refine r_iadd C dX12_image_81 ?_
          refine r_iload_n (pc := 82) (j := 2) C dX12_image_82 rfl rfl ?_
          refine r_iadd C dX12_image_83 ?_
          refine r_aload_n (pc := 84) (j := 0) C dX12_image_84 rfl rfl ?_
          refine r_iload_n (pc := 85) (j := 2) C dX12_image_85 rfl rfl ?_
          refine r_aload_n (pc := 86) (j := 0) C dX12_image_86 rfl rfl ?_
          refine r_getO (j := 47) C cl_X12 kd_262 ln_262 gc_262 (by decide) (by decide) rfl q_1600 dX12_image_87 (fun h10752 => ?_)
          refine r_bb ?_
          refine r_bd (fun q10754 e10755 => ?_)
          refine r_cV1 (pc := 90) (k := 262) (As := [.int (zi s10742.1), .int (zi (s10742.2 262 47))]) (st := [.int (zi (wr ((wr ((wr (7565 * a1)) + 1485)) + s10742.1))), .ref (zad E 305)]) C (m_X12_usedUpTo (a1 := s10742.1) (a2 := s10742.2 262 47) h10743 h10752 e10755) cal_X12_usedUpTo cl_X12 kd_262 ln_262 q_2024 dX12_image_90 rfl rfl (Nat.le_of_ble_eq_true rfl) (Nat.le_of_ble_eq_true rfl) (Nat.le_of_ble_eq_true rfl) (Nat.le_of_ble_eq_true rfl) (Nat.le_of_ble_eq_true rfl) (fun h10753 => ?_)
          refine r_bb ?_
          refine r_iast C kd_305 ln_305 gc_305 (IR_wr _) h10753 dX12_image_93 (fun O10756 => ?_)
          refine r_iinc (j := 2) (L' := [(2, .int (zi (wr (s10742.1 + 1)))), (0, .ref (zad E 262)), (1, .int (zi a1))]) C dX12_image_94 rfl (by decide) rfl ?_
          refine r_goto (tgt := 61) C dX12_image_97 (by decide) ?_
          refine r_L (L' := [(0, .ref (zad E 262)), (1, .int (zi a1)), (2, .int (zi (wr (s10742.1 + 1))))]) [1, 2, 0] rfl ?_
          exact k10745 (wr (s10742.1 + 1), O10756) (IR_wr _)
    · refine r_iload_n (pc := 28) (j := 2) C dX12_image_28 rfl rfl ?_
      refine r_sipush (v := 7565) C dX12_image_29 (by decide) ?_
      refine r_icmp_ge (tgt := 59) C h10731 (IRd rfl) dX12_image_32 (by decide) (fun c10736 => ?_) (fun c10736 => ?_)
      · refine r_bf c10736 ?_
        refine r_L (L' := [(0, .ref (zad E 262)), (1, .int (zi a1))]) [0, 1] rfl ?_
        exact k10735 s10730.2 trivial
      · refine r_bt c10736 ?_
        refine r_aload_n (pc := 35) (j := 0) C dX12_image_35 rfl rfl ?_
        refine r_getR (j := 78) (r := 305) C cl_X12 kd_262 ln_262 (by decide) rfl r0_262_78 (by decide) q_1631 dX12_image_36 ?_
        refine r_sipush (v := 7565) C dX12_image_39 (by decide) ?_
        refine r_iload_n (pc := 42) (j := 1) C dX12_image_42 rfl rfl ?_
        refine r_imul C dX12_image_43 ?_
        refine r_iload_n (pc := 44) (j := 2) C dX12_image_44 rfl rfl ?_
        refine r_iadd C dX12_image_45 ?_
        refine r_aload_n (pc := 46) (j := 0) C dX12_image_46 rfl rfl ?_
        refine r_getR (j := 46) (r := 282) C cl_X12 kd_262 ln_262 (by decide) rfl r0_262_46 (by decide) q_1599 dX12_image_47 ?_
        refine r_iload_n (pc := 50) (j := 2) C dX12_image_50 rfl rfl ?_
        refine r_bb ?_
        refine r_iald C kd_282 ln_282 gc_282 h10731 dX12_image_51 (fun v10737 h10738 => ?_)
        refine r_bb ?_
        refine r_iast C kd_305 ln_305 gc_305 (IR_wr _) h10738 dX12_image_52 (fun O10739 => ?_)
        refine r_iinc (j := 2) (L' := [(2, .int (zi (wr (s10730.1 + 1)))), (0, .ref (zad E 262)), (1, .int (zi a1))]) C dX12_image_53 rfl (by decide) rfl ?_
        refine r_goto (tgt := 28) C dX12_image_56 (by decide) ?_
        refine r_L (L' := [(0, .ref (zad E 262)), (1, .int (zi a1)), (2, .int (zi (wr (s10730.1 + 1))))]) [1, 2, 0] rfl ?_
        exact k10733 (wr (s10730.1 + 1), O10739) (IR_wr _)
  · refine r_t c10726 ?_
    refine r_iconst (v := (-1)) C dX12_image_7 (by decide) ?_
    exact r_ireturn C hQ rfl dX12_image_8 (fun e => by cases e; exact ⟨(IRd rfl), rfl, rfl, rfl, rfl, rfl⟩)

def f_X12_back (a1 : Int) (O : Smo) : Option (Int × Smo) :=
  jk (fun (q10780 : Smo) =>
    some ((-1), q10780)) fun k10782 =>
  if f_X12_isBox a1 = 0 then
    (k10782 O)
  else
    (Option.bind (aget (O 304) (Ln 304) a1) fun (v10785 : Int) =>
    if v10785 = 0 then
      (k10782 O)
    else
      (Option.bind (lp (fun (s10788 : Int × Smo) =>
        if s10788.1 < 7565 then
          (Option.bind (aget (s10788.2 305) (Ln 305) (wr ((wr (7565 * a1)) + s10788.1))) fun (v10795 : Int) =>
          Option.bind (asetO s10788.2 282 (Ln 282) s10788.1 v10795) fun (O10797 : Smo) =>
          some (Sum.inl (wr (s10788.1 + 1), O10797)))
        else
          (some (Sum.inr s10788.2))) FU (0, O)) fun (r10798 : Smo) =>
      Option.bind (aget (r10798 306) (Ln 306) a1) fun (v10800 : Int) =>
      jn (up2 r10798 262 47 v10800) fun (O10802 : Smo) =>
      jn (up2 O10802 262 48 (O10802 262 47)) fun (O10804 : Smo) =>
      jn (up2 O10804 262 49 (O10804 262 47)) fun (O10806 : Smo) =>
      some (O10806 262 47, O10806)))
set_option maxRecDepth 100000 in
set_option maxHeartbeats 4000000 in
theorem m_X12_back {l : Launch} {E : EwT} {S : Sst} {O : Smo} {a1 : Int} (ha1 : IR a1) {q : Int × Smo} (hq : f_X12_back a1 O = some q) : MetG l E yX12_back cX12_back 3 (some .int) 1 20 0 0 n0 R0 S O [.ref (zad E 262), .int (zi a1)] (IR q.1) (some (.int (zi q.1))) n0 R0 S q.2 := by
  refine ofG (L0 := [(0, .ref (zad E 262)), (1, .int (zi a1))]) hq (by decide +kernel) (Nat.le_of_ble_eq_true rfl) rfl (fun K _ C hQ => ?_)
  unfold f_X12_back
  refine r_iload_n (pc := 0) (j := 1) C dX12_back_0 rfl rfl ?_
  refine r_cS1 (pc := 1) (As := [.int (zi a1)]) (st := []) C (m_X12_isBox (a0 := a1) ha1 rfl) cal_X12_isBox q_2385 dX12_back_1 rfl rfl (Nat.le_of_ble_eq_true rfl) (Nat.le_of_ble_eq_true rfl) (Nat.le_of_ble_eq_true rfl) (Nat.le_of_ble_eq_true rfl) (Nat.le_of_ble_eq_true rfl) (fun h10779 => ?_)
  refine r_jk (fun q10780 : Smo => True) (fun q10780 => S) (fun q10780 => q10780) (fun q10780 => []) 16 (fun q10780 => []) (fun q10780 h10781 => ?_) (fun k10782 k10783 => ?_)
  · refine r_iconst (v := (-1)) C dX12_back_16 (by decide) ?_
    exact r_ireturn C hQ rfl dX12_back_17 (fun e => by cases e; exact ⟨(IRd rfl), rfl, rfl, rfl, rfl, rfl⟩)
  · refine r_if_eq (tgt := 16) C h10779.ir dX12_back_4 (by decide) (fun c10784 => ?_) (fun c10784 => ?_)
    · refine r_t c10784 ?_
      refine r_L (L' := []) [] rfl ?_
      exact k10783 O trivial
    · refine r_f c10784 ?_
      refine r_aload_n (pc := 7) (j := 0) C dX12_back_7 rfl rfl ?_
      refine r_getR (j := 77) (r := 304) C cl_X12 kd_262 ln_262 (by decide) rfl r0_262_77 (by decide) q_1630 dX12_back_8 ?_
      refine r_iload_n (pc := 11) (j := 1) C dX12_back_11 rfl rfl ?_
      refine r_zald C kd_304 ln_304 gc_304 ha1 dX12_back_12 (fun v10785 h10786 => ?_)
      refine r_if_ne (tgt := 18) C h10786.ir dX12_back_13 (by decide) (fun c10787 => ?_) (fun c10787 => ?_)
      · refine r_f c10787 ?_
        refine r_iconst (v := 0) C dX12_back_18 (by decide) ?_
        refine r_istore_n (L' := [(2, .int (zi 0)), (0, .ref (zad E 262)), (1, .int (zi a1))]) C dX12_back_19 rfl (by decide) rfl ?_
        refine r_L (L' := [(0, .ref (zad E 262)), (1, .int (zi a1)), (2, .int (zi 0))]) [1, 2, 0] rfl ?_
        refine r_loop1 (fun s10788 : Int × Smo => IR s10788.1) (fun s10788 => S) (fun s10788 => s10788.2) (fun s10788 => [(0, .ref (zad E 262)), (1, .int (zi a1)), (2, .int (zi s10788.1))]) [] (fun r10798 : Smo => True) (fun r10798 => S) (fun r10798 => r10798) (fun r10798 => [(0, .ref (zad E 262)), (1, .int (zi a1))]) 51 (fun r10798 h10799 => ?_) (fun k10790 k10792 k10791 k10793 s10788 h10789 => ?_) (IRd rfl)
        · refine r_aload_n (pc := 51) (j := 0) C dX12_back_51 rfl rfl ?_
          refine r_aload_n (pc := 52) (j := 0) C dX12_back_52 rfl rfl ?_
          refine r_getR (j := 79) (r := 306) C cl_X12 kd_262 ln_262 (by decide) rfl r0_262_79 (by decide) q_1632 dX12_back_53 ?_
          refine r_iload_n (pc := 56) (j := 1) C dX12_back_56 rfl rfl ?_
          refine r_iald C kd_306 ln_306 gc_306 ha1 dX12_back_57 (fun v10800 h10801 => ?_)
          refine r_putO C cl_X12 kd_262 ln_262 gc_262 (by decide) (by decide) rfl rfl rfl h10801 q_1600 dX12_back_58 (fun O10802 => ?_)
          refine r_aload_n (pc := 61) (j := 0) C dX12_back_61 rfl rfl ?_
          refine r_aload_n (pc := 62) (j := 0) C dX12_back_62 rfl rfl ?_
          refine r_getO (j := 47) C cl_X12 kd_262 ln_262 gc_262 (by decide) (by decide) rfl q_1600 dX12_back_63 (fun h10803 => ?_)
          refine r_putO C cl_X12 kd_262 ln_262 gc_262 (by decide) (by decide) rfl rfl rfl h10803 q_1601 dX12_back_66 (fun O10804 => ?_)
          refine r_aload_n (pc := 69) (j := 0) C dX12_back_69 rfl rfl ?_
          refine r_aload_n (pc := 70) (j := 0) C dX12_back_70 rfl rfl ?_
          refine r_getO (j := 47) C cl_X12 kd_262 ln_262 gc_262 (by decide) (by decide) rfl q_1600 dX12_back_71 (fun h10805 => ?_)
          refine r_putO C cl_X12 kd_262 ln_262 gc_262 (by decide) (by decide) rfl rfl rfl h10805 q_1602 dX12_back_74 (fun O10806 => ?_)
          refine r_aload_n (pc := 77) (j := 0) C dX12_back_77 rfl rfl ?_
          refine r_getO (j := 47) C cl_X12 kd_262 ln_262 gc_262 (by decide) (by decide) rfl q_1600 dX12_back_78 (fun h10807 => ?_)
          exact r_ireturn C hQ rfl dX12_back_81 (fun e => by cases e; exact ⟨h10807, rfl, rfl, rfl, rfl, rfl⟩)
        · refine r_iload_n (pc := 20) (j := 2) C dX12_back_20 rfl rfl ?_
          refine r_sipush (v := 7565) C dX12_back_21 (by decide) ?_
          refine r_icmp_ge (tgt := 51) C h10789 (IRd rfl) dX12_back_24 (by decide) (fun c10794 => ?_) (fun c10794 => ?_)
          · refine r_bf c10794 ?_
            refine r_L (L' := [(0, .ref (zad E 262)), (1, .int (zi a1))]) [0, 1] rfl ?_
            exact k10793 s10788.2 trivial
          · refine r_bt c10794 ?_
            refine r_aload_n (pc := 27) (j := 0) C dX12_back_27 rfl rfl ?_
            refine r_getR (j := 46) (r := 282) C cl_X12 kd_262 ln_262 (by decide) rfl r0_262_46 (by decide) q_1599 dX12_back_28 ?_
            refine r_iload_n (pc := 31) (j := 2) C dX12_back_31 rfl rfl ?_
            refine r_aload_n (pc := 32) (j := 0) C dX12_back_32 rfl rfl ?_
            refine r_getR (j := 78) (r := 305) C cl_X12 kd_262 ln_262 (by decide) rfl r0_262_78 (by decide) q_1631 dX12_back_33 ?_
            refine r_sipush (v := 7565) C dX12_back_36 (by decide) ?_
            refine r_iload_n (pc := 39) (j := 1) C dX12_back_39 rfl rfl ?_
            refine r_imul C dX12_back_40 ?_
            refine r_iload_n (pc := 41) (j := 2) C dX12_back_41 rfl rfl ?_
            refine r_iadd C dX12_back_42 ?_
            refine r_bb ?_
            refine r_iald C kd_305 ln_305 gc_305 (IR_wr _) dX12_back_43 (fun v10795 h10796 => ?_)
            refine r_bb ?_
            refine r_iast C kd_282 ln_282 gc_282 h10789 h10796 dX12_back_44 (fun O10797 => ?_)
            refine r_iinc (j := 2) (L' := [(2, .int (zi (wr (s10788.1 + 1)))), (0, .ref (zad E 262)), (1, .int (zi a1))]) C dX12_back_45 rfl (by decide) rfl ?_
            refine r_goto (tgt := 20) C dX12_back_48 (by decide) ?_
            refine r_L (L' := [(0, .ref (zad E 262)), (1, .int (zi a1)), (2, .int (zi (wr (s10788.1 + 1))))]) [1, 2, 0] rfl ?_
            exact k10791 (wr (s10788.1 + 1), O10797) (IR_wr _)
      · refine r_t c10787 ?_
        refine r_L (L' := []) [] rfl ?_
        exact k10783 O trivial

def f_X12_about (a1 : Int) (O : Smo) : Option (Int) :=
  if a1 = 0 then
    (some (O 262 39))
  else
    (if a1 = 1 then
      (some (O 262 47))
    else
      (if a1 = 2 then
        (Option.bind (f_X12_placeOf (O 262 47) O) fun (q10815 : Int) =>
        some q10815)
      else
        (if a1 = 3 then
          (Option.bind (f_X12_setOf (O 262 47) O) fun (q10820 : Int) =>
          some q10820)
        else
          (if a1 = 4 then
            (Option.bind (f_X12_nodeMany O) fun (q10824 : Int) =>
            some q10824)
          else
            (if a1 = 5 then
              (some (O 262 40))
            else
              (if a1 = 6 then
                (some (wr ((O 262 47) - (O 262 49))))
              else
                (if a1 = 7 then
                  (some (wr ((O 262 48) - (O 262 47))))
                else
                  (if a1 = 8 then
                    (some (O 262 73))
                  else
                    (if a1 = 9 then
                      (some (O 262 74))
                    else
                      (if a1 = 10 then
                        (some (O 262 1))
                      else
                        (if a1 = 11 then
                          (some (O 262 20))
                        else
                          (if a1 = 12 then
                            (some (O 262 62))
                          else
                            (some (-1))))))))))))))
set_option maxRecDepth 100000 in
set_option maxHeartbeats 4000000 in
theorem m_X12_about {l : Launch} {E : EwT} {S : Sst} {O : Smo} {a1 : Int} (ha1 : IR a1) {q : Int} (hq : f_X12_about a1 O = some q) : MetG l E yX12_about cX12_about 2 (some .int) 1 21 0 0 n0 R0 S O [.ref (zad E 262), .int (zi a1)] (IR q) (some (.int (zi q))) n0 R0 S O := by
  refine ofG (L0 := [(0, .ref (zad E 262)), (1, .int (zi a1))]) hq (by decide +kernel) (Nat.le_of_ble_eq_true rfl) rfl (fun K _ C hQ => ?_)
  unfold f_X12_about
  refine r_iload_n (pc := 0) (j := 1) C dX12_about_0 rfl rfl ?_
  by_cases c10808 : (a1 = 0)
  · refine r_t c10808 ?_
    refine r_tswIn (kx := 0) (tgt := 68) C ha1 dX12_about_1 c10808 (by decide) (by decide) rfl (by decide) ?_
    refine r_aload_n (pc := 68) (j := 0) C dX12_about_68 rfl rfl ?_
    refine r_getO (j := 39) C cl_X12 kd_262 ln_262 gc_262 (by decide) (by decide) rfl q_1592 dX12_about_69 (fun h10809 => ?_)
    exact r_ireturn C hQ rfl dX12_about_72 (fun e => by cases e; exact ⟨h10809, rfl, rfl, rfl, rfl, rfl⟩)
  · refine r_f c10808 ?_
    by_cases c10810 : (a1 = 1)
    · refine r_t c10810 ?_
      refine r_tswIn (kx := 1) (tgt := 73) C ha1 dX12_about_1 c10810 (by decide) (by decide) rfl (by decide) ?_
      refine r_aload_n (pc := 73) (j := 0) C dX12_about_73 rfl rfl ?_
      refine r_getO (j := 47) C cl_X12 kd_262 ln_262 gc_262 (by decide) (by decide) rfl q_1600 dX12_about_74 (fun h10811 => ?_)
      exact r_ireturn C hQ rfl dX12_about_77 (fun e => by cases e; exact ⟨h10811, rfl, rfl, rfl, rfl, rfl⟩)
    · refine r_f c10810 ?_
      by_cases c10812 : (a1 = 2)
      · refine r_t c10812 ?_
        refine r_tswIn (kx := 2) (tgt := 78) C ha1 dX12_about_1 c10812 (by decide) (by decide) rfl (by decide) ?_
        refine r_aload_n (pc := 78) (j := 0) C dX12_about_78 rfl rfl ?_
        refine r_aload_n (pc := 79) (j := 0) C dX12_about_79 rfl rfl ?_
        refine r_getO (j := 47) C cl_X12 kd_262 ln_262 gc_262 (by decide) (by decide) rfl q_1600 dX12_about_80 (fun h10813 => ?_)
        refine r_bd (fun q10815 e10816 => ?_)
        refine r_cV1 (pc := 83) (k := 262) (As := [.int (zi (O 262 47))]) (st := []) C (m_X12_placeOf (a1 := O 262 47) h10813 e10816) cal_X12_placeOf cl_X12 kd_262 ln_262 q_2032 dX12_about_83 rfl rfl (Nat.le_of_ble_eq_true rfl) (Nat.le_of_ble_eq_true rfl) (Nat.le_of_ble_eq_true rfl) (Nat.le_of_ble_eq_true rfl) (Nat.le_of_ble_eq_true rfl) (fun h10814 => ?_)
        exact r_ireturn C hQ rfl dX12_about_86 (fun e => by cases e; exact ⟨h10814, rfl, rfl, rfl, rfl, rfl⟩)
      · refine r_f c10812 ?_
        by_cases c10817 : (a1 = 3)
        · refine r_t c10817 ?_
          refine r_tswIn (kx := 3) (tgt := 87) C ha1 dX12_about_1 c10817 (by decide) (by decide) rfl (by decide) ?_
          refine r_aload_n (pc := 87) (j := 0) C dX12_about_87 rfl rfl ?_
          refine r_aload_n (pc := 88) (j := 0) C dX12_about_88 rfl rfl ?_
          refine r_getO (j := 47) C cl_X12 kd_262 ln_262 gc_262 (by decide) (by decide) rfl q_1600 dX12_about_89 (fun h10818 => ?_)
          refine r_bd (fun q10820 e10821 => ?_)
          refine r_cV1 (pc := 92) (k := 262) (As := [.int (zi (O 262 47))]) (st := []) C (m_X12_setOf (a1 := O 262 47) h10818 e10821) cal_X12_setOf cl_X12 kd_262 ln_262 q_2008 dX12_about_92 rfl rfl (Nat.le_of_ble_eq_true rfl) (Nat.le_of_ble_eq_true rfl) (Nat.le_of_ble_eq_true rfl) (Nat.le_of_ble_eq_true rfl) (Nat.le_of_ble_eq_true rfl) (fun h10819 => ?_)
          exact r_ireturn C hQ rfl dX12_about_95 (fun e => by cases e; exact ⟨h10819, rfl, rfl, rfl, rfl, rfl⟩)
        · refine r_f c10817 ?_
          by_cases c10822 : (a1 = 4)
          · refine r_t c10822 ?_
            refine r_tswIn (kx := 4) (tgt := 96) C ha1 dX12_about_1 c10822 (by decide) (by decide) rfl (by decide) ?_
            refine r_aload_n (pc := 96) (j := 0) C dX12_about_96 rfl rfl ?_
            refine r_bd (fun q10824 e10825 => ?_)
            refine r_cV1 (pc := 97) (k := 262) (As := []) (st := []) C (m_X12_nodeMany  e10825) cal_X12_nodeMany cl_X12 kd_262 ln_262 q_2020 dX12_about_97 rfl rfl (Nat.le_of_ble_eq_true rfl) (Nat.le_of_ble_eq_true rfl) (Nat.le_of_ble_eq_true rfl) (Nat.le_of_ble_eq_true rfl) (Nat.le_of_ble_eq_true rfl) (fun h10823 => ?_)
            exact r_ireturn C hQ rfl dX12_about_100 (fun e => by cases e; exact ⟨h10823, rfl, rfl, rfl, rfl, rfl⟩)
          · refine r_f c10822 ?_
            by_cases c10826 : (a1 = 5)
            · refine r_t c10826 ?_
              refine r_tswIn (kx := 5) (tgt := 101) C ha1 dX12_about_1 c10826 (by decide) (by decide) rfl (by decide) ?_
              refine r_aload_n (pc := 101) (j := 0) C dX12_about_101 rfl rfl ?_
              refine r_getO (j := 40) C cl_X12 kd_262 ln_262 gc_262 (by decide) (by decide) rfl q_1593 dX12_about_102 (fun h10827 => ?_)
              exact r_ireturn C hQ rfl dX12_about_105 (fun e => by cases e; exact ⟨h10827, rfl, rfl, rfl, rfl, rfl⟩)
            · refine r_f c10826 ?_
              by_cases c10828 : (a1 = 6)
              · refine r_t c10828 ?_
                refine r_tswIn (kx := 6) (tgt := 106) C ha1 dX12_about_1 c10828 (by decide) (by decide) rfl (by decide) ?_
                refine r_aload_n (pc := 106) (j := 0) C dX12_about_106 rfl rfl ?_
                refine r_getO (j := 47) C cl_X12 kd_262 ln_262 gc_262 (by decide) (by decide) rfl q_1600 dX12_about_107 (fun h10829 => ?_)
                refine r_aload_n (pc := 110) (j := 0) C dX12_about_110 rfl rfl ?_
                refine r_getO (j := 49) C cl_X12 kd_262 ln_262 gc_262 (by decide) (by decide) rfl q_1602 dX12_about_111 (fun h10830 => ?_)
                refine r_isub C dX12_about_114 ?_
                exact r_ireturn C hQ rfl dX12_about_115 (fun e => by cases e; exact ⟨(IR_wr _), rfl, rfl, rfl, rfl, rfl⟩)
              · refine r_f c10828 ?_
                by_cases c10831 : (a1 = 7)
                · refine r_t c10831 ?_
                  refine r_tswIn (kx := 7) (tgt := 116) C ha1 dX12_about_1 c10831 (by decide) (by decide) rfl (by decide) ?_
                  refine r_aload_n (pc := 116) (j := 0) C dX12_about_116 rfl rfl ?_
                  refine r_getO (j := 48) C cl_X12 kd_262 ln_262 gc_262 (by decide) (by decide) rfl q_1601 dX12_about_117 (fun h10832 => ?_)
                  refine r_aload_n (pc := 120) (j := 0) C dX12_about_120 rfl rfl ?_
                  refine r_getO (j := 47) C cl_X12 kd_262 ln_262 gc_262 (by decide) (by decide) rfl q_1600 dX12_about_121 (fun h10833 => ?_)
                  refine r_isub C dX12_about_124 ?_
                  exact r_ireturn C hQ rfl dX12_about_125 (fun e => by cases e; exact ⟨(IR_wr _), rfl, rfl, rfl, rfl, rfl⟩)
                · refine r_f c10831 ?_
                  by_cases c10834 : (a1 = 8)
                  · refine r_t c10834 ?_
                    refine r_tswIn (kx := 8) (tgt := 126) C ha1 dX12_about_1 c10834 (by decide) (by decide) rfl (by decide) ?_
                    refine r_aload_n (pc := 126) (j := 0) C dX12_about_126 rfl rfl ?_
                    refine r_getO (j := 73) C cl_X12 kd_262 ln_262 gc_262 (by decide) (by decide) rfl q_1626 dX12_about_127 (fun h10835 => ?_)
                    exact r_ireturn C hQ rfl dX12_about_130 (fun e => by cases e; exact ⟨h10835, rfl, rfl, rfl, rfl, rfl⟩)
                  · refine r_f c10834 ?_
                    by_cases c10836 : (a1 = 9)
                    · refine r_t c10836 ?_
                      refine r_tswIn (kx := 9) (tgt := 131) C ha1 dX12_about_1 c10836 (by decide) (by decide) rfl (by decide) ?_
                      refine r_aload_n (pc := 131) (j := 0) C dX12_about_131 rfl rfl ?_
                      refine r_getO (j := 74) C cl_X12 kd_262 ln_262 gc_262 (by decide) (by decide) rfl q_1627 dX12_about_132 (fun h10837 => ?_)
                      exact r_ireturn C hQ rfl dX12_about_135 (fun e => by cases e; exact ⟨h10837, rfl, rfl, rfl, rfl, rfl⟩)
                    · refine r_f c10836 ?_
                      by_cases c10838 : (a1 = 10)
                      · refine r_t c10838 ?_
                        refine r_tswIn (kx := 10) (tgt := 136) C ha1 dX12_about_1 c10838 (by decide) (by decide) rfl (by decide) ?_
                        refine r_aload_n (pc := 136) (j := 0) C dX12_about_136 rfl rfl ?_
                        refine r_getO (j := 1) C cl_X12 kd_262 ln_262 gc_262 (by decide) (by decide) rfl q_1554 dX12_about_137 (fun h10839 => ?_)
                        exact r_ireturn C hQ rfl dX12_about_140 (fun e => by cases e; exact ⟨h10839, rfl, rfl, rfl, rfl, rfl⟩)
                      · refine r_f c10838 ?_
                        by_cases c10840 : (a1 = 11)
                        · refine r_t c10840 ?_
                          refine r_tswIn (kx := 11) (tgt := 141) C ha1 dX12_about_1 c10840 (by decide) (by decide) rfl (by decide) ?_
                          refine r_aload_n (pc := 141) (j := 0) C dX12_about_141 rfl rfl ?_
                          refine r_getO (j := 20) C cl_X12 kd_262 ln_262 gc_262 (by decide) (by decide) rfl q_1573 dX12_about_142 (fun h10841 => ?_)
                          exact r_ireturn C hQ rfl dX12_about_145 (fun e => by cases e; exact ⟨h10841, rfl, rfl, rfl, rfl, rfl⟩)
                        · refine r_f c10840 ?_
                          by_cases c10842 : (a1 = 12)
                          · refine r_t c10842 ?_
                            refine r_tswIn (kx := 12) (tgt := 146) C ha1 dX12_about_1 c10842 (by decide) (by decide) rfl (by decide) ?_
                            refine r_aload_n (pc := 146) (j := 0) C dX12_about_146 rfl rfl ?_
                            refine r_getO (j := 62) C cl_X12 kd_262 ln_262 gc_262 (by decide) (by decide) rfl q_1615 dX12_about_147 (fun h10843 => ?_)
                            exact r_ireturn C hQ rfl dX12_about_150 (fun e => by cases e; exact ⟨h10843, rfl, rfl, rfl, rfl, rfl⟩)
                          · refine r_f c10842 ?_
                            refine r_tswOut (tgt := 151) C ha1 dX12_about_1 (by omega) (by decide) ?_
                            refine r_iconst (v := (-1)) C dX12_about_151 (by decide) ?_
                            exact r_ireturn C hQ rfl dX12_about_152 (fun e => by cases e; exact ⟨(IRd rfl), rfl, rfl, rfl, rfl, rfl⟩)
