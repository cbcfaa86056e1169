/-! m_ref1: the methods as functions, and their walks (written by program) -/
def f_X12_four (a1 : Int) (O : Smo) : Option (Smo) :=
  Option.bind (lp (fun (s4807 : Int × Smo) =>
    if s4807.1 < 0 then
      (some (Sum.inr s4807.2))
    else
      (Option.bind (asetO s4807.2 263 (Ln 263) (s4807.2 262 1) (zand (zshr a1 s4807.1) 255)) fun (O4815 : Smo) =>
      jn (up2 O4815 262 1 (wr ((O4815 262 1) + 1))) fun (O4817 : Smo) =>
      some (Sum.inl (wr (s4807.1 + (-8)), O4817)))) FU (24, O)) fun (r4818 : Smo) =>
  some r4818
set_option maxRecDepth 100000 in
set_option maxHeartbeats 4000000 in
theorem m_X12_four {l : Launch} {E : EwT} {S : Sst} {O : Smo} {a1 : Int} (ha1 : IR a1) {q : Smo} (hq : f_X12_four a1 O = some q) : MetG l E yX12_four cX12_four 3 none 0 0 0 0 n0 R0 S O [.ref (zad E 262), .int (zi a1)] (True) none n0 R0 S q := by
  refine ofG (L0 := [(0, .ref (zad E 262)), (1, .int (zi a1))]) hq (by decide +kernel) (Nat.le_of_ble_eq_true rfl) rfl (fun K _ C hQ => ?_)
  unfold f_X12_four
  refine r_bipush (v := 24) C dX12_four_0 (by decide) ?_
  refine r_istore_n (L' := [(2, .int (zi 24)), (0, .ref (zad E 262)), (1, .int (zi a1))]) C dX12_four_2 rfl (by decide) rfl ?_
  refine r_L (L' := [(0, .ref (zad E 262)), (1, .int (zi a1)), (2, .int (zi 24))]) [1, 2, 0] rfl ?_
  refine r_loop1 (fun s4807 : Int × Smo => IR s4807.1) (fun s4807 => S) (fun s4807 => s4807.2) (fun s4807 => [(0, .ref (zad E 262)), (1, .int (zi a1)), (2, .int (zi s4807.1))]) [] (fun r4818 : Smo => True) (fun r4818 => S) (fun r4818 => r4818) (fun r4818 => []) 39 (fun r4818 h4819 => ?_) (fun k4809 k4811 k4810 k4812 s4807 h4808 => ?_) (IRd rfl)
  · exact r_return C hQ dX12_four_39 (fun e => by cases e; exact ⟨trivial, rfl, rfl, rfl, rfl, rfl⟩)
  · refine r_iload_n (pc := 3) (j := 2) C dX12_four_3 rfl rfl ?_
    refine r_if_lt (tgt := 39) C h4808 dX12_four_4 (by decide) (fun c4813 => ?_) (fun c4813 => ?_)
    · refine r_bt c4813 ?_
      refine r_L (L' := []) [] rfl ?_
      exact k4812 s4807.2 trivial
    · refine r_bf c4813 ?_
      refine r_aload_n (pc := 7) (j := 0) C dX12_four_7 rfl rfl ?_
      refine r_getR (j := 0) (r := 263) C cl_X12 kd_262 ln_262 (by decide) rfl r0_262_0 (by decide) q_1553 dX12_four_8 ?_
      refine r_aload_n (pc := 11) (j := 0) C dX12_four_11 rfl rfl ?_
      refine r_getO (j := 1) C cl_X12 kd_262 ln_262 gc_262 (by decide) (by decide) rfl q_1554 dX12_four_12 (fun h4814 => ?_)
      refine r_iload_n (pc := 15) (j := 1) C dX12_four_15 rfl rfl ?_
      refine r_iload_n (pc := 16) (j := 2) C dX12_four_16 rfl rfl ?_
      refine r_ishr C dX12_four_17 ?_
      refine r_sipush (v := 255) C dX12_four_18 (by decide) ?_
      refine r_iand C dX12_four_21 ?_
      refine r_bb ?_
      refine r_iast C kd_263 ln_263 gc_263 h4814 (i32_IR _) dX12_four_22 (fun O4815 => ?_)
      refine r_aload_n (pc := 23) (j := 0) C dX12_four_23 rfl rfl ?_
      refine r_dup C dX12_four_24 rfl ?_
      refine r_getO (j := 1) C cl_X12 kd_262 ln_262 gc_262 (by decide) (by decide) rfl q_1554 dX12_four_25 (fun h4816 => ?_)
      refine r_iconst (v := 1) C dX12_four_28 (by decide) ?_
      refine r_iadd C dX12_four_29 ?_
      refine r_bj ?_
      refine r_putO C cl_X12 kd_262 ln_262 gc_262 (by decide) (by decide) rfl rfl rfl (IR_wr _) q_1554 dX12_four_30 (fun O4817 => ?_)
      refine r_iinc (j := 2) (L' := [(2, .int (zi (wr (s4807.1 + (-8))))), (0, .ref (zad E 262)), (1, .int (zi a1))]) C dX12_four_33 rfl (by decide) rfl ?_
      refine r_goto (tgt := 3) C dX12_four_36 (by decide) ?_
      refine r_L (L' := [(0, .ref (zad E 262)), (1, .int (zi a1)), (2, .int (zi (wr (s4807.1 + (-8)))))]) [1, 2, 0] rfl ?_
      exact k4810 (wr (s4807.1 + (-8)), O4817) (IR_wr _)

def f_X12_feed (a1 : Int) (a2 : Int) (a3 : Int) (a4 : Int) (a5 : Int) (O : Smo) : Option (Int × Smo) :=
  if 1600 < wr ((O 262 1) + 20) then
    (some ((-1), O))
  else
    (Option.bind (f_X12_four a1 O) fun (q4823 : Smo) =>
    Option.bind (f_X12_four a2 q4823) fun (q4826 : Smo) =>
    Option.bind (f_X12_four a3 q4826) fun (q4829 : Smo) =>
    Option.bind (f_X12_four a4 q4829) fun (q4832 : Smo) =>
    Option.bind (f_X12_four a5 q4832) fun (q4835 : Smo) =>
    some (q4835 262 1, q4835))
set_option maxRecDepth 100000 in
set_option maxHeartbeats 4000000 in
theorem m_X12_feed {l : Launch} {E : EwT} {S : Sst} {O : Smo} {a1 : Int} (ha1 : IR a1) {a2 : Int} (ha2 : IR a2) {a3 : Int} (ha3 : IR a3) {a4 : Int} (ha4 : IR a4) {a5 : Int} (ha5 : IR a5) {q : Int × Smo} (hq : f_X12_feed a1 a2 a3 a4 a5 O = some q) : MetG l E yX12_feed cX12_feed 6 (some .int) 1 22 0 0 n0 R0 S O [.ref (zad E 262), .int (zi a1), .int (zi a2), .int (zi a3), .int (zi a4), .int (zi a5)] (IR q.1) (some (.int (zi q.1))) n0 R0 S q.2 := by
  refine ofG (L0 := [(0, .ref (zad E 262)), (1, .int (zi a1)), (2, .int (zi a2)), (3, .int (zi a3)), (4, .int (zi a4)), (5, .int (zi a5))]) hq (by decide +kernel) (Nat.le_of_ble_eq_true rfl) rfl (fun K _ C hQ => ?_)
  unfold f_X12_feed
  refine r_aload_n (pc := 0) (j := 0) C dX12_feed_0 rfl rfl ?_
  refine r_getO (j := 1) C cl_X12 kd_262 ln_262 gc_262 (by decide) (by decide) rfl q_1554 dX12_feed_1 (fun h4820 => ?_)
  refine r_bipush (v := 20) C dX12_feed_4 (by decide) ?_
  refine r_iadd C dX12_feed_6 ?_
  refine r_sipush (v := 1600) C dX12_feed_7 (by decide) ?_
  refine r_icmp_le (tgt := 15) C (IR_wr _) (IRd rfl) dX12_feed_10 (by decide) (fun c4821 => ?_) (fun c4821 => ?_)
  · refine r_f c4821 ?_
    refine r_aload_n (pc := 15) (j := 0) C dX12_feed_15 rfl rfl ?_
    refine r_iload_n (pc := 16) (j := 1) C dX12_feed_16 rfl rfl ?_
    refine r_bd (fun q4823 e4824 => ?_)
    refine r_cV0 (pc := 17) (k := 262) (As := [.int (zi a1)]) (st := []) C (m_X12_four (a1 := a1) ha1 e4824) cal_X12_four cl_X12 kd_262 ln_262 q_1799 dX12_feed_17 rfl rfl (Nat.le_of_ble_eq_true rfl) (Nat.le_of_ble_eq_true rfl) (Nat.le_of_ble_eq_true rfl) (Nat.le_of_ble_eq_true rfl) (Nat.le_of_ble_eq_true rfl) (fun h4822 => ?_)
    refine r_aload_n (pc := 20) (j := 0) C dX12_feed_20 rfl rfl ?_
    refine r_iload_n (pc := 21) (j := 2) C dX12_feed_21 rfl rfl ?_
    refine r_bd (fun q4826 e4827 => ?_)
    refine r_cV0 (pc := 22) (k := 262) (As := [.int (zi a2)]) (st := []) C (m_X12_four (a1 := a2) ha2 e4827) cal_X12_four cl_X12 kd_262 ln_262 q_1799 dX12_feed_22 rfl rfl (Nat.le_of_ble_eq_true rfl) (Nat.le_of_ble_eq_true rfl) (Nat.le_of_ble_eq_true rfl) (Nat.le_of_ble_eq_true rfl) (Nat.le_of_ble_eq_true rfl) (fun h4825 => ?_)
    refine r_aload_n (pc := 25) (j := 0) C dX12_feed_25 rfl rfl ?_
    refine r_iload_n (pc := 26) (j := 3) C dX12_feed_26 rfl rfl ?_
    refine r_bd (fun q4829 e4830 => ?_)
    refine r_cV0 (pc := 27) (k := 262) (As := [.int (zi a3)]) (st := []) C (m_X12_four (a1 := a3) ha3 e4830) cal_X12_four cl_X12 kd_262 ln_262 q_1799 dX12_feed_27 rfl rfl (Nat.le_of_ble_eq_true rfl) (Nat.le_of_ble_eq_true rfl) (Nat.le_of_ble_eq_true rfl) (Nat.le_of_ble_eq_true rfl) (Nat.le_of_ble_eq_true rfl) (fun h4828 => ?_)
    refine r_aload_n (pc := 30) (j := 0) C dX12_feed_30 rfl rfl ?_
    refine r_iload (pc := 31) (j := 4) C dX12_feed_31 rfl ?_
    refine r_bd (fun q4832 e4833 => ?_)
    refine r_cV0 (pc := 33) (k := 262) (As := [.int (zi a4)]) (st := []) C (m_X12_four (a1 := a4) ha4 e4833) cal_X12_four cl_X12 kd_262 ln_262 q_1799 dX12_feed_33 rfl rfl (Nat.le_of_ble_eq_true rfl) (Nat.le_of_ble_eq_true rfl) (Nat.le_of_ble_eq_true rfl) (Nat.le_of_ble_eq_true rfl) (Nat.le_of_ble_eq_true rfl) (fun h4831 => ?_)
    refine r_aload_n (pc := 36) (j := 0) C dX12_feed_36 rfl rfl ?_
    refine r_iload (pc := 37) (j := 5) C dX12_feed_37 rfl ?_
    refine r_bd (fun q4835 e4836 => ?_)
    refine r_cV0 (pc := 39) (k := 262) (As := [.int (zi a5)]) (st := []) C (m_X12_four (a1 := a5) ha5 e4836) cal_X12_four cl_X12 kd_262 ln_262 q_1799 dX12_feed_39 rfl rfl (Nat.le_of_ble_eq_true rfl) (Nat.le_of_ble_eq_true rfl) (Nat.le_of_ble_eq_true rfl) (Nat.le_of_ble_eq_true rfl) (Nat.le_of_ble_eq_true rfl) (fun h4834 => ?_)
    refine r_aload_n (pc := 42) (j := 0) C dX12_feed_42 rfl rfl ?_
    refine r_getO (j := 1) C cl_X12 kd_262 ln_262 gc_262 (by decide) (by decide) rfl q_1554 dX12_feed_43 (fun h4837 => ?_)
    exact r_ireturn C hQ rfl dX12_feed_46 (fun e => by cases e; exact ⟨h4837, rfl, rfl, rfl, rfl, rfl⟩)
  · refine r_t c4821 ?_
    refine r_iconst (v := (-1)) C dX12_feed_13 (by decide) ?_
    exact r_ireturn C hQ rfl dX12_feed_14 (fun e => by cases e; exact ⟨(IRd rfl), rfl, rfl, rfl, rfl, rfl⟩)

def f_X12_end (a1 : Int) (O : Smo) : Int × Smo :=
  if (a1 < 0 ∨ O 262 1 < a1) then
    (((-1), O))
  else
    (jn (up2 O 262 1 a1) fun (O4842 : Smo) =>
    (a1, O4842))
set_option maxRecDepth 100000 in
set_option maxHeartbeats 4000000 in
theorem m_X12_end {l : Launch} {E : EwT} {S : Sst} {O : Smo} {a1 : Int} (ha1 : IR a1) {q : Int × Smo} (hq : f_X12_end a1 O = q) : MetG l E yX12_end cX12_end 2 (some .int) 0 0 0 0 n0 R0 S O [.ref (zad E 262), .int (zi a1)] (IR q.1) (some (.int (zi q.1))) n0 R0 S q.2 := by
  refine ofG (L0 := [(0, .ref (zad E 262)), (1, .int (zi a1))]) hq (by decide +kernel) (Nat.le_of_ble_eq_true rfl) rfl (fun K _ C hQ => ?_)
  unfold f_X12_end
  refine r_iload_n (pc := 0) (j := 1) C dX12_end_0 rfl rfl ?_
  refine r_cut (a1 < 0 ∨ O 262 1 < a1) 12 14 [] (fun c4839 => ?_) (fun c4839 => ?_) (fun k4840 k4841 => ?_)
  · refine r_t c4839 ?_
    refine r_iconst (v := (-1)) C dX12_end_12 (by decide) ?_
    exact r_ireturn C hQ rfl dX12_end_13 (fun e => by subst e; exact ⟨(IRd rfl), rfl, rfl, rfl, rfl, rfl⟩)
  · refine r_f c4839 ?_
    refine r_aload_n (pc := 14) (j := 0) C dX12_end_14 rfl rfl ?_
    refine r_iload_n (pc := 15) (j := 1) C dX12_end_15 rfl rfl ?_
    refine r_putO C cl_X12 kd_262 ln_262 gc_262 (by decide) (by decide) rfl rfl rfl ha1 q_1554 dX12_end_16 (fun O4842 => ?_)
    refine r_iload_n (pc := 19) (j := 1) C dX12_end_19 rfl rfl ?_
    exact r_ireturn C hQ rfl dX12_end_20 (fun e => by subst e; exact ⟨ha1, rfl, rfl, rfl, rfl, rfl⟩)
  · refine r_if_lt (tgt := 12) C ha1 dX12_end_1 (by decide) (fun c4843 => ?_) (fun c4843 => ?_)
    · exact k4840 (Or.inl c4843)
    · refine r_iload_n (pc := 4) (j := 1) C dX12_end_4 rfl rfl ?_
      refine r_aload_n (pc := 5) (j := 0) C dX12_end_5 rfl rfl ?_
      refine r_getO (j := 1) C cl_X12 kd_262 ln_262 gc_262 (by decide) (by decide) rfl q_1554 dX12_end_6 (fun h4838 => ?_)
      refine r_icmp_le (tgt := 14) C ha1 h4838 dX12_end_9 (by decide) (fun c4844 => ?_) (fun c4844 => ?_)
      · exact k4841 (fun w => w.elim c4843 c4844)
      · exact k4840 (Or.inr c4844)

def f_X12_here (a1 : Int) (O : Smo) : Option (Int) :=
  if wr ((O 262 4) + a1) < O 262 5 then
    (Option.bind (aget (O 263) (Ln 263) (wr ((O 262 4) + a1))) fun (v4849 : Int) =>
    some v4849)
  else
    (some (-1))
set_option maxRecDepth 100000 in
set_option maxHeartbeats 4000000 in
theorem m_X12_here {l : Launch} {E : EwT} {S : Sst} {O : Smo} {a1 : Int} (ha1 : IR a1) {q : Int} (hq : f_X12_here a1 O = some q) : MetG l E yX12_here cX12_here 2 (some .int) 0 0 0 0 n0 R0 S O [.ref (zad E 262), .int (zi a1)] (IR q) (some (.int (zi q))) n0 R0 S O := by
  refine ofG (L0 := [(0, .ref (zad E 262)), (1, .int (zi a1))]) hq (by decide +kernel) (Nat.le_of_ble_eq_true rfl) rfl (fun K _ C hQ => ?_)
  unfold f_X12_here
  refine r_aload_n (pc := 0) (j := 0) C dX12_here_0 rfl rfl ?_
  refine r_getO (j := 4) C cl_X12 kd_262 ln_262 gc_262 (by decide) (by decide) rfl q_1557 dX12_here_1 (fun h4845 => ?_)
  refine r_iload_n (pc := 4) (j := 1) C dX12_here_4 rfl rfl ?_
  refine r_iadd C dX12_here_5 ?_
  refine r_aload_n (pc := 6) (j := 0) C dX12_here_6 rfl rfl ?_
  refine r_getO (j := 5) C cl_X12 kd_262 ln_262 gc_262 (by decide) (by decide) rfl q_1558 dX12_here_7 (fun h4846 => ?_)
  refine r_icmp_ge (tgt := 27) C (IR_wr _) h4846 dX12_here_10 (by decide) (fun c4847 => ?_) (fun c4847 => ?_)
  · refine r_f c4847 ?_
    refine r_iconst (v := (-1)) C dX12_here_27 (by decide) ?_
    exact r_ireturn C hQ rfl dX12_here_28 (fun e => by cases e; exact ⟨(IRd rfl), rfl, rfl, rfl, rfl, rfl⟩)
  · refine r_t c4847 ?_
    refine r_aload_n (pc := 13) (j := 0) C dX12_here_13 rfl rfl ?_
    refine r_getR (j := 0) (r := 263) C cl_X12 kd_262 ln_262 (by decide) rfl r0_262_0 (by decide) q_1553 dX12_here_14 ?_
    refine r_aload_n (pc := 17) (j := 0) C dX12_here_17 rfl rfl ?_
    refine r_getO (j := 4) C cl_X12 kd_262 ln_262 gc_262 (by decide) (by decide) rfl q_1557 dX12_here_18 (fun h4848 => ?_)
    refine r_iload_n (pc := 21) (j := 1) C dX12_here_21 rfl rfl ?_
    refine r_iadd C dX12_here_22 ?_
    refine r_iald C kd_263 ln_263 gc_263 (IR_wr _) dX12_here_23 (fun v4849 h4850 => ?_)
    refine r_goto (tgt := 28) C dX12_here_24 (by decide) ?_
    exact r_ireturn C hQ rfl dX12_here_28 (fun e => by cases e; exact ⟨h4850, rfl, rfl, rfl, rfl, rfl⟩)

def f_X12_isLetter (a0 : Int) : Int :=
  if (a0 < 97 ∨ 122 < a0) then
    (0)
  else
    (1)
set_option maxRecDepth 100000 in
set_option maxHeartbeats 4000000 in
theorem m_X12_isLetter {l : Launch} {E : EwT} {n : Nat} {R : Srf} {S : Sst} {O : Smo} {a0 : Int} (ha0 : IR a0) {q : Int} (hq : f_X12_isLetter a0 = q) : MetG l E yX12_isLetter cX12_isLetter 1 (some .boolean) 0 0 0 0 n R S O [.int (zi a0)] (BR q) (some (.int (zi q))) n R S O := by
  refine ofG (L0 := [(0, .int (zi a0))]) hq (by decide +kernel) (Nat.le_of_ble_eq_true rfl) rfl (fun K _ C hQ => ?_)
  unfold f_X12_isLetter
  refine r_iload_n (pc := 0) (j := 0) C dX12_isLetter_0 rfl rfl ?_
  refine r_bipush (v := 97) C dX12_isLetter_1 (by decide) ?_
  refine r_cut (a0 < 97 ∨ 122 < a0) 16 12 [] (fun c4851 => ?_) (fun c4851 => ?_) (fun k4852 k4853 => ?_)
  · refine r_t c4851 ?_
    refine r_iconst (v := 0) C dX12_isLetter_16 (by decide) ?_
    exact r_ireturn C hQ (nar_z (BRd rfl)) dX12_isLetter_17 (fun e => by subst e; exact ⟨(BRd rfl), rfl, rfl, rfl, rfl, rfl⟩)
  · refine r_f c4851 ?_
    refine r_iconst (v := 1) C dX12_isLetter_12 (by decide) ?_
    refine r_goto (tgt := 17) C dX12_isLetter_13 (by decide) ?_
    exact r_ireturn C hQ (nar_z (BRd rfl)) dX12_isLetter_17 (fun e => by subst e; exact ⟨(BRd rfl), rfl, rfl, rfl, rfl, rfl⟩)
  · refine r_icmp_lt (tgt := 16) C ha0 (IRd rfl) dX12_isLetter_3 (by decide) (fun c4854 => ?_) (fun c4854 => ?_)
    · exact k4852 (Or.inl c4854)
    · refine r_iload_n (pc := 6) (j := 0) C dX12_isLetter_6 rfl rfl ?_
      refine r_bipush (v := 122) C dX12_isLetter_7 (by decide) ?_
      refine r_icmp_gt (tgt := 16) C ha0 (IRd rfl) dX12_isLetter_9 (by decide) (fun c4855 => ?_) (fun c4855 => ?_)
      · exact k4852 (Or.inr c4855)
      · exact k4853 (fun w => w.elim c4854 c4855)

def f_X12_isDigit (a0 : Int) : Int :=
  if (a0 < 48 ∨ 57 < a0) then
    (0)
  else
    (1)
set_option maxRecDepth 100000 in
set_option maxHeartbeats 4000000 in
theorem m_X12_isDigit {l : Launch} {E : EwT} {n : Nat} {R : Srf} {S : Sst} {O : Smo} {a0 : Int} (ha0 : IR a0) {q : Int} (hq : f_X12_isDigit a0 = q) : MetG l E yX12_isDigit cX12_isDigit 1 (some .boolean) 0 0 0 0 n R S O [.int (zi a0)] (BR q) (some (.int (zi q))) n R S O := by
  refine ofG (L0 := [(0, .int (zi a0))]) hq (by decide +kernel) (Nat.le_of_ble_eq_true rfl) rfl (fun K _ C hQ => ?_)
  unfold f_X12_isDigit
  refine r_iload_n (pc := 0) (j := 0) C dX12_isDigit_0 rfl rfl ?_
  refine r_bipush (v := 48) C dX12_isDigit_1 (by decide) ?_
  refine r_cut (a0 < 48 ∨ 57 < a0) 16 12 [] (fun c4856 => ?_) (fun c4856 => ?_) (fun k4857 k4858 => ?_)
  · refine r_t c4856 ?_
    refine r_iconst (v := 0) C dX12_isDigit_16 (by decide) ?_
    exact r_ireturn C hQ (nar_z (BRd rfl)) dX12_isDigit_17 (fun e => by subst e; exact ⟨(BRd rfl), rfl, rfl, rfl, rfl, rfl⟩)
  · refine r_f c4856 ?_
    refine r_iconst (v := 1) C dX12_isDigit_12 (by decide) ?_
    refine r_goto (tgt := 17) C dX12_isDigit_13 (by decide) ?_
    exact r_ireturn C hQ (nar_z (BRd rfl)) dX12_isDigit_17 (fun e => by subst e; exact ⟨(BRd rfl), rfl, rfl, rfl, rfl, rfl⟩)
  · refine r_icmp_lt (tgt := 16) C ha0 (IRd rfl) dX12_isDigit_3 (by decide) (fun c4859 => ?_) (fun c4859 => ?_)
    · exact k4857 (Or.inl c4859)
    · refine r_iload_n (pc := 6) (j := 0) C dX12_isDigit_6 rfl rfl ?_
      refine r_bipush (v := 57) C dX12_isDigit_7 (by decide) ?_
      refine r_icmp_gt (tgt := 16) C ha0 (IRd rfl) dX12_isDigit_9 (by decide) (fun c4860 => ?_) (fun c4860 => ?_)
      · exact k4857 (Or.inr c4860)
      · exact k4858 (fun w => w.elim c4859 c4860)

def f_X12_isSign (a0 : Int) : Int :=
  if ((((((((((a0 = 59 ∨ a0 = 40) ∨ a0 = 41) ∨ a0 = 60) ∨ a0 = 62) ∨ a0 = 61) ∨ a0 = 43) ∨ a0 = 45) ∨ a0 = 42) ∨ a0 = 47) ∨ a0 = 37) then
    (1)
  else
    (0)
set_option maxRecDepth 100000 in
set_option maxHeartbeats 4000000 in
theorem m_X12_isSign {l : Launch} {E : EwT} {n : Nat} {R : Srf} {S : Sst} {O : Smo} {a0 : Int} (ha0 : IR a0) {q : Int} (hq : f_X12_isSign a0 = q) : MetG l E yX12_isSign cX12_isSign 1 (some .boolean) 0 0 0 0 n R S O [.int (zi a0)] (BR q) (some (.int (zi q))) n R S O := by
  refine ofG (L0 := [(0, .int (zi a0))]) hq (by decide +kernel) (Nat.le_of_ble_eq_true rfl) rfl (fun K _ C hQ => ?_)
  unfold f_X12_isSign
  refine r_iload_n (pc := 0) (j := 0) C dX12_isSign_0 rfl rfl ?_
  refine r_bipush (v := 59) C dX12_isSign_1 (by decide) ?_
  refine r_cut ((((((((((a0 = 59 ∨ a0 = 40) ∨ a0 = 41) ∨ a0 = 60) ∨ a0 = 62) ∨ a0 = 61) ∨ a0 = 43) ∨ a0 = 45) ∨ a0 = 42) ∨ a0 = 47) ∨ a0 = 37) 66 70 [] (fun c4861 => ?_) (fun c4861 => ?_) (fun k4862 k4863 => ?_)
  · refine r_t c4861 ?_
    refine r_iconst (v := 1) C dX12_isSign_66 (by decide) ?_
    refine r_goto (tgt := 71) C dX12_isSign_67 (by decide) ?_
    exact r_ireturn C hQ (nar_z (BRd rfl)) dX12_isSign_71 (fun e => by subst e; exact ⟨(BRd rfl), rfl, rfl, rfl, rfl, rfl⟩)
  · refine r_f c4861 ?_
    refine r_iconst (v := 0) C dX12_isSign_70 (by decide) ?_
    exact r_ireturn C hQ (nar_z (BRd rfl)) dX12_isSign_71 (fun e => by subst e; exact ⟨(BRd rfl), rfl, rfl, rfl, rfl, rfl⟩)
  · refine r_icmp_eq (tgt := 66) C ha0 (IRd rfl) dX12_isSign_3 (by decide) (fun c4864 => ?_) (fun c4864 => ?_)
    · exact k4862 (Or.inl (Or.inl (Or.inl (Or.inl (Or.inl (Or.inl (Or.inl (Or.inl (Or.inl (Or.inl c4864))))))))))
    · refine r_iload_n (pc := 6) (j := 0) C dX12_isSign_6 rfl rfl ?_
      refine r_bipush (v := 40) C dX12_isSign_7 (by decide) ?_
      refine r_icmp_eq (tgt := 66) C ha0 (IRd rfl) dX12_isSign_9 (by decide) (fun c4865 => ?_) (fun c4865 => ?_)
      · exact k4862 (Or.inl (Or.inl (Or.inl (Or.inl (Or.inl (Or.inl (Or.inl (Or.inl (Or.inl (Or.inr c4865))))))))))
      · refine r_iload_n (pc := 12) (j := 0) C dX12_isSign_12 rfl rfl ?_
        refine r_bipush (v := 41) C dX12_isSign_13 (by decide) ?_
        refine r_icmp_eq (tgt := 66) C ha0 (IRd rfl) dX12_isSign_15 (by decide) (fun c4866 => ?_) (fun c4866 => ?_)
        · exact k4862 (Or.inl (Or.inl (Or.inl (Or.inl (Or.inl (Or.inl (Or.inl (Or.inl (Or.inr c4866)))))))))
        · refine r_iload_n (pc := 18) (j := 0) C dX12_isSign_18 rfl rfl ?_
          refine r_bipush (v := 60) C dX12_isSign_19 (by decide) ?_
          refine r_icmp_eq (tgt := 66) C ha0 (IRd rfl) dX12_isSign_21 (by decide) (fun c4867 => ?_) (fun c4867 => ?_)
          · exact k4862 (Or.inl (Or.inl (Or.inl (Or.inl (Or.inl (Or.inl (Or.inl (Or.inr c4867))))))))
          · refine r_iload_n (pc := 24) (j := 0) C dX12_isSign_24 rfl rfl ?_
            refine r_bipush (v := 62) C dX12_isSign_25 (by decide) ?_
            refine r_icmp_eq (tgt := 66) C ha0 (IRd rfl) dX12_isSign_27 (by decide) (fun c4868 => ?_) (fun c4868 => ?_)
            · exact k4862 (Or.inl (Or.inl (Or.inl (Or.inl (Or.inl (Or.inl (Or.inr c4868)))))))
            · refine r_iload_n (pc := 30) (j := 0) C dX12_isSign_30 rfl rfl ?_
              refine r_bipush (v := 61) C dX12_isSign_31 (by decide) ?_
              refine r_icmp_eq (tgt := 66) C ha0 (IRd rfl) dX12_isSign_33 (by decide) (fun c4869 => ?_) (fun c4869 => ?_)
              · exact k4862 (Or.inl (Or.inl (Or.inl (Or.inl (Or.inl (Or.inr c4869))))))
              · refine r_iload_n (pc := 36) (j := 0) C dX12_isSign_36 rfl rfl ?_
                refine r_bipush (v := 43) C dX12_isSign_37 (by decide) ?_
                refine r_icmp_eq (tgt := 66) C ha0 (IRd rfl) dX12_isSign_39 (by decide) (fun c4870 => ?_) (fun c4870 => ?_)
                · exact k4862 (Or.inl (Or.inl (Or.inl (Or.inl (Or.inr c4870)))))
                · refine r_iload_n (pc := 42) (j := 0) C dX12_isSign_42 rfl rfl ?_
                  refine r_bipush (v := 45) C dX12_isSign_43 (by decide) ?_
                  refine r_icmp_eq (tgt := 66) C ha0 (IRd rfl) dX12_isSign_45 (by decide) (fun c4871 => ?_) (fun c4871 => ?_)
                  · exact k4862 (Or.inl (Or.inl (Or.inl (Or.inr c4871))))
                  · refine r_iload_n (pc := 48) (j := 0) C dX12_isSign_48 rfl rfl ?_
                    refine r_bipush (v := 42) C dX12_isSign_49 (by decide) ?_
                    refine r_icmp_eq (tgt := 66) C ha0 (IRd rfl) dX12_isSign_51 (by decide) (fun c4872 => ?_) (fun c4872 => ?_)
                    · exact k4862 (Or.inl (Or.inl (Or.inr c4872)))
                    · refine r_iload_n (pc := 54) (j := 0) C dX12_isSign_54 rfl rfl ?_
                      refine r_bipush (v := 47) C dX12_isSign_55 (by decide) ?_
                      refine r_icmp_eq (tgt := 66) C ha0 (IRd rfl) dX12_isSign_57 (by decide) (fun c4873 => ?_) (fun c4873 => ?_)
                      · exact k4862 (Or.inl (Or.inr c4873))
                      · refine r_iload_n (pc := 60) (j := 0) C dX12_isSign_60 rfl rfl ?_
                        refine r_bipush (v := 37) C dX12_isSign_61 (by decide) ?_
                        refine r_icmp_ne (tgt := 70) C ha0 (IRd rfl) dX12_isSign_63 (by decide) (fun c4874 => ?_) (fun c4874 => ?_)
                        · exact k4863 (fun w => w.elim (fun w => w.elim (fun w => w.elim (fun w => w.elim (fun w => w.elim (fun w => w.elim (fun w => w.elim (fun w => w.elim (fun w => w.elim (fun w => w.elim c4864 c4865) c4866) c4867) c4868) c4869) c4870) c4871) c4872) c4873) c4874)
                        · exact k4862 (Or.inr c4874)

def f_X12_token (O : Smo) : Option (Smo) :=
  Option.bind (lp (fun (s5043 : Smo) =>
    Option.bind (f_X12_here 0 s5043) fun (q5050 : Int) =>
    jk (fun (q5052 : Unit) =>
      jn (up2 s5043 262 4 (wr ((s5043 262 4) + 1))) fun (O5062 : Smo) =>
      some (Sum.inl O5062)) fun k5054 =>
    if q5050 = 32 then
      (k5054 ())
    else
      (Option.bind (f_X12_here 0 s5043) fun (q5058 : Int) =>
      if q5058 = 10 then
        (k5054 ())
      else
        (some (Sum.inr s5043)))) FU O) fun (r5063 : Smo) =>
  jn (up2 r5063 262 7 (r5063 262 4)) fun (O5066 : Smo) =>
  Option.bind (f_X12_here 0 O5066) fun (q5068 : Int) =>
  jn (up2 O5066 262 9 0) fun (O5070 : Smo) =>
  jn (up2 O5070 262 8 0) fun (O5071 : Smo) =>
  Option.bind (
    if q5068 < 0 then
      (jn (up2 O5071 262 6 0) fun (O5077 : Smo) =>
      some (0, O5077))
    else
      (if f_X12_isLetter q5068 = 0 then
        (if f_X12_isDigit q5068 = 0 then
          (jn (
            if f_X12_isSign q5068 = 0 then
              (3)
            else
              (q5068)) fun (q5083 : Int) =>
          jn (up2 O5071 262 6 q5083) fun (O5088 : Smo) =>
          some (1, O5088))
        else
          (Option.bind (lp (fun (s5089 : Int × Smo) =>
            Option.bind (f_X12_here s5089.1 s5089.2) fun (q5096 : Int) =>
            if f_X12_isDigit q5096 = 0 then
              (some (Sum.inr (s5089.1, s5089.2)))
            else
              (Option.bind (
                if s5089.1 < 4 then
                  (Option.bind (f_X12_here s5089.1 s5089.2) fun (q5107 : Int) =>
                  jn (up2 s5089.2 262 8 (wr ((wr ((wr (10 * (s5089.2 262 8))) + q5107)) - 48))) fun (O5109 : Smo) =>
                  some O5109)
                else
                  (some s5089.2)) fun (q5100 : Smo) =>
              some (Sum.inl (wr (s5089.1 + 1), q5100)))) FU (0, O5071)) fun (r5110 : Int × Smo) =>
          Option.bind (
            if 4 < r5110.1 then
              (some 3)
            else
              (Option.bind (f_X12_here r5110.1 r5110.2) fun (q5118 : Int) =>
              if f_X12_isLetter q5118 = 0 then
                (some 2)
              else
                (some 3))) fun (q5112 : Int) =>
          jn (up2 r5110.2 262 6 q5112) fun (O5122 : Smo) =>
          some (r5110.1, O5122)))
      else
        (Option.bind (lp (fun (s5123 : Int × Smo) =>
          Option.bind (f_X12_here s5123.1 s5123.2) fun (q5130 : Int) =>
          if f_X12_isLetter q5130 = 0 then
            (some (Sum.inr (s5123.1, s5123.2)))
          else
            (Option.bind (
              if s5123.1 < 8 then
                (Option.bind (f_X12_here s5123.1 s5123.2) fun (q5141 : Int) =>
                jn (up2 s5123.2 262 9 (zlor (zlshl (s5123.2 262 9) 8) q5141)) fun (O5143 : Smo) =>
                some O5143)
              else
                (some s5123.2)) fun (q5134 : Smo) =>
            some (Sum.inl (wr (s5123.1 + 1), q5134)))) FU (0, O5071)) fun (r5144 : Int × Smo) =>
        jn (
          if 8 < r5144.1 then
            (3)
          else
            (1)) fun (q5146 : Int) =>
        jn (up2 r5144.2 262 6 q5146) fun (O5151 : Smo) =>
        some (r5144.1, O5151)))) fun (q5072 : Int × Smo) =>
  if q5072.2 262 6 = 3 then
    (some q5072.2)
  else
    (jn (up2 q5072.2 262 4 (wr ((q5072.2 262 4) + q5072.1))) fun (O5155 : Smo) =>
    some O5155)
set_option maxRecDepth 100000 in
set_option maxHeartbeats 4000000 in
theorem m_X12_token {l : Launch} {E : EwT} {S : Sst} {O : Smo}  {q : Smo} (hq : f_X12_token O = some q) : MetG l E yX12_token cX12_token 3 none 1 21 0 0 n0 R0 S O [.ref (zad E 262)] (True) none n0 R0 S q := by
  refine ofG (L0 := [(0, .ref (zad E 262))]) hq (by decide +kernel) (Nat.le_of_ble_eq_true rfl) rfl (fun K _ C hQ => ?_)
  unfold f_X12_token
  refine r_loop1 (fun s5043 : Smo => True) (fun s5043 => S) (fun s5043 => s5043) (fun s5043 => [(0, .ref (zad E 262))]) [] (fun r5063 : Smo => True) (fun r5063 => S) (fun r5063 => r5063) (fun r5063 => [(0, .ref (zad E 262))]) 33 (fun r5063 h5064 => ?_) (fun k5045 k5047 k5046 k5048 s5043 h5044 => ?_) trivial
  · refine r_aload_n (pc := 33) (j := 0) C dX12_token_33 rfl rfl ?_
    refine r_aload_n (pc := 34) (j := 0) C dX12_token_34 rfl rfl ?_
    refine r_getO (j := 4) C cl_X12 kd_262 ln_262 gc_262 (by decide) (by decide) rfl q_1557 dX12_token_35 (fun h5065 => ?_)
    refine r_putO C cl_X12 kd_262 ln_262 gc_262 (by decide) (by decide) rfl rfl rfl h5065 q_1560 dX12_token_38 (fun O5066 => ?_)
    refine r_aload_n (pc := 41) (j := 0) C dX12_token_41 rfl rfl ?_
    refine r_iconst (v := 0) C dX12_token_42 (by decide) ?_
    refine r_bd (fun q5068 e5069 => ?_)
    refine r_cV1 (pc := 43) (k := 262) (As := [.int (zi 0)]) (st := []) C (m_X12_here (a1 := 0) (IRd rfl) e5069) cal_X12_here cl_X12 kd_262 ln_262 q_1819 dX12_token_43 rfl rfl (Nat.le_of_ble_eq_true rfl) (Nat.le_of_ble_eq_true rfl) (Nat.le_of_ble_eq_true rfl) (Nat.le_of_ble_eq_true rfl) (Nat.le_of_ble_eq_true rfl) (fun h5067 => ?_)
    refine r_istore_n (L' := [(1, .int (zi q5068)), (0, .ref (zad E 262))]) C dX12_token_46 rfl (by decide) rfl ?_
    refine r_iconst (v := 0) C dX12_token_47 (by decide) ?_
    refine r_istore_n (L' := [(2, .int (zi 0)), (1, .int (zi q5068)), (0, .ref (zad E 262))]) C dX12_token_48 rfl (by decide) rfl ?_
    refine r_aload_n (pc := 49) (j := 2) C dX12_token_49 rfl rfl ?_
    refine r_lconst (v := 0) C dX12_token_50 (by decide) ?_
    refine r_putOl C cl_X12 kd_262 ln_262 gc_262 (by decide) (by decide) rfl rfl rfl (LRd rfl) q_1562 dX12_token_51 (fun O5070 => ?_)
    refine r_aload_n (pc := 54) (j := 2) C dX12_token_54 rfl rfl ?_
    refine r_iconst (v := 0) C dX12_token_55 (by decide) ?_
    refine r_putO C cl_X12 kd_262 ln_262 gc_262 (by decide) (by decide) rfl rfl rfl (IRd rfl) q_1561 dX12_token_56 (fun O5071 => ?_)
    refine r_iload_n (pc := 59) (j := 1) C dX12_token_59 rfl rfl ?_
    refine r_joinb (fun q5072 : Int × Smo => IR q5072.1) (fun q5072 => S) (fun q5072 => q5072.2) (fun q5072 => [(0, .ref (zad E 262)), (2, .int (zi q5072.1))]) 232 (fun q5072 => []) (fun q5072 h5073 => ?_) (fun k5074 k5075 => ?_)
    · refine r_aload_n (pc := 232) (j := 0) C dX12_token_232 rfl rfl ?_
      refine r_getO (j := 6) C cl_X12 kd_262 ln_262 gc_262 (by decide) (by decide) rfl q_1559 dX12_token_233 (fun h5152 => ?_)
      refine r_iconst (v := 3) C dX12_token_236 (by decide) ?_
      refine r_icmp_eq (tgt := 250) C h5152 (IRd rfl) dX12_token_237 (by decide) (fun c5153 => ?_) (fun c5153 => ?_)
      · refine r_t c5153 ?_
        exact r_return C hQ dX12_token_250 (fun e => by cases e; exact ⟨trivial, rfl, rfl, rfl, rfl, rfl⟩)
      · refine r_f c5153 ?_
        refine r_aload_n (pc := 240) (j := 0) C dX12_token_240 rfl rfl ?_
        refine r_dup C dX12_token_241 rfl ?_
        refine r_getO (j := 4) C cl_X12 kd_262 ln_262 gc_262 (by decide) (by decide) rfl q_1557 dX12_token_242 (fun h5154 => ?_)
        refine r_iload_n (pc := 245) (j := 1) C dX12_token_245 rfl rfl ?_
        refine r_iadd C dX12_token_246 ?_
        refine r_putO C cl_X12 kd_262 ln_262 gc_262 (by decide) (by decide) rfl rfl rfl (IR_wr _) q_1557 dX12_token_247 (fun O5155 => ?_)
        exact r_return C hQ dX12_token_250 (fun e => by cases e; exact ⟨trivial, rfl, rfl, rfl, rfl, rfl⟩)
    · refine r_if_ge (tgt := 71) C h5067 dX12_token_60 (by decide) (fun c5076 => ?_) (fun c5076 => ?_)
      · refine r_bf c5076 ?_
        refine r_iload_n (pc := 71) (j := 1) C dX12_token_71 rfl rfl ?_
        refine r_cS1 (pc := 72) (As := [.int (zi q5068)]) (st := []) C (m_X12_isLetter (a0 := q5068) h5067 rfl) cal_X12_isLetter q_1823 dX12_token_72 rfl rfl (Nat.le_of_ble_eq_true rfl) (Nat.le_of_ble_eq_true rfl) (Nat.le_of_ble_eq_true rfl) (Nat.le_of_ble_eq_true rfl) (Nat.le_of_ble_eq_true rfl) (fun h5078 => ?_)
        refine r_if_eq (tgt := 137) C h5078.ir dX12_token_75 (by decide) (fun c5079 => ?_) (fun c5079 => ?_)
        · refine r_bt c5079 ?_
          refine r_iload_n (pc := 137) (j := 1) C dX12_token_137 rfl rfl ?_
          refine r_cS1 (pc := 138) (As := [.int (zi q5068)]) (st := []) C (m_X12_isDigit (a0 := q5068) h5067 rfl) cal_X12_isDigit q_1826 dX12_token_138 rfl rfl (Nat.le_of_ble_eq_true rfl) (Nat.le_of_ble_eq_true rfl) (Nat.le_of_ble_eq_true rfl) (Nat.le_of_ble_eq_true rfl) (Nat.le_of_ble_eq_true rfl) (fun h5080 => ?_)
          refine r_if_eq (tgt := 214) C h5080.ir dX12_token_141 (by decide) (fun c5081 => ?_) (fun c5081 => ?_)
          · refine r_bt c5081 ?_
            refine r_iconst (v := 1) C dX12_token_214 (by decide) ?_
            refine r_istore_n (L' := [(2, .int (zi 1)), (1, .int (zi q5068)), (0, .ref (zad E 262))]) C dX12_token_215 rfl (by decide) rfl ?_
            refine r_aload_n (pc := 216) (j := 2) C dX12_token_216 rfl rfl ?_
            refine r_iload_n (pc := 217) (j := 1) C dX12_token_217 rfl rfl ?_
            refine r_cS1 (pc := 218) (As := [.int (zi q5068)]) (st := [.ref (zad E 262)]) C (m_X12_isSign (a0 := q5068) h5067 rfl) cal_X12_isSign q_1829 dX12_token_218 rfl rfl (Nat.le_of_ble_eq_true rfl) (Nat.le_of_ble_eq_true rfl) (Nat.le_of_ble_eq_true rfl) (Nat.le_of_ble_eq_true rfl) (Nat.le_of_ble_eq_true rfl) (fun h5082 => ?_)
            refine r_bj ?_
            refine r_join (fun q5083 : Int => IR q5083) (fun q5083 => S) (fun q5083 => O5071) (fun q5083 => [(0, .ref (zad E 262)), (2, .int (zi 1))]) 229 (fun q5083 => [.int (zi q5083), .ref (zad E 262)]) (fun q5083 h5084 => ?_) (fun k5085 k5086 => ?_)
            · refine r_bj ?_
              refine r_putO C cl_X12 kd_262 ln_262 gc_262 (by decide) (by decide) rfl rfl rfl h5084 q_1559 dX12_token_229 (fun O5088 => ?_)
              exact k5075 (1, O5088) (IRd rfl)
            · refine r_if_eq (tgt := 228) C h5082.ir dX12_token_221 (by decide) (fun c5087 => ?_) (fun c5087 => ?_)
              · refine r_jt c5087 ?_
                refine r_iconst (v := 3) C dX12_token_228 (by decide) ?_
                refine r_L (L' := [(0, .ref (zad E 262)), (2, .int (zi 1))]) [2, 0] rfl ?_
                exact k5086 3 (IRd rfl)
              · refine r_jf c5087 ?_
                refine r_iload_n (pc := 224) (j := 1) C dX12_token_224 rfl rfl ?_
                refine r_goto (tgt := 229) C dX12_token_225 (by decide) ?_
                refine r_L (L' := [(0, .ref (zad E 262)), (2, .int (zi 1))]) [2, 0] rfl ?_
                exact k5086 q5068 h5067
          · refine r_bf c5081 ?_
            refine r_L (L' := [(0, .ref (zad E 262)), (2, .int (zi 0))]) [2, 0] rfl ?_
            refine r_bb ?_
            refine r_loop1 (fun s5089 : Int × Smo => IR s5089.1) (fun s5089 => S) (fun s5089 => s5089.2) (fun s5089 => [(0, .ref (zad E 262)), (2, .int (zi s5089.1))]) [] (fun r5110 : Int × Smo => IR r5110.1) (fun r5110 => S) (fun r5110 => r5110.2) (fun r5110 => [(0, .ref (zad E 262)), (2, .int (zi r5110.1))]) 186 (fun r5110 h5111 => ?_) (fun k5091 k5093 k5092 k5094 s5089 h5090 => ?_) (IRd rfl)
            · refine r_aload_n (pc := 186) (j := 0) C dX12_token_186 rfl rfl ?_
              refine r_iload_n (pc := 187) (j := 1) C dX12_token_187 rfl rfl ?_
              refine r_iconst (v := 4) C dX12_token_188 (by decide) ?_
              refine r_bb ?_
              refine r_joinb (fun q5112 : Int => IR q5112) (fun q5112 => S) (fun q5112 => r5110.2) (fun q5112 => [(0, .ref (zad E 262)), (2, .int (zi r5110.1))]) 208 (fun q5112 => [.int (zi q5112), .ref (zad E 262)]) (fun q5112 h5113 => ?_) (fun k5114 k5115 => ?_)
              · refine r_bj ?_
                refine r_putO C cl_X12 kd_262 ln_262 gc_262 (by decide) (by decide) rfl rfl rfl h5113 q_1559 dX12_token_208 (fun O5122 => ?_)
                refine r_goto (tgt := 232) C dX12_token_211 (by decide) ?_
                exact k5075 (r5110.1, O5122) h5111
              · refine r_icmp_gt (tgt := 203) C h5111 (IRd rfl) dX12_token_189 (by decide) (fun c5116 => ?_) (fun c5116 => ?_)
                · refine r_bt c5116 ?_
                  refine r_iconst (v := 3) C dX12_token_203 (by decide) ?_
                  refine r_goto (tgt := 208) C dX12_token_204 (by decide) ?_
                  exact k5115 3 (IRd rfl)
                · refine r_bf c5116 ?_
                  refine r_aload_n (pc := 192) (j := 0) C dX12_token_192 rfl rfl ?_
                  refine r_iload_n (pc := 193) (j := 1) C dX12_token_193 rfl rfl ?_
                  refine r_bb ?_
                  refine r_bd (fun q5118 e5119 => ?_)
                  refine r_cV1 (pc := 194) (k := 262) (As := [.int (zi r5110.1)]) (st := [.ref (zad E 262)]) C (m_X12_here (a1 := r5110.1) h5111 e5119) cal_X12_here cl_X12 kd_262 ln_262 q_1819 dX12_token_194 rfl rfl (Nat.le_of_ble_eq_true rfl) (Nat.le_of_ble_eq_true rfl) (Nat.le_of_ble_eq_true rfl) (Nat.le_of_ble_eq_true rfl) (Nat.le_of_ble_eq_true rfl) (fun h5117 => ?_)
                  refine r_cS1 (pc := 197) (As := [.int (zi q5118)]) (st := [.ref (zad E 262)]) C (m_X12_isLetter (a0 := q5118) h5117 rfl) cal_X12_isLetter q_1823 dX12_token_197 rfl rfl (Nat.le_of_ble_eq_true rfl) (Nat.le_of_ble_eq_true rfl) (Nat.le_of_ble_eq_true rfl) (Nat.le_of_ble_eq_true rfl) (Nat.le_of_ble_eq_true rfl) (fun h5120 => ?_)
                  refine r_if_eq (tgt := 207) C h5120.ir dX12_token_200 (by decide) (fun c5121 => ?_) (fun c5121 => ?_)
                  · refine r_bt c5121 ?_
                    refine r_iconst (v := 2) C dX12_token_207 (by decide) ?_
                    exact k5115 2 (IRd rfl)
                  · refine r_bf c5121 ?_
                    refine r_iconst (v := 3) C dX12_token_203 (by decide) ?_
                    refine r_goto (tgt := 208) C dX12_token_204 (by decide) ?_
                    exact k5115 3 (IRd rfl)
            · refine r_aload_n (pc := 144) (j := 0) C dX12_token_144 rfl rfl ?_
              refine r_iload_n (pc := 145) (j := 1) C dX12_token_145 rfl rfl ?_
              refine r_bb ?_
              refine r_bd (fun q5096 e5097 => ?_)
              refine r_cV1 (pc := 146) (k := 262) (As := [.int (zi s5089.1)]) (st := []) C (m_X12_here (a1 := s5089.1) h5090 e5097) cal_X12_here cl_X12 kd_262 ln_262 q_1819 dX12_token_146 rfl rfl (Nat.le_of_ble_eq_true rfl) (Nat.le_of_ble_eq_true rfl) (Nat.le_of_ble_eq_true rfl) (Nat.le_of_ble_eq_true rfl) (Nat.le_of_ble_eq_true rfl) (fun h5095 => ?_)
              refine r_cS1 (pc := 149) (As := [.int (zi q5096)]) (st := []) C (m_X12_isDigit (a0 := q5096) h5095 rfl) cal_X12_isDigit q_1826 dX12_token_149 rfl rfl (Nat.le_of_ble_eq_true rfl) (Nat.le_of_ble_eq_true rfl) (Nat.le_of_ble_eq_true rfl) (Nat.le_of_ble_eq_true rfl) (Nat.le_of_ble_eq_true rfl) (fun h5098 => ?_)
              refine r_if_eq (tgt := 186) C h5098.ir dX12_token_152 (by decide) (fun c5099 => ?_) (fun c5099 => ?_)
              · refine r_bt c5099 ?_
                exact k5094 (s5089.1, s5089.2) h5090
              · refine r_bf c5099 ?_
                refine r_iload_n (pc := 155) (j := 1) C dX12_token_155 rfl rfl ?_
                refine r_iconst (v := 4) C dX12_token_156 (by decide) ?_
                refine r_bb ?_
                refine r_joinb (fun q5100 : Smo => True) (fun q5100 => S) (fun q5100 => q5100) (fun q5100 => [(0, .ref (zad E 262)), (2, .int (zi s5089.1))]) 180 (fun q5100 => []) (fun q5100 h5101 => ?_) (fun k5102 k5103 => ?_)
                · refine r_iinc (j := 1) (L' := [(2, .int (zi (wr (s5089.1 + 1)))), (0, .ref (zad E 262))]) C dX12_token_180 rfl (by decide) rfl ?_
                  refine r_goto (tgt := 144) C dX12_token_183 (by decide) ?_
                  refine r_L (L' := [(0, .ref (zad E 262)), (2, .int (zi (wr (s5089.1 + 1))))]) [1, 0] rfl ?_
                  exact k5092 (wr (s5089.1 + 1), q5100) (IR_wr _)
                · refine r_icmp_ge (tgt := 180) C h5090 (IRd rfl) dX12_token_157 (by decide) (fun c5104 => ?_) (fun c5104 => ?_)
                  · refine r_bf c5104 ?_
                    exact k5103 s5089.2 trivial
                  · refine r_bt c5104 ?_
                    refine r_aload_n (pc := 160) (j := 0) C dX12_token_160 rfl rfl ?_
                    refine r_bipush (v := 10) C dX12_token_161 (by decide) ?_
                    refine r_aload_n (pc := 163) (j := 0) C dX12_token_163 rfl rfl ?_
                    refine r_getO (j := 8) C cl_X12 kd_262 ln_262 gc_262 (by decide) (by decide) rfl q_1561 dX12_token_164 (fun h5105 => ?_)
                    refine r_imul C dX12_token_167 ?_
                    refine r_aload_n (pc := 168) (j := 0) C dX12_token_168 rfl rfl ?_
                    refine r_iload_n (pc := 169) (j := 1) C dX12_token_169 rfl rfl ?_
                    refine r_bb ?_
                    refine r_bd (fun q5107 e5108 => ?_)
                    refine r_cV1 (pc := 170) (k := 262) (As := [.int (zi s5089.1)]) (st := [.int (zi (wr (10 * (s5089.2 262 8)))), .ref (zad E 262)]) C (m_X12_here (a1 := s5089.1) h5090 e5108) cal_X12_here cl_X12 kd_262 ln_262 q_1819 dX12_token_170 rfl rfl (Nat.le_of_ble_eq_true rfl) (Nat.le_of_ble_eq_true rfl) (Nat.le_of_ble_eq_true rfl) (Nat.le_of_ble_eq_true rfl) (Nat.le_of_ble_eq_true rfl) (fun h5106 => ?_)
                    refine r_iadd C dX12_token_173 ?_
                    refine r_bipush (v := 48) C dX12_token_174 (by decide) ?_
                    refine r_isub C dX12_token_176 ?_
                    refine r_bj ?_
                    refine r_putO C cl_X12 kd_262 ln_262 gc_262 (by decide) (by decide) rfl rfl rfl (IR_wr _) q_1561 dX12_token_177 (fun O5109 => ?_)
                    exact k5103 O5109 trivial
        · refine r_bf c5079 ?_
          refine r_L (L' := [(0, .ref (zad E 262)), (2, .int (zi 0))]) [2, 0] rfl ?_
          refine r_bb ?_
          refine r_loop1 (fun s5123 : Int × Smo => IR s5123.1) (fun s5123 => S) (fun s5123 => s5123.2) (fun s5123 => [(0, .ref (zad E 262)), (2, .int (zi s5123.1))]) [] (fun r5144 : Int × Smo => IR r5144.1) (fun r5144 => S) (fun r5144 => r5144.2) (fun r5144 => [(0, .ref (zad E 262)), (2, .int (zi r5144.1))]) 119 (fun r5144 h5145 => ?_) (fun k5125 k5127 k5126 k5128 s5123 h5124 => ?_) (IRd rfl)
          · refine r_aload_n (pc := 119) (j := 0) C dX12_token_119 rfl rfl ?_
            refine r_iload_n (pc := 120) (j := 1) C dX12_token_120 rfl rfl ?_
            refine r_bipush (v := 8) C dX12_token_121 (by decide) ?_
            refine r_bj ?_
            refine r_join (fun q5146 : Int => IR q5146) (fun q5146 => S) (fun q5146 => r5144.2) (fun q5146 => [(0, .ref (zad E 262)), (2, .int (zi r5144.1))]) 131 (fun q5146 => [.int (zi q5146), .ref (zad E 262)]) (fun q5146 h5147 => ?_) (fun k5148 k5149 => ?_)
            · refine r_bj ?_
              refine r_putO C cl_X12 kd_262 ln_262 gc_262 (by decide) (by decide) rfl rfl rfl h5147 q_1559 dX12_token_131 (fun O5151 => ?_)
              refine r_goto (tgt := 232) C dX12_token_134 (by decide) ?_
              exact k5075 (r5144.1, O5151) h5145
            · refine r_icmp_le (tgt := 130) C h5145 (IRd rfl) dX12_token_123 (by decide) (fun c5150 => ?_) (fun c5150 => ?_)
              · refine r_jf c5150 ?_
                refine r_iconst (v := 1) C dX12_token_130 (by decide) ?_
                exact k5149 1 (IRd rfl)
              · refine r_jt c5150 ?_
                refine r_iconst (v := 3) C dX12_token_126 (by decide) ?_
                refine r_goto (tgt := 131) C dX12_token_127 (by decide) ?_
                exact k5149 3 (IRd rfl)
          · refine r_aload_n (pc := 78) (j := 0) C dX12_token_78 rfl rfl ?_
            refine r_iload_n (pc := 79) (j := 1) C dX12_token_79 rfl rfl ?_
            refine r_bb ?_
            refine r_bd (fun q5130 e5131 => ?_)
            refine r_cV1 (pc := 80) (k := 262) (As := [.int (zi s5123.1)]) (st := []) C (m_X12_here (a1 := s5123.1) h5124 e5131) cal_X12_here cl_X12 kd_262 ln_262 q_1819 dX12_token_80 rfl rfl (Nat.le_of_ble_eq_true rfl) (Nat.le_of_ble_eq_true rfl) (Nat.le_of_ble_eq_true rfl) (Nat.le_of_ble_eq_true rfl) (Nat.le_of_ble_eq_true rfl) (fun h5129 => ?_)
            refine r_cS1 (pc := 83) (As := [.int (zi q5130)]) (st := []) C (m_X12_isLetter (a0 := q5130) h5129 rfl) cal_X12_isLetter q_1823 dX12_token_83 rfl rfl (Nat.le_of_ble_eq_true rfl) (Nat.le_of_ble_eq_true rfl) (Nat.le_of_ble_eq_true rfl) (Nat.le_of_ble_eq_true rfl) (Nat.le_of_ble_eq_true rfl) (fun h5132 => ?_)
            refine r_if_eq (tgt := 119) C h5132.ir dX12_token_86 (by decide) (fun c5133 => ?_) (fun c5133 => ?_)
            · refine r_bt c5133 ?_
              exact k5128 (s5123.1, s5123.2) h5124
            · refine r_bf c5133 ?_
              refine r_iload_n (pc := 89) (j := 1) C dX12_token_89 rfl rfl ?_
              refine r_bipush (v := 8) C dX12_token_90 (by decide) ?_
              refine r_bb ?_
              refine r_joinb (fun q5134 : Smo => True) (fun q5134 => S) (fun q5134 => q5134) (fun q5134 => [(0, .ref (zad E 262)), (2, .int (zi s5123.1))]) 113 (fun q5134 => []) (fun q5134 h5135 => ?_) (fun k5136 k5137 => ?_)
              · refine r_iinc (j := 1) (L' := [(2, .int (zi (wr (s5123.1 + 1)))), (0, .ref (zad E 262))]) C dX12_token_113 rfl (by decide) rfl ?_
                refine r_goto (tgt := 78) C dX12_token_116 (by decide) ?_
                refine r_L (L' := [(0, .ref (zad E 262)), (2, .int (zi (wr (s5123.1 + 1))))]) [1, 0] rfl ?_
                exact k5126 (wr (s5123.1 + 1), q5134) (IR_wr _)
              · refine r_icmp_ge (tgt := 113) C h5124 (IRd rfl) dX12_token_92 (by decide) (fun c5138 => ?_) (fun c5138 => ?_)
                · refine r_bf c5138 ?_
                  exact k5137 s5123.2 trivial
                · refine r_bt c5138 ?_
                  refine r_aload_n (pc := 95) (j := 0) C dX12_token_95 rfl rfl ?_
                  refine r_aload_n (pc := 96) (j := 0) C dX12_token_96 rfl rfl ?_
                  refine r_getOl (j := 9) C cl_X12 kd_262 ln_262 gc_262 (by decide) (by decide) rfl q_1562 dX12_token_97 (fun h5139 => ?_)
                  refine r_bipush (v := 8) C dX12_token_100 (by decide) ?_
                  refine r_lshl C dX12_token_102 ?_
                  refine r_aload_n (pc := 103) (j := 0) C dX12_token_103 rfl rfl ?_
                  refine r_iload_n (pc := 104) (j := 1) C dX12_token_104 rfl rfl ?_
                  refine r_bb ?_
                  refine r_bd (fun q5141 e5142 => ?_)
                  refine r_cV1 (pc := 105) (k := 262) (As := [.int (zi s5123.1)]) (st := [.long (zl (zlshl (s5123.2 262 9) 8)), .ref (zad E 262)]) C (m_X12_here (a1 := s5123.1) h5124 e5142) cal_X12_here cl_X12 kd_262 ln_262 q_1819 dX12_token_105 rfl rfl (Nat.le_of_ble_eq_true rfl) (Nat.le_of_ble_eq_true rfl) (Nat.le_of_ble_eq_true rfl) (Nat.le_of_ble_eq_true rfl) (Nat.le_of_ble_eq_true rfl) (fun h5140 => ?_)
                  refine r_i2l C h5140 dX12_token_108 ?_
                  refine r_lor C dX12_token_109 ?_
                  refine r_bj ?_
                  refine r_putOl C cl_X12 kd_262 ln_262 gc_262 (by decide) (by decide) rfl rfl rfl (i64_LR _) q_1562 dX12_token_110 (fun O5143 => ?_)
                  exact k5137 O5143 trivial
      · refine r_bt c5076 ?_
        refine r_aload_n (pc := 63) (j := 2) C dX12_token_63 rfl rfl ?_
        refine r_iconst (v := 0) C dX12_token_64 (by decide) ?_
        refine r_bj ?_
        refine r_putO C cl_X12 kd_262 ln_262 gc_262 (by decide) (by decide) rfl rfl rfl (IRd rfl) q_1559 dX12_token_65 (fun O5077 => ?_)
        refine r_goto (tgt := 232) C dX12_token_68 (by decide) ?_
        refine r_L (L' := [(0, .ref (zad E 262)), (2, .int (zi 0))]) [2, 0] rfl ?_
        exact k5075 (0, O5077) (IRd rfl)
  · refine r_aload_n (pc := 0) (j := 0) C dX12_token_0 rfl rfl ?_
    refine r_iconst (v := 0) C dX12_token_1 (by decide) ?_
    refine r_bb ?_
    refine r_bd (fun q5050 e5051 => ?_)
    refine r_cV1 (pc := 2) (k := 262) (As := [.int (zi 0)]) (st := []) C (m_X12_here (a1 := 0) (IRd rfl) e5051) cal_X12_here cl_X12 kd_262 ln_262 q_1819 dX12_token_2 rfl rfl (Nat.le_of_ble_eq_true rfl) (Nat.le_of_ble_eq_true rfl) (Nat.le_of_ble_eq_true rfl) (Nat.le_of_ble_eq_true rfl) (Nat.le_of_ble_eq_true rfl) (fun h5049 => ?_)
    refine r_bipush (v := 32) C dX12_token_5 (by decide) ?_
    refine r_jkb (fun q5052 : Unit => True) (fun q5052 => S) (fun q5052 => s5043) (fun q5052 => [(0, .ref (zad E 262))]) 20 (fun q5052 => []) (fun q5052 h5053 => ?_) (fun k5054 k5055 => ?_)
    · refine r_aload_n (pc := 20) (j := 0) C dX12_token_20 rfl rfl ?_
      refine r_dup C dX12_token_21 rfl ?_
      refine r_getO (j := 4) C cl_X12 kd_262 ln_262 gc_262 (by decide) (by decide) rfl q_1557 dX12_token_22 (fun h5061 => ?_)
      refine r_iconst (v := 1) C dX12_token_25 (by decide) ?_
      refine r_iadd C dX12_token_26 ?_
      refine r_bj ?_
      refine r_putO C cl_X12 kd_262 ln_262 gc_262 (by decide) (by decide) rfl rfl rfl (IR_wr _) q_1557 dX12_token_27 (fun O5062 => ?_)
      refine r_goto (tgt := 0) C dX12_token_30 (by decide) ?_
      exact k5046 O5062 trivial
    · refine r_icmp_eq (tgt := 20) C h5049 (IRd rfl) dX12_token_7 (by decide) (fun c5056 => ?_) (fun c5056 => ?_)
      · refine r_bt c5056 ?_
        exact k5055 () trivial
      · refine r_bf c5056 ?_
        refine r_aload_n (pc := 10) (j := 0) C dX12_token_10 rfl rfl ?_
        refine r_iconst (v := 0) C dX12_token_11 (by decide) ?_
        refine r_bb ?_
        refine r_bd (fun q5058 e5059 => ?_)
        refine r_cV1 (pc := 12) (k := 262) (As := [.int (zi 0)]) (st := []) C (m_X12_here (a1 := 0) (IRd rfl) e5059) cal_X12_here cl_X12 kd_262 ln_262 q_1819 dX12_token_12 rfl rfl (Nat.le_of_ble_eq_true rfl) (Nat.le_of_ble_eq_true rfl) (Nat.le_of_ble_eq_true rfl) (Nat.le_of_ble_eq_true rfl) (Nat.le_of_ble_eq_true rfl) (fun h5057 => ?_)
        refine r_bipush (v := 10) C dX12_token_15 (by decide) ?_
        refine r_icmp_ne (tgt := 33) C h5057 (IRd rfl) dX12_token_17 (by decide) (fun c5060 => ?_) (fun c5060 => ?_)
        · refine r_bf c5060 ?_
          exact k5048 s5043 trivial
        · refine r_bt c5060 ?_
          exact k5055 () trivial

def f_X12_wrong (a1 : Int) (O : Smo) : Smo :=
  if 0 < O 262 2 then
    (O)
  else
    (jn (
      if O 262 6 = 3 then
        (1)
      else
        (a1)) fun (q5159 : Int) =>
    jn (up2 O 262 2 q5159) fun (O5164 : Smo) =>
    jn (up2 O5164 262 3 (O5164 262 7)) fun (O5166 : Smo) =>
    O5166)
set_option maxRecDepth 100000 in
set_option maxHeartbeats 4000000 in
theorem m_X12_wrong {l : Launch} {E : EwT} {S : Sst} {O : Smo} {a1 : Int} (ha1 : IR a1) {q : Smo} (hq : f_X12_wrong a1 O = q) : MetG l E yX12_wrong cX12_wrong 2 none 0 0 0 0 n0 R0 S O [.ref (zad E 262), .int (zi a1)] (True) none n0 R0 S q := by
  refine ofG (L0 := [(0, .ref (zad E 262)), (1, .int (zi a1))]) hq (by decide +kernel) (Nat.le_of_ble_eq_true rfl) rfl (fun K _ C hQ => ?_)
  unfold f_X12_wrong
  refine r_aload_n (pc := 0) (j := 0) C dX12_wrong_0 rfl rfl ?_
  refine r_getO (j := 2) C cl_X12 kd_262 ln_262 gc_262 (by decide) (by decide) rfl q_1555 dX12_wrong_1 (fun h5156 => ?_)
  refine r_if_le (tgt := 8) C h5156 dX12_wrong_4 (by decide) (fun c5157 => ?_) (fun c5157 => ?_)
  · refine r_f c5157 ?_
    refine r_aload_n (pc := 8) (j := 0) C dX12_wrong_8 rfl rfl ?_
    refine r_aload_n (pc := 9) (j := 0) C dX12_wrong_9 rfl rfl ?_
    refine r_getO (j := 6) C cl_X12 kd_262 ln_262 gc_262 (by decide) (by decide) rfl q_1559 dX12_wrong_10 (fun h5158 => ?_)
    refine r_iconst (v := 3) C dX12_wrong_13 (by decide) ?_
    refine r_join (fun q5159 : Int => IR q5159) (fun q5159 => S) (fun q5159 => O) (fun q5159 => [(0, .ref (zad E 262))]) 22 (fun q5159 => [.int (zi q5159), .ref (zad E 262)]) (fun q5159 h5160 => ?_) (fun k5161 k5162 => ?_)
    · refine r_putO C cl_X12 kd_262 ln_262 gc_262 (by decide) (by decide) rfl rfl rfl h5160 q_1555 dX12_wrong_22 (fun O5164 => ?_)
      refine r_aload_n (pc := 25) (j := 0) C dX12_wrong_25 rfl rfl ?_
      refine r_aload_n (pc := 26) (j := 0) C dX12_wrong_26 rfl rfl ?_
      refine r_getO (j := 7) C cl_X12 kd_262 ln_262 gc_262 (by decide) (by decide) rfl q_1560 dX12_wrong_27 (fun h5165 => ?_)
      refine r_putO C cl_X12 kd_262 ln_262 gc_262 (by decide) (by decide) rfl rfl rfl h5165 q_1556 dX12_wrong_30 (fun O5166 => ?_)
      exact r_return C hQ dX12_wrong_33 (fun e => by subst e; exact ⟨trivial, rfl, rfl, rfl, rfl, rfl⟩)
    · refine r_icmp_ne (tgt := 21) C h5158 (IRd rfl) dX12_wrong_14 (by decide) (fun c5163 => ?_) (fun c5163 => ?_)
      · refine r_jf c5163 ?_
        refine r_iload_n (pc := 21) (j := 1) C dX12_wrong_21 rfl rfl ?_
        refine r_L (L' := [(0, .ref (zad E 262))]) [0] rfl ?_
        exact k5162 a1 ha1
      · refine r_jt c5163 ?_
        refine r_iconst (v := 1) C dX12_wrong_17 (by decide) ?_
        refine r_goto (tgt := 22) C dX12_wrong_18 (by decide) ?_
        refine r_L (L' := [(0, .ref (zad E 262))]) [0] rfl ?_
        exact k5162 1 (IRd rfl)
  · refine r_t c5157 ?_
    exact r_return C hQ dX12_wrong_7 (fun e => by subst e; exact ⟨trivial, rfl, rfl, rfl, rfl, rfl⟩)

def f_X12_isWord (a1 : Int) (O : Smo) : Int :=
  if (O 262 6 = 1 ∧ zlcmp (O 262 9) a1 = 0) then
    (1)
  else
    (0)
set_option maxRecDepth 100000 in
set_option maxHeartbeats 4000000 in
theorem m_X12_isWord {l : Launch} {E : EwT} {S : Sst} {O : Smo} {a1 : Int} (ha1 : LR a1) {q : Int} (hq : f_X12_isWord a1 O = q) : MetG l E yX12_isWord cX12_isWord 3 (some .boolean) 0 0 0 0 n0 R0 S O [.ref (zad E 262), .long (zl a1)] (BR q) (some (.int (zi q))) n0 R0 S O := by
  refine ofG (L0 := [(0, .ref (zad E 262)), (1, .long (zl a1))]) hq (by decide +kernel) (Nat.le_of_ble_eq_true rfl) rfl (fun K _ C hQ => ?_)
  unfold f_X12_isWord
  refine r_aload_n (pc := 0) (j := 0) C dX12_isWord_0 rfl rfl ?_
  refine r_getO (j := 6) C cl_X12 kd_262 ln_262 gc_262 (by decide) (by decide) rfl q_1559 dX12_isWord_1 (fun h5167 => ?_)
  refine r_iconst (v := 1) C dX12_isWord_4 (by decide) ?_
  refine r_cut (O 262 6 = 1 ∧ zlcmp (O 262 9) a1 = 0) 17 21 [] (fun c5169 => ?_) (fun c5169 => ?_) (fun k5170 k5171 => ?_)
  · refine r_t c5169 ?_
    refine r_iconst (v := 1) C dX12_isWord_17 (by decide) ?_
    refine r_goto (tgt := 22) C dX12_isWord_18 (by decide) ?_
    exact r_ireturn C hQ (nar_z (BRd rfl)) dX12_isWord_22 (fun e => by subst e; exact ⟨(BRd rfl), rfl, rfl, rfl, rfl, rfl⟩)
  · refine r_f c5169 ?_
    refine r_iconst (v := 0) C dX12_isWord_21 (by decide) ?_
    exact r_ireturn C hQ (nar_z (BRd rfl)) dX12_isWord_22 (fun e => by subst e; exact ⟨(BRd rfl), rfl, rfl, rfl, rfl, rfl⟩)
  · refine r_icmp_ne (tgt := 21) C h5167 (IRd rfl) dX12_isWord_5 (by decide) (fun c5172 => ?_) (fun c5172 => ?_)
    · exact k5171 (fun w => c5172 w.1)
    · refine r_aload_n (pc := 8) (j := 0) C dX12_isWord_8 rfl rfl ?_
      refine r_getOl (j := 9) C cl_X12 kd_262 ln_262 gc_262 (by decide) (by decide) rfl q_1562 dX12_isWord_9 (fun h5168 => ?_)
      refine r_lload_n (pc := 12) (j := 1) C dX12_isWord_12 rfl rfl ?_
      refine r_lcmp C h5168 ha1 dX12_isWord_13 ?_
      refine r_if_ne (tgt := 21) C (zlcmp_IR _ _) dX12_isWord_14 (by decide) (fun c5173 => ?_) (fun c5173 => ?_)
      · exact k5171 (fun w => c5173 w.2)
      · exact k5170 ⟨c5172, c5173⟩

def f_X12_isOwn (O : Smo) : Int :=
  if (((((((((((((zlcmp (O 262 9) 7562599 = 0 ∨ zlcmp (O 262 9) 24948 = 0) ∨ zlcmp (O 262 9) 29807 = 0) ∨ zlcmp (O 262 9) 131277443786867 = 0) ∨ zlcmp (O 262 9) 495740482675 = 0) ∨ zlcmp (O 262 9) 1685217655 = 0) ∨ zlcmp (O 262 9) 121450625394034 = 0) ∨ zlcmp (O 262 9) 107079749563251 = 0) ∨ zlcmp (O 262 9) 512869299304 = 0) ∨ zlcmp (O 262 9) 1919513445 = 0) ∨ zlcmp (O 262 9) 1819632491 = 0) ∨ zlcmp (O 262 9) 6385252 = 0) ∨ zlcmp (O 262 9) 28530 = 0) ∨ zlcmp (O 262 9) 7237492 = 0) then
    (1)
  else
    (0)
set_option maxRecDepth 100000 in
set_option maxHeartbeats 4000000 in
theorem m_X12_isOwn {l : Launch} {E : EwT} {S : Sst} {O : Smo}  {q : Int} (hq : f_X12_isOwn O = q) : MetG l E yX12_isOwn cX12_isOwn 1 (some .boolean) 0 0 0 0 n0 R0 S O [.ref (zad E 262)] (BR q) (some (.int (zi q))) n0 R0 S O := by
  refine ofG (L0 := [(0, .ref (zad E 262))]) hq (by decide +kernel) (Nat.le_of_ble_eq_true rfl) rfl (fun K _ C hQ => ?_)
  unfold f_X12_isOwn
  refine r_aload_n (pc := 0) (j := 0) C dX12_isOwn_0 rfl rfl ?_
  refine r_getOl (j := 9) C cl_X12 kd_262 ln_262 gc_262 (by decide) (by decide) rfl q_1562 dX12_isOwn_1 (fun h5174 => ?_)
  refine r_ldc2 (v := 7562599) C q_1836 dX12_isOwn_4 (by decide) ?_
  refine r_lcmp C h5174 (LRd rfl) dX12_isOwn_7 ?_
  refine r_cut (((((((((((((zlcmp (O 262 9) 7562599 = 0 ∨ zlcmp (O 262 9) 24948 = 0) ∨ zlcmp (O 262 9) 29807 = 0) ∨ zlcmp (O 262 9) 131277443786867 = 0) ∨ zlcmp (O 262 9) 495740482675 = 0) ∨ zlcmp (O 262 9) 1685217655 = 0) ∨ zlcmp (O 262 9) 121450625394034 = 0) ∨ zlcmp (O 262 9) 107079749563251 = 0) ∨ zlcmp (O 262 9) 512869299304 = 0) ∨ zlcmp (O 262 9) 1919513445 = 0) ∨ zlcmp (O 262 9) 1819632491 = 0) ∨ zlcmp (O 262 9) 6385252 = 0) ∨ zlcmp (O 262 9) 28530 = 0) ∨ zlcmp (O 262 9) 7237492 = 0) 154 158 [] (fun c5188 => ?_) (fun c5188 => ?_) (fun k5189 k5190 => ?_)
  · refine r_t c5188 ?_
    refine r_iconst (v := 1) C dX12_isOwn_154 (by decide) ?_
    refine r_goto (tgt := 159) C dX12_isOwn_155 (by decide) ?_
    exact r_ireturn C hQ (nar_z (BRd rfl)) dX12_isOwn_159 (fun e => by subst e; exact ⟨(BRd rfl), rfl, rfl, rfl, rfl, rfl⟩)
  · refine r_f c5188 ?_
    refine r_iconst (v := 0) C dX12_isOwn_158 (by decide) ?_
    exact r_ireturn C hQ (nar_z (BRd rfl)) dX12_isOwn_159 (fun e => by subst e; exact ⟨(BRd rfl), rfl, rfl, rfl, rfl, rfl⟩)
  · refine r_if_eq (tgt := 154) C (zlcmp_IR _ _) dX12_isOwn_8 (by decide) (fun c5191 => ?_) (fun c5191 => ?_)
    · exact k5189 (Or.inl (Or.inl (Or.inl (Or.inl (Or.inl (Or.inl (Or.inl (Or.inl (Or.inl (Or.inl (Or.inl (Or.inl (Or.inl c5191)))))))))))))
    · refine r_aload_n (pc := 11) (j := 0) C dX12_isOwn_11 rfl rfl ?_
      refine r_getOl (j := 9) C cl_X12 kd_262 ln_262 gc_262 (by decide) (by decide) rfl q_1562 dX12_isOwn_12 (fun h5175 => ?_)
      refine r_ldc2 (v := 24948) C q_1853 dX12_isOwn_15 (by decide) ?_
      refine r_lcmp C h5175 (LRd rfl) dX12_isOwn_18 ?_
      refine r_if_eq (tgt := 154) C (zlcmp_IR _ _) dX12_isOwn_19 (by decide) (fun c5192 => ?_) (fun c5192 => ?_)
      · exact k5189 (Or.inl (Or.inl (Or.inl (Or.inl (Or.inl (Or.inl (Or.inl (Or.inl (Or.inl (Or.inl (Or.inl (Or.inl (Or.inr c5192)))))))))))))
      · refine r_aload_n (pc := 22) (j := 0) C dX12_isOwn_22 rfl rfl ?_
        refine r_getOl (j := 9) C cl_X12 kd_262 ln_262 gc_262 (by decide) (by decide) rfl q_1562 dX12_isOwn_23 (fun h5176 => ?_)
        refine r_ldc2 (v := 29807) C q_1854 dX12_isOwn_26 (by decide) ?_
        refine r_lcmp C h5176 (LRd rfl) dX12_isOwn_29 ?_
        refine r_if_eq (tgt := 154) C (zlcmp_IR _ _) dX12_isOwn_30 (by decide) (fun c5193 => ?_) (fun c5193 => ?_)
        · exact k5189 (Or.inl (Or.inl (Or.inl (Or.inl (Or.inl (Or.inl (Or.inl (Or.inl (Or.inl (Or.inl (Or.inl (Or.inr c5193))))))))))))
        · refine r_aload_n (pc := 33) (j := 0) C dX12_isOwn_33 rfl rfl ?_
          refine r_getOl (j := 9) C cl_X12 kd_262 ln_262 gc_262 (by decide) (by decide) rfl q_1562 dX12_isOwn_34 (fun h5177 => ?_)
          refine r_ldc2 (v := 131277443786867) C q_1855 dX12_isOwn_37 (by decide) ?_
          refine r_lcmp C h5177 (LRd rfl) dX12_isOwn_40 ?_
          refine r_if_eq (tgt := 154) C (zlcmp_IR _ _) dX12_isOwn_41 (by decide) (fun c5194 => ?_) (fun c5194 => ?_)
          · exact k5189 (Or.inl (Or.inl (Or.inl (Or.inl (Or.inl (Or.inl (Or.inl (Or.inl (Or.inl (Or.inl (Or.inr c5194)))))))))))
          · refine r_aload_n (pc := 44) (j := 0) C dX12_isOwn_44 rfl rfl ?_
            refine r_getOl (j := 9) C cl_X12 kd_262 ln_262 gc_262 (by decide) (by decide) rfl q_1562 dX12_isOwn_45 (fun h5178 => ?_)
            refine r_ldc2 (v := 495740482675) C q_1856 dX12_isOwn_48 (by decide) ?_
            refine r_lcmp C h5178 (LRd rfl) dX12_isOwn_51 ?_
            refine r_if_eq (tgt := 154) C (zlcmp_IR _ _) dX12_isOwn_52 (by decide) (fun c5195 => ?_) (fun c5195 => ?_)
            · exact k5189 (Or.inl (Or.inl (Or.inl (Or.inl (Or.inl (Or.inl (Or.inl (Or.inl (Or.inl (Or.inr c5195))))))))))
            · refine r_aload_n (pc := 55) (j := 0) C dX12_isOwn_55 rfl rfl ?_
              refine r_getOl (j := 9) C cl_X12 kd_262 ln_262 gc_262 (by decide) (by decide) rfl q_1562 dX12_isOwn_56 (fun h5179 => ?_)
              refine r_ldc2 (v := 1685217655) C q_1857 dX12_isOwn_59 (by decide) ?_
              refine r_lcmp C h5179 (LRd rfl) dX12_isOwn_62 ?_
              refine r_if_eq (tgt := 154) C (zlcmp_IR _ _) dX12_isOwn_63 (by decide) (fun c5196 => ?_) (fun c5196 => ?_)
              · exact k5189 (Or.inl (Or.inl (Or.inl (Or.inl (Or.inl (Or.inl (Or.inl (Or.inl (Or.inr c5196)))))))))
              · refine r_aload_n (pc := 66) (j := 0) C dX12_isOwn_66 rfl rfl ?_
                refine r_getOl (j := 9) C cl_X12 kd_262 ln_262 gc_262 (by decide) (by decide) rfl q_1562 dX12_isOwn_67 (fun h5180 => ?_)
                refine r_ldc2 (v := 121450625394034) C q_1858 dX12_isOwn_70 (by decide) ?_
                refine r_lcmp C h5180 (LRd rfl) dX12_isOwn_73 ?_
                refine r_if_eq (tgt := 154) C (zlcmp_IR _ _) dX12_isOwn_74 (by decide) (fun c5197 => ?_) (fun c5197 => ?_)
                · exact k5189 (Or.inl (Or.inl (Or.inl (Or.inl (Or.inl (Or.inl (Or.inl (Or.inr c5197))))))))
                · refine r_aload_n (pc := 77) (j := 0) C dX12_isOwn_77 rfl rfl ?_
                  refine r_getOl (j := 9) C cl_X12 kd_262 ln_262 gc_262 (by decide) (by decide) rfl q_1562 dX12_isOwn_78 (fun h5181 => ?_)
                  refine r_ldc2 (v := 107079749563251) C q_1859 dX12_isOwn_81 (by decide) ?_
                  refine r_lcmp C h5181 (LRd rfl) dX12_isOwn_84 ?_
                  refine r_if_eq (tgt := 154) C (zlcmp_IR _ _) dX12_isOwn_85 (by decide) (fun c5198 => ?_) (fun c5198 => ?_)
                  · exact k5189 (Or.inl (Or.inl (Or.inl (Or.inl (Or.inl (Or.inl (Or.inr c5198)))))))
                  · refine r_aload_n (pc := 88) (j := 0) C dX12_isOwn_88 rfl rfl ?_
                    refine r_getOl (j := 9) C cl_X12 kd_262 ln_262 gc_262 (by decide) (by decide) rfl q_1562 dX12_isOwn_89 (fun h5182 => ?_)
                    refine r_ldc2 (v := 512869299304) C q_1860 dX12_isOwn_92 (by decide) ?_
                    refine r_lcmp C h5182 (LRd rfl) dX12_isOwn_95 ?_
                    refine r_if_eq (tgt := 154) C (zlcmp_IR _ _) dX12_isOwn_96 (by decide) (fun c5199 => ?_) (fun c5199 => ?_)
                    · exact k5189 (Or.inl (Or.inl (Or.inl (Or.inl (Or.inl (Or.inr c5199))))))
                    · refine r_aload_n (pc := 99) (j := 0) C dX12_isOwn_99 rfl rfl ?_
                      refine r_getOl (j := 9) C cl_X12 kd_262 ln_262 gc_262 (by decide) (by decide) rfl q_1562 dX12_isOwn_100 (fun h5183 => ?_)
                      refine r_ldc2 (v := 1919513445) C q_1861 dX12_isOwn_103 (by decide) ?_
                      refine r_lcmp C h5183 (LRd rfl) dX12_isOwn_106 ?_
                      refine r_if_eq (tgt := 154) C (zlcmp_IR _ _) dX12_isOwn_107 (by decide) (fun c5200 => ?_) (fun c5200 => ?_)
                      · exact k5189 (Or.inl (Or.inl (Or.inl (Or.inl (Or.inr c5200)))))
                      · refine r_aload_n (pc := 110) (j := 0) C dX12_isOwn_110 rfl rfl ?_
                        refine r_getOl (j := 9) C cl_X12 kd_262 ln_262 gc_262 (by decide) (by decide) rfl q_1562 dX12_isOwn_111 (fun h5184 => ?_)
                        refine r_ldc2 (v := 1819632491) C q_1862 dX12_isOwn_114 (by decide) ?_
                        refine r_lcmp C h5184 (LRd rfl) dX12_isOwn_117 ?_
                        refine r_if_eq (tgt := 154) C (zlcmp_IR _ _) dX12_isOwn_118 (by decide) (fun c5201 => ?_) (fun c5201 => ?_)
                        · exact k5189 (Or.inl (Or.inl (Or.inl (Or.inr c5201))))
                        · refine r_aload_n (pc := 121) (j := 0) C dX12_isOwn_121 rfl rfl ?_
                          refine r_getOl (j := 9) C cl_X12 kd_262 ln_262 gc_262 (by decide) (by decide) rfl q_1562 dX12_isOwn_122 (fun h5185 => ?_)
                          refine r_ldc2 (v := 6385252) C q_1863 dX12_isOwn_125 (by decide) ?_
                          refine r_lcmp C h5185 (LRd rfl) dX12_isOwn_128 ?_
                          refine r_if_eq (tgt := 154) C (zlcmp_IR _ _) dX12_isOwn_129 (by decide) (fun c5202 => ?_) (fun c5202 => ?_)
                          · exact k5189 (Or.inl (Or.inl (Or.inr c5202)))
                          · refine r_aload_n (pc := 132) (j := 0) C dX12_isOwn_132 rfl rfl ?_
                            refine r_getOl (j := 9) C cl_X12 kd_262 ln_262 gc_262 (by decide) (by decide) rfl q_1562 dX12_isOwn_133 (fun h5186 => ?_)
                            refine r_ldc2 (v := 28530) C q_1864 dX12_isOwn_136 (by decide) ?_
                            refine r_lcmp C h5186 (LRd rfl) dX12_isOwn_139 ?_
                            refine r_if_eq (tgt := 154) C (zlcmp_IR _ _) dX12_isOwn_140 (by decide) (fun c5203 => ?_) (fun c5203 => ?_)
                            · exact k5189 (Or.inl (Or.inr c5203))
                            · refine r_aload_n (pc := 143) (j := 0) C dX12_isOwn_143 rfl rfl ?_
                              refine r_getOl (j := 9) C cl_X12 kd_262 ln_262 gc_262 (by decide) (by decide) rfl q_1562 dX12_isOwn_144 (fun h5187 => ?_)
                              refine r_ldc2 (v := 7237492) C q_1865 dX12_isOwn_147 (by decide) ?_
                              refine r_lcmp C h5187 (LRd rfl) dX12_isOwn_150 ?_
                              refine r_if_ne (tgt := 158) C (zlcmp_IR _ _) dX12_isOwn_151 (by decide) (fun c5204 => ?_) (fun c5204 => ?_)
                              · exact k5190 (fun w => w.elim (fun w => w.elim (fun w => w.elim (fun w => w.elim (fun w => w.elim (fun w => w.elim (fun w => w.elim (fun w => w.elim (fun w => w.elim (fun w => w.elim (fun w => w.elim (fun w => w.elim (fun w => w.elim c5191 c5192) c5193) c5194) c5195) c5196) c5197) c5198) c5199) c5200) c5201) c5202) c5203) c5204)
                              · exact k5189 (Or.inr c5204)

def f_X12_isName (O : Smo) : Int :=
  if (O 262 6 = 1 ∧ f_X12_isOwn O = 0) then
    (1)
  else
    (0)
set_option maxRecDepth 100000 in
set_option maxHeartbeats 4000000 in
theorem m_X12_isName {l : Launch} {E : EwT} {S : Sst} {O : Smo}  {q : Int} (hq : f_X12_isName O = q) : MetG l E yX12_isName cX12_isName 1 (some .boolean) 1 20 0 0 n0 R0 S O [.ref (zad E 262)] (BR q) (some (.int (zi q))) n0 R0 S O := by
  refine ofG (L0 := [(0, .ref (zad E 262))]) hq (by decide +kernel) (Nat.le_of_ble_eq_true rfl) rfl (fun K _ C hQ => ?_)
  unfold f_X12_isName
  refine r_aload_n (pc := 0) (j := 0) C dX12_isName_0 rfl rfl ?_
  refine r_getO (j := 6) C cl_X12 kd_262 ln_262 gc_262 (by decide) (by decide) rfl q_1559 dX12_isName_1 (fun h5205 => ?_)
  refine r_iconst (v := 1) C dX12_isName_4 (by decide) ?_
  refine r_cut (O 262 6 = 1 ∧ f_X12_isOwn O = 0) 15 19 [] (fun c5207 => ?_) (fun c5207 => ?_) (fun k5208 k5209 => ?_)
  · refine r_t c5207 ?_
    refine r_iconst (v := 1) C dX12_isName_15 (by decide) ?_
    refine r_goto (tgt := 20) C dX12_isName_16 (by decide) ?_
    exact r_ireturn C hQ (nar_z (BRd rfl)) dX12_isName_20 (fun e => by subst e; exact ⟨(BRd rfl), rfl, rfl, rfl, rfl, rfl⟩)
  · refine r_f c5207 ?_
    refine r_iconst (v := 0) C dX12_isName_19 (by decide) ?_
    exact r_ireturn C hQ (nar_z (BRd rfl)) dX12_isName_20 (fun e => by subst e; exact ⟨(BRd rfl), rfl, rfl, rfl, rfl, rfl⟩)
  · refine r_icmp_ne (tgt := 19) C h5205 (IRd rfl) dX12_isName_5 (by decide) (fun c5210 => ?_) (fun c5210 => ?_)
    · exact k5209 (fun w => c5210 w.1)
    · refine r_aload_n (pc := 8) (j := 0) C dX12_isName_8 rfl rfl ?_
      refine r_cV1 (pc := 9) (k := 262) (As := []) (st := []) C (m_X12_isOwn  rfl) cal_X12_isOwn cl_X12 kd_262 ln_262 q_1849 dX12_isName_9 rfl rfl (Nat.le_of_ble_eq_true rfl) (Nat.le_of_ble_eq_true rfl) (Nat.le_of_ble_eq_true rfl) (Nat.le_of_ble_eq_true rfl) (Nat.le_of_ble_eq_true rfl) (fun h5206 => ?_)
      refine r_if_ne (tgt := 19) C h5206.ir dX12_isName_12 (by decide) (fun c5211 => ?_) (fun c5211 => ?_)
      · exact k5209 (fun w => c5211 w.2)
      · exact k5208 ⟨c5210, c5211⟩

def f_X12_want (a1 : Int) (O : Smo) : Option (Smo) :=
  if 0 < O 262 2 then
    (some O)
  else
    (if f_X12_isWord a1 O = 0 then
      (jn (f_X12_wrong 2 O) fun (q5217 : Smo) =>
      some q5217)
    else
      (Option.bind (f_X12_token O) fun (q5220 : Smo) =>
      some q5220))
set_option maxRecDepth 100000 in
set_option maxHeartbeats 4000000 in
theorem m_X12_want {l : Launch} {E : EwT} {S : Sst} {O : Smo} {a1 : Int} (ha1 : LR a1) {q : Smo} (hq : f_X12_want a1 O = some q) : MetG l E yX12_want cX12_want 3 none 2 43 0 0 n0 R0 S O [.ref (zad E 262), .long (zl a1)] (True) none n0 R0 S q := by
  refine ofG (L0 := [(0, .ref (zad E 262)), (1, .long (zl a1))]) hq (by decide +kernel) (Nat.le_of_ble_eq_true rfl) rfl (fun K _ C hQ => ?_)
  unfold f_X12_want
  refine r_aload_n (pc := 0) (j := 0) C dX12_want_0 rfl rfl ?_
  refine r_getO (j := 2) C cl_X12 kd_262 ln_262 gc_262 (by decide) (by decide) rfl q_1555 dX12_want_1 (fun h5212 => ?_)
  refine r_if_le (tgt := 8) C h5212 dX12_want_4 (by decide) (fun c5213 => ?_) (fun c5213 => ?_)
  · refine r_f c5213 ?_
    refine r_aload_n (pc := 8) (j := 0) C dX12_want_8 rfl rfl ?_
    refine r_lload_n (pc := 9) (j := 1) C dX12_want_9 rfl rfl ?_
    refine r_cV1 (pc := 10) (k := 262) (As := [.long (zl a1)]) (st := []) C (m_X12_isWord (a1 := a1) ha1 rfl) cal_X12_isWord cl_X12 kd_262 ln_262 q_1837 dX12_want_10 rfl rfl (Nat.le_of_ble_eq_true rfl) (Nat.le_of_ble_eq_true rfl) (Nat.le_of_ble_eq_true rfl) (Nat.le_of_ble_eq_true rfl) (Nat.le_of_ble_eq_true rfl) (fun h5214 => ?_)
    refine r_if_ne (tgt := 24) C h5214.ir dX12_want_13 (by decide) (fun c5215 => ?_) (fun c5215 => ?_)
    · refine r_f c5215 ?_
      refine r_aload_n (pc := 24) (j := 0) C dX12_want_24 rfl rfl ?_
      refine r_bd (fun q5220 e5221 => ?_)
      refine r_cV0 (pc := 25) (k := 262) (As := []) (st := []) C (m_X12_token  e5221) cal_X12_token cl_X12 kd_262 ln_262 q_1815 dX12_want_25 rfl rfl (Nat.le_of_ble_eq_true rfl) (Nat.le_of_ble_eq_true rfl) (Nat.le_of_ble_eq_true rfl) (Nat.le_of_ble_eq_true rfl) (Nat.le_of_ble_eq_true rfl) (fun h5219 => ?_)
      exact r_return C hQ dX12_want_28 (fun e => by cases e; exact ⟨trivial, rfl, rfl, rfl, rfl, rfl⟩)
    · refine r_t c5215 ?_
      refine r_aload_n (pc := 16) (j := 0) C dX12_want_16 rfl rfl ?_
      refine r_iconst (v := 2) C dX12_want_17 (by decide) ?_
      refine r_jn (fun q5217 e5218 => ?_)
      refine r_cV0 (pc := 18) (k := 262) (As := [.int (zi 2)]) (st := []) C (m_X12_wrong (a1 := 2) (IRd rfl) e5218) cal_X12_wrong cl_X12 kd_262 ln_262 q_1866 dX12_want_18 rfl rfl (Nat.le_of_ble_eq_true rfl) (Nat.le_of_ble_eq_true rfl) (Nat.le_of_ble_eq_true rfl) (Nat.le_of_ble_eq_true rfl) (Nat.le_of_ble_eq_true rfl) (fun h5216 => ?_)
      refine r_goto (tgt := 28) C dX12_want_21 (by decide) ?_
      exact r_return C hQ dX12_want_28 (fun e => by cases e; exact ⟨trivial, rfl, rfl, rfl, rfl, rfl⟩)
  · refine r_t c5213 ?_
    exact r_return C hQ dX12_want_7 (fun e => by cases e; exact ⟨trivial, rfl, rfl, rfl, rfl, rfl⟩)

def f_X12_numberHere (a1 : Int) (a2 : Int) (O : Smo) : Int × Smo :=
  if 0 < O 262 2 then
    ((0, O))
  else
    (jn (
      if O 262 6 = 2 then
        (if (O 262 8 < a1 ∨ a2 < O 262 8) then
          (jn (f_X12_wrong 4 O) fun (q5236 : Smo) =>
          q5236)
        else
          (O))
      else
        (jn (f_X12_wrong 2 O) fun (q5241 : Smo) =>
        q5241)) fun (q5225 : Smo) =>
    (q5225 262 8, q5225))
set_option maxRecDepth 100000 in
set_option maxHeartbeats 4000000 in
theorem m_X12_numberHere {l : Launch} {E : EwT} {S : Sst} {O : Smo} {a1 : Int} (ha1 : IR a1) {a2 : Int} (ha2 : IR a2) {q : Int × Smo} (hq : f_X12_numberHere a1 a2 O = q) : MetG l E yX12_numberHere cX12_numberHere 3 (some .int) 1 21 0 0 n0 R0 S O [.ref (zad E 262), .int (zi a1), .int (zi a2)] (IR q.1) (some (.int (zi q.1))) n0 R0 S q.2 := by
  refine ofG (L0 := [(0, .ref (zad E 262)), (1, .int (zi a1)), (2, .int (zi a2))]) hq (by decide +kernel) (Nat.le_of_ble_eq_true rfl) rfl (fun K _ C hQ => ?_)
  unfold f_X12_numberHere
  refine r_aload_n (pc := 0) (j := 0) C dX12_numberHere_0 rfl rfl ?_
  refine r_getO (j := 2) C cl_X12 kd_262 ln_262 gc_262 (by decide) (by decide) rfl q_1555 dX12_numberHere_1 (fun h5222 => ?_)
  refine r_if_le (tgt := 9) C h5222 dX12_numberHere_4 (by decide) (fun c5223 => ?_) (fun c5223 => ?_)
  · refine r_f c5223 ?_
    refine r_aload_n (pc := 9) (j := 0) C dX12_numberHere_9 rfl rfl ?_
    refine r_getO (j := 6) C cl_X12 kd_262 ln_262 gc_262 (by decide) (by decide) rfl q_1559 dX12_numberHere_10 (fun h5224 => ?_)
    refine r_iconst (v := 2) C dX12_numberHere_13 (by decide) ?_
    refine r_join (fun q5225 : Smo => True) (fun q5225 => S) (fun q5225 => q5225) (fun q5225 => [(0, .ref (zad E 262))]) 46 (fun q5225 => []) (fun q5225 h5226 => ?_) (fun k5227 k5228 => ?_)
    · refine r_aload_n (pc := 46) (j := 0) C dX12_numberHere_46 rfl rfl ?_
      refine r_getO (j := 8) C cl_X12 kd_262 ln_262 gc_262 (by decide) (by decide) rfl q_1561 dX12_numberHere_47 (fun h5243 => ?_)
      exact r_ireturn C hQ rfl dX12_numberHere_50 (fun e => by subst e; exact ⟨h5243, rfl, rfl, rfl, rfl, rfl⟩)
    · refine r_icmp_eq (tgt := 25) C h5224 (IRd rfl) dX12_numberHere_14 (by decide) (fun c5229 => ?_) (fun c5229 => ?_)
      · refine r_jt c5229 ?_
        refine r_aload_n (pc := 25) (j := 0) C dX12_numberHere_25 rfl rfl ?_
        refine r_getO (j := 8) C cl_X12 kd_262 ln_262 gc_262 (by decide) (by decide) rfl q_1561 dX12_numberHere_26 (fun h5230 => ?_)
        refine r_iload_n (pc := 29) (j := 1) C dX12_numberHere_29 rfl rfl ?_
        refine r_cut (O 262 8 < a1 ∨ a2 < O 262 8) 41 46 [] (fun c5232 => ?_) (fun c5232 => ?_) (fun k5233 k5234 => ?_)
        · refine r_jt c5232 ?_
          refine r_aload_n (pc := 41) (j := 0) C dX12_numberHere_41 rfl rfl ?_
          refine r_iconst (v := 4) C dX12_numberHere_42 (by decide) ?_
          refine r_jj ?_
          refine r_jn (fun q5236 e5237 => ?_)
          refine r_cV0 (pc := 43) (k := 262) (As := [.int (zi 4)]) (st := []) C (m_X12_wrong (a1 := 4) (IRd rfl) e5237) cal_X12_wrong cl_X12 kd_262 ln_262 q_1866 dX12_numberHere_43 rfl rfl (Nat.le_of_ble_eq_true rfl) (Nat.le_of_ble_eq_true rfl) (Nat.le_of_ble_eq_true rfl) (Nat.le_of_ble_eq_true rfl) (Nat.le_of_ble_eq_true rfl) (fun h5235 => ?_)
          refine r_L (L' := [(0, .ref (zad E 262))]) [0] rfl ?_
          exact k5228 q5236 trivial
        · refine r_jf c5232 ?_
          refine r_L (L' := [(0, .ref (zad E 262))]) [0] rfl ?_
          exact k5228 O trivial
        · refine r_icmp_lt (tgt := 41) C h5230 ha1 dX12_numberHere_30 (by decide) (fun c5238 => ?_) (fun c5238 => ?_)
          · exact k5233 (Or.inl c5238)
          · refine r_aload_n (pc := 33) (j := 0) C dX12_numberHere_33 rfl rfl ?_
            refine r_getO (j := 8) C cl_X12 kd_262 ln_262 gc_262 (by decide) (by decide) rfl q_1561 dX12_numberHere_34 (fun h5231 => ?_)
            refine r_iload_n (pc := 37) (j := 2) C dX12_numberHere_37 rfl rfl ?_
            refine r_icmp_le (tgt := 46) C h5231 ha2 dX12_numberHere_38 (by decide) (fun c5239 => ?_) (fun c5239 => ?_)
            · exact k5234 (fun w => w.elim c5238 c5239)
            · exact k5233 (Or.inr c5239)
      · refine r_jf c5229 ?_
        refine r_aload_n (pc := 17) (j := 0) C dX12_numberHere_17 rfl rfl ?_
        refine r_iconst (v := 2) C dX12_numberHere_18 (by decide) ?_
        refine r_jj ?_
        refine r_jn (fun q5241 e5242 => ?_)
        refine r_cV0 (pc := 19) (k := 262) (As := [.int (zi 2)]) (st := []) C (m_X12_wrong (a1 := 2) (IRd rfl) e5242) cal_X12_wrong cl_X12 kd_262 ln_262 q_1866 dX12_numberHere_19 rfl rfl (Nat.le_of_ble_eq_true rfl) (Nat.le_of_ble_eq_true rfl) (Nat.le_of_ble_eq_true rfl) (Nat.le_of_ble_eq_true rfl) (Nat.le_of_ble_eq_true rfl) (fun h5240 => ?_)
        refine r_goto (tgt := 46) C dX12_numberHere_22 (by decide) ?_
        refine r_L (L' := [(0, .ref (zad E 262))]) [0] rfl ?_
        exact k5228 q5241 trivial
  · refine r_t c5223 ?_
    refine r_iconst (v := 0) C dX12_numberHere_7 (by decide) ?_
    exact r_ireturn C hQ rfl dX12_numberHere_8 (fun e => by subst e; exact ⟨(IRd rfl), rfl, rfl, rfl, rfl, rfl⟩)

def f_X12_toldNumber (a1 : Int) (a2 : Int) (O : Smo) : Option (Int × Smo) :=
  jn (f_X12_numberHere a1 a2 O) fun (q5245 : Int × Smo) =>
  Option.bind (
    if q5245.2 262 2 = 0 then
      (Option.bind (f_X12_token q5245.2) fun (q5254 : Smo) =>
      some q5254)
    else
      (some q5245.2)) fun (q5248 : Smo) =>
  some (q5245.1, q5248)
set_option maxRecDepth 100000 in
set_option maxHeartbeats 4000000 in
theorem m_X12_toldNumber {l : Launch} {E : EwT} {S : Sst} {O : Smo} {a1 : Int} (ha1 : IR a1) {a2 : Int} (ha2 : IR a2) {q : Int × Smo} (hq : f_X12_toldNumber a1 a2 O = some q) : MetG l E yX12_toldNumber cX12_toldNumber 4 (some .int) 2 43 0 0 n0 R0 S O [.ref (zad E 262), .int (zi a1), .int (zi a2)] (IR q.1) (some (.int (zi q.1))) n0 R0 S q.2 := by
  refine ofG (L0 := [(0, .ref (zad E 262)), (1, .int (zi a1)), (2, .int (zi a2))]) hq (by decide +kernel) (Nat.le_of_ble_eq_true rfl) rfl (fun K _ C hQ => ?_)
  unfold f_X12_toldNumber
  refine r_aload_n (pc := 0) (j := 0) C dX12_toldNumber_0 rfl rfl ?_
  refine r_iload_n (pc := 1) (j := 1) C dX12_toldNumber_1 rfl rfl ?_
  refine r_iload_n (pc := 2) (j := 2) C dX12_toldNumber_2 rfl rfl ?_
  refine r_jn (fun q5245 e5246 => ?_)
  refine r_cV1 (pc := 3) (k := 262) (As := [.int (zi a1), .int (zi a2)]) (st := []) C (m_X12_numberHere (a1 := a1) (a2 := a2) ha1 ha2 e5246) cal_X12_numberHere cl_X12 kd_262 ln_262 q_1886 dX12_toldNumber_3 rfl rfl (Nat.le_of_ble_eq_true rfl) (Nat.le_of_ble_eq_true rfl) (Nat.le_of_ble_eq_true rfl) (Nat.le_of_ble_eq_true rfl) (Nat.le_of_ble_eq_true rfl) (fun h5244 => ?_)
  refine r_istore_n (L' := [(3, .int (zi q5245.1)), (0, .ref (zad E 262)), (1, .int (zi a1)), (2, .int (zi a2))]) C dX12_toldNumber_6 rfl (by decide) rfl ?_
  refine r_aload_n (pc := 7) (j := 1) C dX12_toldNumber_7 rfl rfl ?_
  refine r_getO (j := 2) C cl_X12 kd_262 ln_262 gc_262 (by decide) (by decide) rfl q_1555 dX12_toldNumber_8 (fun h5247 => ?_)
  refine r_joinb (fun q5248 : Smo => True) (fun q5248 => S) (fun q5248 => q5248) (fun q5248 => [(3, .int (zi q5245.1))]) 18 (fun q5248 => []) (fun q5248 h5249 => ?_) (fun k5250 k5251 => ?_)
  · refine r_iload_n (pc := 18) (j := 0) C dX12_toldNumber_18 rfl rfl ?_
    exact r_ireturn C hQ rfl dX12_toldNumber_19 (fun e => by cases e; exact ⟨h5244, rfl, rfl, rfl, rfl, rfl⟩)
  · refine r_if_ne (tgt := 18) C h5247 dX12_toldNumber_11 (by decide) (fun c5252 => ?_) (fun c5252 => ?_)
    · refine r_bf c5252 ?_
      refine r_L (L' := [(3, .int (zi q5245.1))]) [0] rfl ?_
      exact k5251 q5245.2 trivial
    · refine r_bt c5252 ?_
      refine r_aload_n (pc := 14) (j := 1) C dX12_toldNumber_14 rfl rfl ?_
      refine r_bb ?_
      refine r_bd (fun q5254 e5255 => ?_)
      refine r_cV0 (pc := 15) (k := 262) (As := []) (st := []) C (m_X12_token  e5255) cal_X12_token cl_X12 kd_262 ln_262 q_1815 dX12_toldNumber_15 rfl rfl (Nat.le_of_ble_eq_true rfl) (Nat.le_of_ble_eq_true rfl) (Nat.le_of_ble_eq_true rfl) (Nat.le_of_ble_eq_true rfl) (Nat.le_of_ble_eq_true rfl) (fun h5253 => ?_)
      refine r_L (L' := [(3, .int (zi q5245.1))]) [0] rfl ?_
      exact k5251 q5254 trivial

def f_X12_told (a1 : Int) (a3 : Int) (a4 : Int) (O : Smo) : Option (Int × Smo) :=
  Option.bind (f_X12_want a1 O) fun (q5257 : Smo) =>
  Option.bind (f_X12_toldNumber a3 a4 q5257) fun (q5260 : Int × Smo) =>
  some (q5260.1, q5260.2)
set_option maxRecDepth 100000 in
set_option maxHeartbeats 4000000 in
theorem m_X12_told {l : Launch} {E : EwT} {S : Sst} {O : Smo} {a1 : Int} (ha1 : LR a1) {a3 : Int} (ha3 : IR a3) {a4 : Int} (ha4 : IR a4) {q : Int × Smo} (hq : f_X12_told a1 a3 a4 O = some q) : MetG l E yX12_told cX12_told 5 (some .int) 3 66 0 0 n0 R0 S O [.ref (zad E 262), .long (zl a1), .int (zi a3), .int (zi a4)] (IR q.1) (some (.int (zi q.1))) n0 R0 S q.2 := by
  refine ofG (L0 := [(0, .ref (zad E 262)), (1, .long (zl a1)), (3, .int (zi a3)), (4, .int (zi a4))]) hq (by decide +kernel) (Nat.le_of_ble_eq_true rfl) rfl (fun K _ C hQ => ?_)
  unfold f_X12_told
  refine r_aload_n (pc := 0) (j := 0) C dX12_told_0 rfl rfl ?_
  refine r_lload_n (pc := 1) (j := 1) C dX12_told_1 rfl rfl ?_
  refine r_bd (fun q5257 e5258 => ?_)
  refine r_cV0 (pc := 2) (k := 262) (As := [.long (zl a1)]) (st := []) C (m_X12_want (a1 := a1) ha1 e5258) cal_X12_want cl_X12 kd_262 ln_262 q_1878 dX12_told_2 rfl rfl (Nat.le_of_ble_eq_true rfl) (Nat.le_of_ble_eq_true rfl) (Nat.le_of_ble_eq_true rfl) (Nat.le_of_ble_eq_true rfl) (Nat.le_of_ble_eq_true rfl) (fun h5256 => ?_)
  refine r_aload_n (pc := 5) (j := 0) C dX12_told_5 rfl rfl ?_
  refine r_iload_n (pc := 6) (j := 2) C dX12_told_6 rfl rfl ?_
  refine r_iload (pc := 7) (j := 3) C dX12_told_7 rfl ?_
  refine r_bd (fun q5260 e5261 => ?_)
  refine r_cV1 (pc := 9) (k := 262) (As := [.int (zi a3), .int (zi a4)]) (st := []) C (m_X12_toldNumber (a1 := a3) (a2 := a4) ha3 ha4 e5261) cal_X12_toldNumber cl_X12 kd_262 ln_262 q_1882 dX12_told_9 rfl rfl (Nat.le_of_ble_eq_true rfl) (Nat.le_of_ble_eq_true rfl) (Nat.le_of_ble_eq_true rfl) (Nat.le_of_ble_eq_true rfl) (Nat.le_of_ble_eq_true rfl) (fun h5259 => ?_)
  exact r_ireturn C hQ rfl dX12_told_12 (fun e => by cases e; exact ⟨h5259, rfl, rfl, rfl, rfl, rfl⟩)

def f_X12_add (a1 : Int) (a2 : Int) (O : Smo) : Option (Smo) :=
  Option.bind (asetO O 264 (Ln 264) (O 262 16) a1) fun (O5263 : Smo) =>
  Option.bind (asetO O5263 265 (Ln 265) (O5263 262 16) a2) fun (O5265 : Smo) =>
  jn (up2 O5265 262 16 (wr ((O5265 262 16) + 1))) fun (O5267 : Smo) =>
  some O5267
set_option maxRecDepth 100000 in
set_option maxHeartbeats 4000000 in
theorem m_X12_add {l : Launch} {E : EwT} {S : Sst} {O : Smo} {a1 : Int} (ha1 : IR a1) {a2 : Int} (ha2 : IR a2) {q : Smo} (hq : f_X12_add a1 a2 O = some q) : MetG l E yX12_add cX12_add 3 none 0 0 0 0 n0 R0 S O [.ref (zad E 262), .int (zi a1), .int (zi a2)] (True) none n0 R0 S q := by
  refine ofG (L0 := [(0, .ref (zad E 262)), (1, .int (zi a1)), (2, .int (zi a2))]) hq (by decide +kernel) (Nat.le_of_ble_eq_true rfl) rfl (fun K _ C hQ => ?_)
  unfold f_X12_add
  refine r_aload_n (pc := 0) (j := 0) C dX12_add_0 rfl rfl ?_
  refine r_getR (j := 10) (r := 264) C cl_X12 kd_262 ln_262 (by decide) rfl r0_262_10 (by decide) q_1563 dX12_add_1 ?_
  refine r_aload_n (pc := 4) (j := 0) C dX12_add_4 rfl rfl ?_
  refine r_getO (j := 16) C cl_X12 kd_262 ln_262 gc_262 (by decide) (by decide) rfl q_1569 dX12_add_5 (fun h5262 => ?_)
  refine r_iload_n (pc := 8) (j := 1) C dX12_add_8 rfl rfl ?_
  refine r_iast C kd_264 ln_264 gc_264 h5262 ha1 dX12_add_9 (fun O5263 => ?_)
  refine r_aload_n (pc := 10) (j := 0) C dX12_add_10 rfl rfl ?_
  refine r_getR (j := 11) (r := 265) C cl_X12 kd_262 ln_262 (by decide) rfl r0_262_11 (by decide) q_1564 dX12_add_11 ?_
  refine r_aload_n (pc := 14) (j := 0) C dX12_add_14 rfl rfl ?_
  refine r_getO (j := 16) C cl_X12 kd_262 ln_262 gc_262 (by decide) (by decide) rfl q_1569 dX12_add_15 (fun h5264 => ?_)
  refine r_iload_n (pc := 18) (j := 2) C dX12_add_18 rfl rfl ?_
  refine r_iast C kd_265 ln_265 gc_265 h5264 ha2 dX12_add_19 (fun O5265 => ?_)
  refine r_aload_n (pc := 20) (j := 0) C dX12_add_20 rfl rfl ?_
  refine r_dup C dX12_add_21 rfl ?_
  refine r_getO (j := 16) C cl_X12 kd_262 ln_262 gc_262 (by decide) (by decide) rfl q_1569 dX12_add_22 (fun h5266 => ?_)
  refine r_iconst (v := 1) C dX12_add_25 (by decide) ?_
  refine r_iadd C dX12_add_26 ?_
  refine r_putO C cl_X12 kd_262 ln_262 gc_262 (by decide) (by decide) rfl rfl rfl (IR_wr _) q_1569 dX12_add_27 (fun O5267 => ?_)
  exact r_return C hQ dX12_add_30 (fun e => by cases e; exact ⟨trivial, rfl, rfl, rfl, rfl, rfl⟩)

def f_X12_tight (a0 : Int) : Int :=
  if a0 = 21 then
    (3)
  else
    (if a0 = 38 then
      (2)
    else
      (if (a0 = 43 ∨ a0 = 45) then
        (5)
      else
        (if (a0 = 60 ∨ a0 = 61 ∨ a0 = 62) then
          (4)
        else
          (if a0 = 124 then
            (1)
          else
            (6)))))
set_option maxRecDepth 100000 in
set_option maxHeartbeats 4000000 in
theorem m_X12_tight {l : Launch} {E : EwT} {n : Nat} {R : Srf} {S : Sst} {O : Smo} {a0 : Int} (ha0 : IR a0) {q : Int} (hq : f_X12_tight a0 = q) : MetG l E yX12_tight cX12_tight 1 (some .int) 0 0 0 0 n R S O [.int (zi a0)] (IR q) (some (.int (zi q))) n R S O := by
  refine ofG (L0 := [(0, .int (zi a0))]) hq (by decide +kernel) (Nat.le_of_ble_eq_true rfl) rfl (fun K _ C hQ => ?_)
  unfold f_X12_tight
  refine r_iload_n (pc := 0) (j := 0) C dX12_tight_0 rfl rfl ?_
  by_cases c5268 : (a0 = 21)
  · refine r_t c5268 ?_
    refine r_lswIn (kx := 21) (tgt := 80) C ha0 dX12_tight_1 rfl c5268 rfl (by decide) ?_
    refine r_iconst (v := 3) C dX12_tight_80 (by decide) ?_
    exact r_ireturn C hQ rfl dX12_tight_81 (fun e => by subst e; exact ⟨(IRd rfl), rfl, rfl, rfl, rfl, rfl⟩)
  · refine r_f c5268 ?_
    by_cases c5269 : (a0 = 38)
    · refine r_t c5269 ?_
      refine r_lswIn (kx := 38) (tgt := 78) C ha0 dX12_tight_1 rfl c5269 rfl (by decide) ?_
      refine r_iconst (v := 2) C dX12_tight_78 (by decide) ?_
      exact r_ireturn C hQ rfl dX12_tight_79 (fun e => by subst e; exact ⟨(IRd rfl), rfl, rfl, rfl, rfl, rfl⟩)
    · refine r_f c5269 ?_
      by_cases c5270 : (a0 = 43 ∨ a0 = 45)
      · refine r_t c5270 ?_
        refine r_cutS 84 [] (?_) (fun k5271 => ?_)
        · refine r_iconst (v := 5) C dX12_tight_84 (by decide) ?_
          exact r_ireturn C hQ rfl dX12_tight_85 (fun e => by subst e; exact ⟨(IRd rfl), rfl, rfl, rfl, rfl, rfl⟩)
        · rcases c5270 with c5272 | c5272
          · refine r_lswIn (kx := 43) (tgt := 84) C ha0 dX12_tight_1 rfl c5272 rfl (by decide) ?_
            exact k5271
          · refine r_lswIn (kx := 45) (tgt := 84) C ha0 dX12_tight_1 rfl c5272 rfl (by decide) ?_
            exact k5271
      · refine r_f c5270 ?_
        by_cases c5273 : (a0 = 60 ∨ a0 = 61 ∨ a0 = 62)
        · refine r_t c5273 ?_
          refine r_cutS 82 [] (?_) (fun k5274 => ?_)
          · refine r_iconst (v := 4) C dX12_tight_82 (by decide) ?_
            exact r_ireturn C hQ rfl dX12_tight_83 (fun e => by subst e; exact ⟨(IRd rfl), rfl, rfl, rfl, rfl, rfl⟩)
          · rcases c5273 with c5275 | c5275
            · refine r_lswIn (kx := 60) (tgt := 82) C ha0 dX12_tight_1 rfl c5275 rfl (by decide) ?_
              exact k5274
            · rcases c5275 with c5276 | c5276
              · refine r_lswIn (kx := 61) (tgt := 82) C ha0 dX12_tight_1 rfl c5276 rfl (by decide) ?_
                exact k5274
              · refine r_lswIn (kx := 62) (tgt := 82) C ha0 dX12_tight_1 rfl c5276 rfl (by decide) ?_
                exact k5274
        · refine r_f c5273 ?_
          by_cases c5277 : (a0 = 124)
          · refine r_t c5277 ?_
            refine r_lswIn (kx := 124) (tgt := 76) C ha0 dX12_tight_1 rfl c5277 rfl (by decide) ?_
            refine r_iconst (v := 1) C dX12_tight_76 (by decide) ?_
            exact r_ireturn C hQ rfl dX12_tight_77 (fun e => by subst e; exact ⟨(IRd rfl), rfl, rfl, rfl, rfl, rfl⟩)
          · refine r_f c5277 ?_
            refine r_lswOut (tgt := 86) C ha0 dX12_tight_1 rfl (by intro q hq; simp at hq; rcases hq with rfl | rfl | rfl | rfl | rfl | rfl | rfl | rfl <;> omega) (by decide) ?_
            refine r_bipush (v := 6) C dX12_tight_86 (by decide) ?_
            exact r_ireturn C hQ rfl dX12_tight_88 (fun e => by subst e; exact ⟨(IRd rfl), rfl, rfl, rfl, rfl, rfl⟩)

def f_X12_close (a1 : Int) (O : Smo) : Option (Smo) :=
  Option.bind (lp (fun (s5278 : Smo) =>
    if 0 < s5278 262 18 then
      (Option.bind (aget (s5278 268) (Ln 268) (wr ((s5278 262 18) - 1))) fun (v5287 : Int) =>
      if v5287 = 20 then
        (some (Sum.inr s5278))
      else
        (Option.bind (aget (s5278 268) (Ln 268) (wr ((s5278 262 18) - 1))) fun (v5291 : Int) =>
        if f_X12_tight v5291 < a1 then
          (some (Sum.inr s5278))
        else
          (jn (up2 s5278 262 18 (wr ((s5278 262 18) - 1))) fun (O5296 : Smo) =>
          Option.bind (aget (O5296 268) (Ln 268) (O5296 262 18)) fun (v5298 : Int) =>
          if v5298 = 21 then
            (Option.bind (f_X12_add 2 0 O5296) fun (q5302 : Smo) =>
            jn (up2 q5302 262 22 (wr ((q5302 262 22) - 1))) fun (O5305 : Smo) =>
            some (Sum.inl O5305))
          else
            (Option.bind (aget (O5296 268) (Ln 268) (O5296 262 18)) fun (v5307 : Int) =>
            Option.bind (f_X12_add 3 v5307 O5296) fun (q5310 : Smo) =>
            some (Sum.inl q5310)))))
    else
      (some (Sum.inr s5278))) FU O) fun (r5312 : Smo) =>
  some r5312
set_option maxRecDepth 100000 in
set_option maxHeartbeats 4000000 in
theorem m_X12_close {l : Launch} {E : EwT} {S : Sst} {O : Smo} {a1 : Int} (ha1 : IR a1) {q : Smo} (hq : f_X12_close a1 O = some q) : MetG l E yX12_close cX12_close 2 none 1 22 0 0 n0 R0 S O [.ref (zad E 262), .int (zi a1)] (True) none n0 R0 S q := by
  refine ofG (L0 := [(0, .ref (zad E 262)), (1, .int (zi a1))]) hq (by decide +kernel) (Nat.le_of_ble_eq_true rfl) rfl (fun K _ C hQ => ?_)
  unfold f_X12_close
  refine r_loop1 (fun s5278 : Smo => True) (fun s5278 => S) (fun s5278 => s5278) (fun s5278 => [(0, .ref (zad E 262)), (1, .int (zi a1))]) [] (fun r5312 : Smo => True) (fun r5312 => S) (fun r5312 => r5312) (fun r5312 => []) 101 (fun r5312 h5313 => ?_) (fun k5280 k5282 k5281 k5283 s5278 h5279 => ?_) trivial
  · exact r_return C hQ dX12_close_101 (fun e => by cases e; exact ⟨trivial, rfl, rfl, rfl, rfl, rfl⟩)
  · refine r_aload_n (pc := 0) (j := 0) C dX12_close_0 rfl rfl ?_
    refine r_getO (j := 18) C cl_X12 kd_262 ln_262 gc_262 (by decide) (by decide) rfl q_1571 dX12_close_1 (fun h5284 => ?_)
    refine r_if_le (tgt := 101) C h5284 dX12_close_4 (by decide) (fun c5285 => ?_) (fun c5285 => ?_)
    · refine r_bf c5285 ?_
      refine r_L (L' := []) [] rfl ?_
      exact k5283 s5278 trivial
    · refine r_bt c5285 ?_
      refine r_aload_n (pc := 7) (j := 0) C dX12_close_7 rfl rfl ?_
      refine r_getR (j := 14) (r := 268) C cl_X12 kd_262 ln_262 (by decide) rfl r0_262_14 (by decide) q_1567 dX12_close_8 ?_
      refine r_aload_n (pc := 11) (j := 0) C dX12_close_11 rfl rfl ?_
      refine r_getO (j := 18) C cl_X12 kd_262 ln_262 gc_262 (by decide) (by decide) rfl q_1571 dX12_close_12 (fun h5286 => ?_)
      refine r_iconst (v := 1) C dX12_close_15 (by decide) ?_
      refine r_isub C dX12_close_16 ?_
      refine r_bb ?_
      refine r_iald C kd_268 ln_268 gc_268 (IR_wr _) dX12_close_17 (fun v5287 h5288 => ?_)
      refine r_bipush (v := 20) C dX12_close_18 (by decide) ?_
      refine r_icmp_eq (tgt := 101) C h5288 (IRd rfl) dX12_close_20 (by decide) (fun c5289 => ?_) (fun c5289 => ?_)
      · refine r_bt c5289 ?_
        refine r_L (L' := []) [] rfl ?_
        exact k5283 s5278 trivial
      · refine r_bf c5289 ?_
        refine r_aload_n (pc := 23) (j := 0) C dX12_close_23 rfl rfl ?_
        refine r_getR (j := 14) (r := 268) C cl_X12 kd_262 ln_262 (by decide) rfl r0_262_14 (by decide) q_1567 dX12_close_24 ?_
        refine r_aload_n (pc := 27) (j := 0) C dX12_close_27 rfl rfl ?_
        refine r_getO (j := 18) C cl_X12 kd_262 ln_262 gc_262 (by decide) (by decide) rfl q_1571 dX12_close_28 (fun h5290 => ?_)
        refine r_iconst (v := 1) C dX12_close_31 (by decide) ?_
        refine r_isub C dX12_close_32 ?_
        refine r_bb ?_
        refine r_iald C kd_268 ln_268 gc_268 (IR_wr _) dX12_close_33 (fun v5291 h5292 => ?_)
        refine r_cS1 (pc := 34) (As := [.int (zi v5291)]) (st := []) C (m_X12_tight (a0 := v5291) h5292 rfl) cal_X12_tight q_1916 dX12_close_34 rfl rfl (Nat.le_of_ble_eq_true rfl) (Nat.le_of_ble_eq_true rfl) (Nat.le_of_ble_eq_true rfl) (Nat.le_of_ble_eq_true rfl) (Nat.le_of_ble_eq_true rfl) (fun h5293 => ?_)
        refine r_iload_n (pc := 37) (j := 1) C dX12_close_37 rfl rfl ?_
        refine r_icmp_lt (tgt := 101) C h5293 ha1 dX12_close_38 (by decide) (fun c5294 => ?_) (fun c5294 => ?_)
        · refine r_bt c5294 ?_
          refine r_L (L' := []) [] rfl ?_
          exact k5283 s5278 trivial
        · refine r_bf c5294 ?_
          refine r_aload_n (pc := 41) (j := 0) C dX12_close_41 rfl rfl ?_
          refine r_dup C dX12_close_42 rfl ?_
          refine r_getO (j := 18) C cl_X12 kd_262 ln_262 gc_262 (by decide) (by decide) rfl q_1571 dX12_close_43 (fun h5295 => ?_)
          refine r_iconst (v := 1) C dX12_close_46 (by decide) ?_
          refine r_isub C dX12_close_47 ?_
          refine r_bj ?_
          refine r_putO C cl_X12 kd_262 ln_262 gc_262 (by decide) (by decide) rfl rfl rfl (IR_wr _) q_1571 dX12_close_48 (fun O5296 => ?_)
          refine r_aload_n (pc := 51) (j := 0) C dX12_close_51 rfl rfl ?_
          refine r_getR (j := 14) (r := 268) C cl_X12 kd_262 ln_262 (by decide) rfl r0_262_14 (by decide) q_1567 dX12_close_52 ?_
          refine r_aload_n (pc := 55) (j := 0) C dX12_close_55 rfl rfl ?_
          refine r_getO (j := 18) C cl_X12 kd_262 ln_262 gc_262 (by decide) (by decide) rfl q_1571 dX12_close_56 (fun h5297 => ?_)
          refine r_bb ?_
          refine r_iald C kd_268 ln_268 gc_268 h5297 dX12_close_59 (fun v5298 h5299 => ?_)
          refine r_bipush (v := 21) C dX12_close_60 (by decide) ?_
          refine r_icmp_ne (tgt := 84) C h5299 (IRd rfl) dX12_close_62 (by decide) (fun c5300 => ?_) (fun c5300 => ?_)
          · refine r_bf c5300 ?_
            refine r_aload_n (pc := 84) (j := 0) C dX12_close_84 rfl rfl ?_
            refine r_iconst (v := 3) C dX12_close_85 (by decide) ?_
            refine r_aload_n (pc := 86) (j := 0) C dX12_close_86 rfl rfl ?_
            refine r_getR (j := 14) (r := 268) C cl_X12 kd_262 ln_262 (by decide) rfl r0_262_14 (by decide) q_1567 dX12_close_87 ?_
            refine r_aload_n (pc := 90) (j := 0) C dX12_close_90 rfl rfl ?_
            refine r_getO (j := 18) C cl_X12 kd_262 ln_262 gc_262 (by decide) (by decide) rfl q_1571 dX12_close_91 (fun h5306 => ?_)
            refine r_bb ?_
            refine r_iald C kd_268 ln_268 gc_268 h5306 dX12_close_94 (fun v5307 h5308 => ?_)
            refine r_bb ?_
            refine r_bd (fun q5310 e5311 => ?_)
            refine r_cV0 (pc := 95) (k := 262) (As := [.int (zi 3), .int (zi v5307)]) (st := []) C (m_X12_add (a1 := 3) (a2 := v5307) (IRd rfl) h5308 e5311) cal_X12_add cl_X12 kd_262 ln_262 q_1935 dX12_close_95 rfl rfl (Nat.le_of_ble_eq_true rfl) (Nat.le_of_ble_eq_true rfl) (Nat.le_of_ble_eq_true rfl) (Nat.le_of_ble_eq_true rfl) (Nat.le_of_ble_eq_true rfl) (fun h5309 => ?_)
            refine r_goto (tgt := 0) C dX12_close_98 (by decide) ?_
            exact k5281 q5310 trivial
          · refine r_bt c5300 ?_
            refine r_aload_n (pc := 65) (j := 0) C dX12_close_65 rfl rfl ?_
            refine r_iconst (v := 2) C dX12_close_66 (by decide) ?_
            refine r_iconst (v := 0) C dX12_close_67 (by decide) ?_
            refine r_bb ?_
            refine r_bd (fun q5302 e5303 => ?_)
            refine r_cV0 (pc := 68) (k := 262) (As := [.int (zi 2), .int (zi 0)]) (st := []) C (m_X12_add (a1 := 2) (a2 := 0) (IRd rfl) (IRd rfl) e5303) cal_X12_add cl_X12 kd_262 ln_262 q_1935 dX12_close_68 rfl rfl (Nat.le_of_ble_eq_true rfl) (Nat.le_of_ble_eq_true rfl) (Nat.le_of_ble_eq_true rfl) (Nat.le_of_ble_eq_true rfl) (Nat.le_of_ble_eq_true rfl) (fun h5301 => ?_)
            refine r_aload_n (pc := 71) (j := 0) C dX12_close_71 rfl rfl ?_
            refine r_dup C dX12_close_72 rfl ?_
            refine r_getO (j := 22) C cl_X12 kd_262 ln_262 gc_262 (by decide) (by decide) rfl q_1575 dX12_close_73 (fun h5304 => ?_)
            refine r_iconst (v := 1) C dX12_close_76 (by decide) ?_
            refine r_isub C dX12_close_77 ?_
            refine r_bj ?_
            refine r_putO C cl_X12 kd_262 ln_262 gc_262 (by decide) (by decide) rfl rfl rfl (IR_wr _) q_1575 dX12_close_78 (fun O5305 => ?_)
            refine r_goto (tgt := 0) C dX12_close_81 (by decide) ?_
            exact k5281 O5305 trivial

def f_X12_hasRelation (O : Smo) : Option (Int) :=
  jn (wr ((O 262 18) - 1)) fun (v5315 : Int) =>
  Option.bind (lp (fun (s5317 : Int) =>
    if s5317 < 0 then
      (some (Sum.inr s5317))
    else
      (Option.bind (aget (O 268) (Ln 268) s5317) fun (v5324 : Int) =>
      if v5324 = 20 then
        (some (Sum.inr s5317))
      else
        (Option.bind (aget (O 268) (Ln 268) s5317) fun (v5327 : Int) =>
        if 4 < f_X12_tight v5327 then
          (some (Sum.inl (wr (s5317 + (-1)))))
        else
          (some (Sum.inr s5317))))) FU v5315) fun (r5331 : Int) =>
  jk (fun (q5333 : Unit) =>
    some 0) fun k5335 =>
  if r5331 < 0 then
    (k5335 ())
  else
    (Option.bind (aget (O 268) (Ln 268) r5331) fun (v5338 : Int) =>
    if v5338 = 20 then
      (k5335 ())
    else
      (Option.bind (aget (O 268) (Ln 268) r5331) fun (v5341 : Int) =>
      if f_X12_tight v5341 = 4 then
        (some 1)
      else
        (k5335 ())))
set_option maxRecDepth 100000 in
set_option maxHeartbeats 4000000 in
theorem m_X12_hasRelation {l : Launch} {E : EwT} {S : Sst} {O : Smo}  {q : Int} (hq : f_X12_hasRelation O = some q) : MetG l E yX12_hasRelation cX12_hasRelation 2 (some .boolean) 1 20 0 0 n0 R0 S O [.ref (zad E 262)] (BR q) (some (.int (zi q))) n0 R0 S O := by
  refine ofG (L0 := [(0, .ref (zad E 262))]) hq (by decide +kernel) (Nat.le_of_ble_eq_true rfl) rfl (fun K _ C hQ => ?_)
  unfold f_X12_hasRelation
  refine r_aload_n (pc := 0) (j := 0) C dX12_hasRelation_0 rfl rfl ?_
  refine r_getO (j := 18) C cl_X12 kd_262 ln_262 gc_262 (by decide) (by decide) rfl q_1571 dX12_hasRelation_1 (fun h5314 => ?_)
  refine r_iconst (v := 1) C dX12_hasRelation_4 (by decide) ?_
  refine r_isub C dX12_hasRelation_5 ?_
  refine r_jv (IR_wr _) (fun v5315 h5316 => ?_)
  refine r_istore_n (L' := [(1, .int (zi v5315)), (0, .ref (zad E 262))]) C dX12_hasRelation_6 rfl (by decide) rfl ?_
  refine r_L (L' := [(0, .ref (zad E 262)), (1, .int (zi v5315))]) [1, 0] rfl ?_
  refine r_loop1 (fun s5317 : Int => IR s5317) (fun s5317 => S) (fun s5317 => O) (fun s5317 => [(0, .ref (zad E 262)), (1, .int (zi s5317))]) [] (fun r5331 : Int => IR r5331) (fun r5331 => S) (fun r5331 => O) (fun r5331 => [(0, .ref (zad E 262)), (1, .int (zi r5331))]) 41 (fun r5331 h5332 => ?_) (fun k5319 k5321 k5320 k5322 s5317 h5318 => ?_) h5316
  · refine r_iload_n (pc := 41) (j := 1) C dX12_hasRelation_41 rfl rfl ?_
    refine r_jk (fun q5333 : Unit => True) (fun q5333 => S) (fun q5333 => O) (fun q5333 => []) 73 (fun q5333 => []) (fun q5333 h5334 => ?_) (fun k5335 k5336 => ?_)
    · refine r_iconst (v := 0) C dX12_hasRelation_73 (by decide) ?_
      exact r_ireturn C hQ (nar_z (BRd rfl)) dX12_hasRelation_74 (fun e => by cases e; exact ⟨(BRd rfl), rfl, rfl, rfl, rfl, rfl⟩)
    · refine r_if_lt (tgt := 73) C h5332 dX12_hasRelation_42 (by decide) (fun c5337 => ?_) (fun c5337 => ?_)
      · refine r_t c5337 ?_
        refine r_L (L' := []) [] rfl ?_
        exact k5336 () trivial
      · refine r_f c5337 ?_
        refine r_aload_n (pc := 45) (j := 0) C dX12_hasRelation_45 rfl rfl ?_
        refine r_getR (j := 14) (r := 268) C cl_X12 kd_262 ln_262 (by decide) rfl r0_262_14 (by decide) q_1567 dX12_hasRelation_46 ?_
        refine r_iload_n (pc := 49) (j := 1) C dX12_hasRelation_49 rfl rfl ?_
        refine r_iald C kd_268 ln_268 gc_268 h5332 dX12_hasRelation_50 (fun v5338 h5339 => ?_)
        refine r_bipush (v := 20) C dX12_hasRelation_51 (by decide) ?_
        refine r_icmp_eq (tgt := 73) C h5339 (IRd rfl) dX12_hasRelation_53 (by decide) (fun c5340 => ?_) (fun c5340 => ?_)
        · refine r_t c5340 ?_
          refine r_L (L' := []) [] rfl ?_
          exact k5336 () trivial
        · refine r_f c5340 ?_
          refine r_aload_n (pc := 56) (j := 0) C dX12_hasRelation_56 rfl rfl ?_
          refine r_getR (j := 14) (r := 268) C cl_X12 kd_262 ln_262 (by decide) rfl r0_262_14 (by decide) q_1567 dX12_hasRelation_57 ?_
          refine r_iload_n (pc := 60) (j := 1) C dX12_hasRelation_60 rfl rfl ?_
          refine r_iald C kd_268 ln_268 gc_268 h5332 dX12_hasRelation_61 (fun v5341 h5342 => ?_)
          refine r_cS1 (pc := 62) (As := [.int (zi v5341)]) (st := []) C (m_X12_tight (a0 := v5341) h5342 rfl) cal_X12_tight q_1916 dX12_hasRelation_62 rfl rfl (Nat.le_of_ble_eq_true rfl) (Nat.le_of_ble_eq_true rfl) (Nat.le_of_ble_eq_true rfl) (Nat.le_of_ble_eq_true rfl) (Nat.le_of_ble_eq_true rfl) (fun h5343 => ?_)
          refine r_iconst (v := 4) C dX12_hasRelation_65 (by decide) ?_
          refine r_icmp_ne (tgt := 73) C h5343 (IRd rfl) dX12_hasRelation_66 (by decide) (fun c5344 => ?_) (fun c5344 => ?_)
          · refine r_f c5344 ?_
            refine r_L (L' := []) [] rfl ?_
            exact k5336 () trivial
          · refine r_t c5344 ?_
            refine r_iconst (v := 1) C dX12_hasRelation_69 (by decide) ?_
            refine r_goto (tgt := 74) C dX12_hasRelation_70 (by decide) ?_
            exact r_ireturn C hQ (nar_z (BRd rfl)) dX12_hasRelation_74 (fun e => by cases e; exact ⟨(BRd rfl), rfl, rfl, rfl, rfl, rfl⟩)
  · refine r_iload_n (pc := 7) (j := 1) C dX12_hasRelation_7 rfl rfl ?_
    refine r_if_lt (tgt := 41) C h5318 dX12_hasRelation_8 (by decide) (fun c5323 => ?_) (fun c5323 => ?_)
    · refine r_bt c5323 ?_
      exact k5322 s5317 h5318
    · refine r_bf c5323 ?_
      refine r_aload_n (pc := 11) (j := 0) C dX12_hasRelation_11 rfl rfl ?_
      refine r_getR (j := 14) (r := 268) C cl_X12 kd_262 ln_262 (by decide) rfl r0_262_14 (by decide) q_1567 dX12_hasRelation_12 ?_
      refine r_iload_n (pc := 15) (j := 1) C dX12_hasRelation_15 rfl rfl ?_
      refine r_bb ?_
      refine r_iald C kd_268 ln_268 gc_268 h5318 dX12_hasRelation_16 (fun v5324 h5325 => ?_)
      refine r_bipush (v := 20) C dX12_hasRelation_17 (by decide) ?_
      refine r_icmp_eq (tgt := 41) C h5325 (IRd rfl) dX12_hasRelation_19 (by decide) (fun c5326 => ?_) (fun c5326 => ?_)
      · refine r_bt c5326 ?_
        exact k5322 s5317 h5318
      · refine r_bf c5326 ?_
        refine r_aload_n (pc := 22) (j := 0) C dX12_hasRelation_22 rfl rfl ?_
        refine r_getR (j := 14) (r := 268) C cl_X12 kd_262 ln_262 (by decide) rfl r0_262_14 (by decide) q_1567 dX12_hasRelation_23 ?_
        refine r_iload_n (pc := 26) (j := 1) C dX12_hasRelation_26 rfl rfl ?_
        refine r_bb ?_
        refine r_iald C kd_268 ln_268 gc_268 h5318 dX12_hasRelation_27 (fun v5327 h5328 => ?_)
        refine r_cS1 (pc := 28) (As := [.int (zi v5327)]) (st := []) C (m_X12_tight (a0 := v5327) h5328 rfl) cal_X12_tight q_1916 dX12_hasRelation_28 rfl rfl (Nat.le_of_ble_eq_true rfl) (Nat.le_of_ble_eq_true rfl) (Nat.le_of_ble_eq_true rfl) (Nat.le_of_ble_eq_true rfl) (Nat.le_of_ble_eq_true rfl) (fun h5329 => ?_)
        refine r_iconst (v := 4) C dX12_hasRelation_31 (by decide) ?_
        refine r_icmp_le (tgt := 41) C h5329 (IRd rfl) dX12_hasRelation_32 (by decide) (fun c5330 => ?_) (fun c5330 => ?_)
        · refine r_bf c5330 ?_
          exact k5322 s5317 h5318
        · refine r_bt c5330 ?_
          refine r_iinc (j := 1) (L' := [(1, .int (zi (wr (s5317 + (-1))))), (0, .ref (zad E 262))]) C dX12_hasRelation_35 rfl (by decide) rfl ?_
          refine r_goto (tgt := 7) C dX12_hasRelation_38 (by decide) ?_
          refine r_L (L' := [(0, .ref (zad E 262)), (1, .int (zi (wr (s5317 + (-1)))))]) [1, 0] rfl ?_
          exact k5320 (wr (s5317 + (-1))) (IR_wr _)

def f_X12_mayNot (O : Smo) : Option (Int) :=
  jk (fun (q5346 : Unit) =>
    some 1) fun k5348 =>
  if O 262 18 = 0 then
    (k5348 ())
  else
    (Option.bind (aget (O 268) (Ln 268) (wr ((O 262 18) - 1))) fun (v5352 : Int) =>
    if v5352 = 20 then
      (k5348 ())
    else
      (Option.bind (aget (O 268) (Ln 268) (wr ((O 262 18) - 1))) fun (v5356 : Int) =>
      if f_X12_tight v5356 < 4 then
        (k5348 ())
      else
        (some 0)))
set_option maxRecDepth 100000 in
set_option maxHeartbeats 4000000 in
theorem m_X12_mayNot {l : Launch} {E : EwT} {S : Sst} {O : Smo}  {q : Int} (hq : f_X12_mayNot O = some q) : MetG l E yX12_mayNot cX12_mayNot 1 (some .boolean) 1 20 0 0 n0 R0 S O [.ref (zad E 262)] (BR q) (some (.int (zi q))) n0 R0 S O := by
  refine ofG (L0 := [(0, .ref (zad E 262))]) hq (by decide +kernel) (Nat.le_of_ble_eq_true rfl) rfl (fun K _ C hQ => ?_)
  unfold f_X12_mayNot
  refine r_aload_n (pc := 0) (j := 0) C dX12_mayNot_0 rfl rfl ?_
  refine r_getO (j := 18) C cl_X12 kd_262 ln_262 gc_262 (by decide) (by decide) rfl q_1571 dX12_mayNot_1 (fun h5345 => ?_)
  refine r_jk (fun q5346 : Unit => True) (fun q5346 => S) (fun q5346 => O) (fun q5346 => []) 41 (fun q5346 => []) (fun q5346 h5347 => ?_) (fun k5348 k5349 => ?_)
  · refine r_iconst (v := 1) C dX12_mayNot_41 (by decide) ?_
    refine r_goto (tgt := 46) C dX12_mayNot_42 (by decide) ?_
    exact r_ireturn C hQ (nar_z (BRd rfl)) dX12_mayNot_46 (fun e => by cases e; exact ⟨(BRd rfl), rfl, rfl, rfl, rfl, rfl⟩)
  · refine r_if_eq (tgt := 41) C h5345 dX12_mayNot_4 (by decide) (fun c5350 => ?_) (fun c5350 => ?_)
    · refine r_t c5350 ?_
      refine r_L (L' := []) [] rfl ?_
      exact k5349 () trivial
    · refine r_f c5350 ?_
      refine r_aload_n (pc := 7) (j := 0) C dX12_mayNot_7 rfl rfl ?_
      refine r_getR (j := 14) (r := 268) C cl_X12 kd_262 ln_262 (by decide) rfl r0_262_14 (by decide) q_1567 dX12_mayNot_8 ?_
      refine r_aload_n (pc := 11) (j := 0) C dX12_mayNot_11 rfl rfl ?_
      refine r_getO (j := 18) C cl_X12 kd_262 ln_262 gc_262 (by decide) (by decide) rfl q_1571 dX12_mayNot_12 (fun h5351 => ?_)
      refine r_iconst (v := 1) C dX12_mayNot_15 (by decide) ?_
      refine r_isub C dX12_mayNot_16 ?_
      refine r_iald C kd_268 ln_268 gc_268 (IR_wr _) dX12_mayNot_17 (fun v5352 h5353 => ?_)
      refine r_bipush (v := 20) C dX12_mayNot_18 (by decide) ?_
      refine r_icmp_eq (tgt := 41) C h5353 (IRd rfl) dX12_mayNot_20 (by decide) (fun c5354 => ?_) (fun c5354 => ?_)
      · refine r_t c5354 ?_
        refine r_L (L' := []) [] rfl ?_
        exact k5349 () trivial
      · refine r_f c5354 ?_
        refine r_aload_n (pc := 23) (j := 0) C dX12_mayNot_23 rfl rfl ?_
        refine r_getR (j := 14) (r := 268) C cl_X12 kd_262 ln_262 (by decide) rfl r0_262_14 (by decide) q_1567 dX12_mayNot_24 ?_
        refine r_aload_n (pc := 27) (j := 0) C dX12_mayNot_27 rfl rfl ?_
        refine r_getO (j := 18) C cl_X12 kd_262 ln_262 gc_262 (by decide) (by decide) rfl q_1571 dX12_mayNot_28 (fun h5355 => ?_)
        refine r_iconst (v := 1) C dX12_mayNot_31 (by decide) ?_
        refine r_isub C dX12_mayNot_32 ?_
        refine r_iald C kd_268 ln_268 gc_268 (IR_wr _) dX12_mayNot_33 (fun v5356 h5357 => ?_)
        refine r_cS1 (pc := 34) (As := [.int (zi v5356)]) (st := []) C (m_X12_tight (a0 := v5356) h5357 rfl) cal_X12_tight q_1916 dX12_mayNot_34 rfl rfl (Nat.le_of_ble_eq_true rfl) (Nat.le_of_ble_eq_true rfl) (Nat.le_of_ble_eq_true rfl) (Nat.le_of_ble_eq_true rfl) (Nat.le_of_ble_eq_true rfl) (fun h5358 => ?_)
        refine r_iconst (v := 4) C dX12_mayNot_37 (by decide) ?_
        refine r_icmp_ge (tgt := 45) C h5358 (IRd rfl) dX12_mayNot_38 (by decide) (fun c5359 => ?_) (fun c5359 => ?_)
        · refine r_f c5359 ?_
          refine r_iconst (v := 0) C dX12_mayNot_45 (by decide) ?_
          exact r_ireturn C hQ (nar_z (BRd rfl)) dX12_mayNot_46 (fun e => by cases e; exact ⟨(BRd rfl), rfl, rfl, rfl, rfl, rfl⟩)
        · refine r_t c5359 ?_
          refine r_L (L' := []) [] rfl ?_
          exact k5349 () trivial

def f_X12_asked (O : Smo) : Int :=
  if O 262 6 = 1 then
    (if zlcmp (O 262 9) 121450625394034 = 0 then
      (0)
    else
      (if zlcmp (O 262 9) 107079749563251 = 0 then
        (1)
      else
        (if zlcmp (O 262 9) 512869299304 = 0 then
          (2)
        else
          (if zlcmp (O 262 9) 1919513445 = 0 then
            (3)
          else
            (if zlcmp (O 262 9) 1819632491 = 0 then
              (4)
            else
              ((-1)))))))
  else
    ((-1))
set_option maxRecDepth 100000 in
set_option maxHeartbeats 4000000 in
theorem m_X12_asked {l : Launch} {E : EwT} {S : Sst} {O : Smo}  {q : Int} (hq : f_X12_asked O = q) : MetG l E yX12_asked cX12_asked 1 (some .int) 0 0 0 0 n0 R0 S O [.ref (zad E 262)] (IR q) (some (.int (zi q))) n0 R0 S O := by
  refine ofG (L0 := [(0, .ref (zad E 262))]) hq (by decide +kernel) (Nat.le_of_ble_eq_true rfl) rfl (fun K _ C hQ => ?_)
  unfold f_X12_asked
  refine r_aload_n (pc := 0) (j := 0) C dX12_asked_0 rfl rfl ?_
  refine r_getO (j := 6) C cl_X12 kd_262 ln_262 gc_262 (by decide) (by decide) rfl q_1559 dX12_asked_1 (fun h5360 => ?_)
  refine r_iconst (v := 1) C dX12_asked_4 (by decide) ?_
  refine r_icmp_eq (tgt := 10) C h5360 (IRd rfl) dX12_asked_5 (by decide) (fun c5361 => ?_) (fun c5361 => ?_)
  · refine r_t c5361 ?_
    refine r_aload_n (pc := 10) (j := 0) C dX12_asked_10 rfl rfl ?_
    refine r_getOl (j := 9) C cl_X12 kd_262 ln_262 gc_262 (by decide) (by decide) rfl q_1562 dX12_asked_11 (fun h5362 => ?_)
    refine r_ldc2 (v := 121450625394034) C q_1858 dX12_asked_14 (by decide) ?_
    refine r_lcmp C h5362 (LRd rfl) dX12_asked_17 ?_
    refine r_if_ne (tgt := 23) C (zlcmp_IR _ _) dX12_asked_18 (by decide) (fun c5363 => ?_) (fun c5363 => ?_)
    · refine r_f c5363 ?_
      refine r_aload_n (pc := 23) (j := 0) C dX12_asked_23 rfl rfl ?_
      refine r_getOl (j := 9) C cl_X12 kd_262 ln_262 gc_262 (by decide) (by decide) rfl q_1562 dX12_asked_24 (fun h5364 => ?_)
      refine r_ldc2 (v := 107079749563251) C q_1859 dX12_asked_27 (by decide) ?_
      refine r_lcmp C h5364 (LRd rfl) dX12_asked_30 ?_
      refine r_if_ne (tgt := 36) C (zlcmp_IR _ _) dX12_asked_31 (by decide) (fun c5365 => ?_) (fun c5365 => ?_)
      · refine r_f c5365 ?_
        refine r_aload_n (pc := 36) (j := 0) C dX12_asked_36 rfl rfl ?_
        refine r_getOl (j := 9) C cl_X12 kd_262 ln_262 gc_262 (by decide) (by decide) rfl q_1562 dX12_asked_37 (fun h5366 => ?_)
        refine r_ldc2 (v := 512869299304) C q_1860 dX12_asked_40 (by decide) ?_
        refine r_lcmp C h5366 (LRd rfl) dX12_asked_43 ?_
        refine r_if_ne (tgt := 49) C (zlcmp_IR _ _) dX12_asked_44 (by decide) (fun c5367 => ?_) (fun c5367 => ?_)
        · refine r_f c5367 ?_
          refine r_aload_n (pc := 49) (j := 0) C dX12_asked_49 rfl rfl ?_
          refine r_getOl (j := 9) C cl_X12 kd_262 ln_262 gc_262 (by decide) (by decide) rfl q_1562 dX12_asked_50 (fun h5368 => ?_)
          refine r_ldc2 (v := 1919513445) C q_1861 dX12_asked_53 (by decide) ?_
          refine r_lcmp C h5368 (LRd rfl) dX12_asked_56 ?_
          refine r_if_ne (tgt := 62) C (zlcmp_IR _ _) dX12_asked_57 (by decide) (fun c5369 => ?_) (fun c5369 => ?_)
          · refine r_f c5369 ?_
            refine r_aload_n (pc := 62) (j := 0) C dX12_asked_62 rfl rfl ?_
            refine r_getOl (j := 9) C cl_X12 kd_262 ln_262 gc_262 (by decide) (by decide) rfl q_1562 dX12_asked_63 (fun h5370 => ?_)
            refine r_ldc2 (v := 1819632491) C q_1862 dX12_asked_66 (by decide) ?_
            refine r_lcmp C h5370 (LRd rfl) dX12_asked_69 ?_
            refine r_if_ne (tgt := 77) C (zlcmp_IR _ _) dX12_asked_70 (by decide) (fun c5371 => ?_) (fun c5371 => ?_)
            · refine r_f c5371 ?_
              refine r_iconst (v := (-1)) C dX12_asked_77 (by decide) ?_
              exact r_ireturn C hQ rfl dX12_asked_78 (fun e => by subst e; exact ⟨(IRd rfl), rfl, rfl, rfl, rfl, rfl⟩)
            · refine r_t c5371 ?_
              refine r_iconst (v := 4) C dX12_asked_73 (by decide) ?_
              refine r_goto (tgt := 78) C dX12_asked_74 (by decide) ?_
              exact r_ireturn C hQ rfl dX12_asked_78 (fun e => by subst e; exact ⟨(IRd rfl), rfl, rfl, rfl, rfl, rfl⟩)
          · refine r_t c5369 ?_
            refine r_iconst (v := 3) C dX12_asked_60 (by decide) ?_
            exact r_ireturn C hQ rfl dX12_asked_61 (fun e => by subst e; exact ⟨(IRd rfl), rfl, rfl, rfl, rfl, rfl⟩)
        · refine r_t c5367 ?_
          refine r_iconst (v := 2) C dX12_asked_47 (by decide) ?_
          exact r_ireturn C hQ rfl dX12_asked_48 (fun e => by subst e; exact ⟨(IRd rfl), rfl, rfl, rfl, rfl, rfl⟩)
      · refine r_t c5365 ?_
        refine r_iconst (v := 1) C dX12_asked_34 (by decide) ?_
        exact r_ireturn C hQ rfl dX12_asked_35 (fun e => by subst e; exact ⟨(IRd rfl), rfl, rfl, rfl, rfl, rfl⟩)
    · refine r_t c5363 ?_
      refine r_iconst (v := 0) C dX12_asked_21 (by decide) ?_
      exact r_ireturn C hQ rfl dX12_asked_22 (fun e => by subst e; exact ⟨(IRd rfl), rfl, rfl, rfl, rfl, rfl⟩)
  · refine r_f c5361 ?_
    refine r_iconst (v := (-1)) C dX12_asked_8 (by decide) ?_
    exact r_ireturn C hQ rfl dX12_asked_9 (fun e => by subst e; exact ⟨(IRd rfl), rfl, rfl, rfl, rfl, rfl⟩)

def f_X12_isFull (O : Smo) : Int :=
  if (O 262 19 = 60 ∨ O 262 21 = 30) then
    (1)
  else
    (0)
set_option maxRecDepth 100000 in
set_option maxHeartbeats 4000000 in
theorem m_X12_isFull {l : Launch} {E : EwT} {S : Sst} {O : Smo}  {q : Int} (hq : f_X12_isFull O = q) : MetG l E yX12_isFull cX12_isFull 1 (some .boolean) 0 0 0 0 n0 R0 S O [.ref (zad E 262)] (BR q) (some (.int (zi q))) n0 R0 S O := by
  refine ofG (L0 := [(0, .ref (zad E 262))]) hq (by decide +kernel) (Nat.le_of_ble_eq_true rfl) rfl (fun K _ C hQ => ?_)
  unfold f_X12_isFull
  refine r_aload_n (pc := 0) (j := 0) C dX12_isFull_0 rfl rfl ?_
  refine r_getO (j := 19) C cl_X12 kd_262 ln_262 gc_262 (by decide) (by decide) rfl q_1572 dX12_isFull_1 (fun h5372 => ?_)
  refine r_bipush (v := 60) C dX12_isFull_4 (by decide) ?_
  refine r_cut (O 262 19 = 60 ∨ O 262 21 = 30) 18 22 [] (fun c5374 => ?_) (fun c5374 => ?_) (fun k5375 k5376 => ?_)
  · refine r_t c5374 ?_
    refine r_iconst (v := 1) C dX12_isFull_18 (by decide) ?_
    refine r_goto (tgt := 23) C dX12_isFull_19 (by decide) ?_
    exact r_ireturn C hQ (nar_z (BRd rfl)) dX12_isFull_23 (fun e => by subst e; exact ⟨(BRd rfl), rfl, rfl, rfl, rfl, rfl⟩)
  · refine r_f c5374 ?_
    refine r_iconst (v := 0) C dX12_isFull_22 (by decide) ?_
    exact r_ireturn C hQ (nar_z (BRd rfl)) dX12_isFull_23 (fun e => by subst e; exact ⟨(BRd rfl), rfl, rfl, rfl, rfl, rfl⟩)
  · refine r_icmp_eq (tgt := 18) C h5372 (IRd rfl) dX12_isFull_6 (by decide) (fun c5377 => ?_) (fun c5377 => ?_)
    · exact k5375 (Or.inl c5377)
    · refine r_aload_n (pc := 9) (j := 0) C dX12_isFull_9 rfl rfl ?_
      refine r_getO (j := 21) C cl_X12 kd_262 ln_262 gc_262 (by decide) (by decide) rfl q_1574 dX12_isFull_10 (fun h5373 => ?_)
      refine r_bipush (v := 30) C dX12_isFull_13 (by decide) ?_
      refine r_icmp_ne (tgt := 22) C h5373 (IRd rfl) dX12_isFull_15 (by decide) (fun c5378 => ?_) (fun c5378 => ?_)
      · exact k5376 (fun w => w.elim c5377 c5378)
      · exact k5375 (Or.inr c5378)

def f_X12_countUnit (O : Smo) : Smo :=
  jn (up2 O 262 19 (wr ((O 262 19) + 1))) fun (O5380 : Smo) =>
  jn (up2 O5380 262 21 (wr ((O5380 262 21) + 1))) fun (O5382 : Smo) =>
  O5382
set_option maxRecDepth 100000 in
set_option maxHeartbeats 4000000 in
theorem m_X12_countUnit {l : Launch} {E : EwT} {S : Sst} {O : Smo}  {q : Smo} (hq : f_X12_countUnit O = q) : MetG l E yX12_countUnit cX12_countUnit 1 none 0 0 0 0 n0 R0 S O [.ref (zad E 262)] (True) none n0 R0 S q := by
  refine ofG (L0 := [(0, .ref (zad E 262))]) hq (by decide +kernel) (Nat.le_of_ble_eq_true rfl) rfl (fun K _ C hQ => ?_)
  unfold f_X12_countUnit
  refine r_aload_n (pc := 0) (j := 0) C dX12_countUnit_0 rfl rfl ?_
  refine r_dup C dX12_countUnit_1 rfl ?_
  refine r_getO (j := 19) C cl_X12 kd_262 ln_262 gc_262 (by decide) (by decide) rfl q_1572 dX12_countUnit_2 (fun h5379 => ?_)
  refine r_iconst (v := 1) C dX12_countUnit_5 (by decide) ?_
  refine r_iadd C dX12_countUnit_6 ?_
  refine r_putO C cl_X12 kd_262 ln_262 gc_262 (by decide) (by decide) rfl rfl rfl (IR_wr _) q_1572 dX12_countUnit_7 (fun O5380 => ?_)
  refine r_aload_n (pc := 10) (j := 0) C dX12_countUnit_10 rfl rfl ?_
  refine r_dup C dX12_countUnit_11 rfl ?_
  refine r_getO (j := 21) C cl_X12 kd_262 ln_262 gc_262 (by decide) (by decide) rfl q_1574 dX12_countUnit_12 (fun h5381 => ?_)
  refine r_iconst (v := 1) C dX12_countUnit_15 (by decide) ?_
  refine r_iadd C dX12_countUnit_16 ?_
  refine r_putO C cl_X12 kd_262 ln_262 gc_262 (by decide) (by decide) rfl rfl rfl (IR_wr _) q_1574 dX12_countUnit_17 (fun O5382 => ?_)
  exact r_return C hQ dX12_countUnit_20 (fun e => by subst e; exact ⟨trivial, rfl, rfl, rfl, rfl, rfl⟩)

def f_X12_openUp (a1 : Int) (O : Smo) : Option (Smo) :=
  Option.bind (asetO O 268 (Ln 268) (O 262 18) a1) fun (O5384 : Smo) =>
  jn (up2 O5384 262 18 (wr ((O5384 262 18) + 1))) fun (O5386 : Smo) =>
  jn (up2 O5386 262 22 (wr ((O5386 262 22) + 1))) fun (O5388 : Smo) =>
  if O5388 262 2 = 0 then
    (Option.bind (f_X12_token O5388) fun (q5392 : Smo) =>
    some q5392)
  else
    (some O5388)
set_option maxRecDepth 100000 in
set_option maxHeartbeats 4000000 in
theorem m_X12_openUp {l : Launch} {E : EwT} {S : Sst} {O : Smo} {a1 : Int} (ha1 : IR a1) {q : Smo} (hq : f_X12_openUp a1 O = some q) : MetG l E yX12_openUp cX12_openUp 2 none 2 43 0 0 n0 R0 S O [.ref (zad E 262), .int (zi a1)] (True) none n0 R0 S q := by
  refine ofG (L0 := [(0, .ref (zad E 262)), (1, .int (zi a1))]) hq (by decide +kernel) (Nat.le_of_ble_eq_true rfl) rfl (fun K _ C hQ => ?_)
  unfold f_X12_openUp
  refine r_aload_n (pc := 0) (j := 0) C dX12_openUp_0 rfl rfl ?_
  refine r_getR (j := 14) (r := 268) C cl_X12 kd_262 ln_262 (by decide) rfl r0_262_14 (by decide) q_1567 dX12_openUp_1 ?_
  refine r_aload_n (pc := 4) (j := 0) C dX12_openUp_4 rfl rfl ?_
  refine r_getO (j := 18) C cl_X12 kd_262 ln_262 gc_262 (by decide) (by decide) rfl q_1571 dX12_openUp_5 (fun h5383 => ?_)
  refine r_iload_n (pc := 8) (j := 1) C dX12_openUp_8 rfl rfl ?_
  refine r_iast C kd_268 ln_268 gc_268 h5383 ha1 dX12_openUp_9 (fun O5384 => ?_)
  refine r_aload_n (pc := 10) (j := 0) C dX12_openUp_10 rfl rfl ?_
  refine r_dup C dX12_openUp_11 rfl ?_
  refine r_getO (j := 18) C cl_X12 kd_262 ln_262 gc_262 (by decide) (by decide) rfl q_1571 dX12_openUp_12 (fun h5385 => ?_)
  refine r_iconst (v := 1) C dX12_openUp_15 (by decide) ?_
  refine r_iadd C dX12_openUp_16 ?_
  refine r_putO C cl_X12 kd_262 ln_262 gc_262 (by decide) (by decide) rfl rfl rfl (IR_wr _) q_1571 dX12_openUp_17 (fun O5386 => ?_)
  refine r_aload_n (pc := 20) (j := 0) C dX12_openUp_20 rfl rfl ?_
  refine r_dup C dX12_openUp_21 rfl ?_
  refine r_getO (j := 22) C cl_X12 kd_262 ln_262 gc_262 (by decide) (by decide) rfl q_1575 dX12_openUp_22 (fun h5387 => ?_)
  refine r_iconst (v := 1) C dX12_openUp_25 (by decide) ?_
  refine r_iadd C dX12_openUp_26 ?_
  refine r_putO C cl_X12 kd_262 ln_262 gc_262 (by decide) (by decide) rfl rfl rfl (IR_wr _) q_1575 dX12_openUp_27 (fun O5388 => ?_)
  refine r_aload_n (pc := 30) (j := 0) C dX12_openUp_30 rfl rfl ?_
  refine r_getO (j := 2) C cl_X12 kd_262 ln_262 gc_262 (by decide) (by decide) rfl q_1555 dX12_openUp_31 (fun h5389 => ?_)
  refine r_if_ne (tgt := 41) C h5389 dX12_openUp_34 (by decide) (fun c5390 => ?_) (fun c5390 => ?_)
  · refine r_f c5390 ?_
    exact r_return C hQ dX12_openUp_41 (fun e => by cases e; exact ⟨trivial, rfl, rfl, rfl, rfl, rfl⟩)
  · refine r_t c5390 ?_
    refine r_aload_n (pc := 37) (j := 0) C dX12_openUp_37 rfl rfl ?_
    refine r_bd (fun q5392 e5393 => ?_)
    refine r_cV0 (pc := 38) (k := 262) (As := []) (st := []) C (m_X12_token  e5393) cal_X12_token cl_X12 kd_262 ln_262 q_1815 dX12_openUp_38 rfl rfl (Nat.le_of_ble_eq_true rfl) (Nat.le_of_ble_eq_true rfl) (Nat.le_of_ble_eq_true rfl) (Nat.le_of_ble_eq_true rfl) (Nat.le_of_ble_eq_true rfl) (fun h5391 => ?_)
    exact r_return C hQ dX12_openUp_41 (fun e => by cases e; exact ⟨trivial, rfl, rfl, rfl, rfl, rfl⟩)

def f_X12_unit (O : Smo) : Option (Smo) :=
  Option.bind (lp (fun (s5394 : Int × Smo) =>
    if (s5394.1 = 0 ∨ ¬ s5394.2 262 2 = 0) then
      (some (Sum.inr s5394.2))
    else
      (jk (fun (q5405 : Smo) =>
        if q5405 262 6 = 40 then
          (jn (
            if (f_X12_isFull q5405 = 0 ∧ ¬ 6 < q5405 262 22) then
              (q5405)
            else
              (jn (f_X12_wrong 2 q5405) fun (q5438 : Smo) =>
              q5438)) fun (q5430 : Smo) =>
          jn (f_X12_countUnit q5430) fun (q5443 : Smo) =>
          Option.bind (f_X12_openUp 20 q5443) fun (q5446 : Smo) =>
          some (Sum.inl (s5394.1, q5446)))
        else
          (some (Sum.inl (0, q5405)))) fun k5407 =>
      if f_X12_isWord 7237492 s5394.2 = 0 then
        (k5407 s5394.2)
      else
        (Option.bind (f_X12_mayNot s5394.2) fun (q5411 : Int) =>
        if q5411 = 0 then
          (k5407 s5394.2)
        else
          (jn (
            if 6 < s5394.2 262 22 then
              (jn (f_X12_wrong 2 s5394.2) fun (q5421 : Smo) =>
              q5421)
            else
              (s5394.2)) fun (q5415 : Smo) =>
          Option.bind (f_X12_openUp 21 q5415) fun (q5424 : Smo) =>
          some (Sum.inl (s5394.1, q5424)))))) FU (1, O)) fun (r5450 : Smo) =>
  if 0 < r5450 262 2 then
    (some r5450)
  else
    (jn (f_X12_asked r5450) fun (v5455 : Int) =>
    jn (
      if ((r5450 262 6 = 2 ∨ ¬ v5455 < 0) ∧ f_X12_isFull r5450 = 0) then
        (r5450)
      else
        (jn (f_X12_wrong 2 r5450) fun (q5467 : Smo) =>
        q5467)) fun (q5459 : Smo) =>
    if 0 < q5459 262 2 then
      (some q5459)
    else
      (jn (f_X12_countUnit q5459) fun (q5476 : Smo) =>
      jn (
        if v5455 < 0 then
          (0)
        else
          (1)) fun (q5478 : Int) =>
      jn (
        if v5455 < 0 then
          (q5476 262 8)
        else
          (v5455)) fun (q5483 : Int) =>
      Option.bind (f_X12_add q5478 q5483 q5476) fun (q5490 : Smo) =>
      Option.bind (f_X12_token q5490) fun (q5493 : Smo) =>
      some q5493))
set_option maxRecDepth 100000 in
set_option maxHeartbeats 4000000 in
theorem m_X12_unit {l : Launch} {E : EwT} {S : Sst} {O : Smo}  {q : Smo} (hq : f_X12_unit O = some q) : MetG l E yX12_unit cX12_unit 3 none 3 64 0 0 n0 R0 S O [.ref (zad E 262)] (True) none n0 R0 S q := by
  refine ofG (L0 := [(0, .ref (zad E 262))]) hq (by decide +kernel) (Nat.le_of_ble_eq_true rfl) rfl (fun K _ C hQ => ?_)
  unfold f_X12_unit
  refine r_iconst (v := 1) C dX12_unit_0 (by decide) ?_
  refine r_istore_n (L' := [(1, .int (zi 1)), (0, .ref (zad E 262))]) C dX12_unit_1 rfl (by decide) rfl ?_
  refine r_L (L' := [(0, .ref (zad E 262)), (1, .int (zi 1))]) [1, 0] rfl ?_
  refine r_loop1 (fun s5394 : Int × Smo => BR s5394.1) (fun s5394 => S) (fun s5394 => s5394.2) (fun s5394 => [(0, .ref (zad E 262)), (1, .int (zi s5394.1))]) [] (fun r5450 : Smo => True) (fun r5450 => S) (fun r5450 => r5450) (fun r5450 => [(0, .ref (zad E 262))]) 101 (fun r5450 h5451 => ?_) (fun k5396 k5398 k5397 k5399 s5394 h5395 => ?_) (BRd rfl)
  · refine r_aload_n (pc := 101) (j := 0) C dX12_unit_101 rfl rfl ?_
    refine r_getO (j := 2) C cl_X12 kd_262 ln_262 gc_262 (by decide) (by decide) rfl q_1555 dX12_unit_102 (fun h5452 => ?_)
    refine r_if_le (tgt := 109) C h5452 dX12_unit_105 (by decide) (fun c5453 => ?_) (fun c5453 => ?_)
    · refine r_f c5453 ?_
      refine r_aload_n (pc := 109) (j := 0) C dX12_unit_109 rfl rfl ?_
      refine r_cV1 (pc := 110) (k := 262) (As := []) (st := []) C (m_X12_asked  rfl) cal_X12_asked cl_X12 kd_262 ln_262 q_1931 dX12_unit_110 rfl rfl (Nat.le_of_ble_eq_true rfl) (Nat.le_of_ble_eq_true rfl) (Nat.le_of_ble_eq_true rfl) (Nat.le_of_ble_eq_true rfl) (Nat.le_of_ble_eq_true rfl) (fun h5454 => ?_)
      refine r_jv h5454 (fun v5455 h5456 => ?_)
      refine r_istore_n (L' := [(2, .int (zi v5455)), (0, .ref (zad E 262))]) C dX12_unit_113 rfl (by decide) rfl ?_
      refine r_aload_n (pc := 114) (j := 1) C dX12_unit_114 rfl rfl ?_
      refine r_getO (j := 6) C cl_X12 kd_262 ln_262 gc_262 (by decide) (by decide) rfl q_1559 dX12_unit_115 (fun h5457 => ?_)
      refine r_iconst (v := 2) C dX12_unit_118 (by decide) ?_
      refine r_join (fun q5459 : Smo => True) (fun q5459 => S) (fun q5459 => q5459) (fun q5459 => [(0, .ref (zad E 262)), (2, .int (zi v5455))]) 138 (fun q5459 => []) (fun q5459 h5460 => ?_) (fun k5461 k5462 => ?_)
      · refine r_aload_n (pc := 138) (j := 0) C dX12_unit_138 rfl rfl ?_
        refine r_getO (j := 2) C cl_X12 kd_262 ln_262 gc_262 (by decide) (by decide) rfl q_1555 dX12_unit_139 (fun h5473 => ?_)
        refine r_if_le (tgt := 146) C h5473 dX12_unit_142 (by decide) (fun c5474 => ?_) (fun c5474 => ?_)
        · refine r_f c5474 ?_
          refine r_aload_n (pc := 146) (j := 0) C dX12_unit_146 rfl rfl ?_
          refine r_jn (fun q5476 e5477 => ?_)
          refine r_cV0 (pc := 147) (k := 262) (As := []) (st := []) C (m_X12_countUnit  e5477) cal_X12_countUnit cl_X12 kd_262 ln_262 q_1927 dX12_unit_147 rfl rfl (Nat.le_of_ble_eq_true rfl) (Nat.le_of_ble_eq_true rfl) (Nat.le_of_ble_eq_true rfl) (Nat.le_of_ble_eq_true rfl) (Nat.le_of_ble_eq_true rfl) (fun h5475 => ?_)
          refine r_aload_n (pc := 150) (j := 0) C dX12_unit_150 rfl rfl ?_
          refine r_iload_n (pc := 151) (j := 1) C dX12_unit_151 rfl rfl ?_
          refine r_join (fun q5478 : Int => BR q5478) (fun q5478 => S) (fun q5478 => q5476) (fun q5478 => [(0, .ref (zad E 262)), (2, .int (zi v5455))]) 160 (fun q5478 => [.int (zi q5478), .ref (zad E 262)]) (fun q5478 h5479 => ?_) (fun k5480 k5481 => ?_)
          · refine r_iload_n (pc := 160) (j := 1) C dX12_unit_160 rfl rfl ?_
            refine r_join (fun q5483 : Int => IR q5483) (fun q5483 => S) (fun q5483 => q5476) (fun q5483 => [(0, .ref (zad E 262))]) 172 (fun q5483 => [.int (zi q5483), .int (zi q5478), .ref (zad E 262)]) (fun q5483 h5484 => ?_) (fun k5485 k5486 => ?_)
            · refine r_bd (fun q5490 e5491 => ?_)
              refine r_cV0 (pc := 172) (k := 262) (As := [.int (zi q5478), .int (zi q5483)]) (st := []) C (m_X12_add (a1 := q5478) (a2 := q5483) h5479.ir h5484 e5491) cal_X12_add cl_X12 kd_262 ln_262 q_1935 dX12_unit_172 rfl rfl (Nat.le_of_ble_eq_true rfl) (Nat.le_of_ble_eq_true rfl) (Nat.le_of_ble_eq_true rfl) (Nat.le_of_ble_eq_true rfl) (Nat.le_of_ble_eq_true rfl) (fun h5489 => ?_)
              refine r_aload_n (pc := 175) (j := 0) C dX12_unit_175 rfl rfl ?_
              refine r_bd (fun q5493 e5494 => ?_)
              refine r_cV0 (pc := 176) (k := 262) (As := []) (st := []) C (m_X12_token  e5494) cal_X12_token cl_X12 kd_262 ln_262 q_1815 dX12_unit_176 rfl rfl (Nat.le_of_ble_eq_true rfl) (Nat.le_of_ble_eq_true rfl) (Nat.le_of_ble_eq_true rfl) (Nat.le_of_ble_eq_true rfl) (Nat.le_of_ble_eq_true rfl) (fun h5492 => ?_)
              exact r_return C hQ dX12_unit_179 (fun e => by cases e; exact ⟨trivial, rfl, rfl, rfl, rfl, rfl⟩)
            · refine r_if_ge (tgt := 171) C h5456 dX12_unit_161 (by decide) (fun c5487 => ?_) (fun c5487 => ?_)
              · refine r_jf c5487 ?_
                refine r_iload_n (pc := 171) (j := 1) C dX12_unit_171 rfl rfl ?_
                refine r_L (L' := [(0, .ref (zad E 262))]) [0] rfl ?_
                exact k5486 v5455 h5456
              · refine r_jt c5487 ?_
                refine r_aload_n (pc := 164) (j := 0) C dX12_unit_164 rfl rfl ?_
                refine r_getO (j := 8) C cl_X12 kd_262 ln_262 gc_262 (by decide) (by decide) rfl q_1561 dX12_unit_165 (fun h5488 => ?_)
                refine r_goto (tgt := 172) C dX12_unit_168 (by decide) ?_
                refine r_L (L' := [(0, .ref (zad E 262))]) [0] rfl ?_
                exact k5486 (q5476 262 8) h5488
          · refine r_if_ge (tgt := 159) C h5456 dX12_unit_152 (by decide) (fun c5482 => ?_) (fun c5482 => ?_)
            · refine r_jf c5482 ?_
              refine r_iconst (v := 1) C dX12_unit_159 (by decide) ?_
              exact k5481 1 (BRd rfl)
            · refine r_jt c5482 ?_
              refine r_iconst (v := 0) C dX12_unit_155 (by decide) ?_
              refine r_goto (tgt := 160) C dX12_unit_156 (by decide) ?_
              exact k5481 0 (BRd rfl)
        · refine r_t c5474 ?_
          exact r_return C hQ dX12_unit_145 (fun e => by cases e; exact ⟨trivial, rfl, rfl, rfl, rfl, rfl⟩)
      · refine r_cut ((r5450 262 6 = 2 ∨ ¬ v5455 < 0) ∧ f_X12_isFull r5450 = 0) 138 133 [] (fun c5463 => ?_) (fun c5463 => ?_) (fun k5464 k5465 => ?_)
        · refine r_jt c5463 ?_
          refine r_L (L' := [(0, .ref (zad E 262)), (2, .int (zi v5455))]) [1, 0] rfl ?_
          exact k5462 r5450 trivial
        · refine r_jf c5463 ?_
          refine r_aload_n (pc := 133) (j := 1) C dX12_unit_133 rfl rfl ?_
          refine r_iconst (v := 2) C dX12_unit_134 (by decide) ?_
          refine r_jj ?_
          refine r_jn (fun q5467 e5468 => ?_)
          refine r_cV0 (pc := 135) (k := 262) (As := [.int (zi 2)]) (st := []) C (m_X12_wrong (a1 := 2) (IRd rfl) e5468) cal_X12_wrong cl_X12 kd_262 ln_262 q_1866 dX12_unit_135 rfl rfl (Nat.le_of_ble_eq_true rfl) (Nat.le_of_ble_eq_true rfl) (Nat.le_of_ble_eq_true rfl) (Nat.le_of_ble_eq_true rfl) (Nat.le_of_ble_eq_true rfl) (fun h5466 => ?_)
          refine r_L (L' := [(0, .ref (zad E 262)), (2, .int (zi v5455))]) [1, 0] rfl ?_
          exact k5462 q5467 trivial
        · refine r_icmp_eq (tgt := 126) C h5457 (IRd rfl) dX12_unit_119 (by decide) (fun c5469 => ?_) (fun c5469 => ?_)
          · refine r_aload_n (pc := 126) (j := 1) C dX12_unit_126 rfl rfl ?_
            refine r_cV1 (pc := 127) (k := 262) (As := []) (st := []) C (m_X12_isFull  rfl) cal_X12_isFull cl_X12 kd_262 ln_262 q_1923 dX12_unit_127 rfl rfl (Nat.le_of_ble_eq_true rfl) (Nat.le_of_ble_eq_true rfl) (Nat.le_of_ble_eq_true rfl) (Nat.le_of_ble_eq_true rfl) (Nat.le_of_ble_eq_true rfl) (fun h5458 => ?_)
            refine r_if_eq (tgt := 138) C h5458.ir dX12_unit_130 (by decide) (fun c5470 => ?_) (fun c5470 => ?_)
            · exact k5464 ⟨(Or.inl c5469), c5470⟩
            · exact k5465 (fun w => c5470 w.2)
          · refine r_iload_n (pc := 122) (j := 0) C dX12_unit_122 rfl rfl ?_
            refine r_if_lt (tgt := 133) C h5456 dX12_unit_123 (by decide) (fun c5471 => ?_) (fun c5471 => ?_)
            · exact k5465 (fun w => (fun w => w.elim c5469 (fun x => x c5471)) w.1)
            · refine r_aload_n (pc := 126) (j := 1) C dX12_unit_126 rfl rfl ?_
              refine r_cV1 (pc := 127) (k := 262) (As := []) (st := []) C (m_X12_isFull  rfl) cal_X12_isFull cl_X12 kd_262 ln_262 q_1923 dX12_unit_127 rfl rfl (Nat.le_of_ble_eq_true rfl) (Nat.le_of_ble_eq_true rfl) (Nat.le_of_ble_eq_true rfl) (Nat.le_of_ble_eq_true rfl) (Nat.le_of_ble_eq_true rfl) (fun h5458 => ?_)
              refine r_if_eq (tgt := 138) C h5458.ir dX12_unit_130 (by decide) (fun c5472 => ?_) (fun c5472 => ?_)
              · exact k5464 ⟨(Or.inr c5471), c5472⟩
              · exact k5465 (fun w => c5472 w.2)
    · refine r_t c5453 ?_
      exact r_return C hQ dX12_unit_108 (fun e => by cases e; exact ⟨trivial, rfl, rfl, rfl, rfl, rfl⟩)
  · refine r_iload_n (pc := 2) (j := 1) C dX12_unit_2 rfl rfl ?_
    refine r_cut (s5394.1 = 0 ∨ ¬ s5394.2 262 2 = 0) 101 13 [] (fun c5401 => ?_) (fun c5401 => ?_) (fun k5402 k5403 => ?_)
    · refine r_bt c5401 ?_
      refine r_L (L' := [(0, .ref (zad E 262))]) [0] rfl ?_
      exact k5399 s5394.2 trivial
    · refine r_bf c5401 ?_
      refine r_aload_n (pc := 13) (j := 0) C dX12_unit_13 rfl rfl ?_
      refine r_ldc2 (v := 7237492) C q_1865 dX12_unit_14 (by decide) ?_
      refine r_cV1 (pc := 17) (k := 262) (As := [.long (zl 7237492)]) (st := []) C (m_X12_isWord (a1 := 7237492) (LRd rfl) rfl) cal_X12_isWord cl_X12 kd_262 ln_262 q_1837 dX12_unit_17 rfl rfl (Nat.le_of_ble_eq_true rfl) (Nat.le_of_ble_eq_true rfl) (Nat.le_of_ble_eq_true rfl) (Nat.le_of_ble_eq_true rfl) (Nat.le_of_ble_eq_true rfl) (fun h5404 => ?_)
      refine r_jkb (fun q5405 : Smo => True) (fun q5405 => S) (fun q5405 => q5405) (fun q5405 => [(0, .ref (zad E 262)), (1, .int (zi s5394.1))]) 53 (fun q5405 => []) (fun q5405 h5406 => ?_) (fun k5407 k5408 => ?_)
      · refine r_aload_n (pc := 53) (j := 0) C dX12_unit_53 rfl rfl ?_
        refine r_getO (j := 6) C cl_X12 kd_262 ln_262 gc_262 (by decide) (by decide) rfl q_1559 dX12_unit_54 (fun h5426 => ?_)
        refine r_bipush (v := 40) C dX12_unit_57 (by decide) ?_
        refine r_icmp_ne (tgt := 96) C h5426 (IRd rfl) dX12_unit_59 (by decide) (fun c5427 => ?_) (fun c5427 => ?_)
        · refine r_bf c5427 ?_
          refine r_iconst (v := 0) C dX12_unit_96 (by decide) ?_
          refine r_istore_n (L' := [(1, .int (zi 0)), (0, .ref (zad E 262))]) C dX12_unit_97 rfl (by decide) rfl ?_
          refine r_goto (tgt := 2) C dX12_unit_98 (by decide) ?_
          refine r_L (L' := [(0, .ref (zad E 262)), (1, .int (zi 0))]) [1, 0] rfl ?_
          exact k5397 (0, q5405) (BRd rfl)
        · refine r_bt c5427 ?_
          refine r_aload_n (pc := 62) (j := 0) C dX12_unit_62 rfl rfl ?_
          refine r_cV1 (pc := 63) (k := 262) (As := []) (st := []) C (m_X12_isFull  rfl) cal_X12_isFull cl_X12 kd_262 ln_262 q_1923 dX12_unit_63 rfl rfl (Nat.le_of_ble_eq_true rfl) (Nat.le_of_ble_eq_true rfl) (Nat.le_of_ble_eq_true rfl) (Nat.le_of_ble_eq_true rfl) (Nat.le_of_ble_eq_true rfl) (fun h5428 => ?_)
          refine r_bj ?_
          refine r_join (fun q5430 : Smo => True) (fun q5430 => S) (fun q5430 => q5430) (fun q5430 => [(0, .ref (zad E 262)), (1, .int (zi s5394.1))]) 83 (fun q5430 => []) (fun q5430 h5431 => ?_) (fun k5432 k5433 => ?_)
          · refine r_aload_n (pc := 83) (j := 0) C dX12_unit_83 rfl rfl ?_
            refine r_bj ?_
            refine r_jn (fun q5443 e5444 => ?_)
            refine r_cV0 (pc := 84) (k := 262) (As := []) (st := []) C (m_X12_countUnit  e5444) cal_X12_countUnit cl_X12 kd_262 ln_262 q_1927 dX12_unit_84 rfl rfl (Nat.le_of_ble_eq_true rfl) (Nat.le_of_ble_eq_true rfl) (Nat.le_of_ble_eq_true rfl) (Nat.le_of_ble_eq_true rfl) (Nat.le_of_ble_eq_true rfl) (fun h5442 => ?_)
            refine r_aload_n (pc := 87) (j := 0) C dX12_unit_87 rfl rfl ?_
            refine r_bipush (v := 20) C dX12_unit_88 (by decide) ?_
            refine r_bb ?_
            refine r_bd (fun q5446 e5447 => ?_)
            refine r_cV0 (pc := 90) (k := 262) (As := [.int (zi 20)]) (st := []) C (m_X12_openUp (a1 := 20) (IRd rfl) e5447) cal_X12_openUp cl_X12 kd_262 ln_262 q_1919 dX12_unit_90 rfl rfl (Nat.le_of_ble_eq_true rfl) (Nat.le_of_ble_eq_true rfl) (Nat.le_of_ble_eq_true rfl) (Nat.le_of_ble_eq_true rfl) (Nat.le_of_ble_eq_true rfl) (fun h5445 => ?_)
            refine r_goto (tgt := 2) C dX12_unit_93 (by decide) ?_
            exact k5397 (s5394.1, q5446) h5395
          · refine r_cut (f_X12_isFull q5405 = 0 ∧ ¬ 6 < q5405 262 22) 83 78 [] (fun c5434 => ?_) (fun c5434 => ?_) (fun k5435 k5436 => ?_)
            · refine r_jt c5434 ?_
              exact k5433 q5405 trivial
            · refine r_jf c5434 ?_
              refine r_aload_n (pc := 78) (j := 0) C dX12_unit_78 rfl rfl ?_
              refine r_iconst (v := 2) C dX12_unit_79 (by decide) ?_
              refine r_jj ?_
              refine r_jn (fun q5438 e5439 => ?_)
              refine r_cV0 (pc := 80) (k := 262) (As := [.int (zi 2)]) (st := []) C (m_X12_wrong (a1 := 2) (IRd rfl) e5439) cal_X12_wrong cl_X12 kd_262 ln_262 q_1866 dX12_unit_80 rfl rfl (Nat.le_of_ble_eq_true rfl) (Nat.le_of_ble_eq_true rfl) (Nat.le_of_ble_eq_true rfl) (Nat.le_of_ble_eq_true rfl) (Nat.le_of_ble_eq_true rfl) (fun h5437 => ?_)
              exact k5433 q5438 trivial
            · refine r_if_ne (tgt := 78) C h5428.ir dX12_unit_66 (by decide) (fun c5440 => ?_) (fun c5440 => ?_)
              · exact k5436 (fun w => c5440 w.1)
              · refine r_aload_n (pc := 69) (j := 0) C dX12_unit_69 rfl rfl ?_
                refine r_getO (j := 22) C cl_X12 kd_262 ln_262 gc_262 (by decide) (by decide) rfl q_1575 dX12_unit_70 (fun h5429 => ?_)
                refine r_bipush (v := 6) C dX12_unit_73 (by decide) ?_
                refine r_icmp_le (tgt := 83) C h5429 (IRd rfl) dX12_unit_75 (by decide) (fun c5441 => ?_) (fun c5441 => ?_)
                · exact k5435 ⟨c5440, c5441⟩
                · exact k5436 (fun w => w.2 c5441)
      · refine r_if_eq (tgt := 53) C h5404.ir dX12_unit_20 (by decide) (fun c5409 => ?_) (fun c5409 => ?_)
        · refine r_bt c5409 ?_
          exact k5408 s5394.2 trivial
        · refine r_bf c5409 ?_
          refine r_aload_n (pc := 23) (j := 0) C dX12_unit_23 rfl rfl ?_
          refine r_bb ?_
          refine r_bd (fun q5411 e5412 => ?_)
          refine r_cV1 (pc := 24) (k := 262) (As := []) (st := []) C (m_X12_mayNot  e5412) cal_X12_mayNot cl_X12 kd_262 ln_262 q_1912 dX12_unit_24 rfl rfl (Nat.le_of_ble_eq_true rfl) (Nat.le_of_ble_eq_true rfl) (Nat.le_of_ble_eq_true rfl) (Nat.le_of_ble_eq_true rfl) (Nat.le_of_ble_eq_true rfl) (fun h5410 => ?_)
          refine r_if_eq (tgt := 53) C h5410.ir dX12_unit_27 (by decide) (fun c5413 => ?_) (fun c5413 => ?_)
          · refine r_bt c5413 ?_
            exact k5408 s5394.2 trivial
          · refine r_bf c5413 ?_
            refine r_aload_n (pc := 30) (j := 0) C dX12_unit_30 rfl rfl ?_
            refine r_getO (j := 22) C cl_X12 kd_262 ln_262 gc_262 (by decide) (by decide) rfl q_1575 dX12_unit_31 (fun h5414 => ?_)
            refine r_bipush (v := 6) C dX12_unit_34 (by decide) ?_
            refine r_bj ?_
            refine r_join (fun q5415 : Smo => True) (fun q5415 => S) (fun q5415 => q5415) (fun q5415 => [(0, .ref (zad E 262)), (1, .int (zi s5394.1))]) 44 (fun q5415 => []) (fun q5415 h5416 => ?_) (fun k5417 k5418 => ?_)
            · refine r_aload_n (pc := 44) (j := 0) C dX12_unit_44 rfl rfl ?_
              refine r_bipush (v := 21) C dX12_unit_45 (by decide) ?_
              refine r_bb ?_
              refine r_bd (fun q5424 e5425 => ?_)
              refine r_cV0 (pc := 47) (k := 262) (As := [.int (zi 21)]) (st := []) C (m_X12_openUp (a1 := 21) (IRd rfl) e5425) cal_X12_openUp cl_X12 kd_262 ln_262 q_1919 dX12_unit_47 rfl rfl (Nat.le_of_ble_eq_true rfl) (Nat.le_of_ble_eq_true rfl) (Nat.le_of_ble_eq_true rfl) (Nat.le_of_ble_eq_true rfl) (Nat.le_of_ble_eq_true rfl) (fun h5423 => ?_)
              refine r_goto (tgt := 2) C dX12_unit_50 (by decide) ?_
              exact k5397 (s5394.1, q5424) h5395
            · refine r_icmp_le (tgt := 44) C h5414 (IRd rfl) dX12_unit_36 (by decide) (fun c5419 => ?_) (fun c5419 => ?_)
              · refine r_jf c5419 ?_
                exact k5418 s5394.2 trivial
              · refine r_jt c5419 ?_
                refine r_aload_n (pc := 39) (j := 0) C dX12_unit_39 rfl rfl ?_
                refine r_iconst (v := 2) C dX12_unit_40 (by decide) ?_
                refine r_jj ?_
                refine r_jn (fun q5421 e5422 => ?_)
                refine r_cV0 (pc := 41) (k := 262) (As := [.int (zi 2)]) (st := []) C (m_X12_wrong (a1 := 2) (IRd rfl) e5422) cal_X12_wrong cl_X12 kd_262 ln_262 q_1866 dX12_unit_41 rfl rfl (Nat.le_of_ble_eq_true rfl) (Nat.le_of_ble_eq_true rfl) (Nat.le_of_ble_eq_true rfl) (Nat.le_of_ble_eq_true rfl) (Nat.le_of_ble_eq_true rfl) (fun h5420 => ?_)
                exact k5418 q5421 trivial
    · refine r_if_eq (tgt := 101) C h5395.ir dX12_unit_3 (by decide) (fun c5448 => ?_) (fun c5448 => ?_)
      · exact k5402 (Or.inl c5448)
      · refine r_aload_n (pc := 6) (j := 0) C dX12_unit_6 rfl rfl ?_
        refine r_getO (j := 2) C cl_X12 kd_262 ln_262 gc_262 (by decide) (by decide) rfl q_1555 dX12_unit_7 (fun h5400 => ?_)
        refine r_if_ne (tgt := 101) C h5400 dX12_unit_10 (by decide) (fun c5449 => ?_) (fun c5449 => ?_)
        · exact k5402 (Or.inr c5449)
        · exact k5403 (fun w => w.elim c5448 (fun x => x c5449))

def f_X12_sign (O : Smo) : Int :=
  if f_X12_isWord 6385252 O = 0 then
    (if f_X12_isWord 28530 O = 0 then
      (if (((((((O 262 6 = 60 ∨ O 262 6 = 62) ∨ O 262 6 = 61) ∨ O 262 6 = 43) ∨ O 262 6 = 45) ∨ O 262 6 = 42) ∨ O 262 6 = 47) ∨ O 262 6 = 37) then
        (O 262 6)
      else
        (0))
    else
      (124))
  else
    (38)
set_option maxRecDepth 100000 in
set_option maxHeartbeats 4000000 in
theorem m_X12_sign {l : Launch} {E : EwT} {S : Sst} {O : Smo}  {q : Int} (hq : f_X12_sign O = q) : MetG l E yX12_sign cX12_sign 1 (some .int) 1 22 0 0 n0 R0 S O [.ref (zad E 262)] (IR q) (some (.int (zi q))) n0 R0 S O := by
  refine ofG (L0 := [(0, .ref (zad E 262))]) hq (by decide +kernel) (Nat.le_of_ble_eq_true rfl) rfl (fun K _ C hQ => ?_)
  unfold f_X12_sign
  refine r_aload_n (pc := 0) (j := 0) C dX12_sign_0 rfl rfl ?_
  refine r_ldc2 (v := 6385252) C q_1863 dX12_sign_1 (by decide) ?_
  refine r_cV1 (pc := 4) (k := 262) (As := [.long (zl 6385252)]) (st := []) C (m_X12_isWord (a1 := 6385252) (LRd rfl) rfl) cal_X12_isWord cl_X12 kd_262 ln_262 q_1837 dX12_sign_4 rfl rfl (Nat.le_of_ble_eq_true rfl) (Nat.le_of_ble_eq_true rfl) (Nat.le_of_ble_eq_true rfl) (Nat.le_of_ble_eq_true rfl) (Nat.le_of_ble_eq_true rfl) (fun h5495 => ?_)
  refine r_if_eq (tgt := 13) C h5495.ir dX12_sign_7 (by decide) (fun c5496 => ?_) (fun c5496 => ?_)
  · refine r_t c5496 ?_
    refine r_aload_n (pc := 13) (j := 0) C dX12_sign_13 rfl rfl ?_
    refine r_ldc2 (v := 28530) C q_1864 dX12_sign_14 (by decide) ?_
    refine r_cV1 (pc := 17) (k := 262) (As := [.long (zl 28530)]) (st := []) C (m_X12_isWord (a1 := 28530) (LRd rfl) rfl) cal_X12_isWord cl_X12 kd_262 ln_262 q_1837 dX12_sign_17 rfl rfl (Nat.le_of_ble_eq_true rfl) (Nat.le_of_ble_eq_true rfl) (Nat.le_of_ble_eq_true rfl) (Nat.le_of_ble_eq_true rfl) (Nat.le_of_ble_eq_true rfl) (fun h5497 => ?_)
    refine r_if_eq (tgt := 26) C h5497.ir dX12_sign_20 (by decide) (fun c5498 => ?_) (fun c5498 => ?_)
    · refine r_t c5498 ?_
      refine r_aload_n (pc := 26) (j := 0) C dX12_sign_26 rfl rfl ?_
      refine r_getO (j := 6) C cl_X12 kd_262 ln_262 gc_262 (by decide) (by decide) rfl q_1559 dX12_sign_27 (fun h5499 => ?_)
      refine r_bipush (v := 60) C dX12_sign_30 (by decide) ?_
      refine r_cut (((((((O 262 6 = 60 ∨ O 262 6 = 62) ∨ O 262 6 = 61) ∨ O 262 6 = 43) ∨ O 262 6 = 45) ∨ O 262 6 = 42) ∨ O 262 6 = 47) ∨ O 262 6 = 37) 98 105 [] (fun c5507 => ?_) (fun c5507 => ?_) (fun k5508 k5509 => ?_)
      · refine r_t c5507 ?_
        refine r_aload_n (pc := 98) (j := 0) C dX12_sign_98 rfl rfl ?_
        refine r_getO (j := 6) C cl_X12 kd_262 ln_262 gc_262 (by decide) (by decide) rfl q_1559 dX12_sign_99 (fun h5510 => ?_)
        refine r_goto (tgt := 106) C dX12_sign_102 (by decide) ?_
        exact r_ireturn C hQ rfl dX12_sign_106 (fun e => by subst e; exact ⟨h5510, rfl, rfl, rfl, rfl, rfl⟩)
      · refine r_f c5507 ?_
        refine r_iconst (v := 0) C dX12_sign_105 (by decide) ?_
        exact r_ireturn C hQ rfl dX12_sign_106 (fun e => by subst e; exact ⟨(IRd rfl), rfl, rfl, rfl, rfl, rfl⟩)
      · refine r_icmp_eq (tgt := 98) C h5499 (IRd rfl) dX12_sign_32 (by decide) (fun c5511 => ?_) (fun c5511 => ?_)
        · exact k5508 (Or.inl (Or.inl (Or.inl (Or.inl (Or.inl (Or.inl (Or.inl c5511)))))))
        · refine r_aload_n (pc := 35) (j := 0) C dX12_sign_35 rfl rfl ?_
          refine r_getO (j := 6) C cl_X12 kd_262 ln_262 gc_262 (by decide) (by decide) rfl q_1559 dX12_sign_36 (fun h5500 => ?_)
          refine r_bipush (v := 62) C dX12_sign_39 (by decide) ?_
          refine r_icmp_eq (tgt := 98) C h5500 (IRd rfl) dX12_sign_41 (by decide) (fun c5512 => ?_) (fun c5512 => ?_)
          · exact k5508 (Or.inl (Or.inl (Or.inl (Or.inl (Or.inl (Or.inl (Or.inr c5512)))))))
          · refine r_aload_n (pc := 44) (j := 0) C dX12_sign_44 rfl rfl ?_
            refine r_getO (j := 6) C cl_X12 kd_262 ln_262 gc_262 (by decide) (by decide) rfl q_1559 dX12_sign_45 (fun h5501 => ?_)
            refine r_bipush (v := 61) C dX12_sign_48 (by decide) ?_
            refine r_icmp_eq (tgt := 98) C h5501 (IRd rfl) dX12_sign_50 (by decide) (fun c5513 => ?_) (fun c5513 => ?_)
            · exact k5508 (Or.inl (Or.inl (Or.inl (Or.inl (Or.inl (Or.inr c5513))))))
            · refine r_aload_n (pc := 53) (j := 0) C dX12_sign_53 rfl rfl ?_
              refine r_getO (j := 6) C cl_X12 kd_262 ln_262 gc_262 (by decide) (by decide) rfl q_1559 dX12_sign_54 (fun h5502 => ?_)
              refine r_bipush (v := 43) C dX12_sign_57 (by decide) ?_
              refine r_icmp_eq (tgt := 98) C h5502 (IRd rfl) dX12_sign_59 (by decide) (fun c5514 => ?_) (fun c5514 => ?_)
              · exact k5508 (Or.inl (Or.inl (Or.inl (Or.inl (Or.inr c5514)))))
              · refine r_aload_n (pc := 62) (j := 0) C dX12_sign_62 rfl rfl ?_
                refine r_getO (j := 6) C cl_X12 kd_262 ln_262 gc_262 (by decide) (by decide) rfl q_1559 dX12_sign_63 (fun h5503 => ?_)
                refine r_bipush (v := 45) C dX12_sign_66 (by decide) ?_
                refine r_icmp_eq (tgt := 98) C h5503 (IRd rfl) dX12_sign_68 (by decide) (fun c5515 => ?_) (fun c5515 => ?_)
                · exact k5508 (Or.inl (Or.inl (Or.inl (Or.inr c5515))))
                · refine r_aload_n (pc := 71) (j := 0) C dX12_sign_71 rfl rfl ?_
                  refine r_getO (j := 6) C cl_X12 kd_262 ln_262 gc_262 (by decide) (by decide) rfl q_1559 dX12_sign_72 (fun h5504 => ?_)
                  refine r_bipush (v := 42) C dX12_sign_75 (by decide) ?_
                  refine r_icmp_eq (tgt := 98) C h5504 (IRd rfl) dX12_sign_77 (by decide) (fun c5516 => ?_) (fun c5516 => ?_)
                  · exact k5508 (Or.inl (Or.inl (Or.inr c5516)))
                  · refine r_aload_n (pc := 80) (j := 0) C dX12_sign_80 rfl rfl ?_
                    refine r_getO (j := 6) C cl_X12 kd_262 ln_262 gc_262 (by decide) (by decide) rfl q_1559 dX12_sign_81 (fun h5505 => ?_)
                    refine r_bipush (v := 47) C dX12_sign_84 (by decide) ?_
                    refine r_icmp_eq (tgt := 98) C h5505 (IRd rfl) dX12_sign_86 (by decide) (fun c5517 => ?_) (fun c5517 => ?_)
                    · exact k5508 (Or.inl (Or.inr c5517))
                    · refine r_aload_n (pc := 89) (j := 0) C dX12_sign_89 rfl rfl ?_
                      refine r_getO (j := 6) C cl_X12 kd_262 ln_262 gc_262 (by decide) (by decide) rfl q_1559 dX12_sign_90 (fun h5506 => ?_)
                      refine r_bipush (v := 37) C dX12_sign_93 (by decide) ?_
                      refine r_icmp_ne (tgt := 105) C h5506 (IRd rfl) dX12_sign_95 (by decide) (fun c5518 => ?_) (fun c5518 => ?_)
                      · exact k5509 (fun w => w.elim (fun w => w.elim (fun w => w.elim (fun w => w.elim (fun w => w.elim (fun w => w.elim (fun w => w.elim c5511 c5512) c5513) c5514) c5515) c5516) c5517) c5518)
                      · exact k5508 (Or.inr c5518)
    · refine r_f c5498 ?_
      refine r_bipush (v := 124) C dX12_sign_23 (by decide) ?_
      exact r_ireturn C hQ rfl dX12_sign_25 (fun e => by subst e; exact ⟨(IRd rfl), rfl, rfl, rfl, rfl, rfl⟩)
  · refine r_f c5496 ?_
    refine r_bipush (v := 38) C dX12_sign_10 (by decide) ?_
    exact r_ireturn C hQ rfl dX12_sign_12 (fun e => by subst e; exact ⟨(IRd rfl), rfl, rfl, rfl, rfl, rfl⟩)

def f_X12_hasBracket (O : Smo) : Option (Int) :=
  Option.bind (lp (fun (s5535 : Int × Int) =>
    if s5535.2 < O 262 18 then
      (Option.bind (
        if s5535.1 = 0 then
          (Option.bind (aget (O 268) (Ln 268) s5535.2) fun (v5548 : Int) =>
          if v5548 = 20 then
            (some 1)
          else
            (some 0))
        else
          (some 1)) fun (q5543 : Int) =>
      some (Sum.inl (q5543, wr (s5535.2 + 1))))
    else
      (some (Sum.inr s5535.1))) FU (0, 0)) fun (r5551 : Int) =>
  some r5551
set_option maxRecDepth 100000 in
set_option maxHeartbeats 4000000 in
theorem m_X12_hasBracket {l : Launch} {E : EwT} {S : Sst} {O : Smo}  {q : Int} (hq : f_X12_hasBracket O = some q) : MetG l E yX12_hasBracket cX12_hasBracket 3 (some .boolean) 0 0 0 0 n0 R0 S O [.ref (zad E 262)] (BR q) (some (.int (zi q))) n0 R0 S O := by
  refine ofG (L0 := [(0, .ref (zad E 262))]) hq (by decide +kernel) (Nat.le_of_ble_eq_true rfl) rfl (fun K _ C hQ => ?_)
  unfold f_X12_hasBracket
  refine r_iconst (v := 0) C dX12_hasBracket_0 (by decide) ?_
  refine r_istore_n (L' := [(1, .int (zi 0)), (0, .ref (zad E 262))]) C dX12_hasBracket_1 rfl (by decide) rfl ?_
  refine r_iconst (v := 0) C dX12_hasBracket_2 (by decide) ?_
  refine r_istore_n (L' := [(2, .int (zi 0)), (1, .int (zi 0)), (0, .ref (zad E 262))]) C dX12_hasBracket_3 rfl (by decide) rfl ?_
  refine r_L (L' := [(0, .ref (zad E 262)), (1, .int (zi 0)), (2, .int (zi 0))]) [2, 1, 0] rfl ?_
  refine r_loop1 (fun s5535 : Int × Int => BR s5535.1 ∧ IR s5535.2) (fun s5535 => S) (fun s5535 => O) (fun s5535 => [(0, .ref (zad E 262)), (1, .int (zi s5535.1)), (2, .int (zi s5535.2))]) [] (fun r5551 : Int => BR r5551) (fun r5551 => S) (fun r5551 => O) (fun r5551 => [(1, .int (zi r5551))]) 39 (fun r5551 h5552 => ?_) (fun k5537 k5539 k5538 k5540 s5535 h5536 => ?_) ⟨(BRd rfl), (IRd rfl)⟩
  · refine r_iload_n (pc := 39) (j := 0) C dX12_hasBracket_39 rfl rfl ?_
    exact r_ireturn C hQ (nar_z h5552) dX12_hasBracket_40 (fun e => by cases e; exact ⟨h5552, rfl, rfl, rfl, rfl, rfl⟩)
  · refine r_iload_n (pc := 4) (j := 2) C dX12_hasBracket_4 rfl rfl ?_
    refine r_aload_n (pc := 5) (j := 0) C dX12_hasBracket_5 rfl rfl ?_
    refine r_getO (j := 18) C cl_X12 kd_262 ln_262 gc_262 (by decide) (by decide) rfl q_1571 dX12_hasBracket_6 (fun h5541 => ?_)
    refine r_icmp_ge (tgt := 39) C h5536.2 h5541 dX12_hasBracket_9 (by decide) (fun c5542 => ?_) (fun c5542 => ?_)
    · refine r_bf c5542 ?_
      refine r_L (L' := [(1, .int (zi s5535.1))]) [1] rfl ?_
      exact k5540 s5535.1 h5536.1
    · refine r_bt c5542 ?_
      refine r_iload_n (pc := 12) (j := 1) C dX12_hasBracket_12 rfl rfl ?_
      refine r_bb ?_
      refine r_joinb (fun q5543 : Int => BR q5543) (fun q5543 => S) (fun q5543 => O) (fun q5543 => [(0, .ref (zad E 262)), (2, .int (zi s5535.2))]) 32 (fun q5543 => [.int (zi q5543)]) (fun q5543 h5544 => ?_) (fun k5545 k5546 => ?_)
      · refine r_istore_n (L' := [(1, .int (zi q5543)), (0, .ref (zad E 262)), (2, .int (zi s5535.2))]) C dX12_hasBracket_32 rfl (by decide) rfl ?_
        refine r_iinc (j := 2) (L' := [(2, .int (zi (wr (s5535.2 + 1)))), (1, .int (zi q5543)), (0, .ref (zad E 262))]) C dX12_hasBracket_33 rfl (by decide) rfl ?_
        refine r_goto (tgt := 4) C dX12_hasBracket_36 (by decide) ?_
        refine r_L (L' := [(0, .ref (zad E 262)), (1, .int (zi q5543)), (2, .int (zi (wr (s5535.2 + 1))))]) [2, 1, 0] rfl ?_
        exact k5538 (q5543, wr (s5535.2 + 1)) ⟨h5544, (IR_wr _)⟩
      · refine r_if_ne (tgt := 27) C h5536.1.ir dX12_hasBracket_13 (by decide) (fun c5547 => ?_) (fun c5547 => ?_)
        · refine r_bf c5547 ?_
          refine r_iconst (v := 1) C dX12_hasBracket_27 (by decide) ?_
          refine r_goto (tgt := 32) C dX12_hasBracket_28 (by decide) ?_
          refine r_L (L' := [(0, .ref (zad E 262)), (2, .int (zi s5535.2))]) [0, 2] rfl ?_
          exact k5546 1 (BRd rfl)
        · refine r_bt c5547 ?_
          refine r_aload_n (pc := 16) (j := 0) C dX12_hasBracket_16 rfl rfl ?_
          refine r_getR (j := 14) (r := 268) C cl_X12 kd_262 ln_262 (by decide) rfl r0_262_14 (by decide) q_1567 dX12_hasBracket_17 ?_
          refine r_iload_n (pc := 20) (j := 2) C dX12_hasBracket_20 rfl rfl ?_
          refine r_bb ?_
          refine r_iald C kd_268 ln_268 gc_268 h5536.2 dX12_hasBracket_21 (fun v5548 h5549 => ?_)
          refine r_bipush (v := 20) C dX12_hasBracket_22 (by decide) ?_
          refine r_icmp_ne (tgt := 31) C h5549 (IRd rfl) dX12_hasBracket_24 (by decide) (fun c5550 => ?_) (fun c5550 => ?_)
          · refine r_bf c5550 ?_
            refine r_iconst (v := 0) C dX12_hasBracket_31 (by decide) ?_
            refine r_L (L' := [(0, .ref (zad E 262)), (2, .int (zi s5535.2))]) [0, 2] rfl ?_
            exact k5546 0 (BRd rfl)
          · refine r_bt c5550 ?_
            refine r_iconst (v := 1) C dX12_hasBracket_27 (by decide) ?_
            refine r_goto (tgt := 32) C dX12_hasBracket_28 (by decide) ?_
            refine r_L (L' := [(0, .ref (zad E 262)), (2, .int (zi s5535.2))]) [0, 2] rfl ?_
            exact k5546 1 (BRd rfl)

def f_X12_formula (O : Smo) : Option (Smo) :=
  Option.bind (f_X12_token O) fun (q5554 : Smo) =>
  jn (up2 q5554 262 23 1) fun (O5556 : Smo) =>
  jn (up2 O5556 262 16 0) fun (O5557 : Smo) =>
  jn (up2 O5557 262 18 0) fun (O5558 : Smo) =>
  jn (up2 O5558 262 22 0) fun (O5559 : Smo) =>
  jn (up2 O5559 262 21 0) fun (O5560 : Smo) =>
  Option.bind (f_X12_unit O5560) fun (q5562 : Smo) =>
  Option.bind (lp (fun (s5564 : Int × Smo) =>
    if (s5564.1 = 0 ∨ ¬ s5564.2 262 2 = 0) then
      (some (Sum.inr s5564.2))
    else
      (jn (f_X12_sign s5564.2) fun (v5575 : Int) =>
      Option.bind (
        if s5564.2 262 6 = 41 then
          (Option.bind (f_X12_hasBracket s5564.2) fun (q5584 : Int) =>
          if q5584 = 0 then
            (jk (fun (q5587 : Smo) =>
              some (0, q5587)) fun k5589 =>
            if v5575 = 0 then
              (k5589 s5564.2)
            else
              (jk (fun (q5593 : Unit) =>
                Option.bind (f_X12_close (f_X12_tight v5575) s5564.2) fun (q5604 : Smo) =>
                Option.bind (asetO q5604 268 (Ln 268) (q5604 262 18) v5575) fun (O5607 : Smo) =>
                jn (up2 O5607 262 18 (wr ((O5607 262 18) + 1))) fun (O5609 : Smo) =>
                Option.bind (f_X12_token O5609) fun (q5611 : Smo) =>
                Option.bind (f_X12_unit q5611) fun (q5614 : Smo) =>
                some (s5564.1, q5614)) fun k5595 =>
              if f_X12_tight v5575 = 4 then
                (Option.bind (f_X12_hasRelation s5564.2) fun (q5599 : Int) =>
                if q5599 = 0 then
                  (k5595 ())
                else
                  (k5589 s5564.2))
              else
                (k5595 ())))
          else
            (Option.bind (f_X12_close 0 s5564.2) fun (q5617 : Smo) =>
            jn (up2 q5617 262 18 (wr ((q5617 262 18) - 1))) fun (O5620 : Smo) =>
            jn (up2 O5620 262 22 (wr ((O5620 262 22) - 1))) fun (O5622 : Smo) =>
            Option.bind (f_X12_token O5622) fun (q5624 : Smo) =>
            some (s5564.1, q5624)))
        else
          (jk (fun (q5626 : Smo) =>
            some (0, q5626)) fun k5628 =>
          if v5575 = 0 then
            (k5628 s5564.2)
          else
            (jk (fun (q5632 : Unit) =>
              Option.bind (f_X12_close (f_X12_tight v5575) s5564.2) fun (q5643 : Smo) =>
              Option.bind (asetO q5643 268 (Ln 268) (q5643 262 18) v5575) fun (O5646 : Smo) =>
              jn (up2 O5646 262 18 (wr ((O5646 262 18) + 1))) fun (O5648 : Smo) =>
              Option.bind (f_X12_token O5648) fun (q5650 : Smo) =>
              Option.bind (f_X12_unit q5650) fun (q5653 : Smo) =>
              some (s5564.1, q5653)) fun k5634 =>
            if f_X12_tight v5575 = 4 then
              (Option.bind (f_X12_hasRelation s5564.2) fun (q5638 : Int) =>
              if q5638 = 0 then
                (k5634 ())
              else
                (k5628 s5564.2))
            else
              (k5634 ())))) fun (q5578 : Int × Smo) =>
      some (Sum.inl (q5578.1, q5578.2)))) FU (1, q5562)) fun (r5657 : Smo) =>
  Option.bind (
    if r5657 262 2 = 0 then
      (Option.bind (f_X12_hasBracket r5657) fun (q5666 : Int) =>
      if q5666 = 0 then
        (some r5657)
      else
        (jn (f_X12_wrong 2 r5657) fun (q5670 : Smo) =>
        some q5670))
    else
      (some r5657)) fun (q5660 : Smo) =>
  if q5660 262 2 = 0 then
    (Option.bind (f_X12_close 0 q5660) fun (q5675 : Smo) =>
    some q5675)
  else
    (some q5660)
set_option maxRecDepth 100000 in
set_option maxHeartbeats 4000000 in
theorem m_X12_formula {l : Launch} {E : EwT} {S : Sst} {O : Smo}  {q : Smo} (hq : f_X12_formula O = some q) : MetG l E yX12_formula cX12_formula 3 none 4 86 0 0 n0 R0 S O [.ref (zad E 262)] (True) none n0 R0 S q := by
  refine ofG (L0 := [(0, .ref (zad E 262))]) hq (by decide +kernel) (Nat.le_of_ble_eq_true rfl) rfl (fun K _ C hQ => ?_)
  unfold f_X12_formula
  refine r_aload_n (pc := 0) (j := 0) C dX12_formula_0 rfl rfl ?_
  refine r_bd (fun q5554 e5555 => ?_)
  refine r_cV0 (pc := 1) (k := 262) (As := []) (st := []) C (m_X12_token  e5555) cal_X12_token cl_X12 kd_262 ln_262 q_1815 dX12_formula_1 rfl rfl (Nat.le_of_ble_eq_true rfl) (Nat.le_of_ble_eq_true rfl) (Nat.le_of_ble_eq_true rfl) (Nat.le_of_ble_eq_true rfl) (Nat.le_of_ble_eq_true rfl) (fun h5553 => ?_)
  refine r_aload_n (pc := 4) (j := 0) C dX12_formula_4 rfl rfl ?_
  refine r_iconst (v := 1) C dX12_formula_5 (by decide) ?_
  refine r_putOz C cl_X12 kd_262 ln_262 gc_262 (by decide) (by decide) rfl rfl rfl (BRd rfl) q_1576 dX12_formula_6 (fun O5556 => ?_)
  refine r_aload_n (pc := 9) (j := 0) C dX12_formula_9 rfl rfl ?_
  refine r_iconst (v := 0) C dX12_formula_10 (by decide) ?_
  refine r_putO C cl_X12 kd_262 ln_262 gc_262 (by decide) (by decide) rfl rfl rfl (IRd rfl) q_1569 dX12_formula_11 (fun O5557 => ?_)
  refine r_aload_n (pc := 14) (j := 0) C dX12_formula_14 rfl rfl ?_
  refine r_iconst (v := 0) C dX12_formula_15 (by decide) ?_
  refine r_putO C cl_X12 kd_262 ln_262 gc_262 (by decide) (by decide) rfl rfl rfl (IRd rfl) q_1571 dX12_formula_16 (fun O5558 => ?_)
  refine r_aload_n (pc := 19) (j := 0) C dX12_formula_19 rfl rfl ?_
  refine r_iconst (v := 0) C dX12_formula_20 (by decide) ?_
  refine r_putO C cl_X12 kd_262 ln_262 gc_262 (by decide) (by decide) rfl rfl rfl (IRd rfl) q_1575 dX12_formula_21 (fun O5559 => ?_)
  refine r_aload_n (pc := 24) (j := 0) C dX12_formula_24 rfl rfl ?_
  refine r_iconst (v := 0) C dX12_formula_25 (by decide) ?_
  refine r_putO C cl_X12 kd_262 ln_262 gc_262 (by decide) (by decide) rfl rfl rfl (IRd rfl) q_1574 dX12_formula_26 (fun O5560 => ?_)
  refine r_aload_n (pc := 29) (j := 0) C dX12_formula_29 rfl rfl ?_
  refine r_bd (fun q5562 e5563 => ?_)
  refine r_cV0 (pc := 30) (k := 262) (As := []) (st := []) C (m_X12_unit  e5563) cal_X12_unit cl_X12 kd_262 ln_262 q_1908 dX12_formula_30 rfl rfl (Nat.le_of_ble_eq_true rfl) (Nat.le_of_ble_eq_true rfl) (Nat.le_of_ble_eq_true rfl) (Nat.le_of_ble_eq_true rfl) (Nat.le_of_ble_eq_true rfl) (fun h5561 => ?_)
  refine r_iconst (v := 1) C dX12_formula_33 (by decide) ?_
  refine r_istore_n (L' := [(1, .int (zi 1)), (0, .ref (zad E 262))]) C dX12_formula_34 rfl (by decide) rfl ?_
  refine r_L (L' := [(0, .ref (zad E 262)), (1, .int (zi 1))]) [1, 0] rfl ?_
  refine r_loop1 (fun s5564 : Int × Smo => BR s5564.1) (fun s5564 => S) (fun s5564 => s5564.2) (fun s5564 => [(0, .ref (zad E 262)), (1, .int (zi s5564.1))]) [] (fun r5657 : Smo => True) (fun r5657 => S) (fun r5657 => r5657) (fun r5657 => [(0, .ref (zad E 262))]) 162 (fun r5657 h5658 => ?_) (fun k5566 k5568 k5567 k5569 s5564 h5565 => ?_) (BRd rfl)
  · refine r_aload_n (pc := 162) (j := 0) C dX12_formula_162 rfl rfl ?_
    refine r_getO (j := 2) C cl_X12 kd_262 ln_262 gc_262 (by decide) (by decide) rfl q_1555 dX12_formula_163 (fun h5659 => ?_)
    refine r_joinb (fun q5660 : Smo => True) (fun q5660 => S) (fun q5660 => q5660) (fun q5660 => [(0, .ref (zad E 262))]) 181 (fun q5660 => []) (fun q5660 h5661 => ?_) (fun k5662 k5663 => ?_)
    · refine r_aload_n (pc := 181) (j := 0) C dX12_formula_181 rfl rfl ?_
      refine r_getO (j := 2) C cl_X12 kd_262 ln_262 gc_262 (by decide) (by decide) rfl q_1555 dX12_formula_182 (fun h5672 => ?_)
      refine r_if_ne (tgt := 193) C h5672 dX12_formula_185 (by decide) (fun c5673 => ?_) (fun c5673 => ?_)
      · refine r_f c5673 ?_
        exact r_return C hQ dX12_formula_193 (fun e => by cases e; exact ⟨trivial, rfl, rfl, rfl, rfl, rfl⟩)
      · refine r_t c5673 ?_
        refine r_aload_n (pc := 188) (j := 0) C dX12_formula_188 rfl rfl ?_
        refine r_iconst (v := 0) C dX12_formula_189 (by decide) ?_
        refine r_bd (fun q5675 e5676 => ?_)
        refine r_cV0 (pc := 190) (k := 262) (As := [.int (zi 0)]) (st := []) C (m_X12_close (a1 := 0) (IRd rfl) e5676) cal_X12_close cl_X12 kd_262 ln_262 q_1947 dX12_formula_190 rfl rfl (Nat.le_of_ble_eq_true rfl) (Nat.le_of_ble_eq_true rfl) (Nat.le_of_ble_eq_true rfl) (Nat.le_of_ble_eq_true rfl) (Nat.le_of_ble_eq_true rfl) (fun h5674 => ?_)
        exact r_return C hQ dX12_formula_193 (fun e => by cases e; exact ⟨trivial, rfl, rfl, rfl, rfl, rfl⟩)
    · refine r_if_ne (tgt := 181) C h5659 dX12_formula_166 (by decide) (fun c5664 => ?_) (fun c5664 => ?_)
      · refine r_bf c5664 ?_
        exact k5663 r5657 trivial
      · refine r_bt c5664 ?_
        refine r_aload_n (pc := 169) (j := 0) C dX12_formula_169 rfl rfl ?_
        refine r_bb ?_
        refine r_bd (fun q5666 e5667 => ?_)
        refine r_cV1 (pc := 170) (k := 262) (As := []) (st := []) C (m_X12_hasBracket  e5667) cal_X12_hasBracket cl_X12 kd_262 ln_262 q_1943 dX12_formula_170 rfl rfl (Nat.le_of_ble_eq_true rfl) (Nat.le_of_ble_eq_true rfl) (Nat.le_of_ble_eq_true rfl) (Nat.le_of_ble_eq_true rfl) (Nat.le_of_ble_eq_true rfl) (fun h5665 => ?_)
        refine r_if_eq (tgt := 181) C h5665.ir dX12_formula_173 (by decide) (fun c5668 => ?_) (fun c5668 => ?_)
        · refine r_bt c5668 ?_
          exact k5663 r5657 trivial
        · refine r_bf c5668 ?_
          refine r_aload_n (pc := 176) (j := 0) C dX12_formula_176 rfl rfl ?_
          refine r_iconst (v := 2) C dX12_formula_177 (by decide) ?_
          refine r_bj ?_
          refine r_jn (fun q5670 e5671 => ?_)
          refine r_cV0 (pc := 178) (k := 262) (As := [.int (zi 2)]) (st := []) C (m_X12_wrong (a1 := 2) (IRd rfl) e5671) cal_X12_wrong cl_X12 kd_262 ln_262 q_1866 dX12_formula_178 rfl rfl (Nat.le_of_ble_eq_true rfl) (Nat.le_of_ble_eq_true rfl) (Nat.le_of_ble_eq_true rfl) (Nat.le_of_ble_eq_true rfl) (Nat.le_of_ble_eq_true rfl) (fun h5669 => ?_)
          exact k5663 q5670 trivial
  · refine r_iload_n (pc := 35) (j := 1) C dX12_formula_35 rfl rfl ?_
    refine r_cut (s5564.1 = 0 ∨ ¬ s5564.2 262 2 = 0) 162 46 [] (fun c5571 => ?_) (fun c5571 => ?_) (fun k5572 k5573 => ?_)
    · refine r_bt c5571 ?_
      refine r_L (L' := [(0, .ref (zad E 262))]) [0] rfl ?_
      exact k5569 s5564.2 trivial
    · refine r_bf c5571 ?_
      refine r_aload_n (pc := 46) (j := 0) C dX12_formula_46 rfl rfl ?_
      refine r_cV1 (pc := 47) (k := 262) (As := []) (st := []) C (m_X12_sign  rfl) cal_X12_sign cl_X12 kd_262 ln_262 q_1939 dX12_formula_47 rfl rfl (Nat.le_of_ble_eq_true rfl) (Nat.le_of_ble_eq_true rfl) (Nat.le_of_ble_eq_true rfl) (Nat.le_of_ble_eq_true rfl) (Nat.le_of_ble_eq_true rfl) (fun h5574 => ?_)
      refine r_bj ?_
      refine r_jv h5574 (fun v5575 h5576 => ?_)
      refine r_istore_n (L' := [(2, .int (zi v5575)), (0, .ref (zad E 262)), (1, .int (zi s5564.1))]) C dX12_formula_50 rfl (by decide) rfl ?_
      refine r_aload_n (pc := 51) (j := 1) C dX12_formula_51 rfl rfl ?_
      refine r_getO (j := 6) C cl_X12 kd_262 ln_262 gc_262 (by decide) (by decide) rfl q_1559 dX12_formula_52 (fun h5577 => ?_)
      refine r_bipush (v := 41) C dX12_formula_55 (by decide) ?_
      refine r_bb ?_
      refine r_joinb (fun q5578 : Int × Smo => BR q5578.1) (fun q5578 => S) (fun q5578 => q5578.2) (fun q5578 => [(0, .ref (zad E 262)), (1, .int (zi q5578.1))]) 159 (fun q5578 => []) (fun q5578 h5579 => ?_) (fun k5580 k5581 => ?_)
      · refine r_goto (tgt := 35) C dX12_formula_159 (by decide) ?_
        exact k5567 (q5578.1, q5578.2) h5579
      · refine r_icmp_ne (tgt := 99) C h5577 (IRd rfl) dX12_formula_57 (by decide) (fun c5582 => ?_) (fun c5582 => ?_)
        · refine r_bf c5582 ?_
          refine r_iload_n (pc := 99) (j := 0) C dX12_formula_99 rfl rfl ?_
          refine r_jkb (fun q5626 : Smo => True) (fun q5626 => S) (fun q5626 => q5626) (fun q5626 => [(0, .ref (zad E 262))]) 157 (fun q5626 => []) (fun q5626 h5627 => ?_) (fun k5628 k5629 => ?_)
          · refine r_iconst (v := 0) C dX12_formula_157 (by decide) ?_
            refine r_istore_n (L' := [(1, .int (zi 0)), (0, .ref (zad E 262))]) C dX12_formula_158 rfl (by decide) rfl ?_
            refine r_L (L' := [(0, .ref (zad E 262)), (1, .int (zi 0))]) [1, 0] rfl ?_
            exact k5581 (0, q5626) (BRd rfl)
          · refine r_if_eq (tgt := 157) C h5576 dX12_formula_100 (by decide) (fun c5630 => ?_) (fun c5630 => ?_)
            · refine r_bt c5630 ?_
              refine r_L (L' := [(0, .ref (zad E 262))]) [1] rfl ?_
              exact k5629 s5564.2 trivial
            · refine r_bf c5630 ?_
              refine r_iload_n (pc := 103) (j := 0) C dX12_formula_103 rfl rfl ?_
              refine r_cS1 (pc := 104) (As := [.int (zi v5575)]) (st := []) C (m_X12_tight (a0 := v5575) h5576 rfl) cal_X12_tight q_1916 dX12_formula_104 rfl rfl (Nat.le_of_ble_eq_true rfl) (Nat.le_of_ble_eq_true rfl) (Nat.le_of_ble_eq_true rfl) (Nat.le_of_ble_eq_true rfl) (Nat.le_of_ble_eq_true rfl) (fun h5631 => ?_)
              refine r_iconst (v := 4) C dX12_formula_107 (by decide) ?_
              refine r_jkb (fun q5632 : Unit => True) (fun q5632 => S) (fun q5632 => s5564.2) (fun q5632 => [(0, .ref (zad E 262)), (1, .int (zi s5564.1)), (2, .int (zi v5575))]) 118 (fun q5632 => []) (fun q5632 h5633 => ?_) (fun k5634 k5635 => ?_)
              · refine r_aload_n (pc := 118) (j := 0) C dX12_formula_118 rfl rfl ?_
                refine r_iload_n (pc := 119) (j := 2) C dX12_formula_119 rfl rfl ?_
                refine r_cS1 (pc := 120) (As := [.int (zi v5575)]) (st := [.ref (zad E 262)]) C (m_X12_tight (a0 := v5575) h5576 rfl) cal_X12_tight q_1916 dX12_formula_120 rfl rfl (Nat.le_of_ble_eq_true rfl) (Nat.le_of_ble_eq_true rfl) (Nat.le_of_ble_eq_true rfl) (Nat.le_of_ble_eq_true rfl) (Nat.le_of_ble_eq_true rfl) (fun h5641 => ?_)
                refine r_bb ?_
                refine r_bd (fun q5643 e5644 => ?_)
                refine r_cV0 (pc := 123) (k := 262) (As := [.int (zi (f_X12_tight v5575))]) (st := []) C (m_X12_close (a1 := f_X12_tight v5575) h5641 e5644) cal_X12_close cl_X12 kd_262 ln_262 q_1947 dX12_formula_123 rfl rfl (Nat.le_of_ble_eq_true rfl) (Nat.le_of_ble_eq_true rfl) (Nat.le_of_ble_eq_true rfl) (Nat.le_of_ble_eq_true rfl) (Nat.le_of_ble_eq_true rfl) (fun h5642 => ?_)
                refine r_aload_n (pc := 126) (j := 0) C dX12_formula_126 rfl rfl ?_
                refine r_getR (j := 14) (r := 268) C cl_X12 kd_262 ln_262 (by decide) rfl r0_262_14 (by decide) q_1567 dX12_formula_127 ?_
                refine r_aload_n (pc := 130) (j := 0) C dX12_formula_130 rfl rfl ?_
                refine r_getO (j := 18) C cl_X12 kd_262 ln_262 gc_262 (by decide) (by decide) rfl q_1571 dX12_formula_131 (fun h5645 => ?_)
                refine r_iload_n (pc := 134) (j := 2) C dX12_formula_134 rfl rfl ?_
                refine r_bb ?_
                refine r_iast C kd_268 ln_268 gc_268 h5645 h5576 dX12_formula_135 (fun O5646 => ?_)
                refine r_aload_n (pc := 136) (j := 0) C dX12_formula_136 rfl rfl ?_
                refine r_dup C dX12_formula_137 rfl ?_
                refine r_getO (j := 18) C cl_X12 kd_262 ln_262 gc_262 (by decide) (by decide) rfl q_1571 dX12_formula_138 (fun h5647 => ?_)
                refine r_iconst (v := 1) C dX12_formula_141 (by decide) ?_
                refine r_iadd C dX12_formula_142 ?_
                refine r_bj ?_
                refine r_putO C cl_X12 kd_262 ln_262 gc_262 (by decide) (by decide) rfl rfl rfl (IR_wr _) q_1571 dX12_formula_143 (fun O5648 => ?_)
                refine r_aload_n (pc := 146) (j := 0) C dX12_formula_146 rfl rfl ?_
                refine r_bb ?_
                refine r_bd (fun q5650 e5651 => ?_)
                refine r_cV0 (pc := 147) (k := 262) (As := []) (st := []) C (m_X12_token  e5651) cal_X12_token cl_X12 kd_262 ln_262 q_1815 dX12_formula_147 rfl rfl (Nat.le_of_ble_eq_true rfl) (Nat.le_of_ble_eq_true rfl) (Nat.le_of_ble_eq_true rfl) (Nat.le_of_ble_eq_true rfl) (Nat.le_of_ble_eq_true rfl) (fun h5649 => ?_)
                refine r_aload_n (pc := 150) (j := 0) C dX12_formula_150 rfl rfl ?_
                refine r_bb ?_
                refine r_bd (fun q5653 e5654 => ?_)
                refine r_cV0 (pc := 151) (k := 262) (As := []) (st := []) C (m_X12_unit  e5654) cal_X12_unit cl_X12 kd_262 ln_262 q_1908 dX12_formula_151 rfl rfl (Nat.le_of_ble_eq_true rfl) (Nat.le_of_ble_eq_true rfl) (Nat.le_of_ble_eq_true rfl) (Nat.le_of_ble_eq_true rfl) (Nat.le_of_ble_eq_true rfl) (fun h5652 => ?_)
                refine r_goto (tgt := 159) C dX12_formula_154 (by decide) ?_
                refine r_L (L' := [(0, .ref (zad E 262)), (1, .int (zi s5564.1))]) [0, 1] rfl ?_
                exact k5581 (s5564.1, q5653) h5565
              · refine r_icmp_ne (tgt := 118) C h5631 (IRd rfl) dX12_formula_108 (by decide) (fun c5636 => ?_) (fun c5636 => ?_)
                · refine r_bf c5636 ?_
                  refine r_L (L' := [(0, .ref (zad E 262)), (1, .int (zi s5564.1)), (2, .int (zi v5575))]) [1, 2, 0] rfl ?_
                  exact k5635 () trivial
                · refine r_bt c5636 ?_
                  refine r_aload_n (pc := 111) (j := 1) C dX12_formula_111 rfl rfl ?_
                  refine r_bb ?_
                  refine r_bd (fun q5638 e5639 => ?_)
                  refine r_cV1 (pc := 112) (k := 262) (As := []) (st := []) C (m_X12_hasRelation  e5639) cal_X12_hasRelation cl_X12 kd_262 ln_262 q_1951 dX12_formula_112 rfl rfl (Nat.le_of_ble_eq_true rfl) (Nat.le_of_ble_eq_true rfl) (Nat.le_of_ble_eq_true rfl) (Nat.le_of_ble_eq_true rfl) (Nat.le_of_ble_eq_true rfl) (fun h5637 => ?_)
                  refine r_if_ne (tgt := 157) C h5637.ir dX12_formula_115 (by decide) (fun c5640 => ?_) (fun c5640 => ?_)
                  · refine r_bf c5640 ?_
                    refine r_L (L' := [(0, .ref (zad E 262))]) [1] rfl ?_
                    exact k5629 s5564.2 trivial
                  · refine r_bt c5640 ?_
                    refine r_L (L' := [(0, .ref (zad E 262)), (1, .int (zi s5564.1)), (2, .int (zi v5575))]) [1, 2, 0] rfl ?_
                    exact k5635 () trivial
        · refine r_bt c5582 ?_
          refine r_aload_n (pc := 60) (j := 1) C dX12_formula_60 rfl rfl ?_
          refine r_bb ?_
          refine r_bd (fun q5584 e5585 => ?_)
          refine r_cV1 (pc := 61) (k := 262) (As := []) (st := []) C (m_X12_hasBracket  e5585) cal_X12_hasBracket cl_X12 kd_262 ln_262 q_1943 dX12_formula_61 rfl rfl (Nat.le_of_ble_eq_true rfl) (Nat.le_of_ble_eq_true rfl) (Nat.le_of_ble_eq_true rfl) (Nat.le_of_ble_eq_true rfl) (Nat.le_of_ble_eq_true rfl) (fun h5583 => ?_)
          refine r_if_eq (tgt := 99) C h5583.ir dX12_formula_64 (by decide) (fun c5586 => ?_) (fun c5586 => ?_)
          · refine r_bt c5586 ?_
            refine r_iload_n (pc := 99) (j := 0) C dX12_formula_99 rfl rfl ?_
            refine r_jkb (fun q5587 : Smo => True) (fun q5587 => S) (fun q5587 => q5587) (fun q5587 => [(0, .ref (zad E 262))]) 157 (fun q5587 => []) (fun q5587 h5588 => ?_) (fun k5589 k5590 => ?_)
            · refine r_iconst (v := 0) C dX12_formula_157 (by decide) ?_
              refine r_istore_n (L' := [(1, .int (zi 0)), (0, .ref (zad E 262))]) C dX12_formula_158 rfl (by decide) rfl ?_
              refine r_L (L' := [(0, .ref (zad E 262)), (1, .int (zi 0))]) [1, 0] rfl ?_
              exact k5581 (0, q5587) (BRd rfl)
            · refine r_if_eq (tgt := 157) C h5576 dX12_formula_100 (by decide) (fun c5591 => ?_) (fun c5591 => ?_)
              · refine r_bt c5591 ?_
                refine r_L (L' := [(0, .ref (zad E 262))]) [1] rfl ?_
                exact k5590 s5564.2 trivial
              · refine r_bf c5591 ?_
                refine r_iload_n (pc := 103) (j := 0) C dX12_formula_103 rfl rfl ?_
                refine r_cS1 (pc := 104) (As := [.int (zi v5575)]) (st := []) C (m_X12_tight (a0 := v5575) h5576 rfl) cal_X12_tight q_1916 dX12_formula_104 rfl rfl (Nat.le_of_ble_eq_true rfl) (Nat.le_of_ble_eq_true rfl) (Nat.le_of_ble_eq_true rfl) (Nat.le_of_ble_eq_true rfl) (Nat.le_of_ble_eq_true rfl) (fun h5592 => ?_)
                refine r_iconst (v := 4) C dX12_formula_107 (by decide) ?_
                refine r_jkb (fun q5593 : Unit => True) (fun q5593 => S) (fun q5593 => s5564.2) (fun q5593 => [(0, .ref (zad E 262)), (1, .int (zi s5564.1)), (2, .int (zi v5575))]) 118 (fun q5593 => []) (fun q5593 h5594 => ?_) (fun k5595 k5596 => ?_)
                · refine r_aload_n (pc := 118) (j := 0) C dX12_formula_118 rfl rfl ?_
                  refine r_iload_n (pc := 119) (j := 2) C dX12_formula_119 rfl rfl ?_
                  refine r_cS1 (pc := 120) (As := [.int (zi v5575)]) (st := [.ref (zad E 262)]) C (m_X12_tight (a0 := v5575) h5576 rfl) cal_X12_tight q_1916 dX12_formula_120 rfl rfl (Nat.le_of_ble_eq_true rfl) (Nat.le_of_ble_eq_true rfl) (Nat.le_of_ble_eq_true rfl) (Nat.le_of_ble_eq_true rfl) (Nat.le_of_ble_eq_true rfl) (fun h5602 => ?_)
                  refine r_bb ?_
                  refine r_bd (fun q5604 e5605 => ?_)
                  refine r_cV0 (pc := 123) (k := 262) (As := [.int (zi (f_X12_tight v5575))]) (st := []) C (m_X12_close (a1 := f_X12_tight v5575) h5602 e5605) cal_X12_close cl_X12 kd_262 ln_262 q_1947 dX12_formula_123 rfl rfl (Nat.le_of_ble_eq_true rfl) (Nat.le_of_ble_eq_true rfl) (Nat.le_of_ble_eq_true rfl) (Nat.le_of_ble_eq_true rfl) (Nat.le_of_ble_eq_true rfl) (fun h5603 => ?_)
                  refine r_aload_n (pc := 126) (j := 0) C dX12_formula_126 rfl rfl ?_
                  refine r_getR (j := 14) (r := 268) C cl_X12 kd_262 ln_262 (by decide) rfl r0_262_14 (by decide) q_1567 dX12_formula_127 ?_
                  refine r_aload_n (pc := 130) (j := 0) C dX12_formula_130 rfl rfl ?_
                  refine r_getO (j := 18) C cl_X12 kd_262 ln_262 gc_262 (by decide) (by decide) rfl q_1571 dX12_formula_131 (fun h5606 => ?_)
                  refine r_iload_n (pc := 134) (j := 2) C dX12_formula_134 rfl rfl ?_
                  refine r_bb ?_
                  refine r_iast C kd_268 ln_268 gc_268 h5606 h5576 dX12_formula_135 (fun O5607 => ?_)
                  refine r_aload_n (pc := 136) (j := 0) C dX12_formula_136 rfl rfl ?_
                  refine r_dup C dX12_formula_137 rfl ?_
                  refine r_getO (j := 18) C cl_X12 kd_262 ln_262 gc_262 (by decide) (by decide) rfl q_1571 dX12_formula_138 (fun h5608 => ?_)
                  refine r_iconst (v := 1) C dX12_formula_141 (by decide) ?_
                  refine r_iadd C dX12_formula_142 ?_
                  refine r_bj ?_
                  refine r_putO C cl_X12 kd_262 ln_262 gc_262 (by decide) (by decide) rfl rfl rfl (IR_wr _) q_1571 dX12_formula_143 (fun O5609 => ?_)
                  refine r_aload_n (pc := 146) (j := 0) C dX12_formula_146 rfl rfl ?_
                  refine r_bb ?_
                  refine r_bd (fun q5611 e5612 => ?_)
                  refine r_cV0 (pc := 147) (k := 262) (As := []) (st := []) C (m_X12_token  e5612) cal_X12_token cl_X12 kd_262 ln_262 q_1815 dX12_formula_147 rfl rfl (Nat.le_of_ble_eq_true rfl) (Nat.le_of_ble_eq_true rfl) (Nat.le_of_ble_eq_true rfl) (Nat.le_of_ble_eq_true rfl) (Nat.le_of_ble_eq_true rfl) (fun h5610 => ?_)
                  refine r_aload_n (pc := 150) (j := 0) C dX12_formula_150 rfl rfl ?_
                  refine r_bb ?_
                  refine r_bd (fun q5614 e5615 => ?_)
                  refine r_cV0 (pc := 151) (k := 262) (As := []) (st := []) C (m_X12_unit  e5615) cal_X12_unit cl_X12 kd_262 ln_262 q_1908 dX12_formula_151 rfl rfl (Nat.le_of_ble_eq_true rfl) (Nat.le_of_ble_eq_true rfl) (Nat.le_of_ble_eq_true rfl) (Nat.le_of_ble_eq_true rfl) (Nat.le_of_ble_eq_true rfl) (fun h5613 => ?_)
                  refine r_goto (tgt := 159) C dX12_formula_154 (by decide) ?_
                  refine r_L (L' := [(0, .ref (zad E 262)), (1, .int (zi s5564.1))]) [0, 1] rfl ?_
                  exact k5581 (s5564.1, q5614) h5565
                · refine r_icmp_ne (tgt := 118) C h5592 (IRd rfl) dX12_formula_108 (by decide) (fun c5597 => ?_) (fun c5597 => ?_)
                  · refine r_bf c5597 ?_
                    refine r_L (L' := [(0, .ref (zad E 262)), (1, .int (zi s5564.1)), (2, .int (zi v5575))]) [1, 2, 0] rfl ?_
                    exact k5596 () trivial
                  · refine r_bt c5597 ?_
                    refine r_aload_n (pc := 111) (j := 1) C dX12_formula_111 rfl rfl ?_
                    refine r_bb ?_
                    refine r_bd (fun q5599 e5600 => ?_)
                    refine r_cV1 (pc := 112) (k := 262) (As := []) (st := []) C (m_X12_hasRelation  e5600) cal_X12_hasRelation cl_X12 kd_262 ln_262 q_1951 dX12_formula_112 rfl rfl (Nat.le_of_ble_eq_true rfl) (Nat.le_of_ble_eq_true rfl) (Nat.le_of_ble_eq_true rfl) (Nat.le_of_ble_eq_true rfl) (Nat.le_of_ble_eq_true rfl) (fun h5598 => ?_)
                    refine r_if_ne (tgt := 157) C h5598.ir dX12_formula_115 (by decide) (fun c5601 => ?_) (fun c5601 => ?_)
                    · refine r_bf c5601 ?_
                      refine r_L (L' := [(0, .ref (zad E 262))]) [1] rfl ?_
                      exact k5590 s5564.2 trivial
                    · refine r_bt c5601 ?_
                      refine r_L (L' := [(0, .ref (zad E 262)), (1, .int (zi s5564.1)), (2, .int (zi v5575))]) [1, 2, 0] rfl ?_
                      exact k5596 () trivial
          · refine r_bf c5586 ?_
            refine r_aload_n (pc := 67) (j := 1) C dX12_formula_67 rfl rfl ?_
            refine r_iconst (v := 0) C dX12_formula_68 (by decide) ?_
            refine r_bb ?_
            refine r_bd (fun q5617 e5618 => ?_)
            refine r_cV0 (pc := 69) (k := 262) (As := [.int (zi 0)]) (st := []) C (m_X12_close (a1 := 0) (IRd rfl) e5618) cal_X12_close cl_X12 kd_262 ln_262 q_1947 dX12_formula_69 rfl rfl (Nat.le_of_ble_eq_true rfl) (Nat.le_of_ble_eq_true rfl) (Nat.le_of_ble_eq_true rfl) (Nat.le_of_ble_eq_true rfl) (Nat.le_of_ble_eq_true rfl) (fun h5616 => ?_)
            refine r_aload_n (pc := 72) (j := 1) C dX12_formula_72 rfl rfl ?_
            refine r_dup C dX12_formula_73 rfl ?_
            refine r_getO (j := 18) C cl_X12 kd_262 ln_262 gc_262 (by decide) (by decide) rfl q_1571 dX12_formula_74 (fun h5619 => ?_)
            refine r_iconst (v := 1) C dX12_formula_77 (by decide) ?_
            refine r_isub C dX12_formula_78 ?_
            refine r_bj ?_
            refine r_putO C cl_X12 kd_262 ln_262 gc_262 (by decide) (by decide) rfl rfl rfl (IR_wr _) q_1571 dX12_formula_79 (fun O5620 => ?_)
            refine r_aload_n (pc := 82) (j := 1) C dX12_formula_82 rfl rfl ?_
            refine r_dup C dX12_formula_83 rfl ?_
            refine r_getO (j := 22) C cl_X12 kd_262 ln_262 gc_262 (by decide) (by decide) rfl q_1575 dX12_formula_84 (fun h5621 => ?_)
            refine r_iconst (v := 1) C dX12_formula_87 (by decide) ?_
            refine r_isub C dX12_formula_88 ?_
            refine r_bj ?_
            refine r_putO C cl_X12 kd_262 ln_262 gc_262 (by decide) (by decide) rfl rfl rfl (IR_wr _) q_1575 dX12_formula_89 (fun O5622 => ?_)
            refine r_aload_n (pc := 92) (j := 1) C dX12_formula_92 rfl rfl ?_
            refine r_bb ?_
            refine r_bd (fun q5624 e5625 => ?_)
            refine r_cV0 (pc := 93) (k := 262) (As := []) (st := []) C (m_X12_token  e5625) cal_X12_token cl_X12 kd_262 ln_262 q_1815 dX12_formula_93 rfl rfl (Nat.le_of_ble_eq_true rfl) (Nat.le_of_ble_eq_true rfl) (Nat.le_of_ble_eq_true rfl) (Nat.le_of_ble_eq_true rfl) (Nat.le_of_ble_eq_true rfl) (fun h5623 => ?_)
            refine r_goto (tgt := 159) C dX12_formula_96 (by decide) ?_
            refine r_L (L' := [(0, .ref (zad E 262)), (1, .int (zi s5564.1))]) [1, 2] rfl ?_
            exact k5581 (s5564.1, q5624) h5565
    · refine r_if_eq (tgt := 162) C h5565.ir dX12_formula_36 (by decide) (fun c5655 => ?_) (fun c5655 => ?_)
      · exact k5572 (Or.inl c5655)
      · refine r_aload_n (pc := 39) (j := 0) C dX12_formula_39 rfl rfl ?_
        refine r_getO (j := 2) C cl_X12 kd_262 ln_262 gc_262 (by decide) (by decide) rfl q_1555 dX12_formula_40 (fun h5570 => ?_)
        refine r_if_ne (tgt := 162) C h5570 dX12_formula_43 (by decide) (fun c5656 => ?_) (fun c5656 => ?_)
        · exact k5572 (Or.inr c5656)
        · exact k5573 (fun w => w.elim c5655 (fun x => x c5656))

def f_X12_truth (a0 : Int) : Int :=
  if a0 = 0 then
    (0)
  else
    (1)
set_option maxRecDepth 100000 in
set_option maxHeartbeats 4000000 in
theorem m_X12_truth {l : Launch} {E : EwT} {n : Nat} {R : Srf} {S : Sst} {O : Smo} {a0 : Int} (ha0 : BR a0) {q : Int} (hq : f_X12_truth a0 = q) : MetG l E yX12_truth cX12_truth 1 (some .int) 0 0 0 0 n R S O [.int (zi a0)] (IR q) (some (.int (zi q))) n R S O := by
  refine ofG (L0 := [(0, .int (zi a0))]) hq (by decide +kernel) (Nat.le_of_ble_eq_true rfl) rfl (fun K _ C hQ => ?_)
  unfold f_X12_truth
  refine r_iload_n (pc := 0) (j := 0) C dX12_truth_0 rfl rfl ?_
  refine r_if_eq (tgt := 8) C ha0.ir dX12_truth_1 (by decide) (fun c5677 => ?_) (fun c5677 => ?_)
  · refine r_t c5677 ?_
    refine r_iconst (v := 0) C dX12_truth_8 (by decide) ?_
    exact r_ireturn C hQ rfl dX12_truth_9 (fun e => by subst e; exact ⟨(IRd rfl), rfl, rfl, rfl, rfl, rfl⟩)
  · refine r_f c5677 ?_
    refine r_iconst (v := 1) C dX12_truth_4 (by decide) ?_
    refine r_goto (tgt := 9) C dX12_truth_5 (by decide) ?_
    exact r_ireturn C hQ rfl dX12_truth_9 (fun e => by subst e; exact ⟨(IRd rfl), rfl, rfl, rfl, rfl, rfl⟩)

def f_X12_done (a0 : Int) (a1 : Int) (a2 : Int) : Option (Int) :=
  if a0 = 37 then
    (if a2 = 0 then
      (some 0)
    else
      (Option.bind ((if a2 = 0 then none else some (zrem a1 a2))) fun (v5680 : Int) =>
      some v5680))
  else
    (if a0 = 38 then
      (jn (
        if (a1 = 0 ∨ a2 = 0) then
          (0)
        else
          (1)) fun (q5683 : Int) =>
      some (f_X12_truth q5683))
    else
      (if a0 = 42 then
        (some (wr (a1 * a2)))
      else
        (if a0 = 43 then
          (some (wr (a1 + a2)))
        else
          (if a0 = 45 then
            (some (wr (a1 - a2)))
          else
            (if a0 = 47 then
              (if a2 = 0 then
                (some 0)
              else
                (Option.bind ((if a2 = 0 then none else some (zdiv a1 a2))) fun (v5698 : Int) =>
                some v5698))
            else
              (if a0 = 60 then
                (jn (
                  if a1 < a2 then
                    (1)
                  else
                    (0)) fun (q5701 : Int) =>
                some (f_X12_truth q5701))
              else
                (if a0 = 61 then
                  (jn (
                    if a1 = a2 then
                      (1)
                    else
                      (0)) fun (q5708 : Int) =>
                  some (f_X12_truth q5708))
                else
                  (if a0 = 62 then
                    (jn (
                      if a2 < a1 then
                        (1)
                      else
                        (0)) fun (q5715 : Int) =>
                    some (f_X12_truth q5715))
                  else
                    (jn (
                      if (a1 = 0 ∧ a2 = 0) then
                        (0)
                      else
                        (1)) fun (q5721 : Int) =>
                    some (f_X12_truth q5721))))))))))
set_option maxRecDepth 100000 in
set_option maxHeartbeats 4000000 in
theorem m_X12_done {l : Launch} {E : EwT} {n : Nat} {R : Srf} {S : Sst} {O : Smo} {a0 : Int} (ha0 : IR a0) {a1 : Int} (ha1 : IR a1) {a2 : Int} (ha2 : IR a2) {q : Int} (hq : f_X12_done a0 a1 a2 = some q) : MetG l E yX12_done cX12_done 3 (some .int) 1 20 0 0 n R S O [.int (zi a0), .int (zi a1), .int (zi a2)] (IR q) (some (.int (zi q))) n R S O := by
  refine ofG (L0 := [(0, .int (zi a0)), (1, .int (zi a1)), (2, .int (zi a2))]) hq (by decide +kernel) (Nat.le_of_ble_eq_true rfl) rfl (fun K _ C hQ => ?_)
  unfold f_X12_done
  refine r_iload_n (pc := 0) (j := 0) C dX12_done_0 rfl rfl ?_
  by_cases c5678 : (a0 = 37)
  · refine r_t c5678 ?_
    refine r_tswIn (kx := 37) (tgt := 144) C ha0 dX12_done_1 c5678 (by decide) (by decide) rfl (by decide) ?_
    refine r_iload_n (pc := 144) (j := 2) C dX12_done_144 rfl rfl ?_
    refine r_if_ne (tgt := 152) C ha2 dX12_done_145 (by decide) (fun c5679 => ?_) (fun c5679 => ?_)
    · refine r_f c5679 ?_
      refine r_iload_n (pc := 152) (j := 1) C dX12_done_152 rfl rfl ?_
      refine r_iload_n (pc := 153) (j := 2) C dX12_done_153 rfl rfl ?_
      refine r_irem C ha2 dX12_done_154 (fun v5680 h5681 => ?_)
      exact r_ireturn C hQ rfl dX12_done_155 (fun e => by cases e; exact ⟨h5681, rfl, rfl, rfl, rfl, rfl⟩)
    · refine r_t c5679 ?_
      refine r_iconst (v := 0) C dX12_done_148 (by decide) ?_
      refine r_goto (tgt := 155) C dX12_done_149 (by decide) ?_
      exact r_ireturn C hQ rfl dX12_done_155 (fun e => by cases e; exact ⟨(IRd rfl), rfl, rfl, rfl, rfl, rfl⟩)
  · refine r_f c5678 ?_
    by_cases c5682 : (a0 = 38)
    · refine r_t c5682 ?_
      refine r_tswIn (kx := 38) (tgt := 198) C ha0 dX12_done_1 c5682 (by decide) (by decide) rfl (by decide) ?_
      refine r_iload_n (pc := 198) (j := 1) C dX12_done_198 rfl rfl ?_
      refine r_join (fun q5683 : Int => BR q5683) (fun q5683 => S) (fun q5683 => O) (fun q5683 => []) 211 (fun q5683 => [.int (zi q5683)]) (fun q5683 h5684 => ?_) (fun k5685 k5686 => ?_)
      · refine r_cS1 (pc := 211) (As := [.int (zi q5683)]) (st := []) C (m_X12_truth (a0 := q5683) h5684 rfl) cal_X12_truth q_1959 dX12_done_211 rfl rfl (Nat.le_of_ble_eq_true rfl) (Nat.le_of_ble_eq_true rfl) (Nat.le_of_ble_eq_true rfl) (Nat.le_of_ble_eq_true rfl) (Nat.le_of_ble_eq_true rfl) (fun h5692 => ?_)
        exact r_ireturn C hQ rfl dX12_done_214 (fun e => by cases e; exact ⟨h5692, rfl, rfl, rfl, rfl, rfl⟩)
      · refine r_cut (a1 = 0 ∨ a2 = 0) 210 206 [] (fun c5687 => ?_) (fun c5687 => ?_) (fun k5688 k5689 => ?_)
        · refine r_jt c5687 ?_
          refine r_iconst (v := 0) C dX12_done_210 (by decide) ?_
          refine r_L (L' := []) [] rfl ?_
          exact k5686 0 (BRd rfl)
        · refine r_jf c5687 ?_
          refine r_iconst (v := 1) C dX12_done_206 (by decide) ?_
          refine r_goto (tgt := 211) C dX12_done_207 (by decide) ?_
          refine r_L (L' := []) [] rfl ?_
          exact k5686 1 (BRd rfl)
        · refine r_if_eq (tgt := 210) C ha1 dX12_done_199 (by decide) (fun c5690 => ?_) (fun c5690 => ?_)
          · exact k5688 (Or.inl c5690)
          · refine r_iload_n (pc := 202) (j := 2) C dX12_done_202 rfl rfl ?_
            refine r_if_eq (tgt := 210) C ha2 dX12_done_203 (by decide) (fun c5691 => ?_) (fun c5691 => ?_)
            · exact k5688 (Or.inr c5691)
            · exact k5689 (fun w => w.elim c5690 c5691)
    · refine r_f c5682 ?_
      by_cases c5693 : (a0 = 42)
      · refine r_t c5693 ?_
        refine r_tswIn (kx := 42) (tgt := 128) C ha0 dX12_done_1 c5693 (by decide) (by decide) rfl (by decide) ?_
        refine r_iload_n (pc := 128) (j := 1) C dX12_done_128 rfl rfl ?_
        refine r_iload_n (pc := 129) (j := 2) C dX12_done_129 rfl rfl ?_
        refine r_imul C dX12_done_130 ?_
        exact r_ireturn C hQ rfl dX12_done_131 (fun e => by cases e; exact ⟨(IR_wr _), rfl, rfl, rfl, rfl, rfl⟩)
      · refine r_f c5693 ?_
        by_cases c5694 : (a0 = 43)
        · refine r_t c5694 ?_
          refine r_tswIn (kx := 43) (tgt := 120) C ha0 dX12_done_1 c5694 (by decide) (by decide) rfl (by decide) ?_
          refine r_iload_n (pc := 120) (j := 1) C dX12_done_120 rfl rfl ?_
          refine r_iload_n (pc := 121) (j := 2) C dX12_done_121 rfl rfl ?_
          refine r_iadd C dX12_done_122 ?_
          exact r_ireturn C hQ rfl dX12_done_123 (fun e => by cases e; exact ⟨(IR_wr _), rfl, rfl, rfl, rfl, rfl⟩)
        · refine r_f c5694 ?_
          by_cases c5695 : (a0 = 45)
          · refine r_t c5695 ?_
            refine r_tswIn (kx := 45) (tgt := 124) C ha0 dX12_done_1 c5695 (by decide) (by decide) rfl (by decide) ?_
            refine r_iload_n (pc := 124) (j := 1) C dX12_done_124 rfl rfl ?_
            refine r_iload_n (pc := 125) (j := 2) C dX12_done_125 rfl rfl ?_
            refine r_isub C dX12_done_126 ?_
            exact r_ireturn C hQ rfl dX12_done_127 (fun e => by cases e; exact ⟨(IR_wr _), rfl, rfl, rfl, rfl, rfl⟩)
          · refine r_f c5695 ?_
            by_cases c5696 : (a0 = 47)
            · refine r_t c5696 ?_
              refine r_tswIn (kx := 47) (tgt := 132) C ha0 dX12_done_1 c5696 (by decide) (by decide) rfl (by decide) ?_
              refine r_iload_n (pc := 132) (j := 2) C dX12_done_132 rfl rfl ?_
              refine r_if_ne (tgt := 140) C ha2 dX12_done_133 (by decide) (fun c5697 => ?_) (fun c5697 => ?_)
              · refine r_f c5697 ?_
                refine r_iload_n (pc := 140) (j := 1) C dX12_done_140 rfl rfl ?_
                refine r_iload_n (pc := 141) (j := 2) C dX12_done_141 rfl rfl ?_
                refine r_idiv C ha2 dX12_done_142 (fun v5698 h5699 => ?_)
                exact r_ireturn C hQ rfl dX12_done_143 (fun e => by cases e; exact ⟨h5699, rfl, rfl, rfl, rfl, rfl⟩)
              · refine r_t c5697 ?_
                refine r_iconst (v := 0) C dX12_done_136 (by decide) ?_
                refine r_goto (tgt := 143) C dX12_done_137 (by decide) ?_
                exact r_ireturn C hQ rfl dX12_done_143 (fun e => by cases e; exact ⟨(IRd rfl), rfl, rfl, rfl, rfl, rfl⟩)
            · refine r_f c5696 ?_
              by_cases c5700 : (a0 = 60)
              · refine r_t c5700 ?_
                refine r_tswIn (kx := 60) (tgt := 156) C ha0 dX12_done_1 c5700 (by decide) (by decide) rfl (by decide) ?_
                refine r_iload_n (pc := 156) (j := 1) C dX12_done_156 rfl rfl ?_
                refine r_iload_n (pc := 157) (j := 2) C dX12_done_157 rfl rfl ?_
                refine r_join (fun q5701 : Int => BR q5701) (fun q5701 => S) (fun q5701 => O) (fun q5701 => []) 166 (fun q5701 => [.int (zi q5701)]) (fun q5701 h5702 => ?_) (fun k5703 k5704 => ?_)
                · refine r_cS1 (pc := 166) (As := [.int (zi q5701)]) (st := []) C (m_X12_truth (a0 := q5701) h5702 rfl) cal_X12_truth q_1959 dX12_done_166 rfl rfl (Nat.le_of_ble_eq_true rfl) (Nat.le_of_ble_eq_true rfl) (Nat.le_of_ble_eq_true rfl) (Nat.le_of_ble_eq_true rfl) (Nat.le_of_ble_eq_true rfl) (fun h5706 => ?_)
                  exact r_ireturn C hQ rfl dX12_done_169 (fun e => by cases e; exact ⟨h5706, rfl, rfl, rfl, rfl, rfl⟩)
                · refine r_icmp_ge (tgt := 165) C ha1 ha2 dX12_done_158 (by decide) (fun c5705 => ?_) (fun c5705 => ?_)
                  · refine r_jf c5705 ?_
                    refine r_iconst (v := 0) C dX12_done_165 (by decide) ?_
                    refine r_L (L' := []) [] rfl ?_
                    exact k5704 0 (BRd rfl)
                  · refine r_jt c5705 ?_
                    refine r_iconst (v := 1) C dX12_done_161 (by decide) ?_
                    refine r_goto (tgt := 166) C dX12_done_162 (by decide) ?_
                    refine r_L (L' := []) [] rfl ?_
                    exact k5704 1 (BRd rfl)
              · refine r_f c5700 ?_
                by_cases c5707 : (a0 = 61)
                · refine r_t c5707 ?_
                  refine r_tswIn (kx := 61) (tgt := 184) C ha0 dX12_done_1 c5707 (by decide) (by decide) rfl (by decide) ?_
                  refine r_iload_n (pc := 184) (j := 1) C dX12_done_184 rfl rfl ?_
                  refine r_iload_n (pc := 185) (j := 2) C dX12_done_185 rfl rfl ?_
                  refine r_join (fun q5708 : Int => BR q5708) (fun q5708 => S) (fun q5708 => O) (fun q5708 => []) 194 (fun q5708 => [.int (zi q5708)]) (fun q5708 h5709 => ?_) (fun k5710 k5711 => ?_)
                  · refine r_cS1 (pc := 194) (As := [.int (zi q5708)]) (st := []) C (m_X12_truth (a0 := q5708) h5709 rfl) cal_X12_truth q_1959 dX12_done_194 rfl rfl (Nat.le_of_ble_eq_true rfl) (Nat.le_of_ble_eq_true rfl) (Nat.le_of_ble_eq_true rfl) (Nat.le_of_ble_eq_true rfl) (Nat.le_of_ble_eq_true rfl) (fun h5713 => ?_)
                    exact r_ireturn C hQ rfl dX12_done_197 (fun e => by cases e; exact ⟨h5713, rfl, rfl, rfl, rfl, rfl⟩)
                  · refine r_icmp_ne (tgt := 193) C ha1 ha2 dX12_done_186 (by decide) (fun c5712 => ?_) (fun c5712 => ?_)
                    · refine r_jf c5712 ?_
                      refine r_iconst (v := 0) C dX12_done_193 (by decide) ?_
                      refine r_L (L' := []) [] rfl ?_
                      exact k5711 0 (BRd rfl)
                    · refine r_jt c5712 ?_
                      refine r_iconst (v := 1) C dX12_done_189 (by decide) ?_
                      refine r_goto (tgt := 194) C dX12_done_190 (by decide) ?_
                      refine r_L (L' := []) [] rfl ?_
                      exact k5711 1 (BRd rfl)
                · refine r_f c5707 ?_
                  by_cases c5714 : (a0 = 62)
                  · refine r_t c5714 ?_
                    refine r_tswIn (kx := 62) (tgt := 170) C ha0 dX12_done_1 c5714 (by decide) (by decide) rfl (by decide) ?_
                    refine r_iload_n (pc := 170) (j := 1) C dX12_done_170 rfl rfl ?_
                    refine r_iload_n (pc := 171) (j := 2) C dX12_done_171 rfl rfl ?_
                    refine r_join (fun q5715 : Int => BR q5715) (fun q5715 => S) (fun q5715 => O) (fun q5715 => []) 180 (fun q5715 => [.int (zi q5715)]) (fun q5715 h5716 => ?_) (fun k5717 k5718 => ?_)
                    · refine r_cS1 (pc := 180) (As := [.int (zi q5715)]) (st := []) C (m_X12_truth (a0 := q5715) h5716 rfl) cal_X12_truth q_1959 dX12_done_180 rfl rfl (Nat.le_of_ble_eq_true rfl) (Nat.le_of_ble_eq_true rfl) (Nat.le_of_ble_eq_true rfl) (Nat.le_of_ble_eq_true rfl) (Nat.le_of_ble_eq_true rfl) (fun h5720 => ?_)
                      exact r_ireturn C hQ rfl dX12_done_183 (fun e => by cases e; exact ⟨h5720, rfl, rfl, rfl, rfl, rfl⟩)
                    · refine r_icmp_le (tgt := 179) C ha1 ha2 dX12_done_172 (by decide) (fun c5719 => ?_) (fun c5719 => ?_)
                      · refine r_jf c5719 ?_
                        refine r_iconst (v := 0) C dX12_done_179 (by decide) ?_
                        refine r_L (L' := []) [] rfl ?_
                        exact k5718 0 (BRd rfl)
                      · refine r_jt c5719 ?_
                        refine r_iconst (v := 1) C dX12_done_175 (by decide) ?_
                        refine r_goto (tgt := 180) C dX12_done_176 (by decide) ?_
                        refine r_L (L' := []) [] rfl ?_
                        exact k5718 1 (BRd rfl)
                  · refine r_f c5714 ?_
                    refine r_cutS 215 [] (?_) (fun k5731 => ?_)
                    · refine r_iload_n (pc := 215) (j := 1) C dX12_done_215 rfl rfl ?_
                      refine r_join (fun q5721 : Int => BR q5721) (fun q5721 => S) (fun q5721 => O) (fun q5721 => []) 228 (fun q5721 => [.int (zi q5721)]) (fun q5721 h5722 => ?_) (fun k5723 k5724 => ?_)
                      · refine r_cS1 (pc := 228) (As := [.int (zi q5721)]) (st := []) C (m_X12_truth (a0 := q5721) h5722 rfl) cal_X12_truth q_1959 dX12_done_228 rfl rfl (Nat.le_of_ble_eq_true rfl) (Nat.le_of_ble_eq_true rfl) (Nat.le_of_ble_eq_true rfl) (Nat.le_of_ble_eq_true rfl) (Nat.le_of_ble_eq_true rfl) (fun h5730 => ?_)
                        exact r_ireturn C hQ rfl dX12_done_231 (fun e => by cases e; exact ⟨h5730, rfl, rfl, rfl, rfl, rfl⟩)
                      · refine r_cut (a1 = 0 ∧ a2 = 0) 227 223 [] (fun c5725 => ?_) (fun c5725 => ?_) (fun k5726 k5727 => ?_)
                        · refine r_jt c5725 ?_
                          refine r_iconst (v := 0) C dX12_done_227 (by decide) ?_
                          refine r_L (L' := []) [] rfl ?_
                          exact k5724 0 (BRd rfl)
                        · refine r_jf c5725 ?_
                          refine r_iconst (v := 1) C dX12_done_223 (by decide) ?_
                          refine r_goto (tgt := 228) C dX12_done_224 (by decide) ?_
                          refine r_L (L' := []) [] rfl ?_
                          exact k5724 1 (BRd rfl)
                        · refine r_if_ne (tgt := 223) C ha1 dX12_done_216 (by decide) (fun c5728 => ?_) (fun c5728 => ?_)
                          · exact k5727 (fun w => c5728 w.1)
                          · refine r_iload_n (pc := 219) (j := 2) C dX12_done_219 rfl rfl ?_
                            refine r_if_eq (tgt := 227) C ha2 dX12_done_220 (by decide) (fun c5729 => ?_) (fun c5729 => ?_)
                            · exact k5726 ⟨c5728, c5729⟩
                            · exact k5727 (fun w => c5729 w.2)
                    · rcases (show (a0 < 37 ∨ 62 < a0) ∨ a0 = 39 ∨ a0 = 40 ∨ a0 = 41 ∨ a0 = 44 ∨ a0 = 46 ∨ a0 = 48 ∨ a0 = 49 ∨ a0 = 50 ∨ a0 = 51 ∨ a0 = 52 ∨ a0 = 53 ∨ a0 = 54 ∨ a0 = 55 ∨ a0 = 56 ∨ a0 = 57 ∨ a0 = 58 ∨ a0 = 59 by omega) with cg | cg | cg | cg | cg | cg | cg | cg | cg | cg | cg | cg | cg | cg | cg | cg | cg | cg
                      · refine r_tswOut (tgt := 215) C ha0 dX12_done_1 cg (by decide) ?_
                        exact k5731
                      · refine r_tswIn (kx := 39) (tgt := 215) C ha0 dX12_done_1 cg (by decide) (by decide) rfl (by decide) ?_
                        exact k5731
                      · refine r_tswIn (kx := 40) (tgt := 215) C ha0 dX12_done_1 cg (by decide) (by decide) rfl (by decide) ?_
                        exact k5731
                      · refine r_tswIn (kx := 41) (tgt := 215) C ha0 dX12_done_1 cg (by decide) (by decide) rfl (by decide) ?_
                        exact k5731
                      · refine r_tswIn (kx := 44) (tgt := 215) C ha0 dX12_done_1 cg (by decide) (by decide) rfl (by decide) ?_
                        exact k5731
                      · refine r_tswIn (kx := 46) (tgt := 215) C ha0 dX12_done_1 cg (by decide) (by decide) rfl (by decide) ?_
                        exact k5731
                      · refine r_tswIn (kx := 48) (tgt := 215) C ha0 dX12_done_1 cg (by decide) (by decide) rfl (by decide) ?_
                        exact k5731
                      · refine r_tswIn (kx := 49) (tgt := 215) C ha0 dX12_done_1 cg (by decide) (by decide) rfl (by decide) ?_
                        exact k5731
                      · refine r_tswIn (kx := 50) (tgt := 215) C ha0 dX12_done_1 cg (by decide) (by decide) rfl (by decide) ?_
                        exact k5731
                      · refine r_tswIn (kx := 51) (tgt := 215) C ha0 dX12_done_1 cg (by decide) (by decide) rfl (by decide) ?_
                        exact k5731
                      · refine r_tswIn (kx := 52) (tgt := 215) C ha0 dX12_done_1 cg (by decide) (by decide) rfl (by decide) ?_
                        exact k5731
                      · refine r_tswIn (kx := 53) (tgt := 215) C ha0 dX12_done_1 cg (by decide) (by decide) rfl (by decide) ?_
                        exact k5731
                      · refine r_tswIn (kx := 54) (tgt := 215) C ha0 dX12_done_1 cg (by decide) (by decide) rfl (by decide) ?_
                        exact k5731
                      · refine r_tswIn (kx := 55) (tgt := 215) C ha0 dX12_done_1 cg (by decide) (by decide) rfl (by decide) ?_
                        exact k5731
                      · refine r_tswIn (kx := 56) (tgt := 215) C ha0 dX12_done_1 cg (by decide) (by decide) rfl (by decide) ?_
                        exact k5731
                      · refine r_tswIn (kx := 57) (tgt := 215) C ha0 dX12_done_1 cg (by decide) (by decide) rfl (by decide) ?_
                        exact k5731
                      · refine r_tswIn (kx := 58) (tgt := 215) C ha0 dX12_done_1 cg (by decide) (by decide) rfl (by decide) ?_
                        exact k5731
                      · refine r_tswIn (kx := 59) (tgt := 215) C ha0 dX12_done_1 cg (by decide) (by decide) rfl (by decide) ?_
                        exact k5731

def f_X12_lesser (a0 : Int) (a1 : Int) : Int :=
  if a0 < a1 then
    (a0)
  else
    (a1)
set_option maxRecDepth 100000 in
set_option maxHeartbeats 4000000 in
theorem m_X12_lesser {l : Launch} {E : EwT} {n : Nat} {R : Srf} {S : Sst} {O : Smo} {a0 : Int} (ha0 : IR a0) {a1 : Int} (ha1 : IR a1) {q : Int} (hq : f_X12_lesser a0 a1 = q) : MetG l E yX12_lesser cX12_lesser 2 (some .int) 0 0 0 0 n R S O [.int (zi a0), .int (zi a1)] (IR q) (some (.int (zi q))) n R S O := by
  refine ofG (L0 := [(0, .int (zi a0)), (1, .int (zi a1))]) hq (by decide +kernel) (Nat.le_of_ble_eq_true rfl) rfl (fun K _ C hQ => ?_)
  unfold f_X12_lesser
  refine r_iload_n (pc := 0) (j := 0) C dX12_lesser_0 rfl rfl ?_
  refine r_iload_n (pc := 1) (j := 1) C dX12_lesser_1 rfl rfl ?_
  refine r_icmp_ge (tgt := 9) C ha0 ha1 dX12_lesser_2 (by decide) (fun c5732 => ?_) (fun c5732 => ?_)
  · refine r_f c5732 ?_
    refine r_iload_n (pc := 9) (j := 1) C dX12_lesser_9 rfl rfl ?_
    exact r_ireturn C hQ rfl dX12_lesser_10 (fun e => by subst e; exact ⟨ha1, rfl, rfl, rfl, rfl, rfl⟩)
  · refine r_t c5732 ?_
    refine r_iload_n (pc := 5) (j := 0) C dX12_lesser_5 rfl rfl ?_
    refine r_goto (tgt := 10) C dX12_lesser_6 (by decide) ?_
    exact r_ireturn C hQ rfl dX12_lesser_10 (fun e => by subst e; exact ⟨ha0, rfl, rfl, rfl, rfl, rfl⟩)

def f_X12_greater (a0 : Int) (a1 : Int) : Int :=
  if a1 < a0 then
    (a0)
  else
    (a1)
set_option maxRecDepth 100000 in
set_option maxHeartbeats 4000000 in
theorem m_X12_greater {l : Launch} {E : EwT} {n : Nat} {R : Srf} {S : Sst} {O : Smo} {a0 : Int} (ha0 : IR a0) {a1 : Int} (ha1 : IR a1) {q : Int} (hq : f_X12_greater a0 a1 = q) : MetG l E yX12_greater cX12_greater 2 (some .int) 0 0 0 0 n R S O [.int (zi a0), .int (zi a1)] (IR q) (some (.int (zi q))) n R S O := by
  refine ofG (L0 := [(0, .int (zi a0)), (1, .int (zi a1))]) hq (by decide +kernel) (Nat.le_of_ble_eq_true rfl) rfl (fun K _ C hQ => ?_)
  unfold f_X12_greater
  refine r_iload_n (pc := 0) (j := 0) C dX12_greater_0 rfl rfl ?_
  refine r_iload_n (pc := 1) (j := 1) C dX12_greater_1 rfl rfl ?_
  refine r_icmp_le (tgt := 9) C ha0 ha1 dX12_greater_2 (by decide) (fun c5733 => ?_) (fun c5733 => ?_)
  · refine r_f c5733 ?_
    refine r_iload_n (pc := 9) (j := 1) C dX12_greater_9 rfl rfl ?_
    exact r_ireturn C hQ rfl dX12_greater_10 (fun e => by subst e; exact ⟨ha1, rfl, rfl, rfl, rfl, rfl⟩)
  · refine r_t c5733 ?_
    refine r_iload_n (pc := 5) (j := 0) C dX12_greater_5 rfl rfl ?_
    refine r_goto (tgt := 10) C dX12_greater_6 (by decide) ?_
    exact r_ireturn C hQ rfl dX12_greater_10 (fun e => by subst e; exact ⟨ha0, rfl, rfl, rfl, rfl, rfl⟩)

def f_X12_members (a0 : Int) : Option (Int) :=
  Option.bind (lp (fun (s5743 : Int × Int) =>
    if s5743.2 < 8 then
      (jn (wr (s5743.1 + (zand (zshr a0 s5743.2) 1))) fun (v5750 : Int) =>
      some (Sum.inl (v5750, wr (s5743.2 + 1))))
    else
      (some (Sum.inr s5743.1))) FU (0, 0)) fun (r5752 : Int) =>
  some r5752
set_option maxRecDepth 100000 in
set_option maxHeartbeats 4000000 in
theorem m_X12_members {l : Launch} {E : EwT} {n : Nat} {R : Srf} {S : Sst} {O : Smo} {a0 : Int} (ha0 : IR a0) {q : Int} (hq : f_X12_members a0 = some q) : MetG l E yX12_members cX12_members 3 (some .int) 0 0 0 0 n R S O [.int (zi a0)] (IR q) (some (.int (zi q))) n R S O := by
  refine ofG (L0 := [(0, .int (zi a0))]) hq (by decide +kernel) (Nat.le_of_ble_eq_true rfl) rfl (fun K _ C hQ => ?_)
  unfold f_X12_members
  refine r_iconst (v := 0) C dX12_members_0 (by decide) ?_
  refine r_istore_n (L' := [(1, .int (zi 0)), (0, .int (zi a0))]) C dX12_members_1 rfl (by decide) rfl ?_
  refine r_iconst (v := 0) C dX12_members_2 (by decide) ?_
  refine r_istore_n (L' := [(2, .int (zi 0)), (1, .int (zi 0)), (0, .int (zi a0))]) C dX12_members_3 rfl (by decide) rfl ?_
  refine r_L (L' := [(0, .int (zi a0)), (1, .int (zi 0)), (2, .int (zi 0))]) [2, 1, 0] rfl ?_
  refine r_loop1 (fun s5743 : Int × Int => IR s5743.1 ∧ IR s5743.2) (fun s5743 => S) (fun s5743 => O) (fun s5743 => [(0, .int (zi a0)), (1, .int (zi s5743.1)), (2, .int (zi s5743.2))]) [] (fun r5752 : Int => IR r5752) (fun r5752 => S) (fun r5752 => O) (fun r5752 => [(1, .int (zi r5752))]) 24 (fun r5752 h5753 => ?_) (fun k5745 k5747 k5746 k5748 s5743 h5744 => ?_) ⟨(IRd rfl), (IRd rfl)⟩
  · refine r_iload_n (pc := 24) (j := 0) C dX12_members_24 rfl rfl ?_
    exact r_ireturn C hQ rfl dX12_members_25 (fun e => by cases e; exact ⟨h5753, rfl, rfl, rfl, rfl, rfl⟩)
  · refine r_iload_n (pc := 4) (j := 2) C dX12_members_4 rfl rfl ?_
    refine r_bipush (v := 8) C dX12_members_5 (by decide) ?_
    refine r_icmp_ge (tgt := 24) C h5744.2 (IRd rfl) dX12_members_7 (by decide) (fun c5749 => ?_) (fun c5749 => ?_)
    · refine r_bf c5749 ?_
      refine r_L (L' := [(1, .int (zi s5743.1))]) [1] rfl ?_
      exact k5748 s5743.1 h5744.1
    · refine r_bt c5749 ?_
      refine r_iload_n (pc := 10) (j := 1) C dX12_members_10 rfl rfl ?_
      refine r_iload_n (pc := 11) (j := 0) C dX12_members_11 rfl rfl ?_
      refine r_iload_n (pc := 12) (j := 2) C dX12_members_12 rfl rfl ?_
      refine r_ishr C dX12_members_13 ?_
      refine r_iconst (v := 1) C dX12_members_14 (by decide) ?_
      refine r_iand C dX12_members_15 ?_
      refine r_iadd C dX12_members_16 ?_
      refine r_bj ?_
      refine r_jv (IR_wr _) (fun v5750 h5751 => ?_)
      refine r_istore_n (L' := [(1, .int (zi v5750)), (0, .int (zi a0)), (2, .int (zi s5743.2))]) C dX12_members_17 rfl (by decide) rfl ?_
      refine r_iinc (j := 2) (L' := [(2, .int (zi (wr (s5743.2 + 1)))), (1, .int (zi v5750)), (0, .int (zi a0))]) C dX12_members_18 rfl (by decide) rfl ?_
      refine r_goto (tgt := 4) C dX12_members_21 (by decide) ?_
      refine r_L (L' := [(0, .int (zi a0)), (1, .int (zi v5750)), (2, .int (zi (wr (s5743.2 + 1))))]) [2, 1, 0] rfl ?_
      exact k5746 (v5750, wr (s5743.2 + 1)) ⟨h5751, (IR_wr _)⟩

def f_X12_has (a0 : Int) (a1 : Int) : Int :=
  if zand (zshr a0 a1) 1 = 1 then
    (1)
  else
    (0)
set_option maxRecDepth 100000 in
set_option maxHeartbeats 4000000 in
theorem m_X12_has {l : Launch} {E : EwT} {n : Nat} {R : Srf} {S : Sst} {O : Smo} {a0 : Int} (ha0 : IR a0) {a1 : Int} (ha1 : IR a1) {q : Int} (hq : f_X12_has a0 a1 = q) : MetG l E yX12_has cX12_has 2 (some .boolean) 0 0 0 0 n R S O [.int (zi a0), .int (zi a1)] (BR q) (some (.int (zi q))) n R S O := by
  refine ofG (L0 := [(0, .int (zi a0)), (1, .int (zi a1))]) hq (by decide +kernel) (Nat.le_of_ble_eq_true rfl) rfl (fun K _ C hQ => ?_)
  unfold f_X12_has
  refine r_iload_n (pc := 0) (j := 0) C dX12_has_0 rfl rfl ?_
  refine r_iload_n (pc := 1) (j := 1) C dX12_has_1 rfl rfl ?_
  refine r_ishr C dX12_has_2 ?_
  refine r_iconst (v := 1) C dX12_has_3 (by decide) ?_
  refine r_iand C dX12_has_4 ?_
  refine r_iconst (v := 1) C dX12_has_5 (by decide) ?_
  refine r_icmp_ne (tgt := 13) C (i32_IR _) (IRd rfl) dX12_has_6 (by decide) (fun c5754 => ?_) (fun c5754 => ?_)
  · refine r_f c5754 ?_
    refine r_iconst (v := 0) C dX12_has_13 (by decide) ?_
    exact r_ireturn C hQ (nar_z (BRd rfl)) dX12_has_14 (fun e => by subst e; exact ⟨(BRd rfl), rfl, rfl, rfl, rfl, rfl⟩)
  · refine r_t c5754 ?_
    refine r_iconst (v := 1) C dX12_has_9 (by decide) ?_
    refine r_goto (tgt := 14) C dX12_has_10 (by decide) ?_
    exact r_ireturn C hQ (nar_z (BRd rfl)) dX12_has_14 (fun e => by subst e; exact ⟨(BRd rfl), rfl, rfl, rfl, rfl, rfl⟩)

def f_X12_weightOf (a1 : Int) (O : Smo) : Option (Int × Smo) :=
  jn (O 262 41) fun (v5869 : Int) =>
  Option.bind (lp (fun (s5871 : Int × Int) =>
    if a1 < s5871.2 then
      (some (Sum.inr s5871.1))
    else
      (jn (zrem (wr ((wr (s5871.1 * 137)) + 71)) 1000) fun (v5878 : Int) =>
      some (Sum.inl (v5878, wr (s5871.2 + 1))))) FU (v5869, 0)) fun (r5880 : Int) =>
  Option.bind (asetO O 270 (Ln 270) 0 a1) fun (O5882 : Smo) =>
  Option.bind (aget (O5882 276) (Ln 276) a1) fun (v5883 : Int) =>
  Option.bind (asetO O5882 270 (Ln 270) 1 v5883) fun (O5885 : Smo) =>
  Option.bind (aget (O5885 278) (Ln 278) a1) fun (v5886 : Int) =>
  Option.bind (aget (O5885 276) (Ln 276) a1) fun (v5888 : Int) =>
  Option.bind (asetO O5885 270 (Ln 270) 2 (wr (v5886 - v5888))) fun (O5890 : Smo) =>
  Option.bind (aget (O5890 279) (Ln 279) a1) fun (v5891 : Int) =>
  Option.bind (aget (O5890 277) (Ln 277) a1) fun (v5893 : Int) =>
  Option.bind (asetO O5890 270 (Ln 270) 3 (wr (v5891 - v5893))) fun (O5895 : Smo) =>
  Option.bind (asetO O5895 270 (Ln 270) 4 (zrem r5880 100)) fun (O5896 : Smo) =>
  if O5896 262 24 = 0 then
    (Option.bind (aget (O5896 270) (Ln 270) 4) fun (v5899 : Int) =>
    some (v5899, O5896))
  else
    (Option.bind (lp (fun (s5901 : Int × Int × Smo) =>
      if s5901.2.1 < s5901.2.2 262 17 then
        (Option.bind (aget (s5901.2.2 266) (Ln 266) s5901.2.1) fun (v5909 : Int) =>
        Option.bind (
          if v5909 = 0 then
            (Option.bind (aget (s5901.2.2 266) (Ln 266) s5901.2.1) fun (v5916 : Int) =>
            Option.bind (
              if v5916 = 0 then
                (Option.bind (aget (s5901.2.2 267) (Ln 267) s5901.2.1) fun (v5923 : Int) =>
                some v5923)
              else
                (Option.bind (aget (s5901.2.2 267) (Ln 267) s5901.2.1) fun (v5925 : Int) =>
                Option.bind (aget (s5901.2.2 270) (Ln 270) v5925) fun (v5927 : Int) =>
                some v5927)) fun (q5918 : Int) =>
            Option.bind (asetO s5901.2.2 269 (Ln 269) s5901.1 q5918) fun (O5929 : Smo) =>
            some (wr (s5901.1 + 1), O5929))
          else
            (Option.bind (aget (s5901.2.2 266) (Ln 266) s5901.2.1) fun (v5930 : Int) =>
            if v5930 = 1 then
              (Option.bind (aget (s5901.2.2 266) (Ln 266) s5901.2.1) fun (v5933 : Int) =>
              Option.bind (
                if v5933 = 0 then
                  (Option.bind (aget (s5901.2.2 267) (Ln 267) s5901.2.1) fun (v5940 : Int) =>
                  some v5940)
                else
                  (Option.bind (aget (s5901.2.2 267) (Ln 267) s5901.2.1) fun (v5942 : Int) =>
                  Option.bind (aget (s5901.2.2 270) (Ln 270) v5942) fun (v5944 : Int) =>
                  some v5944)) fun (q5935 : Int) =>
              Option.bind (asetO s5901.2.2 269 (Ln 269) s5901.1 q5935) fun (O5946 : Smo) =>
              some (wr (s5901.1 + 1), O5946))
            else
              (Option.bind (aget (s5901.2.2 266) (Ln 266) s5901.2.1) fun (v5947 : Int) =>
              if v5947 = 2 then
                (Option.bind (aget (s5901.2.2 269) (Ln 269) (wr (s5901.1 - 1))) fun (v5950 : Int) =>
                jn (
                  if v5950 = 0 then
                    (1)
                  else
                    (0)) fun (q5952 : Int) =>
                Option.bind (asetO s5901.2.2 269 (Ln 269) (wr (s5901.1 - 1)) (f_X12_truth q5952)) fun (O5958 : Smo) =>
                some (s5901.1, O5958))
              else
                (Option.bind (aget (s5901.2.2 267) (Ln 267) s5901.2.1) fun (v5959 : Int) =>
                Option.bind (aget (s5901.2.2 269) (Ln 269) (wr ((wr (s5901.1 + (-1))) - 1))) fun (v5961 : Int) =>
                Option.bind (aget (s5901.2.2 269) (Ln 269) (wr (s5901.1 + (-1)))) fun (v5963 : Int) =>
                Option.bind (f_X12_done v5959 v5961 v5963) fun (q5966 : Int) =>
                Option.bind (asetO s5901.2.2 269 (Ln 269) (wr ((wr (s5901.1 + (-1))) - 1)) q5966) fun (O5968 : Smo) =>
                some (wr (s5901.1 + (-1)), O5968))))) fun (q5911 : Int × Smo) =>
        some (Sum.inl (q5911.1, wr (s5901.2.1 + 1), q5911.2)))
      else
        (some (Sum.inr s5901.2.2))) FU (0, 0, O5896)) fun (r5969 : Smo) =>
    Option.bind (aget (r5969 269) (Ln 269) 0) fun (v5971 : Int) =>
    some (v5971, r5969))
set_option maxRecDepth 100000 in
set_option maxHeartbeats 4000000 in
theorem m_X12_weightOf {l : Launch} {E : EwT} {S : Sst} {O : Smo} {a1 : Int} (ha1 : IR a1) {q : Int × Smo} (hq : f_X12_weightOf a1 O = some q) : MetG l E yX12_weightOf cX12_weightOf 5 (some .int) 2 42 0 0 n0 R0 S O [.ref (zad E 262), .int (zi a1)] (IR q.1) (some (.int (zi q.1))) n0 R0 S q.2 := by
  refine ofG (L0 := [(0, .ref (zad E 262)), (1, .int (zi a1))]) hq (by decide +kernel) (Nat.le_of_ble_eq_true rfl) rfl (fun K _ C hQ => ?_)
  unfold f_X12_weightOf
  refine r_aload_n (pc := 0) (j := 0) C dX12_weightOf_0 rfl rfl ?_
  refine r_getO (j := 41) C cl_X12 kd_262 ln_262 gc_262 (by decide) (by decide) rfl q_1594 dX12_weightOf_1 (fun h5868 => ?_)
  refine r_jv h5868 (fun v5869 h5870 => ?_)
  refine r_istore_n (L' := [(2, .int (zi v5869)), (0, .ref (zad E 262)), (1, .int (zi a1))]) C dX12_weightOf_4 rfl (by decide) rfl ?_
  refine r_iconst (v := 0) C dX12_weightOf_5 (by decide) ?_
  refine r_istore_n (L' := [(3, .int (zi 0)), (2, .int (zi v5869)), (0, .ref (zad E 262)), (1, .int (zi a1))]) C dX12_weightOf_6 rfl (by decide) rfl ?_
  refine r_L (L' := [(0, .ref (zad E 262)), (1, .int (zi a1)), (2, .int (zi v5869)), (3, .int (zi 0))]) [2, 3, 1, 0] rfl ?_
  refine r_loop1 (fun s5871 : Int × Int => IR s5871.1 ∧ IR s5871.2) (fun s5871 => S) (fun s5871 => O) (fun s5871 => [(0, .ref (zad E 262)), (1, .int (zi a1)), (2, .int (zi s5871.1)), (3, .int (zi s5871.2))]) [] (fun r5880 : Int => IR r5880) (fun r5880 => S) (fun r5880 => O) (fun r5880 => [(0, .ref (zad E 262)), (1, .int (zi a1)), (2, .int (zi r5880))]) 31 (fun r5880 h5881 => ?_) (fun k5873 k5875 k5874 k5876 s5871 h5872 => ?_) ⟨h5870, (IRd rfl)⟩
  · refine r_aload_n (pc := 31) (j := 0) C dX12_weightOf_31 rfl rfl ?_
    refine r_getR (j := 25) (r := 270) C cl_X12 kd_262 ln_262 (by decide) rfl r0_262_25 (by decide) q_1578 dX12_weightOf_32 ?_
    refine r_iconst (v := 0) C dX12_weightOf_35 (by decide) ?_
    refine r_iload_n (pc := 36) (j := 1) C dX12_weightOf_36 rfl rfl ?_
    refine r_iast C kd_270 ln_270 gc_270 (IRd rfl) ha1 dX12_weightOf_37 (fun O5882 => ?_)
    refine r_aload_n (pc := 38) (j := 0) C dX12_weightOf_38 rfl rfl ?_
    refine r_getR (j := 25) (r := 270) C cl_X12 kd_262 ln_262 (by decide) rfl r0_262_25 (by decide) q_1578 dX12_weightOf_39 ?_
    refine r_iconst (v := 1) C dX12_weightOf_42 (by decide) ?_
    refine r_aload_n (pc := 43) (j := 0) C dX12_weightOf_43 rfl rfl ?_
    refine r_getR (j := 31) (r := 276) C cl_X12 kd_262 ln_262 (by decide) rfl r0_262_31 (by decide) q_1584 dX12_weightOf_44 ?_
    refine r_iload_n (pc := 47) (j := 1) C dX12_weightOf_47 rfl rfl ?_
    refine r_iald C kd_276 ln_276 gc_276 ha1 dX12_weightOf_48 (fun v5883 h5884 => ?_)
    refine r_iast C kd_270 ln_270 gc_270 (IRd rfl) h5884 dX12_weightOf_49 (fun O5885 => ?_)
    refine r_aload_n (pc := 50) (j := 0) C dX12_weightOf_50 rfl rfl ?_
    refine r_getR (j := 25) (r := 270) C cl_X12 kd_262 ln_262 (by decide) rfl r0_262_25 (by decide) q_1578 dX12_weightOf_51 ?_
    refine r_iconst (v := 2) C dX12_weightOf_54 (by decide) ?_
    refine r_aload_n (pc := 55) (j := 0) C dX12_weightOf_55 rfl rfl ?_
    refine r_getR (j := 33) (r := 278) C cl_X12 kd_262 ln_262 (by decide) rfl r0_262_33 (by decide) q_1586 dX12_weightOf_56 ?_
    refine r_iload_n (pc := 59) (j := 1) C dX12_weightOf_59 rfl rfl ?_
    refine r_iald C kd_278 ln_278 gc_278 ha1 dX12_weightOf_60 (fun v5886 h5887 => ?_)
    refine r_aload_n (pc := 61) (j := 0) C dX12_weightOf_61 rfl rfl ?_
    refine r_getR (j := 31) (r := 276) C cl_X12 kd_262 ln_262 (by decide) rfl r0_262_31 (by decide) q_1584 dX12_weightOf_62 ?_
    refine r_iload_n (pc := 65) (j := 1) C dX12_weightOf_65 rfl rfl ?_
    refine r_iald C kd_276 ln_276 gc_276 ha1 dX12_weightOf_66 (fun v5888 h5889 => ?_)
    refine r_isub C dX12_weightOf_67 ?_
    refine r_iast C kd_270 ln_270 gc_270 (IRd rfl) (IR_wr _) dX12_weightOf_68 (fun O5890 => ?_)
    refine r_aload_n (pc := 69) (j := 0) C dX12_weightOf_69 rfl rfl ?_
    refine r_getR (j := 25) (r := 270) C cl_X12 kd_262 ln_262 (by decide) rfl r0_262_25 (by decide) q_1578 dX12_weightOf_70 ?_
    refine r_iconst (v := 3) C dX12_weightOf_73 (by decide) ?_
    refine r_aload_n (pc := 74) (j := 0) C dX12_weightOf_74 rfl rfl ?_
    refine r_getR (j := 34) (r := 279) C cl_X12 kd_262 ln_262 (by decide) rfl r0_262_34 (by decide) q_1587 dX12_weightOf_75 ?_
    refine r_iload_n (pc := 78) (j := 1) C dX12_weightOf_78 rfl rfl ?_
    refine r_iald C kd_279 ln_279 gc_279 ha1 dX12_weightOf_79 (fun v5891 h5892 => ?_)
    refine r_aload_n (pc := 80) (j := 0) C dX12_weightOf_80 rfl rfl ?_
    refine r_getR (j := 32) (r := 277) C cl_X12 kd_262 ln_262 (by decide) rfl r0_262_32 (by decide) q_1585 dX12_weightOf_81 ?_
    refine r_iload_n (pc := 84) (j := 1) C dX12_weightOf_84 rfl rfl ?_
    refine r_iald C kd_277 ln_277 gc_277 ha1 dX12_weightOf_85 (fun v5893 h5894 => ?_)
    refine r_isub C dX12_weightOf_86 ?_
    refine r_iast C kd_270 ln_270 gc_270 (IRd rfl) (IR_wr _) dX12_weightOf_87 (fun O5895 => ?_)
    refine r_aload_n (pc := 88) (j := 0) C dX12_weightOf_88 rfl rfl ?_
    refine r_getR (j := 25) (r := 270) C cl_X12 kd_262 ln_262 (by decide) rfl r0_262_25 (by decide) q_1578 dX12_weightOf_89 ?_
    refine r_iconst (v := 4) C dX12_weightOf_92 (by decide) ?_
    refine r_iload_n (pc := 93) (j := 2) C dX12_weightOf_93 rfl rfl ?_
    refine r_bipush (v := 100) C dX12_weightOf_94 (by decide) ?_
    refine r_iremk C (IRd rfl) (by decide) dX12_weightOf_96 ?_
    refine r_iast C kd_270 ln_270 gc_270 (IRd rfl) (i32_IR _) dX12_weightOf_97 (fun O5896 => ?_)
    refine r_aload_n (pc := 98) (j := 0) C dX12_weightOf_98 rfl rfl ?_
    refine r_getOz (j := 24) C cl_X12 kd_262 ln_262 gc_262 (by decide) (by decide) rfl q_1577 dX12_weightOf_99 (fun h5897 => ?_)
    refine r_if_ne (tgt := 112) C h5897.ir dX12_weightOf_102 (by decide) (fun c5898 => ?_) (fun c5898 => ?_)
    · refine r_f c5898 ?_
      refine r_iconst (v := 0) C dX12_weightOf_112 (by decide) ?_
      refine r_istore_n (L' := [(3, .int (zi 0)), (0, .ref (zad E 262)), (1, .int (zi a1)), (2, .int (zi r5880))]) C dX12_weightOf_113 rfl (by decide) rfl ?_
      refine r_iconst (v := 0) C dX12_weightOf_114 (by decide) ?_
      refine r_istore (L' := [(4, .int (zi 0)), (3, .int (zi 0)), (0, .ref (zad E 262)), (1, .int (zi a1)), (2, .int (zi r5880))]) C dX12_weightOf_115 (by decide) rfl ?_
      refine r_L (L' := [(0, .ref (zad E 262)), (3, .int (zi 0)), (4, .int (zi 0))]) [2, 1, 0] rfl ?_
      refine r_loop1 (fun s5901 : Int × Int × Smo => IR s5901.1 ∧ IR s5901.2.1) (fun s5901 => S) (fun s5901 => s5901.2.2) (fun s5901 => [(0, .ref (zad E 262)), (3, .int (zi s5901.1)), (4, .int (zi s5901.2.1))]) [] (fun r5969 : Smo => True) (fun r5969 => S) (fun r5969 => r5969) (fun r5969 => [(0, .ref (zad E 262))]) 273 (fun r5969 h5970 => ?_) (fun k5903 k5905 k5904 k5906 s5901 h5902 => ?_) ⟨(IRd rfl), (IRd rfl)⟩
      · refine r_aload_n (pc := 273) (j := 0) C dX12_weightOf_273 rfl rfl ?_
        refine r_getR (j := 15) (r := 269) C cl_X12 kd_262 ln_262 (by decide) rfl r0_262_15 (by decide) q_1568 dX12_weightOf_274 ?_
        refine r_iconst (v := 0) C dX12_weightOf_277 (by decide) ?_
        refine r_iald C kd_269 ln_269 gc_269 (IRd rfl) dX12_weightOf_278 (fun v5971 h5972 => ?_)
        exact r_ireturn C hQ rfl dX12_weightOf_279 (fun e => by cases e; exact ⟨h5972, rfl, rfl, rfl, rfl, rfl⟩)
      · refine r_iload (pc := 117) (j := 2) C dX12_weightOf_117 rfl ?_
        refine r_aload_n (pc := 119) (j := 0) C dX12_weightOf_119 rfl rfl ?_
        refine r_getO (j := 17) C cl_X12 kd_262 ln_262 gc_262 (by decide) (by decide) rfl q_1570 dX12_weightOf_120 (fun h5907 => ?_)
        refine r_icmp_ge (tgt := 273) C h5902.2 h5907 dX12_weightOf_123 (by decide) (fun c5908 => ?_) (fun c5908 => ?_)
        · refine r_bf c5908 ?_
          refine r_L (L' := [(0, .ref (zad E 262))]) [0] rfl ?_
          exact k5906 s5901.2.2 trivial
        · refine r_bt c5908 ?_
          refine r_aload_n (pc := 126) (j := 0) C dX12_weightOf_126 rfl rfl ?_
          refine r_getR (j := 12) (r := 266) C cl_X12 kd_262 ln_262 (by decide) rfl r0_262_12 (by decide) q_1565 dX12_weightOf_127 ?_
          refine r_iload (pc := 130) (j := 2) C dX12_weightOf_130 rfl ?_
          refine r_bb ?_
          refine r_iald C kd_266 ln_266 gc_266 h5902.2 dX12_weightOf_132 (fun v5909 h5910 => ?_)
          refine r_bb ?_
          refine r_joinb (fun q5911 : Int × Smo => IR q5911.1) (fun q5911 => S) (fun q5911 => q5911.2) (fun q5911 => [(0, .ref (zad E 262)), (3, .int (zi q5911.1)), (4, .int (zi s5901.2.1))]) 267 (fun q5911 => []) (fun q5911 h5912 => ?_) (fun k5913 k5914 => ?_)
          · refine r_iinc (j := 2) (L' := [(4, .int (zi (wr (s5901.2.1 + 1)))), (0, .ref (zad E 262)), (3, .int (zi q5911.1))]) C dX12_weightOf_267 rfl (by decide) rfl ?_
            refine r_goto (tgt := 117) C dX12_weightOf_270 (by decide) ?_
            refine r_L (L' := [(0, .ref (zad E 262)), (3, .int (zi q5911.1)), (4, .int (zi (wr (s5901.2.1 + 1))))]) [1, 2, 0] rfl ?_
            exact k5904 (q5911.1, wr (s5901.2.1 + 1), q5911.2) ⟨h5912, (IR_wr _)⟩
          · refine r_if_eq (tgt := 147) C h5910 dX12_weightOf_133 (by decide) (fun c5915 => ?_) (fun c5915 => ?_)
            · refine r_bt c5915 ?_
              refine r_aload_n (pc := 147) (j := 0) C dX12_weightOf_147 rfl rfl ?_
              refine r_getR (j := 15) (r := 269) C cl_X12 kd_262 ln_262 (by decide) rfl r0_262_15 (by decide) q_1568 dX12_weightOf_148 ?_
              refine r_iload_n (pc := 151) (j := 1) C dX12_weightOf_151 rfl rfl ?_
              refine r_aload_n (pc := 152) (j := 0) C dX12_weightOf_152 rfl rfl ?_
              refine r_getR (j := 12) (r := 266) C cl_X12 kd_262 ln_262 (by decide) rfl r0_262_12 (by decide) q_1565 dX12_weightOf_153 ?_
              refine r_iload (pc := 156) (j := 2) C dX12_weightOf_156 rfl ?_
              refine r_bb ?_
              refine r_iald C kd_266 ln_266 gc_266 h5902.2 dX12_weightOf_158 (fun v5916 h5917 => ?_)
              refine r_bb ?_
              refine r_joinb (fun q5918 : Int => IR q5918) (fun q5918 => S) (fun q5918 => s5901.2.2) (fun q5918 => [(0, .ref (zad E 262)), (3, .int (zi s5901.1)), (4, .int (zi s5901.2.1))]) 184 (fun q5918 => [.int (zi q5918), .int (zi s5901.1), .ref (zad E 269)]) (fun q5918 h5919 => ?_) (fun k5920 k5921 => ?_)
              · refine r_bb ?_
                refine r_iast C kd_269 ln_269 gc_269 h5902.1 h5919 dX12_weightOf_184 (fun O5929 => ?_)
                refine r_iinc (j := 1) (L' := [(3, .int (zi (wr (s5901.1 + 1)))), (0, .ref (zad E 262)), (4, .int (zi s5901.2.1))]) C dX12_weightOf_185 rfl (by decide) rfl ?_
                refine r_goto (tgt := 267) C dX12_weightOf_188 (by decide) ?_
                refine r_L (L' := [(0, .ref (zad E 262)), (3, .int (zi (wr (s5901.1 + 1)))), (4, .int (zi s5901.2.1))]) [1, 0, 2] rfl ?_
                exact k5914 (wr (s5901.1 + 1), O5929) (IR_wr _)
              · refine r_if_ne (tgt := 172) C h5917 dX12_weightOf_159 (by decide) (fun c5922 => ?_) (fun c5922 => ?_)
                · refine r_bf c5922 ?_
                  refine r_aload_n (pc := 172) (j := 0) C dX12_weightOf_172 rfl rfl ?_
                  refine r_getR (j := 25) (r := 270) C cl_X12 kd_262 ln_262 (by decide) rfl r0_262_25 (by decide) q_1578 dX12_weightOf_173 ?_
                  refine r_aload_n (pc := 176) (j := 0) C dX12_weightOf_176 rfl rfl ?_
                  refine r_getR (j := 13) (r := 267) C cl_X12 kd_262 ln_262 (by decide) rfl r0_262_13 (by decide) q_1566 dX12_weightOf_177 ?_
                  refine r_iload (pc := 180) (j := 2) C dX12_weightOf_180 rfl ?_
                  refine r_bb ?_
                  refine r_iald C kd_267 ln_267 gc_267 h5902.2 dX12_weightOf_182 (fun v5925 h5926 => ?_)
                  refine r_bb ?_
                  refine r_iald C kd_270 ln_270 gc_270 h5926 dX12_weightOf_183 (fun v5927 h5928 => ?_)
                  exact k5921 v5927 h5928
                · refine r_bt c5922 ?_
                  refine r_aload_n (pc := 162) (j := 0) C dX12_weightOf_162 rfl rfl ?_
                  refine r_getR (j := 13) (r := 267) C cl_X12 kd_262 ln_262 (by decide) rfl r0_262_13 (by decide) q_1566 dX12_weightOf_163 ?_
                  refine r_iload (pc := 166) (j := 2) C dX12_weightOf_166 rfl ?_
                  refine r_bb ?_
                  refine r_iald C kd_267 ln_267 gc_267 h5902.2 dX12_weightOf_168 (fun v5923 h5924 => ?_)
                  refine r_goto (tgt := 184) C dX12_weightOf_169 (by decide) ?_
                  exact k5921 v5923 h5924
            · refine r_bf c5915 ?_
              refine r_aload_n (pc := 136) (j := 0) C dX12_weightOf_136 rfl rfl ?_
              refine r_getR (j := 12) (r := 266) C cl_X12 kd_262 ln_262 (by decide) rfl r0_262_12 (by decide) q_1565 dX12_weightOf_137 ?_
              refine r_iload (pc := 140) (j := 2) C dX12_weightOf_140 rfl ?_
              refine r_bb ?_
              refine r_iald C kd_266 ln_266 gc_266 h5902.2 dX12_weightOf_142 (fun v5930 h5931 => ?_)
              refine r_iconst (v := 1) C dX12_weightOf_143 (by decide) ?_
              refine r_icmp_ne (tgt := 191) C h5931 (IRd rfl) dX12_weightOf_144 (by decide) (fun c5932 => ?_) (fun c5932 => ?_)
              · refine r_bf c5932 ?_
                refine r_aload_n (pc := 191) (j := 0) C dX12_weightOf_191 rfl rfl ?_
                refine r_getR (j := 12) (r := 266) C cl_X12 kd_262 ln_262 (by decide) rfl r0_262_12 (by decide) q_1565 dX12_weightOf_192 ?_
                refine r_iload (pc := 195) (j := 2) C dX12_weightOf_195 rfl ?_
                refine r_bb ?_
                refine r_iald C kd_266 ln_266 gc_266 h5902.2 dX12_weightOf_197 (fun v5947 h5948 => ?_)
                refine r_iconst (v := 2) C dX12_weightOf_198 (by decide) ?_
                refine r_icmp_ne (tgt := 232) C h5948 (IRd rfl) dX12_weightOf_199 (by decide) (fun c5949 => ?_) (fun c5949 => ?_)
                · refine r_bf c5949 ?_
                  refine r_iinc (j := 1) (L' := [(3, .int (zi (wr (s5901.1 + (-1))))), (0, .ref (zad E 262)), (4, .int (zi s5901.2.1))]) C dX12_weightOf_232 rfl (by decide) rfl ?_
                  refine r_aload_n (pc := 235) (j := 1) C dX12_weightOf_235 rfl rfl ?_
                  refine r_getR (j := 15) (r := 269) C cl_X12 kd_262 ln_262 (by decide) rfl r0_262_15 (by decide) q_1568 dX12_weightOf_236 ?_
                  refine r_iload_n (pc := 239) (j := 0) C dX12_weightOf_239 rfl rfl ?_
                  refine r_iconst (v := 1) C dX12_weightOf_240 (by decide) ?_
                  refine r_isub C dX12_weightOf_241 ?_
                  refine r_aload_n (pc := 242) (j := 1) C dX12_weightOf_242 rfl rfl ?_
                  refine r_getR (j := 13) (r := 267) C cl_X12 kd_262 ln_262 (by decide) rfl r0_262_13 (by decide) q_1566 dX12_weightOf_243 ?_
                  refine r_iload (pc := 246) (j := 2) C dX12_weightOf_246 rfl ?_
                  refine r_bb ?_
                  refine r_iald C kd_267 ln_267 gc_267 h5902.2 dX12_weightOf_248 (fun v5959 h5960 => ?_)
                  refine r_aload_n (pc := 249) (j := 1) C dX12_weightOf_249 rfl rfl ?_
                  refine r_getR (j := 15) (r := 269) C cl_X12 kd_262 ln_262 (by decide) rfl r0_262_15 (by decide) q_1568 dX12_weightOf_250 ?_
                  refine r_iload_n (pc := 253) (j := 0) C dX12_weightOf_253 rfl rfl ?_
                  refine r_iconst (v := 1) C dX12_weightOf_254 (by decide) ?_
                  refine r_isub C dX12_weightOf_255 ?_
                  refine r_bb ?_
                  refine r_iald C kd_269 ln_269 gc_269 (IR_wr _) dX12_weightOf_256 (fun v5961 h5962 => ?_)
                  refine r_aload_n (pc := 257) (j := 1) C dX12_weightOf_257 rfl rfl ?_
                  refine r_getR (j := 15) (r := 269) C cl_X12 kd_262 ln_262 (by decide) rfl r0_262_15 (by decide) q_1568 dX12_weightOf_258 ?_
                  refine r_iload_n (pc := 261) (j := 0) C dX12_weightOf_261 rfl rfl ?_
                  refine r_bb ?_
                  refine r_iald C kd_269 ln_269 gc_269 (IR_wr _) dX12_weightOf_262 (fun v5963 h5964 => ?_)
                  refine r_bb ?_
                  refine r_bd (fun q5966 e5967 => ?_)
                  refine r_cS1 (pc := 263) (As := [.int (zi v5959), .int (zi v5961), .int (zi v5963)]) (st := [.int (zi (wr ((wr (s5901.1 + (-1))) - 1))), .ref (zad E 269)]) C (m_X12_done (a0 := v5959) (a1 := v5961) (a2 := v5963) h5960 h5962 h5964 e5967) cal_X12_done q_1962 dX12_weightOf_263 rfl rfl (Nat.le_of_ble_eq_true rfl) (Nat.le_of_ble_eq_true rfl) (Nat.le_of_ble_eq_true rfl) (Nat.le_of_ble_eq_true rfl) (Nat.le_of_ble_eq_true rfl) (fun h5965 => ?_)
                  refine r_bb ?_
                  refine r_iast C kd_269 ln_269 gc_269 (IR_wr _) h5965 dX12_weightOf_266 (fun O5968 => ?_)
                  refine r_L (L' := [(0, .ref (zad E 262)), (3, .int (zi (wr (s5901.1 + (-1))))), (4, .int (zi s5901.2.1))]) [1, 0, 2] rfl ?_
                  exact k5914 (wr (s5901.1 + (-1)), O5968) (IR_wr _)
                · refine r_bt c5949 ?_
                  refine r_aload_n (pc := 202) (j := 0) C dX12_weightOf_202 rfl rfl ?_
                  refine r_getR (j := 15) (r := 269) C cl_X12 kd_262 ln_262 (by decide) rfl r0_262_15 (by decide) q_1568 dX12_weightOf_203 ?_
                  refine r_iload_n (pc := 206) (j := 1) C dX12_weightOf_206 rfl rfl ?_
                  refine r_iconst (v := 1) C dX12_weightOf_207 (by decide) ?_
                  refine r_isub C dX12_weightOf_208 ?_
                  refine r_aload_n (pc := 209) (j := 0) C dX12_weightOf_209 rfl rfl ?_
                  refine r_getR (j := 15) (r := 269) C cl_X12 kd_262 ln_262 (by decide) rfl r0_262_15 (by decide) q_1568 dX12_weightOf_210 ?_
                  refine r_iload_n (pc := 213) (j := 1) C dX12_weightOf_213 rfl rfl ?_
                  refine r_iconst (v := 1) C dX12_weightOf_214 (by decide) ?_
                  refine r_isub C dX12_weightOf_215 ?_
                  refine r_bb ?_
                  refine r_iald C kd_269 ln_269 gc_269 (IR_wr _) dX12_weightOf_216 (fun v5950 h5951 => ?_)
                  refine r_bj ?_
                  refine r_join (fun q5952 : Int => BR q5952) (fun q5952 => S) (fun q5952 => s5901.2.2) (fun q5952 => [(0, .ref (zad E 262)), (3, .int (zi s5901.1)), (4, .int (zi s5901.2.1))]) 225 (fun q5952 => [.int (zi q5952), .int (zi (wr (s5901.1 - 1))), .ref (zad E 269)]) (fun q5952 h5953 => ?_) (fun k5954 k5955 => ?_)
                  · refine r_cS1 (pc := 225) (As := [.int (zi q5952)]) (st := [.int (zi (wr (s5901.1 - 1))), .ref (zad E 269)]) C (m_X12_truth (a0 := q5952) h5953 rfl) cal_X12_truth q_1959 dX12_weightOf_225 rfl rfl (Nat.le_of_ble_eq_true rfl) (Nat.le_of_ble_eq_true rfl) (Nat.le_of_ble_eq_true rfl) (Nat.le_of_ble_eq_true rfl) (Nat.le_of_ble_eq_true rfl) (fun h5957 => ?_)
                    refine r_bb ?_
                    refine r_iast C kd_269 ln_269 gc_269 (IR_wr _) h5957 dX12_weightOf_228 (fun O5958 => ?_)
                    refine r_goto (tgt := 267) C dX12_weightOf_229 (by decide) ?_
                    exact k5914 (s5901.1, O5958) h5902.1
                  · refine r_if_ne (tgt := 224) C h5951 dX12_weightOf_217 (by decide) (fun c5956 => ?_) (fun c5956 => ?_)
                    · refine r_jf c5956 ?_
                      refine r_iconst (v := 0) C dX12_weightOf_224 (by decide) ?_
                      exact k5955 0 (BRd rfl)
                    · refine r_jt c5956 ?_
                      refine r_iconst (v := 1) C dX12_weightOf_220 (by decide) ?_
                      refine r_goto (tgt := 225) C dX12_weightOf_221 (by decide) ?_
                      exact k5955 1 (BRd rfl)
              · refine r_bt c5932 ?_
                refine r_aload_n (pc := 147) (j := 0) C dX12_weightOf_147 rfl rfl ?_
                refine r_getR (j := 15) (r := 269) C cl_X12 kd_262 ln_262 (by decide) rfl r0_262_15 (by decide) q_1568 dX12_weightOf_148 ?_
                refine r_iload_n (pc := 151) (j := 1) C dX12_weightOf_151 rfl rfl ?_
                refine r_aload_n (pc := 152) (j := 0) C dX12_weightOf_152 rfl rfl ?_
                refine r_getR (j := 12) (r := 266) C cl_X12 kd_262 ln_262 (by decide) rfl r0_262_12 (by decide) q_1565 dX12_weightOf_153 ?_
                refine r_iload (pc := 156) (j := 2) C dX12_weightOf_156 rfl ?_
                refine r_bb ?_
                refine r_iald C kd_266 ln_266 gc_266 h5902.2 dX12_weightOf_158 (fun v5933 h5934 => ?_)
                refine r_bb ?_
                refine r_joinb (fun q5935 : Int => IR q5935) (fun q5935 => S) (fun q5935 => s5901.2.2) (fun q5935 => [(0, .ref (zad E 262)), (3, .int (zi s5901.1)), (4, .int (zi s5901.2.1))]) 184 (fun q5935 => [.int (zi q5935), .int (zi s5901.1), .ref (zad E 269)]) (fun q5935 h5936 => ?_) (fun k5937 k5938 => ?_)
                · refine r_bb ?_
                  refine r_iast C kd_269 ln_269 gc_269 h5902.1 h5936 dX12_weightOf_184 (fun O5946 => ?_)
                  refine r_iinc (j := 1) (L' := [(3, .int (zi (wr (s5901.1 + 1)))), (0, .ref (zad E 262)), (4, .int (zi s5901.2.1))]) C dX12_weightOf_185 rfl (by decide) rfl ?_
                  refine r_goto (tgt := 267) C dX12_weightOf_188 (by decide) ?_
                  refine r_L (L' := [(0, .ref (zad E 262)), (3, .int (zi (wr (s5901.1 + 1)))), (4, .int (zi s5901.2.1))]) [1, 0, 2] rfl ?_
                  exact k5914 (wr (s5901.1 + 1), O5946) (IR_wr _)
                · refine r_if_ne (tgt := 172) C h5934 dX12_weightOf_159 (by decide) (fun c5939 => ?_) (fun c5939 => ?_)
                  · refine r_bf c5939 ?_
                    refine r_aload_n (pc := 172) (j := 0) C dX12_weightOf_172 rfl rfl ?_
                    refine r_getR (j := 25) (r := 270) C cl_X12 kd_262 ln_262 (by decide) rfl r0_262_25 (by decide) q_1578 dX12_weightOf_173 ?_
                    refine r_aload_n (pc := 176) (j := 0) C dX12_weightOf_176 rfl rfl ?_
                    refine r_getR (j := 13) (r := 267) C cl_X12 kd_262 ln_262 (by decide) rfl r0_262_13 (by decide) q_1566 dX12_weightOf_177 ?_
                    refine r_iload (pc := 180) (j := 2) C dX12_weightOf_180 rfl ?_
                    refine r_bb ?_
                    refine r_iald C kd_267 ln_267 gc_267 h5902.2 dX12_weightOf_182 (fun v5942 h5943 => ?_)
                    refine r_bb ?_
                    refine r_iald C kd_270 ln_270 gc_270 h5943 dX12_weightOf_183 (fun v5944 h5945 => ?_)
                    exact k5938 v5944 h5945
                  · refine r_bt c5939 ?_
                    refine r_aload_n (pc := 162) (j := 0) C dX12_weightOf_162 rfl rfl ?_
                    refine r_getR (j := 13) (r := 267) C cl_X12 kd_262 ln_262 (by decide) rfl r0_262_13 (by decide) q_1566 dX12_weightOf_163 ?_
                    refine r_iload (pc := 166) (j := 2) C dX12_weightOf_166 rfl ?_
                    refine r_bb ?_
                    refine r_iald C kd_267 ln_267 gc_267 h5902.2 dX12_weightOf_168 (fun v5940 h5941 => ?_)
                    refine r_goto (tgt := 184) C dX12_weightOf_169 (by decide) ?_
                    exact k5938 v5940 h5941
    · refine r_t c5898 ?_
      refine r_aload_n (pc := 105) (j := 0) C dX12_weightOf_105 rfl rfl ?_
      refine r_getR (j := 25) (r := 270) C cl_X12 kd_262 ln_262 (by decide) rfl r0_262_25 (by decide) q_1578 dX12_weightOf_106 ?_
      refine r_iconst (v := 4) C dX12_weightOf_109 (by decide) ?_
      refine r_iald C kd_270 ln_270 gc_270 (IRd rfl) dX12_weightOf_110 (fun v5899 h5900 => ?_)
      exact r_ireturn C hQ rfl dX12_weightOf_111 (fun e => by cases e; exact ⟨h5900, rfl, rfl, rfl, rfl, rfl⟩)
  · refine r_iload_n (pc := 7) (j := 3) C dX12_weightOf_7 rfl rfl ?_
    refine r_iload_n (pc := 8) (j := 1) C dX12_weightOf_8 rfl rfl ?_
    refine r_icmp_gt (tgt := 31) C h5872.2 ha1 dX12_weightOf_9 (by decide) (fun c5877 => ?_) (fun c5877 => ?_)
    · refine r_bt c5877 ?_
      refine r_L (L' := [(0, .ref (zad E 262)), (1, .int (zi a1)), (2, .int (zi s5871.1))]) [0, 1, 2] rfl ?_
      exact k5876 s5871.1 h5872.1
    · refine r_bf c5877 ?_
      refine r_iload_n (pc := 12) (j := 2) C dX12_weightOf_12 rfl rfl ?_
      refine r_sipush (v := 137) C dX12_weightOf_13 (by decide) ?_
      refine r_imul C dX12_weightOf_16 ?_
      refine r_bipush (v := 71) C dX12_weightOf_17 (by decide) ?_
      refine r_iadd C dX12_weightOf_19 ?_
      refine r_sipush (v := 1000) C dX12_weightOf_20 (by decide) ?_
      refine r_iremk C (IRd rfl) (by decide) dX12_weightOf_23 ?_
      refine r_bj ?_
      refine r_jv (i32_IR _) (fun v5878 h5879 => ?_)
      refine r_istore_n (L' := [(2, .int (zi v5878)), (0, .ref (zad E 262)), (1, .int (zi a1)), (3, .int (zi s5871.2))]) C dX12_weightOf_24 rfl (by decide) rfl ?_
      refine r_iinc (j := 3) (L' := [(3, .int (zi (wr (s5871.2 + 1)))), (2, .int (zi v5878)), (0, .ref (zad E 262)), (1, .int (zi a1))]) C dX12_weightOf_25 rfl (by decide) rfl ?_
      refine r_goto (tgt := 7) C dX12_weightOf_28 (by decide) ?_
      refine r_L (L' := [(0, .ref (zad E 262)), (1, .int (zi a1)), (2, .int (zi v5878)), (3, .int (zi (wr (s5871.2 + 1))))]) [2, 3, 1, 0] rfl ?_
      exact k5874 (v5878, wr (s5871.2 + 1)) ⟨h5879, (IR_wr _)⟩

def f_X12_isTold (O : Smo) : Option (Int) :=
  Option.bind (lp (fun (s5990 : Int × Int) =>
    if s5990.2 < O 262 36 then
      (Option.bind (
        if s5990.1 = 0 then
          (Option.bind (aget (O 271) (Ln 271) s5990.2) fun (v6003 : Int) =>
          if zlcmp v6003 (O 262 9) = 0 then
            (some 1)
          else
            (some 0))
        else
          (some 1)) fun (q5998 : Int) =>
      some (Sum.inl (q5998, wr (s5990.2 + 1))))
    else
      (some (Sum.inr s5990.1))) FU (0, 0)) fun (r6007 : Int) =>
  some r6007
set_option maxRecDepth 100000 in
set_option maxHeartbeats 4000000 in
theorem m_X12_isTold {l : Launch} {E : EwT} {S : Sst} {O : Smo}  {q : Int} (hq : f_X12_isTold O = some q) : MetG l E yX12_isTold cX12_isTold 3 (some .boolean) 0 0 0 0 n0 R0 S O [.ref (zad E 262)] (BR q) (some (.int (zi q))) n0 R0 S O := by
  refine ofG (L0 := [(0, .ref (zad E 262))]) hq (by decide +kernel) (Nat.le_of_ble_eq_true rfl) rfl (fun K _ C hQ => ?_)
  unfold f_X12_isTold
  refine r_iconst (v := 0) C dX12_isTold_0 (by decide) ?_
  refine r_istore_n (L' := [(1, .int (zi 0)), (0, .ref (zad E 262))]) C dX12_isTold_1 rfl (by decide) rfl ?_
  refine r_iconst (v := 0) C dX12_isTold_2 (by decide) ?_
  refine r_istore_n (L' := [(2, .int (zi 0)), (1, .int (zi 0)), (0, .ref (zad E 262))]) C dX12_isTold_3 rfl (by decide) rfl ?_
  refine r_L (L' := [(0, .ref (zad E 262)), (1, .int (zi 0)), (2, .int (zi 0))]) [2, 1, 0] rfl ?_
  refine r_loop1 (fun s5990 : Int × Int => BR s5990.1 ∧ IR s5990.2) (fun s5990 => S) (fun s5990 => O) (fun s5990 => [(0, .ref (zad E 262)), (1, .int (zi s5990.1)), (2, .int (zi s5990.2))]) [] (fun r6007 : Int => BR r6007) (fun r6007 => S) (fun r6007 => O) (fun r6007 => [(1, .int (zi r6007))]) 42 (fun r6007 h6008 => ?_) (fun k5992 k5994 k5993 k5995 s5990 h5991 => ?_) ⟨(BRd rfl), (IRd rfl)⟩
  · refine r_iload_n (pc := 42) (j := 0) C dX12_isTold_42 rfl rfl ?_
    exact r_ireturn C hQ (nar_z h6008) dX12_isTold_43 (fun e => by cases e; exact ⟨h6008, rfl, rfl, rfl, rfl, rfl⟩)
  · refine r_iload_n (pc := 4) (j := 2) C dX12_isTold_4 rfl rfl ?_
    refine r_aload_n (pc := 5) (j := 0) C dX12_isTold_5 rfl rfl ?_
    refine r_getO (j := 36) C cl_X12 kd_262 ln_262 gc_262 (by decide) (by decide) rfl q_1589 dX12_isTold_6 (fun h5996 => ?_)
    refine r_icmp_ge (tgt := 42) C h5991.2 h5996 dX12_isTold_9 (by decide) (fun c5997 => ?_) (fun c5997 => ?_)
    · refine r_bf c5997 ?_
      refine r_L (L' := [(1, .int (zi s5990.1))]) [1] rfl ?_
      exact k5995 s5990.1 h5991.1
    · refine r_bt c5997 ?_
      refine r_iload_n (pc := 12) (j := 1) C dX12_isTold_12 rfl rfl ?_
      refine r_bb ?_
      refine r_joinb (fun q5998 : Int => BR q5998) (fun q5998 => S) (fun q5998 => O) (fun q5998 => [(0, .ref (zad E 262)), (2, .int (zi s5990.2))]) 35 (fun q5998 => [.int (zi q5998)]) (fun q5998 h5999 => ?_) (fun k6000 k6001 => ?_)
      · refine r_istore_n (L' := [(1, .int (zi q5998)), (0, .ref (zad E 262)), (2, .int (zi s5990.2))]) C dX12_isTold_35 rfl (by decide) rfl ?_
        refine r_iinc (j := 2) (L' := [(2, .int (zi (wr (s5990.2 + 1)))), (1, .int (zi q5998)), (0, .ref (zad E 262))]) C dX12_isTold_36 rfl (by decide) rfl ?_
        refine r_goto (tgt := 4) C dX12_isTold_39 (by decide) ?_
        refine r_L (L' := [(0, .ref (zad E 262)), (1, .int (zi q5998)), (2, .int (zi (wr (s5990.2 + 1))))]) [2, 1, 0] rfl ?_
        exact k5993 (q5998, wr (s5990.2 + 1)) ⟨h5999, (IR_wr _)⟩
      · refine r_if_ne (tgt := 30) C h5991.1.ir dX12_isTold_13 (by decide) (fun c6002 => ?_) (fun c6002 => ?_)
        · refine r_bf c6002 ?_
          refine r_iconst (v := 1) C dX12_isTold_30 (by decide) ?_
          refine r_goto (tgt := 35) C dX12_isTold_31 (by decide) ?_
          refine r_L (L' := [(0, .ref (zad E 262)), (2, .int (zi s5990.2))]) [0, 2] rfl ?_
          exact k6001 1 (BRd rfl)
        · refine r_bt c6002 ?_
          refine r_aload_n (pc := 16) (j := 0) C dX12_isTold_16 rfl rfl ?_
          refine r_getR (j := 26) (r := 271) C cl_X12 kd_262 ln_262 (by decide) rfl r0_262_26 (by decide) q_1579 dX12_isTold_17 ?_
          refine r_iload_n (pc := 20) (j := 2) C dX12_isTold_20 rfl rfl ?_
          refine r_bb ?_
          refine r_lald C kd_271 ln_271 gc_271 h5991.2 dX12_isTold_21 (fun v6003 h6004 => ?_)
          refine r_aload_n (pc := 22) (j := 0) C dX12_isTold_22 rfl rfl ?_
          refine r_getOl (j := 9) C cl_X12 kd_262 ln_262 gc_262 (by decide) (by decide) rfl q_1562 dX12_isTold_23 (fun h6005 => ?_)
          refine r_lcmp C h6004 h6005 dX12_isTold_26 ?_
          refine r_if_ne (tgt := 34) C (zlcmp_IR _ _) dX12_isTold_27 (by decide) (fun c6006 => ?_) (fun c6006 => ?_)
          · refine r_bf c6006 ?_
            refine r_iconst (v := 0) C dX12_isTold_34 (by decide) ?_
            refine r_L (L' := [(0, .ref (zad E 262)), (2, .int (zi s5990.2))]) [0, 2] rfl ?_
            exact k6001 0 (BRd rfl)
          · refine r_bt c6006 ?_
            refine r_iconst (v := 1) C dX12_isTold_30 (by decide) ?_
            refine r_goto (tgt := 35) C dX12_isTold_31 (by decide) ?_
            refine r_L (L' := [(0, .ref (zad E 262)), (2, .int (zi s5990.2))]) [0, 2] rfl ?_
            exact k6001 1 (BRd rfl)

def f_X12_nFarther (a1 : Int) (a2 : Int) (a3 : Int) (O : Smo) : Option (Int) :=
  Option.bind (aget (O 274) (Ln 274) a1) fun (v6009 : Int) =>
  Option.bind (aget (O 272) (Ln 272) a1) fun (v6011 : Int) =>
  jn (wr (v6009 - v6011)) fun (v6013 : Int) =>
  Option.bind (aget (O 274) (Ln 274) a2) fun (v6015 : Int) =>
  Option.bind (aget (O 272) (Ln 272) a2) fun (v6017 : Int) =>
  jn (wr (v6015 - v6017)) fun (v6019 : Int) =>
  Option.bind (aget (O 273) (Ln 273) a1) fun (v6021 : Int) =>
  Option.bind (aget (O 275) (Ln 275) a1) fun (v6023 : Int) =>
  Option.bind (aget (O 273) (Ln 273) a1) fun (v6025 : Int) =>
  Option.bind (aget (O 272) (Ln 272) a1) fun (v6027 : Int) =>
  jn (wr ((wr (v6021 * v6013)) + (wr ((wr (v6023 - v6025)) * (wr (a3 - v6027)))))) fun (v6029 : Int) =>
  Option.bind (aget (O 273) (Ln 273) a2) fun (v6031 : Int) =>
  Option.bind (aget (O 275) (Ln 275) a2) fun (v6033 : Int) =>
  Option.bind (aget (O 273) (Ln 273) a2) fun (v6035 : Int) =>
  Option.bind (aget (O 272) (Ln 272) a2) fun (v6037 : Int) =>
  jn (wr ((wr (v6031 * v6019)) + (wr ((wr (v6033 - v6035)) * (wr (a3 - v6037)))))) fun (v6039 : Int) =>
  some (wr ((wr (v6029 * v6019)) - (wr (v6039 * v6013))))
set_option maxRecDepth 100000 in
set_option maxHeartbeats 4000000 in
theorem m_X12_nFarther {l : Launch} {E : EwT} {S : Sst} {O : Smo} {a1 : Int} (ha1 : IR a1) {a2 : Int} (ha2 : IR a2) {a3 : Int} (ha3 : IR a3) {q : Int} (hq : f_X12_nFarther a1 a2 a3 O = some q) : MetG l E yX12_nFarther cX12_nFarther 8 (some .int) 0 0 0 0 n0 R0 S O [.ref (zad E 262), .int (zi a1), .int (zi a2), .int (zi a3)] (IR q) (some (.int (zi q))) n0 R0 S O := by
  refine ofG (L0 := [(0, .ref (zad E 262)), (1, .int (zi a1)), (2, .int (zi a2)), (3, .int (zi a3))]) hq (by decide +kernel) (Nat.le_of_ble_eq_true rfl) rfl (fun K _ C hQ => ?_)
  unfold f_X12_nFarther
  refine r_aload_n (pc := 0) (j := 0) C dX12_nFarther_0 rfl rfl ?_
  refine r_getR (j := 29) (r := 274) C cl_X12 kd_262 ln_262 (by decide) rfl r0_262_29 (by decide) q_1582 dX12_nFarther_1 ?_
  refine r_iload_n (pc := 4) (j := 1) C dX12_nFarther_4 rfl rfl ?_
  refine r_iald C kd_274 ln_274 gc_274 ha1 dX12_nFarther_5 (fun v6009 h6010 => ?_)
  refine r_aload_n (pc := 6) (j := 0) C dX12_nFarther_6 rfl rfl ?_
  refine r_getR (j := 27) (r := 272) C cl_X12 kd_262 ln_262 (by decide) rfl r0_262_27 (by decide) q_1580 dX12_nFarther_7 ?_
  refine r_iload_n (pc := 10) (j := 1) C dX12_nFarther_10 rfl rfl ?_
  refine r_iald C kd_272 ln_272 gc_272 ha1 dX12_nFarther_11 (fun v6011 h6012 => ?_)
  refine r_isub C dX12_nFarther_12 ?_
  refine r_jv (IR_wr _) (fun v6013 h6014 => ?_)
  refine r_istore (L' := [(4, .int (zi v6013)), (0, .ref (zad E 262)), (1, .int (zi a1)), (2, .int (zi a2)), (3, .int (zi a3))]) C dX12_nFarther_13 (by decide) rfl ?_
  refine r_aload_n (pc := 15) (j := 1) C dX12_nFarther_15 rfl rfl ?_
  refine r_getR (j := 29) (r := 274) C cl_X12 kd_262 ln_262 (by decide) rfl r0_262_29 (by decide) q_1582 dX12_nFarther_16 ?_
  refine r_iload_n (pc := 19) (j := 3) C dX12_nFarther_19 rfl rfl ?_
  refine r_iald C kd_274 ln_274 gc_274 ha2 dX12_nFarther_20 (fun v6015 h6016 => ?_)
  refine r_aload_n (pc := 21) (j := 1) C dX12_nFarther_21 rfl rfl ?_
  refine r_getR (j := 27) (r := 272) C cl_X12 kd_262 ln_262 (by decide) rfl r0_262_27 (by decide) q_1580 dX12_nFarther_22 ?_
  refine r_iload_n (pc := 25) (j := 3) C dX12_nFarther_25 rfl rfl ?_
  refine r_iald C kd_272 ln_272 gc_272 ha2 dX12_nFarther_26 (fun v6017 h6018 => ?_)
  refine r_isub C dX12_nFarther_27 ?_
  refine r_jv (IR_wr _) (fun v6019 h6020 => ?_)
  refine r_istore (L' := [(5, .int (zi v6019)), (4, .int (zi v6013)), (0, .ref (zad E 262)), (1, .int (zi a1)), (2, .int (zi a2)), (3, .int (zi a3))]) C dX12_nFarther_28 (by decide) rfl ?_
  refine r_aload_n (pc := 30) (j := 2) C dX12_nFarther_30 rfl rfl ?_
  refine r_getR (j := 28) (r := 273) C cl_X12 kd_262 ln_262 (by decide) rfl r0_262_28 (by decide) q_1581 dX12_nFarther_31 ?_
  refine r_iload_n (pc := 34) (j := 3) C dX12_nFarther_34 rfl rfl ?_
  refine r_iald C kd_273 ln_273 gc_273 ha1 dX12_nFarther_35 (fun v6021 h6022 => ?_)
  refine r_iload (pc := 36) (j := 1) C dX12_nFarther_36 rfl ?_
  refine r_imul C dX12_nFarther_38 ?_
  refine r_aload_n (pc := 39) (j := 2) C dX12_nFarther_39 rfl rfl ?_
  refine r_getR (j := 30) (r := 275) C cl_X12 kd_262 ln_262 (by decide) rfl r0_262_30 (by decide) q_1583 dX12_nFarther_40 ?_
  refine r_iload_n (pc := 43) (j := 3) C dX12_nFarther_43 rfl rfl ?_
  refine r_iald C kd_275 ln_275 gc_275 ha1 dX12_nFarther_44 (fun v6023 h6024 => ?_)
  refine r_aload_n (pc := 45) (j := 2) C dX12_nFarther_45 rfl rfl ?_
  refine r_getR (j := 28) (r := 273) C cl_X12 kd_262 ln_262 (by decide) rfl r0_262_28 (by decide) q_1581 dX12_nFarther_46 ?_
  refine r_iload_n (pc := 49) (j := 3) C dX12_nFarther_49 rfl rfl ?_
  refine r_iald C kd_273 ln_273 gc_273 ha1 dX12_nFarther_50 (fun v6025 h6026 => ?_)
  refine r_isub C dX12_nFarther_51 ?_
  refine r_iload_n (pc := 52) (j := 5) C dX12_nFarther_52 rfl rfl ?_
  refine r_aload_n (pc := 53) (j := 2) C dX12_nFarther_53 rfl rfl ?_
  refine r_getR (j := 27) (r := 272) C cl_X12 kd_262 ln_262 (by decide) rfl r0_262_27 (by decide) q_1580 dX12_nFarther_54 ?_
  refine r_iload_n (pc := 57) (j := 3) C dX12_nFarther_57 rfl rfl ?_
  refine r_iald C kd_272 ln_272 gc_272 ha1 dX12_nFarther_58 (fun v6027 h6028 => ?_)
  refine r_isub C dX12_nFarther_59 ?_
  refine r_imul C dX12_nFarther_60 ?_
  refine r_iadd C dX12_nFarther_61 ?_
  refine r_jv (IR_wr _) (fun v6029 h6030 => ?_)
  refine r_istore (L' := [(6, .int (zi v6029)), (5, .int (zi v6019)), (4, .int (zi v6013)), (0, .ref (zad E 262)), (1, .int (zi a1)), (2, .int (zi a2)), (3, .int (zi a3))]) C dX12_nFarther_62 (by decide) rfl ?_
  refine r_aload_n (pc := 64) (j := 3) C dX12_nFarther_64 rfl rfl ?_
  refine r_getR (j := 28) (r := 273) C cl_X12 kd_262 ln_262 (by decide) rfl r0_262_28 (by decide) q_1581 dX12_nFarther_65 ?_
  refine r_iload_n (pc := 68) (j := 5) C dX12_nFarther_68 rfl rfl ?_
  refine r_iald C kd_273 ln_273 gc_273 ha2 dX12_nFarther_69 (fun v6031 h6032 => ?_)
  refine r_iload (pc := 70) (j := 1) C dX12_nFarther_70 rfl ?_
  refine r_imul C dX12_nFarther_72 ?_
  refine r_aload_n (pc := 73) (j := 3) C dX12_nFarther_73 rfl rfl ?_
  refine r_getR (j := 30) (r := 275) C cl_X12 kd_262 ln_262 (by decide) rfl r0_262_30 (by decide) q_1583 dX12_nFarther_74 ?_
  refine r_iload_n (pc := 77) (j := 5) C dX12_nFarther_77 rfl rfl ?_
  refine r_iald C kd_275 ln_275 gc_275 ha2 dX12_nFarther_78 (fun v6033 h6034 => ?_)
  refine r_aload_n (pc := 79) (j := 3) C dX12_nFarther_79 rfl rfl ?_
  refine r_getR (j := 28) (r := 273) C cl_X12 kd_262 ln_262 (by decide) rfl r0_262_28 (by decide) q_1581 dX12_nFarther_80 ?_
  refine r_iload_n (pc := 83) (j := 5) C dX12_nFarther_83 rfl rfl ?_
  refine r_iald C kd_273 ln_273 gc_273 ha2 dX12_nFarther_84 (fun v6035 h6036 => ?_)
  refine r_isub C dX12_nFarther_85 ?_
  refine r_iload_n (pc := 86) (j := 6) C dX12_nFarther_86 rfl rfl ?_
  refine r_aload_n (pc := 87) (j := 3) C dX12_nFarther_87 rfl rfl ?_
  refine r_getR (j := 27) (r := 272) C cl_X12 kd_262 ln_262 (by decide) rfl r0_262_27 (by decide) q_1580 dX12_nFarther_88 ?_
  refine r_iload_n (pc := 91) (j := 5) C dX12_nFarther_91 rfl rfl ?_
  refine r_iald C kd_272 ln_272 gc_272 ha2 dX12_nFarther_92 (fun v6037 h6038 => ?_)
  refine r_isub C dX12_nFarther_93 ?_
  refine r_imul C dX12_nFarther_94 ?_
  refine r_iadd C dX12_nFarther_95 ?_
  refine r_jv (IR_wr _) (fun v6039 h6040 => ?_)
  refine r_istore (L' := [(7, .int (zi v6039)), (6, .int (zi v6029)), (5, .int (zi v6019)), (4, .int (zi v6013)), (0, .ref (zad E 262)), (1, .int (zi a1)), (2, .int (zi a2)), (3, .int (zi a3))]) C dX12_nFarther_96 (by decide) rfl ?_
  refine r_iload (pc := 98) (j := 1) C dX12_nFarther_98 rfl ?_
  refine r_iload (pc := 100) (j := 2) C dX12_nFarther_100 rfl ?_
  refine r_imul C dX12_nFarther_102 ?_
  refine r_iload (pc := 103) (j := 0) C dX12_nFarther_103 rfl ?_
  refine r_iload (pc := 105) (j := 3) C dX12_nFarther_105 rfl ?_
  refine r_imul C dX12_nFarther_107 ?_
  refine r_isub C dX12_nFarther_108 ?_
  exact r_ireturn C hQ rfl dX12_nFarther_109 (fun e => by cases e; exact ⟨(IR_wr _), rfl, rfl, rfl, rfl, rfl⟩)

def f_X12_doMeet (a1 : Int) (a2 : Int) (O : Smo) : Option (Int) :=
  Option.bind (aget (O 272) (Ln 272) a1) fun (v6041 : Int) =>
  Option.bind (aget (O 272) (Ln 272) a2) fun (v6043 : Int) =>
  jn (f_X12_greater v6041 v6043) fun (v6046 : Int) =>
  Option.bind (aget (O 274) (Ln 274) a1) fun (v6048 : Int) =>
  Option.bind (aget (O 274) (Ln 274) a2) fun (v6050 : Int) =>
  jn (f_X12_lesser v6048 v6050) fun (v6053 : Int) =>
  if v6046 < v6053 then
    (Option.bind (f_X12_nFarther a1 a2 v6046 O) fun (q6057 : Int) =>
    Option.bind (f_X12_nFarther a1 a2 v6053 O) fun (q6060 : Int) =>
    if (q6057 = 0 ∧ q6060 = 0) then
      (some 1)
    else
      (if q6057 = 0 then
        (Option.bind (aget (O 272) (Ln 272) a1) fun (v6066 : Int) =>
        Option.bind (aget (O 272) (Ln 272) a2) fun (v6068 : Int) =>
        if v6066 = v6068 then
          (some 0)
        else
          (some 1))
      else
        (if q6060 = 0 then
          (Option.bind (aget (O 274) (Ln 274) a1) fun (v6072 : Int) =>
          Option.bind (aget (O 274) (Ln 274) a2) fun (v6074 : Int) =>
          if v6072 = v6074 then
            (some 0)
          else
            (some 1))
        else
          (jn (
            if 0 < q6057 then
              (1)
            else
              (0)) fun (q6077 : Int) =>
          jn (
            if 0 < q6060 then
              (1)
            else
              (0)) fun (q6082 : Int) =>
          if q6077 = q6082 then
            (some 0)
          else
            (some 1)))))
  else
    (some 0)
set_option maxRecDepth 100000 in
set_option maxHeartbeats 4000000 in
theorem m_X12_doMeet {l : Launch} {E : EwT} {S : Sst} {O : Smo} {a1 : Int} (ha1 : IR a1) {a2 : Int} (ha2 : IR a2) {q : Int} (hq : f_X12_doMeet a1 a2 O = some q) : MetG l E yX12_doMeet cX12_doMeet 7 (some .boolean) 1 27 0 0 n0 R0 S O [.ref (zad E 262), .int (zi a1), .int (zi a2)] (BR q) (some (.int (zi q))) n0 R0 S O := by
  refine ofG (L0 := [(0, .ref (zad E 262)), (1, .int (zi a1)), (2, .int (zi a2))]) hq (by decide +kernel) (Nat.le_of_ble_eq_true rfl) rfl (fun K _ C hQ => ?_)
  unfold f_X12_doMeet
  refine r_aload_n (pc := 0) (j := 0) C dX12_doMeet_0 rfl rfl ?_
  refine r_getR (j := 27) (r := 272) C cl_X12 kd_262 ln_262 (by decide) rfl r0_262_27 (by decide) q_1580 dX12_doMeet_1 ?_
  refine r_iload_n (pc := 4) (j := 1) C dX12_doMeet_4 rfl rfl ?_
  refine r_iald C kd_272 ln_272 gc_272 ha1 dX12_doMeet_5 (fun v6041 h6042 => ?_)
  refine r_aload_n (pc := 6) (j := 0) C dX12_doMeet_6 rfl rfl ?_
  refine r_getR (j := 27) (r := 272) C cl_X12 kd_262 ln_262 (by decide) rfl r0_262_27 (by decide) q_1580 dX12_doMeet_7 ?_
  refine r_iload_n (pc := 10) (j := 2) C dX12_doMeet_10 rfl rfl ?_
  refine r_iald C kd_272 ln_272 gc_272 ha2 dX12_doMeet_11 (fun v6043 h6044 => ?_)
  refine r_cS1 (pc := 12) (As := [.int (zi v6041), .int (zi v6043)]) (st := []) C (m_X12_greater (a0 := v6041) (a1 := v6043) h6042 h6044 rfl) cal_X12_greater q_1894 dX12_doMeet_12 rfl rfl (Nat.le_of_ble_eq_true rfl) (Nat.le_of_ble_eq_true rfl) (Nat.le_of_ble_eq_true rfl) (Nat.le_of_ble_eq_true rfl) (Nat.le_of_ble_eq_true rfl) (fun h6045 => ?_)
  refine r_jv h6045 (fun v6046 h6047 => ?_)
  refine r_istore_n (L' := [(3, .int (zi v6046)), (0, .ref (zad E 262)), (1, .int (zi a1)), (2, .int (zi a2))]) C dX12_doMeet_15 rfl (by decide) rfl ?_
  refine r_aload_n (pc := 16) (j := 1) C dX12_doMeet_16 rfl rfl ?_
  refine r_getR (j := 29) (r := 274) C cl_X12 kd_262 ln_262 (by decide) rfl r0_262_29 (by decide) q_1582 dX12_doMeet_17 ?_
  refine r_iload_n (pc := 20) (j := 2) C dX12_doMeet_20 rfl rfl ?_
  refine r_iald C kd_274 ln_274 gc_274 ha1 dX12_doMeet_21 (fun v6048 h6049 => ?_)
  refine r_aload_n (pc := 22) (j := 1) C dX12_doMeet_22 rfl rfl ?_
  refine r_getR (j := 29) (r := 274) C cl_X12 kd_262 ln_262 (by decide) rfl r0_262_29 (by decide) q_1582 dX12_doMeet_23 ?_
  refine r_iload_n (pc := 26) (j := 3) C dX12_doMeet_26 rfl rfl ?_
  refine r_iald C kd_274 ln_274 gc_274 ha2 dX12_doMeet_27 (fun v6050 h6051 => ?_)
  refine r_cS1 (pc := 28) (As := [.int (zi v6048), .int (zi v6050)]) (st := []) C (m_X12_lesser (a0 := v6048) (a1 := v6050) h6049 h6051 rfl) cal_X12_lesser q_1897 dX12_doMeet_28 rfl rfl (Nat.le_of_ble_eq_true rfl) (Nat.le_of_ble_eq_true rfl) (Nat.le_of_ble_eq_true rfl) (Nat.le_of_ble_eq_true rfl) (Nat.le_of_ble_eq_true rfl) (fun h6052 => ?_)
  refine r_jv h6052 (fun v6053 h6054 => ?_)
  refine r_istore (L' := [(4, .int (zi v6053)), (3, .int (zi v6046)), (0, .ref (zad E 262)), (1, .int (zi a1)), (2, .int (zi a2))]) C dX12_doMeet_31 (by decide) rfl ?_
  refine r_iload_n (pc := 33) (j := 1) C dX12_doMeet_33 rfl rfl ?_
  refine r_iload (pc := 34) (j := 0) C dX12_doMeet_34 rfl ?_
  refine r_icmp_lt (tgt := 41) C h6047 h6054 dX12_doMeet_36 (by decide) (fun c6055 => ?_) (fun c6055 => ?_)
  · refine r_t c6055 ?_
    refine r_aload_n (pc := 41) (j := 2) C dX12_doMeet_41 rfl rfl ?_
    refine r_iload_n (pc := 42) (j := 3) C dX12_doMeet_42 rfl rfl ?_
    refine r_iload_n (pc := 43) (j := 4) C dX12_doMeet_43 rfl rfl ?_
    refine r_iload_n (pc := 44) (j := 1) C dX12_doMeet_44 rfl rfl ?_
    refine r_bd (fun q6057 e6058 => ?_)
    refine r_cV1 (pc := 45) (k := 262) (As := [.int (zi a1), .int (zi a2), .int (zi v6046)]) (st := []) C (m_X12_nFarther (a1 := a1) (a2 := a2) (a3 := v6046) ha1 ha2 h6047 e6058) cal_X12_nFarther cl_X12 kd_262 ln_262 q_1900 dX12_doMeet_45 rfl rfl (Nat.le_of_ble_eq_true rfl) (Nat.le_of_ble_eq_true rfl) (Nat.le_of_ble_eq_true rfl) (Nat.le_of_ble_eq_true rfl) (Nat.le_of_ble_eq_true rfl) (fun h6056 => ?_)
    refine r_istore (L' := [(5, .int (zi q6057)), (4, .int (zi v6053)), (3, .int (zi v6046)), (0, .ref (zad E 262)), (1, .int (zi a1)), (2, .int (zi a2))]) C dX12_doMeet_48 (by decide) rfl ?_
    refine r_aload_n (pc := 50) (j := 3) C dX12_doMeet_50 rfl rfl ?_
    refine r_iload_n (pc := 51) (j := 4) C dX12_doMeet_51 rfl rfl ?_
    refine r_iload_n (pc := 52) (j := 5) C dX12_doMeet_52 rfl rfl ?_
    refine r_iload (pc := 53) (j := 1) C dX12_doMeet_53 rfl ?_
    refine r_bd (fun q6060 e6061 => ?_)
    refine r_cV1 (pc := 55) (k := 262) (As := [.int (zi a1), .int (zi a2), .int (zi v6053)]) (st := []) C (m_X12_nFarther (a1 := a1) (a2 := a2) (a3 := v6053) ha1 ha2 h6054 e6061) cal_X12_nFarther cl_X12 kd_262 ln_262 q_1900 dX12_doMeet_55 rfl rfl (Nat.le_of_ble_eq_true rfl) (Nat.le_of_ble_eq_true rfl) (Nat.le_of_ble_eq_true rfl) (Nat.le_of_ble_eq_true rfl) (Nat.le_of_ble_eq_true rfl) (fun h6059 => ?_)
    refine r_istore (L' := [(6, .int (zi q6060)), (5, .int (zi q6057)), (4, .int (zi v6053)), (3, .int (zi v6046)), (0, .ref (zad E 262)), (1, .int (zi a1)), (2, .int (zi a2))]) C dX12_doMeet_58 (by decide) rfl ?_
    refine r_iload (pc := 60) (j := 1) C dX12_doMeet_60 rfl ?_
    refine r_cut (q6057 = 0 ∧ q6060 = 0) 70 72 [] (fun c6062 => ?_) (fun c6062 => ?_) (fun k6063 k6064 => ?_)
    · refine r_t c6062 ?_
      refine r_iconst (v := 1) C dX12_doMeet_70 (by decide) ?_
      exact r_ireturn C hQ (nar_z (BRd rfl)) dX12_doMeet_71 (fun e => by cases e; exact ⟨(BRd rfl), rfl, rfl, rfl, rfl, rfl⟩)
    · refine r_f c6062 ?_
      refine r_iload (pc := 72) (j := 1) C dX12_doMeet_72 rfl ?_
      refine r_if_ne (tgt := 98) C h6056 dX12_doMeet_74 (by decide) (fun c6065 => ?_) (fun c6065 => ?_)
      · refine r_f c6065 ?_
        refine r_iload (pc := 98) (j := 0) C dX12_doMeet_98 rfl ?_
        refine r_if_ne (tgt := 124) C h6059 dX12_doMeet_100 (by decide) (fun c6071 => ?_) (fun c6071 => ?_)
        · refine r_f c6071 ?_
          refine r_iload (pc := 124) (j := 1) C dX12_doMeet_124 rfl ?_
          refine r_join (fun q6077 : Int => BR q6077) (fun q6077 => S) (fun q6077 => O) (fun q6077 => [(6, .int (zi q6060))]) 134 (fun q6077 => [.int (zi q6077)]) (fun q6077 h6078 => ?_) (fun k6079 k6080 => ?_)
          · refine r_iload (pc := 134) (j := 0) C dX12_doMeet_134 rfl ?_
            refine r_join (fun q6082 : Int => BR q6082) (fun q6082 => S) (fun q6082 => O) (fun q6082 => []) 144 (fun q6082 => [.int (zi q6082), .int (zi q6077)]) (fun q6082 h6083 => ?_) (fun k6084 k6085 => ?_)
            · refine r_icmp_eq (tgt := 151) C h6078.ir h6083.ir dX12_doMeet_144 (by decide) (fun c6087 => ?_) (fun c6087 => ?_)
              · refine r_t c6087 ?_
                refine r_iconst (v := 0) C dX12_doMeet_151 (by decide) ?_
                exact r_ireturn C hQ (nar_z (BRd rfl)) dX12_doMeet_152 (fun e => by cases e; exact ⟨(BRd rfl), rfl, rfl, rfl, rfl, rfl⟩)
              · refine r_f c6087 ?_
                refine r_iconst (v := 1) C dX12_doMeet_147 (by decide) ?_
                refine r_goto (tgt := 152) C dX12_doMeet_148 (by decide) ?_
                exact r_ireturn C hQ (nar_z (BRd rfl)) dX12_doMeet_152 (fun e => by cases e; exact ⟨(BRd rfl), rfl, rfl, rfl, rfl, rfl⟩)
            · refine r_if_le (tgt := 143) C h6059 dX12_doMeet_136 (by decide) (fun c6086 => ?_) (fun c6086 => ?_)
              · refine r_jf c6086 ?_
                refine r_iconst (v := 0) C dX12_doMeet_143 (by decide) ?_
                refine r_L (L' := []) [] rfl ?_
                exact k6085 0 (BRd rfl)
              · refine r_jt c6086 ?_
                refine r_iconst (v := 1) C dX12_doMeet_139 (by decide) ?_
                refine r_goto (tgt := 144) C dX12_doMeet_140 (by decide) ?_
                refine r_L (L' := []) [] rfl ?_
                exact k6085 1 (BRd rfl)
          · refine r_if_le (tgt := 133) C h6056 dX12_doMeet_126 (by decide) (fun c6081 => ?_) (fun c6081 => ?_)
            · refine r_jf c6081 ?_
              refine r_iconst (v := 0) C dX12_doMeet_133 (by decide) ?_
              refine r_L (L' := [(6, .int (zi q6060))]) [0] rfl ?_
              exact k6080 0 (BRd rfl)
            · refine r_jt c6081 ?_
              refine r_iconst (v := 1) C dX12_doMeet_129 (by decide) ?_
              refine r_goto (tgt := 134) C dX12_doMeet_130 (by decide) ?_
              refine r_L (L' := [(6, .int (zi q6060))]) [0] rfl ?_
              exact k6080 1 (BRd rfl)
        · refine r_t c6071 ?_
          refine r_aload_n (pc := 103) (j := 4) C dX12_doMeet_103 rfl rfl ?_
          refine r_getR (j := 29) (r := 274) C cl_X12 kd_262 ln_262 (by decide) rfl r0_262_29 (by decide) q_1582 dX12_doMeet_104 ?_
          refine r_iload_n (pc := 107) (j := 5) C dX12_doMeet_107 rfl rfl ?_
          refine r_iald C kd_274 ln_274 gc_274 ha1 dX12_doMeet_108 (fun v6072 h6073 => ?_)
          refine r_aload_n (pc := 109) (j := 4) C dX12_doMeet_109 rfl rfl ?_
          refine r_getR (j := 29) (r := 274) C cl_X12 kd_262 ln_262 (by decide) rfl r0_262_29 (by decide) q_1582 dX12_doMeet_110 ?_
          refine r_iload_n (pc := 113) (j := 6) C dX12_doMeet_113 rfl rfl ?_
          refine r_iald C kd_274 ln_274 gc_274 ha2 dX12_doMeet_114 (fun v6074 h6075 => ?_)
          refine r_icmp_eq (tgt := 122) C h6073 h6075 dX12_doMeet_115 (by decide) (fun c6076 => ?_) (fun c6076 => ?_)
          · refine r_t c6076 ?_
            refine r_iconst (v := 0) C dX12_doMeet_122 (by decide) ?_
            exact r_ireturn C hQ (nar_z (BRd rfl)) dX12_doMeet_123 (fun e => by cases e; exact ⟨(BRd rfl), rfl, rfl, rfl, rfl, rfl⟩)
          · refine r_f c6076 ?_
            refine r_iconst (v := 1) C dX12_doMeet_118 (by decide) ?_
            refine r_goto (tgt := 123) C dX12_doMeet_119 (by decide) ?_
            exact r_ireturn C hQ (nar_z (BRd rfl)) dX12_doMeet_123 (fun e => by cases e; exact ⟨(BRd rfl), rfl, rfl, rfl, rfl, rfl⟩)
      · refine r_t c6065 ?_
        refine r_aload_n (pc := 77) (j := 4) C dX12_doMeet_77 rfl rfl ?_
        refine r_getR (j := 27) (r := 272) C cl_X12 kd_262 ln_262 (by decide) rfl r0_262_27 (by decide) q_1580 dX12_doMeet_78 ?_
        refine r_iload_n (pc := 81) (j := 5) C dX12_doMeet_81 rfl rfl ?_
        refine r_iald C kd_272 ln_272 gc_272 ha1 dX12_doMeet_82 (fun v6066 h6067 => ?_)
        refine r_aload_n (pc := 83) (j := 4) C dX12_doMeet_83 rfl rfl ?_
        refine r_getR (j := 27) (r := 272) C cl_X12 kd_262 ln_262 (by decide) rfl r0_262_27 (by decide) q_1580 dX12_doMeet_84 ?_
        refine r_iload_n (pc := 87) (j := 6) C dX12_doMeet_87 rfl rfl ?_
        refine r_iald C kd_272 ln_272 gc_272 ha2 dX12_doMeet_88 (fun v6068 h6069 => ?_)
        refine r_icmp_eq (tgt := 96) C h6067 h6069 dX12_doMeet_89 (by decide) (fun c6070 => ?_) (fun c6070 => ?_)
        · refine r_t c6070 ?_
          refine r_iconst (v := 0) C dX12_doMeet_96 (by decide) ?_
          exact r_ireturn C hQ (nar_z (BRd rfl)) dX12_doMeet_97 (fun e => by cases e; exact ⟨(BRd rfl), rfl, rfl, rfl, rfl, rfl⟩)
        · refine r_f c6070 ?_
          refine r_iconst (v := 1) C dX12_doMeet_92 (by decide) ?_
          refine r_goto (tgt := 97) C dX12_doMeet_93 (by decide) ?_
          exact r_ireturn C hQ (nar_z (BRd rfl)) dX12_doMeet_97 (fun e => by cases e; exact ⟨(BRd rfl), rfl, rfl, rfl, rfl, rfl⟩)
    · refine r_if_ne (tgt := 72) C h6056 dX12_doMeet_62 (by decide) (fun c6088 => ?_) (fun c6088 => ?_)
      · exact k6064 (fun w => c6088 w.1)
      · refine r_iload (pc := 65) (j := 0) C dX12_doMeet_65 rfl ?_
        refine r_if_ne (tgt := 72) C h6059 dX12_doMeet_67 (by decide) (fun c6089 => ?_) (fun c6089 => ?_)
        · exact k6064 (fun w => c6089 w.2)
        · exact k6063 ⟨c6088, c6089⟩
  · refine r_f c6055 ?_
    refine r_iconst (v := 0) C dX12_doMeet_39 (by decide) ?_
    exact r_ireturn C hQ (nar_z (BRd rfl)) dX12_doMeet_40 (fun e => by cases e; exact ⟨(BRd rfl), rfl, rfl, rfl, rfl, rfl⟩)

def f_X12_readSegment (O : Smo) : Option (Smo) :=
  Option.bind (f_X12_token O) fun (q6161 : Smo) =>
  Option.bind (
    if f_X12_isName q6161 = 0 then
      (jn (f_X12_wrong 2 q6161) fun (q6170 : Smo) =>
      some q6170)
    else
      (Option.bind (f_X12_isTold q6161) fun (q6173 : Int) =>
      if q6173 = 0 then
        (some q6161)
      else
        (jn (f_X12_wrong 3 q6161) fun (q6177 : Smo) =>
        some q6177))) fun (q6164 : Smo) =>
  if 0 < q6164 262 2 then
    (some q6164)
  else
    (jn (q6164 262 36) fun (v6182 : Int) =>
    Option.bind (asetO q6164 271 (Ln 271) v6182 (q6164 262 9)) fun (O6185 : Smo) =>
    Option.bind (f_X12_token O6185) fun (q6187 : Smo) =>
    Option.bind (f_X12_told 24948 0 59 q6187) fun (q6190 : Int × Smo) =>
    Option.bind (asetO q6190.2 272 (Ln 272) v6182 q6190.1) fun (O6192 : Smo) =>
    Option.bind (f_X12_toldNumber 0 60 O6192) fun (q6194 : Int × Smo) =>
    Option.bind (asetO q6194.2 273 (Ln 273) v6182 q6194.1) fun (O6196 : Smo) =>
    Option.bind (aget (O6196 272) (Ln 272) v6182) fun (v6197 : Int) =>
    Option.bind (f_X12_told 29807 (wr (v6197 + 1)) 60 O6196) fun (q6200 : Int × Smo) =>
    Option.bind (asetO q6200.2 274 (Ln 274) v6182 q6200.1) fun (O6202 : Smo) =>
    jn (f_X12_numberHere 0 60 O6202) fun (q6204 : Int × Smo) =>
    Option.bind (asetO q6204.2 275 (Ln 275) v6182 q6204.1) fun (O6206 : Smo) =>
    Option.bind (lp (fun (s6207 : Int × Smo) =>
      if (s6207.1 < v6182 ∧ s6207.2 262 2 = 0) then
        (Option.bind (f_X12_doMeet s6207.1 v6182 s6207.2) fun (q6218 : Int) =>
        jn (
          if q6218 = 0 then
            (s6207.2)
          else
            (jn (f_X12_wrong 5 s6207.2) fun (q6226 : Smo) =>
            q6226)) fun (q6220 : Smo) =>
        some (Sum.inl (wr (s6207.1 + 1), q6220)))
      else
        (some (Sum.inr s6207.2))) FU (0, O6206)) fun (r6230 : Smo) =>
    if 0 < r6230 262 2 then
      (some r6230)
    else
      (Option.bind (f_X12_token r6230) fun (q6235 : Smo) =>
      jn (up2 q6235 262 36 (wr ((q6235 262 36) + 1))) fun (O6238 : Smo) =>
      some O6238))
set_option maxRecDepth 100000 in
set_option maxHeartbeats 4000000 in
theorem m_X12_readSegment {l : Launch} {E : EwT} {S : Sst} {O : Smo}  {q : Smo} (hq : f_X12_readSegment O = some q) : MetG l E yX12_readSegment cX12_readSegment 3 none 4 90 0 0 n0 R0 S O [.ref (zad E 262)] (True) none n0 R0 S q := by
  refine ofG (L0 := [(0, .ref (zad E 262))]) hq (by decide +kernel) (Nat.le_of_ble_eq_true rfl) rfl (fun K _ C hQ => ?_)
  unfold f_X12_readSegment
  refine r_aload_n (pc := 0) (j := 0) C dX12_readSegment_0 rfl rfl ?_
  refine r_bd (fun q6161 e6162 => ?_)
  refine r_cV0 (pc := 1) (k := 262) (As := []) (st := []) C (m_X12_token  e6162) cal_X12_token cl_X12 kd_262 ln_262 q_1815 dX12_readSegment_1 rfl rfl (Nat.le_of_ble_eq_true rfl) (Nat.le_of_ble_eq_true rfl) (Nat.le_of_ble_eq_true rfl) (Nat.le_of_ble_eq_true rfl) (Nat.le_of_ble_eq_true rfl) (fun h6160 => ?_)
  refine r_aload_n (pc := 4) (j := 0) C dX12_readSegment_4 rfl rfl ?_
  refine r_cV1 (pc := 5) (k := 262) (As := []) (st := []) C (m_X12_isName  rfl) cal_X12_isName cl_X12 kd_262 ln_262 q_1845 dX12_readSegment_5 rfl rfl (Nat.le_of_ble_eq_true rfl) (Nat.le_of_ble_eq_true rfl) (Nat.le_of_ble_eq_true rfl) (Nat.le_of_ble_eq_true rfl) (Nat.le_of_ble_eq_true rfl) (fun h6163 => ?_)
  refine r_joinb (fun q6164 : Smo => True) (fun q6164 => S) (fun q6164 => q6164) (fun q6164 => [(0, .ref (zad E 262))]) 31 (fun q6164 => []) (fun q6164 h6165 => ?_) (fun k6166 k6167 => ?_)
  · refine r_aload_n (pc := 31) (j := 0) C dX12_readSegment_31 rfl rfl ?_
    refine r_getO (j := 2) C cl_X12 kd_262 ln_262 gc_262 (by decide) (by decide) rfl q_1555 dX12_readSegment_32 (fun h6179 => ?_)
    refine r_if_le (tgt := 39) C h6179 dX12_readSegment_35 (by decide) (fun c6180 => ?_) (fun c6180 => ?_)
    · refine r_f c6180 ?_
      refine r_aload_n (pc := 39) (j := 0) C dX12_readSegment_39 rfl rfl ?_
      refine r_getO (j := 36) C cl_X12 kd_262 ln_262 gc_262 (by decide) (by decide) rfl q_1589 dX12_readSegment_40 (fun h6181 => ?_)
      refine r_jv h6181 (fun v6182 h6183 => ?_)
      refine r_istore_n (L' := [(1, .int (zi v6182)), (0, .ref (zad E 262))]) C dX12_readSegment_43 rfl (by decide) rfl ?_
      refine r_aload_n (pc := 44) (j := 1) C dX12_readSegment_44 rfl rfl ?_
      refine r_getR (j := 26) (r := 271) C cl_X12 kd_262 ln_262 (by decide) rfl r0_262_26 (by decide) q_1579 dX12_readSegment_45 ?_
      refine r_iload_n (pc := 48) (j := 0) C dX12_readSegment_48 rfl rfl ?_
      refine r_aload_n (pc := 49) (j := 1) C dX12_readSegment_49 rfl rfl ?_
      refine r_getOl (j := 9) C cl_X12 kd_262 ln_262 gc_262 (by decide) (by decide) rfl q_1562 dX12_readSegment_50 (fun h6184 => ?_)
      refine r_last C kd_271 ln_271 gc_271 h6183 h6184 dX12_readSegment_53 (fun O6185 => ?_)
      refine r_aload_n (pc := 54) (j := 1) C dX12_readSegment_54 rfl rfl ?_
      refine r_bd (fun q6187 e6188 => ?_)
      refine r_cV0 (pc := 55) (k := 262) (As := []) (st := []) C (m_X12_token  e6188) cal_X12_token cl_X12 kd_262 ln_262 q_1815 dX12_readSegment_55 rfl rfl (Nat.le_of_ble_eq_true rfl) (Nat.le_of_ble_eq_true rfl) (Nat.le_of_ble_eq_true rfl) (Nat.le_of_ble_eq_true rfl) (Nat.le_of_ble_eq_true rfl) (fun h6186 => ?_)
      refine r_aload_n (pc := 58) (j := 1) C dX12_readSegment_58 rfl rfl ?_
      refine r_getR (j := 27) (r := 272) C cl_X12 kd_262 ln_262 (by decide) rfl r0_262_27 (by decide) q_1580 dX12_readSegment_59 ?_
      refine r_iload_n (pc := 62) (j := 0) C dX12_readSegment_62 rfl rfl ?_
      refine r_aload_n (pc := 63) (j := 1) C dX12_readSegment_63 rfl rfl ?_
      refine r_ldc2 (v := 24948) C q_1853 dX12_readSegment_64 (by decide) ?_
      refine r_iconst (v := 0) C dX12_readSegment_67 (by decide) ?_
      refine r_bipush (v := 59) C dX12_readSegment_68 (by decide) ?_
      refine r_bd (fun q6190 e6191 => ?_)
      refine r_cV1 (pc := 70) (k := 262) (As := [.long (zl 24948), .int (zi 0), .int (zi 59)]) (st := [.int (zi v6182), .ref (zad E 272)]) C (m_X12_told (a1 := 24948) (a3 := 0) (a4 := 59) (LRd rfl) (IRd rfl) (IRd rfl) e6191) cal_X12_told cl_X12 kd_262 ln_262 q_1874 dX12_readSegment_70 rfl rfl (Nat.le_of_ble_eq_true rfl) (Nat.le_of_ble_eq_true rfl) (Nat.le_of_ble_eq_true rfl) (Nat.le_of_ble_eq_true rfl) (Nat.le_of_ble_eq_true rfl) (fun h6189 => ?_)
      refine r_iast C kd_272 ln_272 gc_272 h6183 h6189 dX12_readSegment_73 (fun O6192 => ?_)
      refine r_aload_n (pc := 74) (j := 1) C dX12_readSegment_74 rfl rfl ?_
      refine r_getR (j := 28) (r := 273) C cl_X12 kd_262 ln_262 (by decide) rfl r0_262_28 (by decide) q_1581 dX12_readSegment_75 ?_
      refine r_iload_n (pc := 78) (j := 0) C dX12_readSegment_78 rfl rfl ?_
      refine r_aload_n (pc := 79) (j := 1) C dX12_readSegment_79 rfl rfl ?_
      refine r_iconst (v := 0) C dX12_readSegment_80 (by decide) ?_
      refine r_bipush (v := 60) C dX12_readSegment_81 (by decide) ?_
      refine r_bd (fun q6194 e6195 => ?_)
      refine r_cV1 (pc := 83) (k := 262) (As := [.int (zi 0), .int (zi 60)]) (st := [.int (zi v6182), .ref (zad E 273)]) C (m_X12_toldNumber (a1 := 0) (a2 := 60) (IRd rfl) (IRd rfl) e6195) cal_X12_toldNumber cl_X12 kd_262 ln_262 q_1882 dX12_readSegment_83 rfl rfl (Nat.le_of_ble_eq_true rfl) (Nat.le_of_ble_eq_true rfl) (Nat.le_of_ble_eq_true rfl) (Nat.le_of_ble_eq_true rfl) (Nat.le_of_ble_eq_true rfl) (fun h6193 => ?_)
      refine r_iast C kd_273 ln_273 gc_273 h6183 h6193 dX12_readSegment_86 (fun O6196 => ?_)
      refine r_aload_n (pc := 87) (j := 1) C dX12_readSegment_87 rfl rfl ?_
      refine r_getR (j := 29) (r := 274) C cl_X12 kd_262 ln_262 (by decide) rfl r0_262_29 (by decide) q_1582 dX12_readSegment_88 ?_
      refine r_iload_n (pc := 91) (j := 0) C dX12_readSegment_91 rfl rfl ?_
      refine r_aload_n (pc := 92) (j := 1) C dX12_readSegment_92 rfl rfl ?_
      refine r_ldc2 (v := 29807) C q_1854 dX12_readSegment_93 (by decide) ?_
      refine r_aload_n (pc := 96) (j := 1) C dX12_readSegment_96 rfl rfl ?_
      refine r_getR (j := 27) (r := 272) C cl_X12 kd_262 ln_262 (by decide) rfl r0_262_27 (by decide) q_1580 dX12_readSegment_97 ?_
      refine r_iload_n (pc := 100) (j := 0) C dX12_readSegment_100 rfl rfl ?_
      refine r_iald C kd_272 ln_272 gc_272 h6183 dX12_readSegment_101 (fun v6197 h6198 => ?_)
      refine r_iconst (v := 1) C dX12_readSegment_102 (by decide) ?_
      refine r_iadd C dX12_readSegment_103 ?_
      refine r_bipush (v := 60) C dX12_readSegment_104 (by decide) ?_
      refine r_bd (fun q6200 e6201 => ?_)
      refine r_cV1 (pc := 106) (k := 262) (As := [.long (zl 29807), .int (zi (wr (v6197 + 1))), .int (zi 60)]) (st := [.int (zi v6182), .ref (zad E 274)]) C (m_X12_told (a1 := 29807) (a3 := wr (v6197 + 1)) (a4 := 60) (LRd rfl) (IR_wr _) (IRd rfl) e6201) cal_X12_told cl_X12 kd_262 ln_262 q_1874 dX12_readSegment_106 rfl rfl (Nat.le_of_ble_eq_true rfl) (Nat.le_of_ble_eq_true rfl) (Nat.le_of_ble_eq_true rfl) (Nat.le_of_ble_eq_true rfl) (Nat.le_of_ble_eq_true rfl) (fun h6199 => ?_)
      refine r_iast C kd_274 ln_274 gc_274 h6183 h6199 dX12_readSegment_109 (fun O6202 => ?_)
      refine r_aload_n (pc := 110) (j := 1) C dX12_readSegment_110 rfl rfl ?_
      refine r_getR (j := 30) (r := 275) C cl_X12 kd_262 ln_262 (by decide) rfl r0_262_30 (by decide) q_1583 dX12_readSegment_111 ?_
      refine r_iload_n (pc := 114) (j := 0) C dX12_readSegment_114 rfl rfl ?_
      refine r_aload_n (pc := 115) (j := 1) C dX12_readSegment_115 rfl rfl ?_
      refine r_iconst (v := 0) C dX12_readSegment_116 (by decide) ?_
      refine r_bipush (v := 60) C dX12_readSegment_117 (by decide) ?_
      refine r_jn (fun q6204 e6205 => ?_)
      refine r_cV1 (pc := 119) (k := 262) (As := [.int (zi 0), .int (zi 60)]) (st := [.int (zi v6182), .ref (zad E 275)]) C (m_X12_numberHere (a1 := 0) (a2 := 60) (IRd rfl) (IRd rfl) e6205) cal_X12_numberHere cl_X12 kd_262 ln_262 q_1886 dX12_readSegment_119 rfl rfl (Nat.le_of_ble_eq_true rfl) (Nat.le_of_ble_eq_true rfl) (Nat.le_of_ble_eq_true rfl) (Nat.le_of_ble_eq_true rfl) (Nat.le_of_ble_eq_true rfl) (fun h6203 => ?_)
      refine r_iast C kd_275 ln_275 gc_275 h6183 h6203 dX12_readSegment_122 (fun O6206 => ?_)
      refine r_iconst (v := 0) C dX12_readSegment_123 (by decide) ?_
      refine r_istore_n (L' := [(2, .int (zi 0)), (1, .int (zi v6182)), (0, .ref (zad E 262))]) C dX12_readSegment_124 rfl (by decide) rfl ?_
      refine r_L (L' := [(0, .ref (zad E 262)), (1, .int (zi v6182)), (2, .int (zi 0))]) [2, 1, 0] rfl ?_
      refine r_loop1 (fun s6207 : Int × Smo => IR s6207.1) (fun s6207 => S) (fun s6207 => s6207.2) (fun s6207 => [(0, .ref (zad E 262)), (1, .int (zi v6182)), (2, .int (zi s6207.1))]) [] (fun r6230 : Smo => True) (fun r6230 => S) (fun r6230 => r6230) (fun r6230 => [(0, .ref (zad E 262))]) 157 (fun r6230 h6231 => ?_) (fun k6209 k6211 k6210 k6212 s6207 h6208 => ?_) (IRd rfl)
      · refine r_aload_n (pc := 157) (j := 0) C dX12_readSegment_157 rfl rfl ?_
        refine r_getO (j := 2) C cl_X12 kd_262 ln_262 gc_262 (by decide) (by decide) rfl q_1555 dX12_readSegment_158 (fun h6232 => ?_)
        refine r_if_le (tgt := 165) C h6232 dX12_readSegment_161 (by decide) (fun c6233 => ?_) (fun c6233 => ?_)
        · refine r_f c6233 ?_
          refine r_aload_n (pc := 165) (j := 0) C dX12_readSegment_165 rfl rfl ?_
          refine r_bd (fun q6235 e6236 => ?_)
          refine r_cV0 (pc := 166) (k := 262) (As := []) (st := []) C (m_X12_token  e6236) cal_X12_token cl_X12 kd_262 ln_262 q_1815 dX12_readSegment_166 rfl rfl (Nat.le_of_ble_eq_true rfl) (Nat.le_of_ble_eq_true rfl) (Nat.le_of_ble_eq_true rfl) (Nat.le_of_ble_eq_true rfl) (Nat.le_of_ble_eq_true rfl) (fun h6234 => ?_)
          refine r_aload_n (pc := 169) (j := 0) C dX12_readSegment_169 rfl rfl ?_
          refine r_dup C dX12_readSegment_170 rfl ?_
          refine r_getO (j := 36) C cl_X12 kd_262 ln_262 gc_262 (by decide) (by decide) rfl q_1589 dX12_readSegment_171 (fun h6237 => ?_)
          refine r_iconst (v := 1) C dX12_readSegment_174 (by decide) ?_
          refine r_iadd C dX12_readSegment_175 ?_
          refine r_putO C cl_X12 kd_262 ln_262 gc_262 (by decide) (by decide) rfl rfl rfl (IR_wr _) q_1589 dX12_readSegment_176 (fun O6238 => ?_)
          exact r_return C hQ dX12_readSegment_179 (fun e => by cases e; exact ⟨trivial, rfl, rfl, rfl, rfl, rfl⟩)
        · refine r_t c6233 ?_
          exact r_return C hQ dX12_readSegment_164 (fun e => by cases e; exact ⟨trivial, rfl, rfl, rfl, rfl, rfl⟩)
      · refine r_iload_n (pc := 125) (j := 2) C dX12_readSegment_125 rfl rfl ?_
        refine r_iload_n (pc := 126) (j := 1) C dX12_readSegment_126 rfl rfl ?_
        refine r_cut (s6207.1 < v6182 ∧ s6207.2 262 2 = 0) 137 157 [] (fun c6214 => ?_) (fun c6214 => ?_) (fun k6215 k6216 => ?_)
        · refine r_bt c6214 ?_
          refine r_aload_n (pc := 137) (j := 0) C dX12_readSegment_137 rfl rfl ?_
          refine r_iload_n (pc := 138) (j := 2) C dX12_readSegment_138 rfl rfl ?_
          refine r_iload_n (pc := 139) (j := 1) C dX12_readSegment_139 rfl rfl ?_
          refine r_bb ?_
          refine r_bd (fun q6218 e6219 => ?_)
          refine r_cV1 (pc := 140) (k := 262) (As := [.int (zi s6207.1), .int (zi v6182)]) (st := []) C (m_X12_doMeet (a1 := s6207.1) (a2 := v6182) h6208 h6183 e6219) cal_X12_doMeet cl_X12 kd_262 ln_262 q_1890 dX12_readSegment_140 rfl rfl (Nat.le_of_ble_eq_true rfl) (Nat.le_of_ble_eq_true rfl) (Nat.le_of_ble_eq_true rfl) (Nat.le_of_ble_eq_true rfl) (Nat.le_of_ble_eq_true rfl) (fun h6217 => ?_)
          refine r_bj ?_
          refine r_join (fun q6220 : Smo => True) (fun q6220 => S) (fun q6220 => q6220) (fun q6220 => [(0, .ref (zad E 262)), (1, .int (zi v6182)), (2, .int (zi s6207.1))]) 151 (fun q6220 => []) (fun q6220 h6221 => ?_) (fun k6222 k6223 => ?_)
          · refine r_iinc (j := 2) (L' := [(2, .int (zi (wr (s6207.1 + 1)))), (0, .ref (zad E 262)), (1, .int (zi v6182))]) C dX12_readSegment_151 rfl (by decide) rfl ?_
            refine r_goto (tgt := 125) C dX12_readSegment_154 (by decide) ?_
            refine r_L (L' := [(0, .ref (zad E 262)), (1, .int (zi v6182)), (2, .int (zi (wr (s6207.1 + 1))))]) [1, 2, 0] rfl ?_
            exact k6210 (wr (s6207.1 + 1), q6220) (IR_wr _)
          · refine r_if_eq (tgt := 151) C h6217.ir dX12_readSegment_143 (by decide) (fun c6224 => ?_) (fun c6224 => ?_)
            · refine r_jt c6224 ?_
              exact k6223 s6207.2 trivial
            · refine r_jf c6224 ?_
              refine r_aload_n (pc := 146) (j := 0) C dX12_readSegment_146 rfl rfl ?_
              refine r_iconst (v := 5) C dX12_readSegment_147 (by decide) ?_
              refine r_jj ?_
              refine r_jn (fun q6226 e6227 => ?_)
              refine r_cV0 (pc := 148) (k := 262) (As := [.int (zi 5)]) (st := []) C (m_X12_wrong (a1 := 5) (IRd rfl) e6227) cal_X12_wrong cl_X12 kd_262 ln_262 q_1866 dX12_readSegment_148 rfl rfl (Nat.le_of_ble_eq_true rfl) (Nat.le_of_ble_eq_true rfl) (Nat.le_of_ble_eq_true rfl) (Nat.le_of_ble_eq_true rfl) (Nat.le_of_ble_eq_true rfl) (fun h6225 => ?_)
              exact k6223 q6226 trivial
        · refine r_bf c6214 ?_
          refine r_L (L' := [(0, .ref (zad E 262))]) [0] rfl ?_
          exact k6212 s6207.2 trivial
        · refine r_icmp_ge (tgt := 157) C h6208 h6183 dX12_readSegment_127 (by decide) (fun c6228 => ?_) (fun c6228 => ?_)
          · exact k6216 (fun w => c6228 w.1)
          · refine r_aload_n (pc := 130) (j := 0) C dX12_readSegment_130 rfl rfl ?_
            refine r_getO (j := 2) C cl_X12 kd_262 ln_262 gc_262 (by decide) (by decide) rfl q_1555 dX12_readSegment_131 (fun h6213 => ?_)
            refine r_if_ne (tgt := 157) C h6213 dX12_readSegment_134 (by decide) (fun c6229 => ?_) (fun c6229 => ?_)
            · exact k6216 (fun w => c6229 w.2)
            · exact k6215 ⟨c6228, c6229⟩
    · refine r_t c6180 ?_
      exact r_return C hQ dX12_readSegment_38 (fun e => by cases e; exact ⟨trivial, rfl, rfl, rfl, rfl, rfl⟩)
  · refine r_if_ne (tgt := 19) C h6163.ir dX12_readSegment_8 (by decide) (fun c6168 => ?_) (fun c6168 => ?_)
    · refine r_bf c6168 ?_
      refine r_aload_n (pc := 19) (j := 0) C dX12_readSegment_19 rfl rfl ?_
      refine r_bb ?_
      refine r_bd (fun q6173 e6174 => ?_)
      refine r_cV1 (pc := 20) (k := 262) (As := []) (st := []) C (m_X12_isTold  e6174) cal_X12_isTold cl_X12 kd_262 ln_262 q_1870 dX12_readSegment_20 rfl rfl (Nat.le_of_ble_eq_true rfl) (Nat.le_of_ble_eq_true rfl) (Nat.le_of_ble_eq_true rfl) (Nat.le_of_ble_eq_true rfl) (Nat.le_of_ble_eq_true rfl) (fun h6172 => ?_)
      refine r_if_eq (tgt := 31) C h6172.ir dX12_readSegment_23 (by decide) (fun c6175 => ?_) (fun c6175 => ?_)
      · refine r_bt c6175 ?_
        exact k6167 q6161 trivial
      · refine r_bf c6175 ?_
        refine r_aload_n (pc := 26) (j := 0) C dX12_readSegment_26 rfl rfl ?_
        refine r_iconst (v := 3) C dX12_readSegment_27 (by decide) ?_
        refine r_bj ?_
        refine r_jn (fun q6177 e6178 => ?_)
        refine r_cV0 (pc := 28) (k := 262) (As := [.int (zi 3)]) (st := []) C (m_X12_wrong (a1 := 3) (IRd rfl) e6178) cal_X12_wrong cl_X12 kd_262 ln_262 q_1866 dX12_readSegment_28 rfl rfl (Nat.le_of_ble_eq_true rfl) (Nat.le_of_ble_eq_true rfl) (Nat.le_of_ble_eq_true rfl) (Nat.le_of_ble_eq_true rfl) (Nat.le_of_ble_eq_true rfl) (fun h6176 => ?_)
        exact k6167 q6177 trivial
    · refine r_bt c6168 ?_
      refine r_aload_n (pc := 11) (j := 0) C dX12_readSegment_11 rfl rfl ?_
      refine r_iconst (v := 2) C dX12_readSegment_12 (by decide) ?_
      refine r_bj ?_
      refine r_jn (fun q6170 e6171 => ?_)
      refine r_cV0 (pc := 13) (k := 262) (As := [.int (zi 2)]) (st := []) C (m_X12_wrong (a1 := 2) (IRd rfl) e6171) cal_X12_wrong cl_X12 kd_262 ln_262 q_1866 dX12_readSegment_13 rfl rfl (Nat.le_of_ble_eq_true rfl) (Nat.le_of_ble_eq_true rfl) (Nat.le_of_ble_eq_true rfl) (Nat.le_of_ble_eq_true rfl) (Nat.le_of_ble_eq_true rfl) (fun h6169 => ?_)
      refine r_goto (tgt := 31) C dX12_readSegment_16 (by decide) ?_
      exact k6167 q6170 trivial

def f_X12_readLine (O : Smo) : Option (Smo) :=
  Option.bind (
    if (f_X12_isWord 7562599 O = 0 ∨ ¬ O 262 36 < 8) then
      (if (f_X12_isWord 131277443786867 O = 0 ∨ ¬ O 262 23 = 0) then
        (if (f_X12_isWord 495740482675 O = 0 ∨ ¬ O 262 42 = 0) then
          (if (f_X12_isWord 1685217655 O = 0 ∨ ¬ O 262 43 = 0) then
            (jn (f_X12_wrong 2 O) fun (q6264 : Smo) =>
            some q6264)
          else
            (jn (up2 O 262 43 1) fun (O6266 : Smo) =>
            Option.bind (f_X12_told 1685217655 0 999 O6266) fun (q6268 : Int × Smo) =>
            jn (up2 q6268.2 262 38 q6268.1) fun (O6270 : Smo) =>
            some O6270))
        else
          (jn (up2 O 262 42 1) fun (O6273 : Smo) =>
          Option.bind (f_X12_told 495740482675 1 6 O6273) fun (q6275 : Int × Smo) =>
          jn (up2 q6275.2 262 37 q6275.1) fun (O6277 : Smo) =>
          some O6277))
      else
        (Option.bind (f_X12_formula O) fun (q6281 : Smo) =>
        some q6281))
    else
      (Option.bind (f_X12_readSegment O) fun (q6286 : Smo) =>
      some q6286)) fun (q6241 : Smo) =>
  jn (
    if (q6241 262 2 = 0 ∧ ¬ q6241 262 6 = 59) then
      (jn (f_X12_wrong 2 q6241) fun (q6300 : Smo) =>
      q6300)
    else
      (q6241)) fun (q6292 : Smo) =>
  if q6292 262 2 = 0 then
    (Option.bind (f_X12_token q6292) fun (q6307 : Smo) =>
    some q6307)
  else
    (some q6292)
set_option maxRecDepth 100000 in
set_option maxHeartbeats 4000000 in
theorem m_X12_readLine {l : Launch} {E : EwT} {S : Sst} {O : Smo}  {q : Smo} (hq : f_X12_readLine O = some q) : MetG l E yX12_readLine cX12_readLine 1 none 5 112 0 0 n0 R0 S O [.ref (zad E 262)] (True) none n0 R0 S q := by
  refine ofG (L0 := [(0, .ref (zad E 262))]) hq (by decide +kernel) (Nat.le_of_ble_eq_true rfl) rfl (fun K _ C hQ => ?_)
  unfold f_X12_readLine
  refine r_aload_n (pc := 0) (j := 0) C dX12_readLine_0 rfl rfl ?_
  refine r_ldc2 (v := 7562599) C q_1836 dX12_readLine_1 (by decide) ?_
  refine r_cV1 (pc := 4) (k := 262) (As := [.long (zl 7562599)]) (st := []) C (m_X12_isWord (a1 := 7562599) (LRd rfl) rfl) cal_X12_isWord cl_X12 kd_262 ln_262 q_1837 dX12_readLine_4 rfl rfl (Nat.le_of_ble_eq_true rfl) (Nat.le_of_ble_eq_true rfl) (Nat.le_of_ble_eq_true rfl) (Nat.le_of_ble_eq_true rfl) (Nat.le_of_ble_eq_true rfl) (fun h6239 => ?_)
  refine r_joinb (fun q6241 : Smo => True) (fun q6241 => S) (fun q6241 => q6241) (fun q6241 => [(0, .ref (zad E 262))]) 134 (fun q6241 => []) (fun q6241 h6242 => ?_) (fun k6243 k6244 => ?_)
  · refine r_aload_n (pc := 134) (j := 0) C dX12_readLine_134 rfl rfl ?_
    refine r_getO (j := 2) C cl_X12 kd_262 ln_262 gc_262 (by decide) (by decide) rfl q_1555 dX12_readLine_135 (fun h6290 => ?_)
    refine r_join (fun q6292 : Smo => True) (fun q6292 => S) (fun q6292 => q6292) (fun q6292 => [(0, .ref (zad E 262))]) 155 (fun q6292 => []) (fun q6292 h6293 => ?_) (fun k6294 k6295 => ?_)
    · refine r_aload_n (pc := 155) (j := 0) C dX12_readLine_155 rfl rfl ?_
      refine r_getO (j := 2) C cl_X12 kd_262 ln_262 gc_262 (by decide) (by decide) rfl q_1555 dX12_readLine_156 (fun h6304 => ?_)
      refine r_if_ne (tgt := 166) C h6304 dX12_readLine_159 (by decide) (fun c6305 => ?_) (fun c6305 => ?_)
      · refine r_f c6305 ?_
        exact r_return C hQ dX12_readLine_166 (fun e => by cases e; exact ⟨trivial, rfl, rfl, rfl, rfl, rfl⟩)
      · refine r_t c6305 ?_
        refine r_aload_n (pc := 162) (j := 0) C dX12_readLine_162 rfl rfl ?_
        refine r_bd (fun q6307 e6308 => ?_)
        refine r_cV0 (pc := 163) (k := 262) (As := []) (st := []) C (m_X12_token  e6308) cal_X12_token cl_X12 kd_262 ln_262 q_1815 dX12_readLine_163 rfl rfl (Nat.le_of_ble_eq_true rfl) (Nat.le_of_ble_eq_true rfl) (Nat.le_of_ble_eq_true rfl) (Nat.le_of_ble_eq_true rfl) (Nat.le_of_ble_eq_true rfl) (fun h6306 => ?_)
        exact r_return C hQ dX12_readLine_166 (fun e => by cases e; exact ⟨trivial, rfl, rfl, rfl, rfl, rfl⟩)
    · refine r_cut (q6241 262 2 = 0 ∧ ¬ q6241 262 6 = 59) 150 155 [] (fun c6296 => ?_) (fun c6296 => ?_) (fun k6297 k6298 => ?_)
      · refine r_jt c6296 ?_
        refine r_aload_n (pc := 150) (j := 0) C dX12_readLine_150 rfl rfl ?_
        refine r_iconst (v := 2) C dX12_readLine_151 (by decide) ?_
        refine r_jj ?_
        refine r_jn (fun q6300 e6301 => ?_)
        refine r_cV0 (pc := 152) (k := 262) (As := [.int (zi 2)]) (st := []) C (m_X12_wrong (a1 := 2) (IRd rfl) e6301) cal_X12_wrong cl_X12 kd_262 ln_262 q_1866 dX12_readLine_152 rfl rfl (Nat.le_of_ble_eq_true rfl) (Nat.le_of_ble_eq_true rfl) (Nat.le_of_ble_eq_true rfl) (Nat.le_of_ble_eq_true rfl) (Nat.le_of_ble_eq_true rfl) (fun h6299 => ?_)
        exact k6295 q6300 trivial
      · refine r_jf c6296 ?_
        exact k6295 q6241 trivial
      · refine r_if_ne (tgt := 155) C h6290 dX12_readLine_138 (by decide) (fun c6302 => ?_) (fun c6302 => ?_)
        · exact k6298 (fun w => c6302 w.1)
        · refine r_aload_n (pc := 141) (j := 0) C dX12_readLine_141 rfl rfl ?_
          refine r_getO (j := 6) C cl_X12 kd_262 ln_262 gc_262 (by decide) (by decide) rfl q_1559 dX12_readLine_142 (fun h6291 => ?_)
          refine r_bipush (v := 59) C dX12_readLine_145 (by decide) ?_
          refine r_icmp_eq (tgt := 155) C h6291 (IRd rfl) dX12_readLine_147 (by decide) (fun c6303 => ?_) (fun c6303 => ?_)
          · exact k6298 (fun w => w.2 c6303)
          · exact k6297 ⟨c6302, c6303⟩
  · refine r_cut (f_X12_isWord 7562599 O = 0 ∨ ¬ O 262 36 < 8) 26 19 [] (fun c6245 => ?_) (fun c6245 => ?_) (fun k6246 k6247 => ?_)
    · refine r_bt c6245 ?_
      refine r_aload_n (pc := 26) (j := 0) C dX12_readLine_26 rfl rfl ?_
      refine r_ldc2 (v := 131277443786867) C q_1855 dX12_readLine_27 (by decide) ?_
      refine r_cV1 (pc := 30) (k := 262) (As := [.long (zl 131277443786867)]) (st := []) C (m_X12_isWord (a1 := 131277443786867) (LRd rfl) rfl) cal_X12_isWord cl_X12 kd_262 ln_262 q_1837 dX12_readLine_30 rfl rfl (Nat.le_of_ble_eq_true rfl) (Nat.le_of_ble_eq_true rfl) (Nat.le_of_ble_eq_true rfl) (Nat.le_of_ble_eq_true rfl) (Nat.le_of_ble_eq_true rfl) (fun h6248 => ?_)
      refine r_cut (f_X12_isWord 131277443786867 O = 0 ∨ ¬ O 262 23 = 0) 50 43 [] (fun c6250 => ?_) (fun c6250 => ?_) (fun k6251 k6252 => ?_)
      · refine r_bt c6250 ?_
        refine r_aload_n (pc := 50) (j := 0) C dX12_readLine_50 rfl rfl ?_
        refine r_ldc2 (v := 495740482675) C q_1856 dX12_readLine_51 (by decide) ?_
        refine r_cV1 (pc := 54) (k := 262) (As := [.long (zl 495740482675)]) (st := []) C (m_X12_isWord (a1 := 495740482675) (LRd rfl) rfl) cal_X12_isWord cl_X12 kd_262 ln_262 q_1837 dX12_readLine_54 rfl rfl (Nat.le_of_ble_eq_true rfl) (Nat.le_of_ble_eq_true rfl) (Nat.le_of_ble_eq_true rfl) (Nat.le_of_ble_eq_true rfl) (Nat.le_of_ble_eq_true rfl) (fun h6253 => ?_)
        refine r_cut (f_X12_isWord 495740482675 O = 0 ∨ ¬ O 262 42 = 0) 89 67 [] (fun c6255 => ?_) (fun c6255 => ?_) (fun k6256 k6257 => ?_)
        · refine r_bt c6255 ?_
          refine r_aload_n (pc := 89) (j := 0) C dX12_readLine_89 rfl rfl ?_
          refine r_ldc2 (v := 1685217655) C q_1857 dX12_readLine_90 (by decide) ?_
          refine r_cV1 (pc := 93) (k := 262) (As := [.long (zl 1685217655)]) (st := []) C (m_X12_isWord (a1 := 1685217655) (LRd rfl) rfl) cal_X12_isWord cl_X12 kd_262 ln_262 q_1837 dX12_readLine_93 rfl rfl (Nat.le_of_ble_eq_true rfl) (Nat.le_of_ble_eq_true rfl) (Nat.le_of_ble_eq_true rfl) (Nat.le_of_ble_eq_true rfl) (Nat.le_of_ble_eq_true rfl) (fun h6258 => ?_)
          refine r_cut (f_X12_isWord 1685217655 O = 0 ∨ ¬ O 262 43 = 0) 129 106 [] (fun c6260 => ?_) (fun c6260 => ?_) (fun k6261 k6262 => ?_)
          · refine r_bt c6260 ?_
            refine r_aload_n (pc := 129) (j := 0) C dX12_readLine_129 rfl rfl ?_
            refine r_iconst (v := 2) C dX12_readLine_130 (by decide) ?_
            refine r_bj ?_
            refine r_jn (fun q6264 e6265 => ?_)
            refine r_cV0 (pc := 131) (k := 262) (As := [.int (zi 2)]) (st := []) C (m_X12_wrong (a1 := 2) (IRd rfl) e6265) cal_X12_wrong cl_X12 kd_262 ln_262 q_1866 dX12_readLine_131 rfl rfl (Nat.le_of_ble_eq_true rfl) (Nat.le_of_ble_eq_true rfl) (Nat.le_of_ble_eq_true rfl) (Nat.le_of_ble_eq_true rfl) (Nat.le_of_ble_eq_true rfl) (fun h6263 => ?_)
            exact k6244 q6264 trivial
          · refine r_bf c6260 ?_
            refine r_aload_n (pc := 106) (j := 0) C dX12_readLine_106 rfl rfl ?_
            refine r_iconst (v := 1) C dX12_readLine_107 (by decide) ?_
            refine r_bj ?_
            refine r_putOz C cl_X12 kd_262 ln_262 gc_262 (by decide) (by decide) rfl rfl rfl (BRd rfl) q_1596 dX12_readLine_108 (fun O6266 => ?_)
            refine r_aload_n (pc := 111) (j := 0) C dX12_readLine_111 rfl rfl ?_
            refine r_aload_n (pc := 112) (j := 0) C dX12_readLine_112 rfl rfl ?_
            refine r_ldc2 (v := 1685217655) C q_1857 dX12_readLine_113 (by decide) ?_
            refine r_iconst (v := 0) C dX12_readLine_116 (by decide) ?_
            refine r_sipush (v := 999) C dX12_readLine_117 (by decide) ?_
            refine r_bb ?_
            refine r_bd (fun q6268 e6269 => ?_)
            refine r_cV1 (pc := 120) (k := 262) (As := [.long (zl 1685217655), .int (zi 0), .int (zi 999)]) (st := [.ref (zad E 262)]) C (m_X12_told (a1 := 1685217655) (a3 := 0) (a4 := 999) (LRd rfl) (IRd rfl) (IRd rfl) e6269) cal_X12_told cl_X12 kd_262 ln_262 q_1874 dX12_readLine_120 rfl rfl (Nat.le_of_ble_eq_true rfl) (Nat.le_of_ble_eq_true rfl) (Nat.le_of_ble_eq_true rfl) (Nat.le_of_ble_eq_true rfl) (Nat.le_of_ble_eq_true rfl) (fun h6267 => ?_)
            refine r_bj ?_
            refine r_putO C cl_X12 kd_262 ln_262 gc_262 (by decide) (by decide) rfl rfl rfl h6267 q_1591 dX12_readLine_123 (fun O6270 => ?_)
            refine r_goto (tgt := 134) C dX12_readLine_126 (by decide) ?_
            exact k6244 O6270 trivial
          · refine r_if_eq (tgt := 129) C h6258.ir dX12_readLine_96 (by decide) (fun c6271 => ?_) (fun c6271 => ?_)
            · exact k6261 (Or.inl c6271)
            · refine r_aload_n (pc := 99) (j := 0) C dX12_readLine_99 rfl rfl ?_
              refine r_getOz (j := 43) C cl_X12 kd_262 ln_262 gc_262 (by decide) (by decide) rfl q_1596 dX12_readLine_100 (fun h6259 => ?_)
              refine r_if_ne (tgt := 129) C h6259.ir dX12_readLine_103 (by decide) (fun c6272 => ?_) (fun c6272 => ?_)
              · exact k6261 (Or.inr c6272)
              · exact k6262 (fun w => w.elim c6271 (fun x => x c6272))
        · refine r_bf c6255 ?_
          refine r_aload_n (pc := 67) (j := 0) C dX12_readLine_67 rfl rfl ?_
          refine r_iconst (v := 1) C dX12_readLine_68 (by decide) ?_
          refine r_bj ?_
          refine r_putOz C cl_X12 kd_262 ln_262 gc_262 (by decide) (by decide) rfl rfl rfl (BRd rfl) q_1595 dX12_readLine_69 (fun O6273 => ?_)
          refine r_aload_n (pc := 72) (j := 0) C dX12_readLine_72 rfl rfl ?_
          refine r_aload_n (pc := 73) (j := 0) C dX12_readLine_73 rfl rfl ?_
          refine r_ldc2 (v := 495740482675) C q_1856 dX12_readLine_74 (by decide) ?_
          refine r_iconst (v := 1) C dX12_readLine_77 (by decide) ?_
          refine r_bipush (v := 6) C dX12_readLine_78 (by decide) ?_
          refine r_bb ?_
          refine r_bd (fun q6275 e6276 => ?_)
          refine r_cV1 (pc := 80) (k := 262) (As := [.long (zl 495740482675), .int (zi 1), .int (zi 6)]) (st := [.ref (zad E 262)]) C (m_X12_told (a1 := 495740482675) (a3 := 1) (a4 := 6) (LRd rfl) (IRd rfl) (IRd rfl) e6276) cal_X12_told cl_X12 kd_262 ln_262 q_1874 dX12_readLine_80 rfl rfl (Nat.le_of_ble_eq_true rfl) (Nat.le_of_ble_eq_true rfl) (Nat.le_of_ble_eq_true rfl) (Nat.le_of_ble_eq_true rfl) (Nat.le_of_ble_eq_true rfl) (fun h6274 => ?_)
          refine r_bj ?_
          refine r_putO C cl_X12 kd_262 ln_262 gc_262 (by decide) (by decide) rfl rfl rfl h6274 q_1590 dX12_readLine_83 (fun O6277 => ?_)
          refine r_goto (tgt := 134) C dX12_readLine_86 (by decide) ?_
          exact k6244 O6277 trivial
        · refine r_if_eq (tgt := 89) C h6253.ir dX12_readLine_57 (by decide) (fun c6278 => ?_) (fun c6278 => ?_)
          · exact k6256 (Or.inl c6278)
          · refine r_aload_n (pc := 60) (j := 0) C dX12_readLine_60 rfl rfl ?_
            refine r_getOz (j := 42) C cl_X12 kd_262 ln_262 gc_262 (by decide) (by decide) rfl q_1595 dX12_readLine_61 (fun h6254 => ?_)
            refine r_if_ne (tgt := 89) C h6254.ir dX12_readLine_64 (by decide) (fun c6279 => ?_) (fun c6279 => ?_)
            · exact k6256 (Or.inr c6279)
            · exact k6257 (fun w => w.elim c6278 (fun x => x c6279))
      · refine r_bf c6250 ?_
        refine r_aload_n (pc := 43) (j := 0) C dX12_readLine_43 rfl rfl ?_
        refine r_bb ?_
        refine r_bd (fun q6281 e6282 => ?_)
        refine r_cV0 (pc := 44) (k := 262) (As := []) (st := []) C (m_X12_formula  e6282) cal_X12_formula cl_X12 kd_262 ln_262 q_1904 dX12_readLine_44 rfl rfl (Nat.le_of_ble_eq_true rfl) (Nat.le_of_ble_eq_true rfl) (Nat.le_of_ble_eq_true rfl) (Nat.le_of_ble_eq_true rfl) (Nat.le_of_ble_eq_true rfl) (fun h6280 => ?_)
        refine r_goto (tgt := 134) C dX12_readLine_47 (by decide) ?_
        exact k6244 q6281 trivial
      · refine r_if_eq (tgt := 50) C h6248.ir dX12_readLine_33 (by decide) (fun c6283 => ?_) (fun c6283 => ?_)
        · exact k6251 (Or.inl c6283)
        · refine r_aload_n (pc := 36) (j := 0) C dX12_readLine_36 rfl rfl ?_
          refine r_getOz (j := 23) C cl_X12 kd_262 ln_262 gc_262 (by decide) (by decide) rfl q_1576 dX12_readLine_37 (fun h6249 => ?_)
          refine r_if_ne (tgt := 50) C h6249.ir dX12_readLine_40 (by decide) (fun c6284 => ?_) (fun c6284 => ?_)
          · exact k6251 (Or.inr c6284)
          · exact k6252 (fun w => w.elim c6283 (fun x => x c6284))
    · refine r_bf c6245 ?_
      refine r_aload_n (pc := 19) (j := 0) C dX12_readLine_19 rfl rfl ?_
      refine r_bb ?_
      refine r_bd (fun q6286 e6287 => ?_)
      refine r_cV0 (pc := 20) (k := 262) (As := []) (st := []) C (m_X12_readSegment  e6287) cal_X12_readSegment cl_X12 kd_262 ln_262 q_1841 dX12_readLine_20 rfl rfl (Nat.le_of_ble_eq_true rfl) (Nat.le_of_ble_eq_true rfl) (Nat.le_of_ble_eq_true rfl) (Nat.le_of_ble_eq_true rfl) (Nat.le_of_ble_eq_true rfl) (fun h6285 => ?_)
      refine r_goto (tgt := 134) C dX12_readLine_23 (by decide) ?_
      exact k6244 q6286 trivial
    · refine r_if_eq (tgt := 26) C h6239.ir dX12_readLine_7 (by decide) (fun c6288 => ?_) (fun c6288 => ?_)
      · exact k6246 (Or.inl c6288)
      · refine r_aload_n (pc := 10) (j := 0) C dX12_readLine_10 rfl rfl ?_
        refine r_getO (j := 36) C cl_X12 kd_262 ln_262 gc_262 (by decide) (by decide) rfl q_1589 dX12_readLine_11 (fun h6240 => ?_)
        refine r_bipush (v := 8) C dX12_readLine_14 (by decide) ?_
        refine r_icmp_ge (tgt := 26) C h6240 (IRd rfl) dX12_readLine_16 (by decide) (fun c6289 => ?_) (fun c6289 => ?_)
        · exact k6246 (Or.inr c6289)
        · exact k6247 (fun w => w.elim c6288 (fun x => x c6289))

def f_X12_readAll (O : Smo) : Option (Smo) :=
  jn (up2 O 262 5 (O 262 1)) fun (O6310 : Smo) =>
  jn (up2 O6310 262 1 0) fun (O6311 : Smo) =>
  jn (up2 O6311 262 4 0) fun (O6312 : Smo) =>
  jn (up2 O6312 262 2 0) fun (O6313 : Smo) =>
  jn (up2 O6313 262 3 (-1)) fun (O6314 : Smo) =>
  jn (up2 O6314 262 36 0) fun (O6315 : Smo) =>
  jn (up2 O6315 262 37 3) fun (O6316 : Smo) =>
  jn (up2 O6316 262 38 0) fun (O6317 : Smo) =>
  jn (up2 O6317 262 42 0) fun (O6318 : Smo) =>
  jn (up2 O6318 262 43 0) fun (O6319 : Smo) =>
  jn (up2 O6319 262 23 0) fun (O6320 : Smo) =>
  jn (up2 O6320 262 19 0) fun (O6321 : Smo) =>
  Option.bind (f_X12_token O6321) fun (q6323 : Smo) =>
  Option.bind (lp (fun (s6325 : Smo) =>
    if (s6325 262 2 = 0 ∧ ¬ s6325 262 6 = 0) then
      (Option.bind (f_X12_readLine s6325) fun (q6337 : Smo) =>
      some (Sum.inl q6337))
    else
      (some (Sum.inr s6325))) FU q6323) fun (r6341 : Smo) =>
  some r6341
set_option maxRecDepth 100000 in
set_option maxHeartbeats 4000000 in
theorem m_X12_readAll {l : Launch} {E : EwT} {S : Sst} {O : Smo}  {q : Smo} (hq : f_X12_readAll O = some q) : MetG l E yX12_readAll cX12_readAll 1 none 6 132 0 0 n0 R0 S O [.ref (zad E 262)] (True) none n0 R0 S q := by
  refine ofG (L0 := [(0, .ref (zad E 262))]) hq (by decide +kernel) (Nat.le_of_ble_eq_true rfl) rfl (fun K _ C hQ => ?_)
  unfold f_X12_readAll
  refine r_aload_n (pc := 0) (j := 0) C dX12_readAll_0 rfl rfl ?_
  refine r_aload_n (pc := 1) (j := 0) C dX12_readAll_1 rfl rfl ?_
  refine r_getO (j := 1) C cl_X12 kd_262 ln_262 gc_262 (by decide) (by decide) rfl q_1554 dX12_readAll_2 (fun h6309 => ?_)
  refine r_putO C cl_X12 kd_262 ln_262 gc_262 (by decide) (by decide) rfl rfl rfl h6309 q_1558 dX12_readAll_5 (fun O6310 => ?_)
  refine r_aload_n (pc := 8) (j := 0) C dX12_readAll_8 rfl rfl ?_
  refine r_iconst (v := 0) C dX12_readAll_9 (by decide) ?_
  refine r_putO C cl_X12 kd_262 ln_262 gc_262 (by decide) (by decide) rfl rfl rfl (IRd rfl) q_1554 dX12_readAll_10 (fun O6311 => ?_)
  refine r_aload_n (pc := 13) (j := 0) C dX12_readAll_13 rfl rfl ?_
  refine r_iconst (v := 0) C dX12_readAll_14 (by decide) ?_
  refine r_putO C cl_X12 kd_262 ln_262 gc_262 (by decide) (by decide) rfl rfl rfl (IRd rfl) q_1557 dX12_readAll_15 (fun O6312 => ?_)
  refine r_aload_n (pc := 18) (j := 0) C dX12_readAll_18 rfl rfl ?_
  refine r_iconst (v := 0) C dX12_readAll_19 (by decide) ?_
  refine r_putO C cl_X12 kd_262 ln_262 gc_262 (by decide) (by decide) rfl rfl rfl (IRd rfl) q_1555 dX12_readAll_20 (fun O6313 => ?_)
  refine r_aload_n (pc := 23) (j := 0) C dX12_readAll_23 rfl rfl ?_
  refine r_iconst (v := (-1)) C dX12_readAll_24 (by decide) ?_
  refine r_putO C cl_X12 kd_262 ln_262 gc_262 (by decide) (by decide) rfl rfl rfl (IRd rfl) q_1556 dX12_readAll_25 (fun O6314 => ?_)
  refine r_aload_n (pc := 28) (j := 0) C dX12_readAll_28 rfl rfl ?_
  refine r_iconst (v := 0) C dX12_readAll_29 (by decide) ?_
  refine r_putO C cl_X12 kd_262 ln_262 gc_262 (by decide) (by decide) rfl rfl rfl (IRd rfl) q_1589 dX12_readAll_30 (fun O6315 => ?_)
  refine r_aload_n (pc := 33) (j := 0) C dX12_readAll_33 rfl rfl ?_
  refine r_iconst (v := 3) C dX12_readAll_34 (by decide) ?_
  refine r_putO C cl_X12 kd_262 ln_262 gc_262 (by decide) (by decide) rfl rfl rfl (IRd rfl) q_1590 dX12_readAll_35 (fun O6316 => ?_)
  refine r_aload_n (pc := 38) (j := 0) C dX12_readAll_38 rfl rfl ?_
  refine r_iconst (v := 0) C dX12_readAll_39 (by decide) ?_
  refine r_putO C cl_X12 kd_262 ln_262 gc_262 (by decide) (by decide) rfl rfl rfl (IRd rfl) q_1591 dX12_readAll_40 (fun O6317 => ?_)
  refine r_aload_n (pc := 43) (j := 0) C dX12_readAll_43 rfl rfl ?_
  refine r_iconst (v := 0) C dX12_readAll_44 (by decide) ?_
  refine r_putOz C cl_X12 kd_262 ln_262 gc_262 (by decide) (by decide) rfl rfl rfl (BRd rfl) q_1595 dX12_readAll_45 (fun O6318 => ?_)
  refine r_aload_n (pc := 48) (j := 0) C dX12_readAll_48 rfl rfl ?_
  refine r_iconst (v := 0) C dX12_readAll_49 (by decide) ?_
  refine r_putOz C cl_X12 kd_262 ln_262 gc_262 (by decide) (by decide) rfl rfl rfl (BRd rfl) q_1596 dX12_readAll_50 (fun O6319 => ?_)
  refine r_aload_n (pc := 53) (j := 0) C dX12_readAll_53 rfl rfl ?_
  refine r_iconst (v := 0) C dX12_readAll_54 (by decide) ?_
  refine r_putOz C cl_X12 kd_262 ln_262 gc_262 (by decide) (by decide) rfl rfl rfl (BRd rfl) q_1576 dX12_readAll_55 (fun O6320 => ?_)
  refine r_aload_n (pc := 58) (j := 0) C dX12_readAll_58 rfl rfl ?_
  refine r_iconst (v := 0) C dX12_readAll_59 (by decide) ?_
  refine r_putO C cl_X12 kd_262 ln_262 gc_262 (by decide) (by decide) rfl rfl rfl (IRd rfl) q_1572 dX12_readAll_60 (fun O6321 => ?_)
  refine r_aload_n (pc := 63) (j := 0) C dX12_readAll_63 rfl rfl ?_
  refine r_bd (fun q6323 e6324 => ?_)
  refine r_cV0 (pc := 64) (k := 262) (As := []) (st := []) C (m_X12_token  e6324) cal_X12_token cl_X12 kd_262 ln_262 q_1815 dX12_readAll_64 rfl rfl (Nat.le_of_ble_eq_true rfl) (Nat.le_of_ble_eq_true rfl) (Nat.le_of_ble_eq_true rfl) (Nat.le_of_ble_eq_true rfl) (Nat.le_of_ble_eq_true rfl) (fun h6322 => ?_)
  refine r_loop1 (fun s6325 : Smo => True) (fun s6325 => S) (fun s6325 => s6325) (fun s6325 => [(0, .ref (zad E 262))]) [] (fun r6341 : Smo => True) (fun r6341 => S) (fun r6341 => r6341) (fun r6341 => []) 88 (fun r6341 h6342 => ?_) (fun k6327 k6329 k6328 k6330 s6325 h6326 => ?_) trivial
  · exact r_return C hQ dX12_readAll_88 (fun e => by cases e; exact ⟨trivial, rfl, rfl, rfl, rfl, rfl⟩)
  · refine r_aload_n (pc := 67) (j := 0) C dX12_readAll_67 rfl rfl ?_
    refine r_getO (j := 2) C cl_X12 kd_262 ln_262 gc_262 (by decide) (by decide) rfl q_1555 dX12_readAll_68 (fun h6331 => ?_)
    refine r_cut (s6325 262 2 = 0 ∧ ¬ s6325 262 6 = 0) 81 88 [] (fun c6333 => ?_) (fun c6333 => ?_) (fun k6334 k6335 => ?_)
    · refine r_bt c6333 ?_
      refine r_aload_n (pc := 81) (j := 0) C dX12_readAll_81 rfl rfl ?_
      refine r_bb ?_
      refine r_bd (fun q6337 e6338 => ?_)
      refine r_cV0 (pc := 82) (k := 262) (As := []) (st := []) C (m_X12_readLine  e6338) cal_X12_readLine cl_X12 kd_262 ln_262 q_1832 dX12_readAll_82 rfl rfl (Nat.le_of_ble_eq_true rfl) (Nat.le_of_ble_eq_true rfl) (Nat.le_of_ble_eq_true rfl) (Nat.le_of_ble_eq_true rfl) (Nat.le_of_ble_eq_true rfl) (fun h6336 => ?_)
      refine r_goto (tgt := 67) C dX12_readAll_85 (by decide) ?_
      exact k6328 q6337 trivial
    · refine r_bf c6333 ?_
      refine r_L (L' := []) [] rfl ?_
      exact k6330 s6325 trivial
    · refine r_if_ne (tgt := 88) C h6331 dX12_readAll_71 (by decide) (fun c6339 => ?_) (fun c6339 => ?_)
      · exact k6335 (fun w => c6339 w.1)
      · refine r_aload_n (pc := 74) (j := 0) C dX12_readAll_74 rfl rfl ?_
        refine r_getO (j := 6) C cl_X12 kd_262 ln_262 gc_262 (by decide) (by decide) rfl q_1559 dX12_readAll_75 (fun h6332 => ?_)
        refine r_if_eq (tgt := 88) C h6332 dX12_readAll_78 (by decide) (fun c6340 => ?_) (fun c6340 => ?_)
        · exact k6335 (fun w => w.2 c6340)
        · exact k6334 ⟨c6339, c6340⟩

def f_X12_layEvents (O : Smo) : Option (Smo) :=
  jn (up2 O 262 45 0) fun (O6416 : Smo) =>
  Option.bind (lp (fun (s6417 : Int × Smo) =>
    if 60 < s6417.1 then
      (some (Sum.inr s6417.2))
    else
      (Option.bind (lp (fun (s6424 : Int × Int) =>
        if s6424.2 < s6417.2 262 39 then
          (Option.bind (
            if s6424.1 = 0 then
              (Option.bind (aget (s6417.2 276) (Ln 276) s6424.2) fun (v6437 : Int) =>
              jk (fun (q6439 : Unit) =>
                some 1) fun k6441 =>
              if v6437 = s6417.1 then
                (k6441 ())
              else
                (Option.bind (aget (s6417.2 278) (Ln 278) s6424.2) fun (v6444 : Int) =>
                if v6444 = s6417.1 then
                  (k6441 ())
                else
                  (some 0)))
            else
              (some 1)) fun (q6432 : Int) =>
          some (Sum.inl (q6432, wr (s6424.2 + 1))))
        else
          (some (Sum.inr s6424.1))) FU (0, 0)) fun (r6447 : Int) =>
      Option.bind (
        if r6447 = 0 then
          (some s6417.2)
        else
          (Option.bind (asetO s6417.2 281 (Ln 281) (s6417.2 262 45) s6417.1) fun (O6455 : Smo) =>
          jn (up2 O6455 262 45 (wr ((O6455 262 45) + 1))) fun (O6457 : Smo) =>
          some O6457)) fun (q6449 : Smo) =>
      some (Sum.inl (wr (s6417.1 + 1), q6449)))) FU (0, O6416)) fun (r6458 : Smo) =>
  some r6458
set_option maxRecDepth 100000 in
set_option maxHeartbeats 4000000 in
theorem m_X12_layEvents {l : Launch} {E : EwT} {S : Sst} {O : Smo}  {q : Smo} (hq : f_X12_layEvents O = some q) : MetG l E yX12_layEvents cX12_layEvents 4 none 0 0 0 0 n0 R0 S O [.ref (zad E 262)] (True) none n0 R0 S q := by
  refine ofG (L0 := [(0, .ref (zad E 262))]) hq (by decide +kernel) (Nat.le_of_ble_eq_true rfl) rfl (fun K _ C hQ => ?_)
  unfold f_X12_layEvents
  refine r_aload_n (pc := 0) (j := 0) C dX12_layEvents_0 rfl rfl ?_
  refine r_iconst (v := 0) C dX12_layEvents_1 (by decide) ?_
  refine r_putO C cl_X12 kd_262 ln_262 gc_262 (by decide) (by decide) rfl rfl rfl (IRd rfl) q_1598 dX12_layEvents_2 (fun O6416 => ?_)
  refine r_iconst (v := 0) C dX12_layEvents_5 (by decide) ?_
  refine r_istore_n (L' := [(1, .int (zi 0)), (0, .ref (zad E 262))]) C dX12_layEvents_6 rfl (by decide) rfl ?_
  refine r_L (L' := [(0, .ref (zad E 262)), (1, .int (zi 0))]) [1, 0] rfl ?_
  refine r_loop1 (fun s6417 : Int × Smo => IR s6417.1) (fun s6417 => S) (fun s6417 => s6417.2) (fun s6417 => [(0, .ref (zad E 262)), (1, .int (zi s6417.1))]) [] (fun r6458 : Smo => True) (fun r6458 => S) (fun r6458 => r6458) (fun r6458 => []) 94 (fun r6458 h6459 => ?_) (fun k6419 k6421 k6420 k6422 s6417 h6418 => ?_) (IRd rfl)
  · exact r_return C hQ dX12_layEvents_94 (fun e => by cases e; exact ⟨trivial, rfl, rfl, rfl, rfl, rfl⟩)
  · refine r_iload_n (pc := 7) (j := 1) C dX12_layEvents_7 rfl rfl ?_
    refine r_bipush (v := 60) C dX12_layEvents_8 (by decide) ?_
    refine r_icmp_gt (tgt := 94) C h6418 (IRd rfl) dX12_layEvents_10 (by decide) (fun c6423 => ?_) (fun c6423 => ?_)
    · refine r_bt c6423 ?_
      refine r_L (L' := []) [] rfl ?_
      exact k6422 s6417.2 trivial
    · refine r_bf c6423 ?_
      refine r_iconst (v := 0) C dX12_layEvents_13 (by decide) ?_
      refine r_istore_n (L' := [(2, .int (zi 0)), (0, .ref (zad E 262)), (1, .int (zi s6417.1))]) C dX12_layEvents_14 rfl (by decide) rfl ?_
      refine r_iconst (v := 0) C dX12_layEvents_15 (by decide) ?_
      refine r_istore_n (L' := [(3, .int (zi 0)), (2, .int (zi 0)), (0, .ref (zad E 262)), (1, .int (zi s6417.1))]) C dX12_layEvents_16 rfl (by decide) rfl ?_
      refine r_L (L' := [(0, .ref (zad E 262)), (1, .int (zi s6417.1)), (2, .int (zi 0)), (3, .int (zi 0))]) [2, 3, 1, 0] rfl ?_
      refine r_bb ?_
      refine r_loop1 (fun s6424 : Int × Int => BR s6424.1 ∧ IR s6424.2) (fun s6424 => S) (fun s6424 => s6417.2) (fun s6424 => [(0, .ref (zad E 262)), (1, .int (zi s6417.1)), (2, .int (zi s6424.1)), (3, .int (zi s6424.2))]) [] (fun r6447 : Int => BR r6447) (fun r6447 => S) (fun r6447 => s6417.2) (fun r6447 => [(0, .ref (zad E 262)), (1, .int (zi s6417.1)), (2, .int (zi r6447))]) 61 (fun r6447 h6448 => ?_) (fun k6426 k6428 k6427 k6429 s6424 h6425 => ?_) ⟨(BRd rfl), (IRd rfl)⟩
      · refine r_iload_n (pc := 61) (j := 2) C dX12_layEvents_61 rfl rfl ?_
        refine r_bb ?_
        refine r_joinb (fun q6449 : Smo => True) (fun q6449 => S) (fun q6449 => q6449) (fun q6449 => [(0, .ref (zad E 262)), (1, .int (zi s6417.1))]) 88 (fun q6449 => []) (fun q6449 h6450 => ?_) (fun k6451 k6452 => ?_)
        · refine r_iinc (j := 1) (L' := [(1, .int (zi (wr (s6417.1 + 1)))), (0, .ref (zad E 262))]) C dX12_layEvents_88 rfl (by decide) rfl ?_
          refine r_goto (tgt := 7) C dX12_layEvents_91 (by decide) ?_
          refine r_L (L' := [(0, .ref (zad E 262)), (1, .int (zi (wr (s6417.1 + 1))))]) [1, 0] rfl ?_
          exact k6420 (wr (s6417.1 + 1), q6449) (IR_wr _)
        · refine r_if_ne (tgt := 68) C h6448.ir dX12_layEvents_62 (by decide) (fun c6453 => ?_) (fun c6453 => ?_)
          · refine r_bf c6453 ?_
            refine r_aload_n (pc := 68) (j := 0) C dX12_layEvents_68 rfl rfl ?_
            refine r_getR (j := 44) (r := 281) C cl_X12 kd_262 ln_262 (by decide) rfl r0_262_44 (by decide) q_1597 dX12_layEvents_69 ?_
            refine r_aload_n (pc := 72) (j := 0) C dX12_layEvents_72 rfl rfl ?_
            refine r_getO (j := 45) C cl_X12 kd_262 ln_262 gc_262 (by decide) (by decide) rfl q_1598 dX12_layEvents_73 (fun h6454 => ?_)
            refine r_iload_n (pc := 76) (j := 1) C dX12_layEvents_76 rfl rfl ?_
            refine r_bb ?_
            refine r_iast C kd_281 ln_281 gc_281 h6454 h6418 dX12_layEvents_77 (fun O6455 => ?_)
            refine r_aload_n (pc := 78) (j := 0) C dX12_layEvents_78 rfl rfl ?_
            refine r_dup C dX12_layEvents_79 rfl ?_
            refine r_getO (j := 45) C cl_X12 kd_262 ln_262 gc_262 (by decide) (by decide) rfl q_1598 dX12_layEvents_80 (fun h6456 => ?_)
            refine r_iconst (v := 1) C dX12_layEvents_83 (by decide) ?_
            refine r_iadd C dX12_layEvents_84 ?_
            refine r_bj ?_
            refine r_putO C cl_X12 kd_262 ln_262 gc_262 (by decide) (by decide) rfl rfl rfl (IR_wr _) q_1598 dX12_layEvents_85 (fun O6457 => ?_)
            refine r_L (L' := [(0, .ref (zad E 262)), (1, .int (zi s6417.1))]) [0, 1] rfl ?_
            exact k6452 O6457 trivial
          · refine r_bt c6453 ?_
            refine r_goto (tgt := 88) C dX12_layEvents_65 (by decide) ?_
            refine r_L (L' := [(0, .ref (zad E 262)), (1, .int (zi s6417.1))]) [0, 1] rfl ?_
            exact k6452 s6417.2 trivial
      · refine r_iload_n (pc := 17) (j := 3) C dX12_layEvents_17 rfl rfl ?_
        refine r_aload_n (pc := 18) (j := 0) C dX12_layEvents_18 rfl rfl ?_
        refine r_getO (j := 39) C cl_X12 kd_262 ln_262 gc_262 (by decide) (by decide) rfl q_1592 dX12_layEvents_19 (fun h6430 => ?_)
        refine r_icmp_ge (tgt := 61) C h6425.2 h6430 dX12_layEvents_22 (by decide) (fun c6431 => ?_) (fun c6431 => ?_)
        · refine r_bf c6431 ?_
          refine r_L (L' := [(0, .ref (zad E 262)), (1, .int (zi s6417.1)), (2, .int (zi s6424.1))]) [0, 1, 2] rfl ?_
          exact k6429 s6424.1 h6425.1
        · refine r_bt c6431 ?_
          refine r_iload_n (pc := 25) (j := 2) C dX12_layEvents_25 rfl rfl ?_
          refine r_bb ?_
          refine r_joinb (fun q6432 : Int => BR q6432) (fun q6432 => S) (fun q6432 => s6417.2) (fun q6432 => [(0, .ref (zad E 262)), (1, .int (zi s6417.1)), (3, .int (zi s6424.2))]) 54 (fun q6432 => [.int (zi q6432)]) (fun q6432 h6433 => ?_) (fun k6434 k6435 => ?_)
          · refine r_istore_n (L' := [(2, .int (zi q6432)), (0, .ref (zad E 262)), (1, .int (zi s6417.1)), (3, .int (zi s6424.2))]) C dX12_layEvents_54 rfl (by decide) rfl ?_
            refine r_iinc (j := 3) (L' := [(3, .int (zi (wr (s6424.2 + 1)))), (2, .int (zi q6432)), (0, .ref (zad E 262)), (1, .int (zi s6417.1))]) C dX12_layEvents_55 rfl (by decide) rfl ?_
            refine r_goto (tgt := 17) C dX12_layEvents_58 (by decide) ?_
            refine r_L (L' := [(0, .ref (zad E 262)), (1, .int (zi s6417.1)), (2, .int (zi q6432)), (3, .int (zi (wr (s6424.2 + 1))))]) [2, 3, 1, 0] rfl ?_
            exact k6427 (q6432, wr (s6424.2 + 1)) ⟨h6433, (IR_wr _)⟩
          · refine r_if_ne (tgt := 49) C h6425.1.ir dX12_layEvents_26 (by decide) (fun c6436 => ?_) (fun c6436 => ?_)
            · refine r_bf c6436 ?_
              refine r_iconst (v := 1) C dX12_layEvents_49 (by decide) ?_
              refine r_goto (tgt := 54) C dX12_layEvents_50 (by decide) ?_
              refine r_L (L' := [(0, .ref (zad E 262)), (1, .int (zi s6417.1)), (3, .int (zi s6424.2))]) [0, 1, 3] rfl ?_
              exact k6435 1 (BRd rfl)
            · refine r_bt c6436 ?_
              refine r_aload_n (pc := 29) (j := 0) C dX12_layEvents_29 rfl rfl ?_
              refine r_getR (j := 31) (r := 276) C cl_X12 kd_262 ln_262 (by decide) rfl r0_262_31 (by decide) q_1584 dX12_layEvents_30 ?_
              refine r_iload_n (pc := 33) (j := 3) C dX12_layEvents_33 rfl rfl ?_
              refine r_bb ?_
              refine r_iald C kd_276 ln_276 gc_276 h6425.2 dX12_layEvents_34 (fun v6437 h6438 => ?_)
              refine r_iload_n (pc := 35) (j := 1) C dX12_layEvents_35 rfl rfl ?_
              refine r_jkb (fun q6439 : Unit => True) (fun q6439 => S) (fun q6439 => s6417.2) (fun q6439 => [(0, .ref (zad E 262)), (1, .int (zi s6417.1)), (3, .int (zi s6424.2))]) 49 (fun q6439 => []) (fun q6439 h6440 => ?_) (fun k6441 k6442 => ?_)
              · refine r_iconst (v := 1) C dX12_layEvents_49 (by decide) ?_
                refine r_goto (tgt := 54) C dX12_layEvents_50 (by decide) ?_
                exact k6435 1 (BRd rfl)
              · refine r_icmp_eq (tgt := 49) C h6438 h6418 dX12_layEvents_36 (by decide) (fun c6443 => ?_) (fun c6443 => ?_)
                · refine r_bt c6443 ?_
                  refine r_L (L' := [(0, .ref (zad E 262)), (1, .int (zi s6417.1)), (3, .int (zi s6424.2))]) [0, 1, 3] rfl ?_
                  exact k6442 () trivial
                · refine r_bf c6443 ?_
                  refine r_aload_n (pc := 39) (j := 0) C dX12_layEvents_39 rfl rfl ?_
                  refine r_getR (j := 33) (r := 278) C cl_X12 kd_262 ln_262 (by decide) rfl r0_262_33 (by decide) q_1586 dX12_layEvents_40 ?_
                  refine r_iload_n (pc := 43) (j := 3) C dX12_layEvents_43 rfl rfl ?_
                  refine r_bb ?_
                  refine r_iald C kd_278 ln_278 gc_278 h6425.2 dX12_layEvents_44 (fun v6444 h6445 => ?_)
                  refine r_iload_n (pc := 45) (j := 1) C dX12_layEvents_45 rfl rfl ?_
                  refine r_icmp_ne (tgt := 53) C h6445 h6418 dX12_layEvents_46 (by decide) (fun c6446 => ?_) (fun c6446 => ?_)
                  · refine r_bf c6446 ?_
                    refine r_iconst (v := 0) C dX12_layEvents_53 (by decide) ?_
                    refine r_L (L' := [(0, .ref (zad E 262)), (1, .int (zi s6417.1)), (3, .int (zi s6424.2))]) [0, 1, 3] rfl ?_
                    exact k6435 0 (BRd rfl)
                  · refine r_bt c6446 ?_
                    refine r_L (L' := [(0, .ref (zad E 262)), (1, .int (zi s6417.1)), (3, .int (zi s6424.2))]) [0, 1, 3] rfl ?_
                    exact k6442 () trivial

def f_X12_map (O : Smo) : Option (Int × Smo) :=
  Option.bind (f_X12_readAll O) fun (q6820 : Smo) =>
  if 0 < q6820 262 2 then
    (some ((-1), q6820))
  else
    (jn (up2 q6820 262 39 (q6820 262 36)) fun (O6825 : Smo) =>
    jn (up2 O6825 262 40 (O6825 262 37)) fun (O6827 : Smo) =>
    jn (up2 O6827 262 41 (O6827 262 38)) fun (O6829 : Smo) =>
    jn (up2 O6829 262 20 (O6829 262 19)) fun (O6831 : Smo) =>
    jn (up2 O6831 262 24 (O6831 262 23)) fun (O6833 : Smo) =>
    jn (
      if O6833 262 23 = 0 then
        (0)
      else
        (O6833 262 16)) fun (q6835 : Int) =>
    jn (up2 O6833 262 17 q6835) fun (O6841 : Smo) =>
    Option.bind (lp (fun (s6842 : Int × Smo) =>
      if s6842.1 < s6842.2 262 17 then
        (Option.bind (aget (s6842.2 264) (Ln 264) s6842.1) fun (v6850 : Int) =>
        Option.bind (asetO s6842.2 266 (Ln 266) s6842.1 v6850) fun (O6852 : Smo) =>
        Option.bind (aget (O6852 265) (Ln 265) s6842.1) fun (v6853 : Int) =>
        Option.bind (asetO O6852 267 (Ln 267) s6842.1 v6853) fun (O6855 : Smo) =>
        some (Sum.inl (wr (s6842.1 + 1), O6855)))
      else
        (some (Sum.inr s6842.2))) FU (0, O6841)) fun (r6856 : Smo) =>
    Option.bind (lp (fun (s6858 : Int × Smo) =>
      if s6858.1 < s6858.2 262 39 then
        (Option.bind (aget (s6858.2 272) (Ln 272) s6858.1) fun (v6866 : Int) =>
        Option.bind (asetO s6858.2 276 (Ln 276) s6858.1 v6866) fun (O6868 : Smo) =>
        Option.bind (aget (O6868 273) (Ln 273) s6858.1) fun (v6869 : Int) =>
        Option.bind (asetO O6868 277 (Ln 277) s6858.1 v6869) fun (O6871 : Smo) =>
        Option.bind (aget (O6871 274) (Ln 274) s6858.1) fun (v6872 : Int) =>
        Option.bind (asetO O6871 278 (Ln 278) s6858.1 v6872) fun (O6874 : Smo) =>
        Option.bind (aget (O6874 275) (Ln 275) s6858.1) fun (v6875 : Int) =>
        Option.bind (asetO O6874 279 (Ln 279) s6858.1 v6875) fun (O6877 : Smo) =>
        some (Sum.inl (wr (s6858.1 + 1), O6877)))
      else
        (some (Sum.inr s6858.2))) FU (0, r6856)) fun (r6878 : Smo) =>
    Option.bind (lp (fun (s6880 : Int × Smo) =>
      if s6880.1 < s6880.2 262 39 then
        (Option.bind (f_X12_weightOf s6880.1 s6880.2) fun (q6889 : Int × Smo) =>
        Option.bind (asetO q6889.2 280 (Ln 280) s6880.1 q6889.1) fun (O6891 : Smo) =>
        some (Sum.inl (wr (s6880.1 + 1), O6891)))
      else
        (some (Sum.inr s6880.2))) FU (0, r6878)) fun (r6892 : Smo) =>
    Option.bind (f_X12_layEvents r6892) fun (q6895 : Smo) =>
    jn (up2 q6895 262 47 0) fun (O6897 : Smo) =>
    jn (up2 O6897 262 48 0) fun (O6898 : Smo) =>
    jn (up2 O6898 262 49 0) fun (O6899 : Smo) =>
    Option.bind (lp (fun (s6900 : Int × Smo) =>
      if s6900.1 < 205 then
        (Option.bind (asetO s6900.2 282 (Ln 282) s6900.1 0) fun (O6907 : Smo) =>
        some (Sum.inl (wr (s6900.1 + 1), O6907)))
      else
        (some (Sum.inr s6900.2))) FU (0, O6899)) fun (r6908 : Smo) =>
    jn (up2 r6908 262 73 0) fun (O6910 : Smo) =>
    jn (up2 O6910 262 62 0) fun (O6911 : Smo) =>
    Option.bind (lp (fun (s6912 : Int × Smo) =>
      if s6912.1 < 3 then
        (Option.bind (asetO s6912.2 304 (Ln 304) s6912.1 0) fun (O6919 : Smo) =>
        some (Sum.inl (wr (s6912.1 + 1), O6919)))
      else
        (some (Sum.inr s6912.2))) FU (0, O6911)) fun (r6920 : Smo) =>
    some (r6920 262 39, r6920))
set_option maxRecDepth 100000 in
set_option maxHeartbeats 4000000 in
theorem m_X12_map {l : Launch} {E : EwT} {S : Sst} {O : Smo}  {q : Int × Smo} (hq : f_X12_map O = some q) : MetG l E yX12_map cX12_map 2 (some .int) 7 152 0 0 n0 R0 S O [.ref (zad E 262)] (IR q.1) (some (.int (zi q.1))) n0 R0 S q.2 := by
  refine ofG (L0 := [(0, .ref (zad E 262))]) hq (by decide +kernel) (Nat.le_of_ble_eq_true rfl) rfl (fun K _ C hQ => ?_)
  unfold f_X12_map
  refine r_aload_n (pc := 0) (j := 0) C dX12_map_0 rfl rfl ?_
  refine r_bd (fun q6820 e6821 => ?_)
  refine r_cV0 (pc := 1) (k := 262) (As := []) (st := []) C (m_X12_readAll  e6821) cal_X12_readAll cl_X12 kd_262 ln_262 q_1811 dX12_map_1 rfl rfl (Nat.le_of_ble_eq_true rfl) (Nat.le_of_ble_eq_true rfl) (Nat.le_of_ble_eq_true rfl) (Nat.le_of_ble_eq_true rfl) (Nat.le_of_ble_eq_true rfl) (fun h6819 => ?_)
  refine r_aload_n (pc := 4) (j := 0) C dX12_map_4 rfl rfl ?_
  refine r_getO (j := 2) C cl_X12 kd_262 ln_262 gc_262 (by decide) (by decide) rfl q_1555 dX12_map_5 (fun h6822 => ?_)
  refine r_if_le (tgt := 13) C h6822 dX12_map_8 (by decide) (fun c6823 => ?_) (fun c6823 => ?_)
  · refine r_f c6823 ?_
    refine r_aload_n (pc := 13) (j := 0) C dX12_map_13 rfl rfl ?_
    refine r_aload_n (pc := 14) (j := 0) C dX12_map_14 rfl rfl ?_
    refine r_getO (j := 36) C cl_X12 kd_262 ln_262 gc_262 (by decide) (by decide) rfl q_1589 dX12_map_15 (fun h6824 => ?_)
    refine r_putO C cl_X12 kd_262 ln_262 gc_262 (by decide) (by decide) rfl rfl rfl h6824 q_1592 dX12_map_18 (fun O6825 => ?_)
    refine r_aload_n (pc := 21) (j := 0) C dX12_map_21 rfl rfl ?_
    refine r_aload_n (pc := 22) (j := 0) C dX12_map_22 rfl rfl ?_
    refine r_getO (j := 37) C cl_X12 kd_262 ln_262 gc_262 (by decide) (by decide) rfl q_1590 dX12_map_23 (fun h6826 => ?_)
    refine r_putO C cl_X12 kd_262 ln_262 gc_262 (by decide) (by decide) rfl rfl rfl h6826 q_1593 dX12_map_26 (fun O6827 => ?_)
    refine r_aload_n (pc := 29) (j := 0) C dX12_map_29 rfl rfl ?_
    refine r_aload_n (pc := 30) (j := 0) C dX12_map_30 rfl rfl ?_
    refine r_getO (j := 38) C cl_X12 kd_262 ln_262 gc_262 (by decide) (by decide) rfl q_1591 dX12_map_31 (fun h6828 => ?_)
    refine r_putO C cl_X12 kd_262 ln_262 gc_262 (by decide) (by decide) rfl rfl rfl h6828 q_1594 dX12_map_34 (fun O6829 => ?_)
    refine r_aload_n (pc := 37) (j := 0) C dX12_map_37 rfl rfl ?_
    refine r_aload_n (pc := 38) (j := 0) C dX12_map_38 rfl rfl ?_
    refine r_getO (j := 19) C cl_X12 kd_262 ln_262 gc_262 (by decide) (by decide) rfl q_1572 dX12_map_39 (fun h6830 => ?_)
    refine r_putO C cl_X12 kd_262 ln_262 gc_262 (by decide) (by decide) rfl rfl rfl h6830 q_1573 dX12_map_42 (fun O6831 => ?_)
    refine r_aload_n (pc := 45) (j := 0) C dX12_map_45 rfl rfl ?_
    refine r_aload_n (pc := 46) (j := 0) C dX12_map_46 rfl rfl ?_
    refine r_getOz (j := 23) C cl_X12 kd_262 ln_262 gc_262 (by decide) (by decide) rfl q_1576 dX12_map_47 (fun h6832 => ?_)
    refine r_putOz C cl_X12 kd_262 ln_262 gc_262 (by decide) (by decide) rfl rfl rfl h6832 q_1577 dX12_map_50 (fun O6833 => ?_)
    refine r_aload_n (pc := 53) (j := 0) C dX12_map_53 rfl rfl ?_
    refine r_aload_n (pc := 54) (j := 0) C dX12_map_54 rfl rfl ?_
    refine r_getOz (j := 23) C cl_X12 kd_262 ln_262 gc_262 (by decide) (by decide) rfl q_1576 dX12_map_55 (fun h6834 => ?_)
    refine r_join (fun q6835 : Int => IR q6835) (fun q6835 => S) (fun q6835 => O6833) (fun q6835 => [(0, .ref (zad E 262))]) 69 (fun q6835 => [.int (zi q6835), .ref (zad E 262)]) (fun q6835 h6836 => ?_) (fun k6837 k6838 => ?_)
    · refine r_putO C cl_X12 kd_262 ln_262 gc_262 (by decide) (by decide) rfl rfl rfl h6836 q_1570 dX12_map_69 (fun O6841 => ?_)
      refine r_iconst (v := 0) C dX12_map_72 (by decide) ?_
      refine r_istore_n (L' := [(1, .int (zi 0)), (0, .ref (zad E 262))]) C dX12_map_73 rfl (by decide) rfl ?_
      refine r_L (L' := [(0, .ref (zad E 262)), (1, .int (zi 0))]) [1, 0] rfl ?_
      refine r_loop1 (fun s6842 : Int × Smo => IR s6842.1) (fun s6842 => S) (fun s6842 => s6842.2) (fun s6842 => [(0, .ref (zad E 262)), (1, .int (zi s6842.1))]) [] (fun r6856 : Smo => True) (fun r6856 => S) (fun r6856 => r6856) (fun r6856 => [(0, .ref (zad E 262))]) 112 (fun r6856 h6857 => ?_) (fun k6844 k6846 k6845 k6847 s6842 h6843 => ?_) (IRd rfl)
      · refine r_iconst (v := 0) C dX12_map_112 (by decide) ?_
        refine r_istore_n (L' := [(1, .int (zi 0)), (0, .ref (zad E 262))]) C dX12_map_113 rfl (by decide) rfl ?_
        refine r_L (L' := [(0, .ref (zad E 262)), (1, .int (zi 0))]) [1, 0] rfl ?_
        refine r_loop1 (fun s6858 : Int × Smo => IR s6858.1) (fun s6858 => S) (fun s6858 => s6858.2) (fun s6858 => [(0, .ref (zad E 262)), (1, .int (zi s6858.1))]) [] (fun r6878 : Smo => True) (fun r6878 => S) (fun r6878 => r6878) (fun r6878 => [(0, .ref (zad E 262))]) 176 (fun r6878 h6879 => ?_) (fun k6860 k6862 k6861 k6863 s6858 h6859 => ?_) (IRd rfl)
        · refine r_iconst (v := 0) C dX12_map_176 (by decide) ?_
          refine r_istore_n (L' := [(1, .int (zi 0)), (0, .ref (zad E 262))]) C dX12_map_177 rfl (by decide) rfl ?_
          refine r_L (L' := [(0, .ref (zad E 262)), (1, .int (zi 0))]) [1, 0] rfl ?_
          refine r_loop1 (fun s6880 : Int × Smo => IR s6880.1) (fun s6880 => S) (fun s6880 => s6880.2) (fun s6880 => [(0, .ref (zad E 262)), (1, .int (zi s6880.1))]) [] (fun r6892 : Smo => True) (fun r6892 => S) (fun r6892 => r6892) (fun r6892 => [(0, .ref (zad E 262))]) 203 (fun r6892 h6893 => ?_) (fun k6882 k6884 k6883 k6885 s6880 h6881 => ?_) (IRd rfl)
          · refine r_aload_n (pc := 203) (j := 0) C dX12_map_203 rfl rfl ?_
            refine r_bd (fun q6895 e6896 => ?_)
            refine r_cV0 (pc := 204) (k := 262) (As := []) (st := []) C (m_X12_layEvents  e6896) cal_X12_layEvents cl_X12 kd_262 ln_262 q_1965 dX12_map_204 rfl rfl (Nat.le_of_ble_eq_true rfl) (Nat.le_of_ble_eq_true rfl) (Nat.le_of_ble_eq_true rfl) (Nat.le_of_ble_eq_true rfl) (Nat.le_of_ble_eq_true rfl) (fun h6894 => ?_)
            refine r_aload_n (pc := 207) (j := 0) C dX12_map_207 rfl rfl ?_
            refine r_iconst (v := 0) C dX12_map_208 (by decide) ?_
            refine r_putO C cl_X12 kd_262 ln_262 gc_262 (by decide) (by decide) rfl rfl rfl (IRd rfl) q_1600 dX12_map_209 (fun O6897 => ?_)
            refine r_aload_n (pc := 212) (j := 0) C dX12_map_212 rfl rfl ?_
            refine r_iconst (v := 0) C dX12_map_213 (by decide) ?_
            refine r_putO C cl_X12 kd_262 ln_262 gc_262 (by decide) (by decide) rfl rfl rfl (IRd rfl) q_1601 dX12_map_214 (fun O6898 => ?_)
            refine r_aload_n (pc := 217) (j := 0) C dX12_map_217 rfl rfl ?_
            refine r_iconst (v := 0) C dX12_map_218 (by decide) ?_
            refine r_putO C cl_X12 kd_262 ln_262 gc_262 (by decide) (by decide) rfl rfl rfl (IRd rfl) q_1602 dX12_map_219 (fun O6899 => ?_)
            refine r_iconst (v := 0) C dX12_map_222 (by decide) ?_
            refine r_istore_n (L' := [(1, .int (zi 0)), (0, .ref (zad E 262))]) C dX12_map_223 rfl (by decide) rfl ?_
            refine r_L (L' := [(0, .ref (zad E 262)), (1, .int (zi 0))]) [1, 0] rfl ?_
            refine r_loop1 (fun s6900 : Int × Smo => IR s6900.1) (fun s6900 => S) (fun s6900 => s6900.2) (fun s6900 => [(0, .ref (zad E 262)), (1, .int (zi s6900.1))]) [] (fun r6908 : Smo => True) (fun r6908 => S) (fun r6908 => r6908) (fun r6908 => [(0, .ref (zad E 262))]) 244 (fun r6908 h6909 => ?_) (fun k6902 k6904 k6903 k6905 s6900 h6901 => ?_) (IRd rfl)
            · refine r_aload_n (pc := 244) (j := 0) C dX12_map_244 rfl rfl ?_
              refine r_iconst (v := 0) C dX12_map_245 (by decide) ?_
              refine r_putO C cl_X12 kd_262 ln_262 gc_262 (by decide) (by decide) rfl rfl rfl (IRd rfl) q_1626 dX12_map_246 (fun O6910 => ?_)
              refine r_aload_n (pc := 249) (j := 0) C dX12_map_249 rfl rfl ?_
              refine r_iconst (v := 0) C dX12_map_250 (by decide) ?_
              refine r_putO C cl_X12 kd_262 ln_262 gc_262 (by decide) (by decide) rfl rfl rfl (IRd rfl) q_1615 dX12_map_251 (fun O6911 => ?_)
              refine r_iconst (v := 0) C dX12_map_254 (by decide) ?_
              refine r_istore_n (L' := [(1, .int (zi 0)), (0, .ref (zad E 262))]) C dX12_map_255 rfl (by decide) rfl ?_
              refine r_L (L' := [(0, .ref (zad E 262)), (1, .int (zi 0))]) [1, 0] rfl ?_
              refine r_loop1 (fun s6912 : Int × Smo => IR s6912.1) (fun s6912 => S) (fun s6912 => s6912.2) (fun s6912 => [(0, .ref (zad E 262)), (1, .int (zi s6912.1))]) [] (fun r6920 : Smo => True) (fun r6920 => S) (fun r6920 => r6920) (fun r6920 => [(0, .ref (zad E 262))]) 274 (fun r6920 h6921 => ?_) (fun k6914 k6916 k6915 k6917 s6912 h6913 => ?_) (IRd rfl)
              · refine r_aload_n (pc := 274) (j := 0) C dX12_map_274 rfl rfl ?_
                refine r_getO (j := 39) C cl_X12 kd_262 ln_262 gc_262 (by decide) (by decide) rfl q_1592 dX12_map_275 (fun h6922 => ?_)
                exact r_ireturn C hQ rfl dX12_map_278 (fun e => by cases e; exact ⟨h6922, rfl, rfl, rfl, rfl, rfl⟩)
              · refine r_iload_n (pc := 256) (j := 1) C dX12_map_256 rfl rfl ?_
                refine r_iconst (v := 3) C dX12_map_257 (by decide) ?_
                refine r_icmp_ge (tgt := 274) C h6913 (IRd rfl) dX12_map_258 (by decide) (fun c6918 => ?_) (fun c6918 => ?_)
                · refine r_bf c6918 ?_
                  refine r_L (L' := [(0, .ref (zad E 262))]) [0] rfl ?_
                  exact k6917 s6912.2 trivial
                · refine r_bt c6918 ?_
                  refine r_aload_n (pc := 261) (j := 0) C dX12_map_261 rfl rfl ?_
                  refine r_getR (j := 77) (r := 304) C cl_X12 kd_262 ln_262 (by decide) rfl r0_262_77 (by decide) q_1630 dX12_map_262 ?_
                  refine r_iload_n (pc := 265) (j := 1) C dX12_map_265 rfl rfl ?_
                  refine r_iconst (v := 0) C dX12_map_266 (by decide) ?_
                  refine r_bb ?_
                  refine r_zast C kd_304 ln_304 gc_304 h6913 (BRd rfl) dX12_map_267 (fun O6919 => ?_)
                  refine r_iinc (j := 1) (L' := [(1, .int (zi (wr (s6912.1 + 1)))), (0, .ref (zad E 262))]) C dX12_map_268 rfl (by decide) rfl ?_
                  refine r_goto (tgt := 256) C dX12_map_271 (by decide) ?_
                  refine r_L (L' := [(0, .ref (zad E 262)), (1, .int (zi (wr (s6912.1 + 1))))]) [1, 0] rfl ?_
                  exact k6915 (wr (s6912.1 + 1), O6919) (IR_wr _)
            · refine r_iload_n (pc := 224) (j := 1) C dX12_map_224 rfl rfl ?_
              refine r_sipush (v := 205) C dX12_map_225 (by decide) ?_
              refine r_icmp_ge (tgt := 244) C h6901 (IRd rfl) dX12_map_228 (by decide) (fun c6906 => ?_) (fun c6906 => ?_)
              · refine r_bf c6906 ?_
                refine r_L (L' := [(0, .ref (zad E 262))]) [0] rfl ?_
                exact k6905 s6900.2 trivial
              · refine r_bt c6906 ?_
                refine r_aload_n (pc := 231) (j := 0) C dX12_map_231 rfl rfl ?_
                refine r_getR (j := 46) (r := 282) C cl_X12 kd_262 ln_262 (by decide) rfl r0_262_46 (by decide) q_1599 dX12_map_232 ?_
                refine r_iload_n (pc := 235) (j := 1) C dX12_map_235 rfl rfl ?_
                refine r_iconst (v := 0) C dX12_map_236 (by decide) ?_
                refine r_bb ?_
                refine r_iast C kd_282 ln_282 gc_282 h6901 (IRd rfl) dX12_map_237 (fun O6907 => ?_)
                refine r_iinc (j := 1) (L' := [(1, .int (zi (wr (s6900.1 + 1)))), (0, .ref (zad E 262))]) C dX12_map_238 rfl (by decide) rfl ?_
                refine r_goto (tgt := 224) C dX12_map_241 (by decide) ?_
                refine r_L (L' := [(0, .ref (zad E 262)), (1, .int (zi (wr (s6900.1 + 1))))]) [1, 0] rfl ?_
                exact k6903 (wr (s6900.1 + 1), O6907) (IR_wr _)
          · refine r_iload_n (pc := 178) (j := 1) C dX12_map_178 rfl rfl ?_
            refine r_aload_n (pc := 179) (j := 0) C dX12_map_179 rfl rfl ?_
            refine r_getO (j := 39) C cl_X12 kd_262 ln_262 gc_262 (by decide) (by decide) rfl q_1592 dX12_map_180 (fun h6886 => ?_)
            refine r_icmp_ge (tgt := 203) C h6881 h6886 dX12_map_183 (by decide) (fun c6887 => ?_) (fun c6887 => ?_)
            · refine r_bf c6887 ?_
              refine r_L (L' := [(0, .ref (zad E 262))]) [0] rfl ?_
              exact k6885 s6880.2 trivial
            · refine r_bt c6887 ?_
              refine r_aload_n (pc := 186) (j := 0) C dX12_map_186 rfl rfl ?_
              refine r_getR (j := 35) (r := 280) C cl_X12 kd_262 ln_262 (by decide) rfl r0_262_35 (by decide) q_1588 dX12_map_187 ?_
              refine r_iload_n (pc := 190) (j := 1) C dX12_map_190 rfl rfl ?_
              refine r_aload_n (pc := 191) (j := 0) C dX12_map_191 rfl rfl ?_
              refine r_iload_n (pc := 192) (j := 1) C dX12_map_192 rfl rfl ?_
              refine r_bb ?_
              refine r_bd (fun q6889 e6890 => ?_)
              refine r_cV1 (pc := 193) (k := 262) (As := [.int (zi s6880.1)]) (st := [.int (zi s6880.1), .ref (zad E 280)]) C (m_X12_weightOf (a1 := s6880.1) h6881 e6890) cal_X12_weightOf cl_X12 kd_262 ln_262 q_1955 dX12_map_193 rfl rfl (Nat.le_of_ble_eq_true rfl) (Nat.le_of_ble_eq_true rfl) (Nat.le_of_ble_eq_true rfl) (Nat.le_of_ble_eq_true rfl) (Nat.le_of_ble_eq_true rfl) (fun h6888 => ?_)
              refine r_bb ?_
              refine r_iast C kd_280 ln_280 gc_280 h6881 h6888 dX12_map_196 (fun O6891 => ?_)
              refine r_iinc (j := 1) (L' := [(1, .int (zi (wr (s6880.1 + 1)))), (0, .ref (zad E 262))]) C dX12_map_197 rfl (by decide) rfl ?_
              refine r_goto (tgt := 178) C dX12_map_200 (by decide) ?_
              refine r_L (L' := [(0, .ref (zad E 262)), (1, .int (zi (wr (s6880.1 + 1))))]) [1, 0] rfl ?_
              exact k6883 (wr (s6880.1 + 1), O6891) (IR_wr _)
        · refine r_iload_n (pc := 114) (j := 1) C dX12_map_114 rfl rfl ?_
          refine r_aload_n (pc := 115) (j := 0) C dX12_map_115 rfl rfl ?_
          refine r_getO (j := 39) C cl_X12 kd_262 ln_262 gc_262 (by decide) (by decide) rfl q_1592 dX12_map_116 (fun h6864 => ?_)
          refine r_icmp_ge (tgt := 176) C h6859 h6864 dX12_map_119 (by decide) (fun c6865 => ?_) (fun c6865 => ?_)
          · refine r_bf c6865 ?_
            refine r_L (L' := [(0, .ref (zad E 262))]) [0] rfl ?_
            exact k6863 s6858.2 trivial
          · refine r_bt c6865 ?_
            refine r_aload_n (pc := 122) (j := 0) C dX12_map_122 rfl rfl ?_
            refine r_getR (j := 31) (r := 276) C cl_X12 kd_262 ln_262 (by decide) rfl r0_262_31 (by decide) q_1584 dX12_map_123 ?_
            refine r_iload_n (pc := 126) (j := 1) C dX12_map_126 rfl rfl ?_
            refine r_aload_n (pc := 127) (j := 0) C dX12_map_127 rfl rfl ?_
            refine r_getR (j := 27) (r := 272) C cl_X12 kd_262 ln_262 (by decide) rfl r0_262_27 (by decide) q_1580 dX12_map_128 ?_
            refine r_iload_n (pc := 131) (j := 1) C dX12_map_131 rfl rfl ?_
            refine r_bb ?_
            refine r_iald C kd_272 ln_272 gc_272 h6859 dX12_map_132 (fun v6866 h6867 => ?_)
            refine r_bb ?_
            refine r_iast C kd_276 ln_276 gc_276 h6859 h6867 dX12_map_133 (fun O6868 => ?_)
            refine r_aload_n (pc := 134) (j := 0) C dX12_map_134 rfl rfl ?_
            refine r_getR (j := 32) (r := 277) C cl_X12 kd_262 ln_262 (by decide) rfl r0_262_32 (by decide) q_1585 dX12_map_135 ?_
            refine r_iload_n (pc := 138) (j := 1) C dX12_map_138 rfl rfl ?_
            refine r_aload_n (pc := 139) (j := 0) C dX12_map_139 rfl rfl ?_
            refine r_getR (j := 28) (r := 273) C cl_X12 kd_262 ln_262 (by decide) rfl r0_262_28 (by decide) q_1581 dX12_map_140 ?_
            refine r_iload_n (pc := 143) (j := 1) C dX12_map_143 rfl rfl ?_
            refine r_bb ?_
            refine r_iald C kd_273 ln_273 gc_273 h6859 dX12_map_144 (fun v6869 h6870 => ?_)
            refine r_bb ?_
            refine r_iast C kd_277 ln_277 gc_277 h6859 h6870 dX12_map_145 (fun O6871 => ?_)
            refine r_aload_n (pc := 146) (j := 0) C dX12_map_146 rfl rfl ?_
            refine r_getR (j := 33) (r := 278) C cl_X12 kd_262 ln_262 (by decide) rfl r0_262_33 (by decide) q_1586 dX12_map_147 ?_
            refine r_iload_n (pc := 150) (j := 1) C dX12_map_150 rfl rfl ?_
            refine r_aload_n (pc := 151) (j := 0) C dX12_map_151 rfl rfl ?_
            refine r_getR (j := 29) (r := 274) C cl_X12 kd_262 ln_262 (by decide) rfl r0_262_29 (by decide) q_1582 dX12_map_152 ?_
            refine r_iload_n (pc := 155) (j := 1) C dX12_map_155 rfl rfl ?_
            refine r_bb ?_
            refine r_iald C kd_274 ln_274 gc_274 h6859 dX12_map_156 (fun v6872 h6873 => ?_)
            refine r_bb ?_
            refine r_iast C kd_278 ln_278 gc_278 h6859 h6873 dX12_map_157 (fun O6874 => ?_)
            refine r_aload_n (pc := 158) (j := 0) C dX12_map_158 rfl rfl ?_
            refine r_getR (j := 34) (r := 279) C cl_X12 kd_262 ln_262 (by decide) rfl r0_262_34 (by decide) q_1587 dX12_map_159 ?_
            refine r_iload_n (pc := 162) (j := 1) C dX12_map_162 rfl rfl ?_
            refine r_aload_n (pc := 163) (j := 0) C dX12_map_163 rfl rfl ?_
            refine r_getR (j := 30) (r := 275) C cl_X12 kd_262 ln_262 (by decide) rfl r0_262_30 (by decide) q_1583 dX12_map_164 ?_
            refine r_iload_n (pc := 167) (j := 1) C dX12_map_167 rfl rfl ?_
            refine r_bb ?_
            refine r_iald C kd_275 ln_275 gc_275 h6859 dX12_map_168 (fun v6875 h6876 => ?_)
            refine r_bb ?_
            refine r_iast C kd_279 ln_279 gc_279 h6859 h6876 dX12_map_169 (fun O6877 => ?_)
            refine r_iinc (j := 1) (L' := [(1, .int (zi (wr (s6858.1 + 1)))), (0, .ref (zad E 262))]) C dX12_map_170 rfl (by decide) rfl ?_
            refine r_goto (tgt := 114) C dX12_map_173 (by decide) ?_
            refine r_L (L' := [(0, .ref (zad E 262)), (1, .int (zi (wr (s6858.1 + 1))))]) [1, 0] rfl ?_
            exact k6861 (wr (s6858.1 + 1), O6877) (IR_wr _)
      · refine r_iload_n (pc := 74) (j := 1) C dX12_map_74 rfl rfl ?_
        refine r_aload_n (pc := 75) (j := 0) C dX12_map_75 rfl rfl ?_
        refine r_getO (j := 17) C cl_X12 kd_262 ln_262 gc_262 (by decide) (by decide) rfl q_1570 dX12_map_76 (fun h6848 => ?_)
        refine r_icmp_ge (tgt := 112) C h6843 h6848 dX12_map_79 (by decide) (fun c6849 => ?_) (fun c6849 => ?_)
        · refine r_bf c6849 ?_
          refine r_L (L' := [(0, .ref (zad E 262))]) [0] rfl ?_
          exact k6847 s6842.2 trivial
        · refine r_bt c6849 ?_
          refine r_aload_n (pc := 82) (j := 0) C dX12_map_82 rfl rfl ?_
          refine r_getR (j := 12) (r := 266) C cl_X12 kd_262 ln_262 (by decide) rfl r0_262_12 (by decide) q_1565 dX12_map_83 ?_
          refine r_iload_n (pc := 86) (j := 1) C dX12_map_86 rfl rfl ?_
          refine r_aload_n (pc := 87) (j := 0) C dX12_map_87 rfl rfl ?_
          refine r_getR (j := 10) (r := 264) C cl_X12 kd_262 ln_262 (by decide) rfl r0_262_10 (by decide) q_1563 dX12_map_88 ?_
          refine r_iload_n (pc := 91) (j := 1) C dX12_map_91 rfl rfl ?_
          refine r_bb ?_
          refine r_iald C kd_264 ln_264 gc_264 h6843 dX12_map_92 (fun v6850 h6851 => ?_)
          refine r_bb ?_
          refine r_iast C kd_266 ln_266 gc_266 h6843 h6851 dX12_map_93 (fun O6852 => ?_)
          refine r_aload_n (pc := 94) (j := 0) C dX12_map_94 rfl rfl ?_
          refine r_getR (j := 13) (r := 267) C cl_X12 kd_262 ln_262 (by decide) rfl r0_262_13 (by decide) q_1566 dX12_map_95 ?_
          refine r_iload_n (pc := 98) (j := 1) C dX12_map_98 rfl rfl ?_
          refine r_aload_n (pc := 99) (j := 0) C dX12_map_99 rfl rfl ?_
          refine r_getR (j := 11) (r := 265) C cl_X12 kd_262 ln_262 (by decide) rfl r0_262_11 (by decide) q_1564 dX12_map_100 ?_
          refine r_iload_n (pc := 103) (j := 1) C dX12_map_103 rfl rfl ?_
          refine r_bb ?_
          refine r_iald C kd_265 ln_265 gc_265 h6843 dX12_map_104 (fun v6853 h6854 => ?_)
          refine r_bb ?_
          refine r_iast C kd_267 ln_267 gc_267 h6843 h6854 dX12_map_105 (fun O6855 => ?_)
          refine r_iinc (j := 1) (L' := [(1, .int (zi (wr (s6842.1 + 1)))), (0, .ref (zad E 262))]) C dX12_map_106 rfl (by decide) rfl ?_
          refine r_goto (tgt := 74) C dX12_map_109 (by decide) ?_
          refine r_L (L' := [(0, .ref (zad E 262)), (1, .int (zi (wr (s6842.1 + 1))))]) [1, 0] rfl ?_
          exact k6845 (wr (s6842.1 + 1), O6855) (IR_wr _)
    · refine r_if_eq (tgt := 68) C h6834.ir dX12_map_58 (by decide) (fun c6839 => ?_) (fun c6839 => ?_)
      · refine r_jt c6839 ?_
        refine r_iconst (v := 0) C dX12_map_68 (by decide) ?_
        exact k6838 0 (IRd rfl)
      · refine r_jf c6839 ?_
        refine r_aload_n (pc := 61) (j := 0) C dX12_map_61 rfl rfl ?_
        refine r_getO (j := 16) C cl_X12 kd_262 ln_262 gc_262 (by decide) (by decide) rfl q_1569 dX12_map_62 (fun h6840 => ?_)
        refine r_goto (tgt := 69) C dX12_map_65 (by decide) ?_
        exact k6838 (O6833 262 16) h6840
  · refine r_t c6823 ?_
    refine r_iconst (v := (-1)) C dX12_map_11 (by decide) ?_
    exact r_ireturn C hQ rfl dX12_map_12 (fun e => by cases e; exact ⟨(IRd rfl), rfl, rfl, rfl, rfl, rfl⟩)

def f_X12_fault (a1 : Int) (O : Smo) : Int :=
  if a1 = 0 then
    (O 262 2)
  else
    (if a1 = 1 then
      (O 262 3)
    else
      ((-1)))
set_option maxRecDepth 100000 in
set_option maxHeartbeats 4000000 in
theorem m_X12_fault {l : Launch} {E : EwT} {S : Sst} {O : Smo} {a1 : Int} (ha1 : IR a1) {q : Int} (hq : f_X12_fault a1 O = q) : MetG l E yX12_fault cX12_fault 2 (some .int) 0 0 0 0 n0 R0 S O [.ref (zad E 262), .int (zi a1)] (IR q) (some (.int (zi q))) n0 R0 S O := by
  refine ofG (L0 := [(0, .ref (zad E 262)), (1, .int (zi a1))]) hq (by decide +kernel) (Nat.le_of_ble_eq_true rfl) rfl (fun K _ C hQ => ?_)
  unfold f_X12_fault
  refine r_iload_n (pc := 0) (j := 1) C dX12_fault_0 rfl rfl ?_
  refine r_if_ne (tgt := 11) C ha1 dX12_fault_1 (by decide) (fun c6923 => ?_) (fun c6923 => ?_)
  · refine r_f c6923 ?_
    refine r_iload_n (pc := 11) (j := 1) C dX12_fault_11 rfl rfl ?_
    refine r_iconst (v := 1) C dX12_fault_12 (by decide) ?_
    refine r_icmp_ne (tgt := 23) C ha1 (IRd rfl) dX12_fault_13 (by decide) (fun c6925 => ?_) (fun c6925 => ?_)
    · refine r_f c6925 ?_
      refine r_iconst (v := (-1)) C dX12_fault_23 (by decide) ?_
      exact r_ireturn C hQ rfl dX12_fault_24 (fun e => by subst e; exact ⟨(IRd rfl), rfl, rfl, rfl, rfl, rfl⟩)
    · refine r_t c6925 ?_
      refine r_aload_n (pc := 16) (j := 0) C dX12_fault_16 rfl rfl ?_
      refine r_getO (j := 3) C cl_X12 kd_262 ln_262 gc_262 (by decide) (by decide) rfl q_1556 dX12_fault_17 (fun h6926 => ?_)
      refine r_goto (tgt := 24) C dX12_fault_20 (by decide) ?_
      exact r_ireturn C hQ rfl dX12_fault_24 (fun e => by subst e; exact ⟨h6926, rfl, rfl, rfl, rfl, rfl⟩)
  · refine r_t c6923 ?_
    refine r_aload_n (pc := 4) (j := 0) C dX12_fault_4 rfl rfl ?_
    refine r_getO (j := 2) C cl_X12 kd_262 ln_262 gc_262 (by decide) (by decide) rfl q_1555 dX12_fault_5 (fun h6924 => ?_)
    refine r_goto (tgt := 24) C dX12_fault_8 (by decide) ?_
    exact r_ireturn C hQ rfl dX12_fault_24 (fun e => by subst e; exact ⟨h6924, rfl, rfl, rfl, rfl, rfl⟩)

def f_X12_isIn (a0 : Int) (a1 : Int) (a2 : Int) : Int :=
  if (a0 < a1 ∨ a2 < a0) then
    (0)
  else
    (1)
set_option maxRecDepth 100000 in
set_option maxHeartbeats 4000000 in
theorem m_X12_isIn {l : Launch} {E : EwT} {n : Nat} {R : Srf} {S : Sst} {O : Smo} {a0 : Int} (ha0 : IR a0) {a1 : Int} (ha1 : IR a1) {a2 : Int} (ha2 : IR a2) {q : Int} (hq : f_X12_isIn a0 a1 a2 = q) : MetG l E yX12_isIn cX12_isIn 3 (some .boolean) 0 0 0 0 n R S O [.int (zi a0), .int (zi a1), .int (zi a2)] (BR q) (some (.int (zi q))) n R S O := by
  refine ofG (L0 := [(0, .int (zi a0)), (1, .int (zi a1)), (2, .int (zi a2))]) hq (by decide +kernel) (Nat.le_of_ble_eq_true rfl) rfl (fun K _ C hQ => ?_)
  unfold f_X12_isIn
  refine r_iload_n (pc := 0) (j := 0) C dX12_isIn_0 rfl rfl ?_
  refine r_iload_n (pc := 1) (j := 1) C dX12_isIn_1 rfl rfl ?_
  refine r_cut (a0 < a1 ∨ a2 < a0) 14 10 [] (fun c6927 => ?_) (fun c6927 => ?_) (fun k6928 k6929 => ?_)
  · refine r_t c6927 ?_
    refine r_iconst (v := 0) C dX12_isIn_14 (by decide) ?_
    exact r_ireturn C hQ (nar_z (BRd rfl)) dX12_isIn_15 (fun e => by subst e; exact ⟨(BRd rfl), rfl, rfl, rfl, rfl, rfl⟩)
  · refine r_f c6927 ?_
    refine r_iconst (v := 1) C dX12_isIn_10 (by decide) ?_
    refine r_goto (tgt := 15) C dX12_isIn_11 (by decide) ?_
    exact r_ireturn C hQ (nar_z (BRd rfl)) dX12_isIn_15 (fun e => by subst e; exact ⟨(BRd rfl), rfl, rfl, rfl, rfl, rfl⟩)
  · refine r_icmp_lt (tgt := 14) C ha0 ha1 dX12_isIn_2 (by decide) (fun c6930 => ?_) (fun c6930 => ?_)
    · exact k6928 (Or.inl c6930)
    · refine r_iload_n (pc := 5) (j := 0) C dX12_isIn_5 rfl rfl ?_
      refine r_iload_n (pc := 6) (j := 2) C dX12_isIn_6 rfl rfl ?_
      refine r_icmp_gt (tgt := 14) C ha0 ha2 dX12_isIn_7 (by decide) (fun c6931 => ?_) (fun c6931 => ?_)
      · exact k6928 (Or.inr c6931)
      · exact k6929 (fun w => w.elim c6930 c6931)

def f_X12_isSegment (a1 : Int) (O : Smo) : Int :=
  f_X12_isIn a1 0 (wr ((O 262 39) - 1))
set_option maxRecDepth 100000 in
set_option maxHeartbeats 4000000 in
theorem m_X12_isSegment {l : Launch} {E : EwT} {S : Sst} {O : Smo} {a1 : Int} (ha1 : IR a1) {q : Int} (hq : f_X12_isSegment a1 O = q) : MetG l E yX12_isSegment cX12_isSegment 2 (some .boolean) 1 22 0 0 n0 R0 S O [.ref (zad E 262), .int (zi a1)] (BR q) (some (.int (zi q))) n0 R0 S O := by
  refine ofG (L0 := [(0, .ref (zad E 262)), (1, .int (zi a1))]) hq (by decide +kernel) (Nat.le_of_ble_eq_true rfl) rfl (fun K _ C hQ => ?_)
  unfold f_X12_isSegment
  refine r_iload_n (pc := 0) (j := 1) C dX12_isSegment_0 rfl rfl ?_
  refine r_iconst (v := 0) C dX12_isSegment_1 (by decide) ?_
  refine r_aload_n (pc := 2) (j := 0) C dX12_isSegment_2 rfl rfl ?_
  refine r_getO (j := 39) C cl_X12 kd_262 ln_262 gc_262 (by decide) (by decide) rfl q_1592 dX12_isSegment_3 (fun h6932 => ?_)
  refine r_iconst (v := 1) C dX12_isSegment_6 (by decide) ?_
  refine r_isub C dX12_isSegment_7 ?_
  refine r_cS1 (pc := 8) (As := [.int (zi a1), .int (zi 0), .int (zi (wr ((O 262 39) - 1)))]) (st := []) C (m_X12_isIn (a0 := a1) (a1 := 0) (a2 := wr ((O 262 39) - 1)) ha1 (IRd rfl) (IR_wr _) rfl) cal_X12_isIn q_1981 dX12_isSegment_8 rfl rfl (Nat.le_of_ble_eq_true rfl) (Nat.le_of_ble_eq_true rfl) (Nat.le_of_ble_eq_true rfl) (Nat.le_of_ble_eq_true rfl) (Nat.le_of_ble_eq_true rfl) (fun h6933 => ?_)
  exact r_ireturn C hQ (nar_z h6933) dX12_isSegment_11 (fun e => by subst e; exact ⟨h6933, rfl, rfl, rfl, rfl, rfl⟩)

def f_X12_isOver (a1 : Int) (a2 : Int) (O : Smo) : Option (Int) :=
  Option.bind (aget (O 276) (Ln 276) a1) fun (v6934 : Int) =>
  jk (fun (q6936 : Unit) =>
    some 0) fun k6938 =>
  if a2 < v6934 then
    (k6938 ())
  else
    (Option.bind (aget (O 278) (Ln 278) a1) fun (v6941 : Int) =>
    if a2 < v6941 then
      (some 1)
    else
      (k6938 ()))
set_option maxRecDepth 100000 in
set_option maxHeartbeats 4000000 in
theorem m_X12_isOver {l : Launch} {E : EwT} {S : Sst} {O : Smo} {a1 : Int} (ha1 : IR a1) {a2 : Int} (ha2 : IR a2) {q : Int} (hq : f_X12_isOver a1 a2 O = some q) : MetG l E yX12_isOver cX12_isOver 3 (some .boolean) 0 0 0 0 n0 R0 S O [.ref (zad E 262), .int (zi a1), .int (zi a2)] (BR q) (some (.int (zi q))) n0 R0 S O := by
  refine ofG (L0 := [(0, .ref (zad E 262)), (1, .int (zi a1)), (2, .int (zi a2))]) hq (by decide +kernel) (Nat.le_of_ble_eq_true rfl) rfl (fun K _ C hQ => ?_)
  unfold f_X12_isOver
  refine r_aload_n (pc := 0) (j := 0) C dX12_isOver_0 rfl rfl ?_
  refine r_getR (j := 31) (r := 276) C cl_X12 kd_262 ln_262 (by decide) rfl r0_262_31 (by decide) q_1584 dX12_isOver_1 ?_
  refine r_iload_n (pc := 4) (j := 1) C dX12_isOver_4 rfl rfl ?_
  refine r_iald C kd_276 ln_276 gc_276 ha1 dX12_isOver_5 (fun v6934 h6935 => ?_)
  refine r_iload_n (pc := 6) (j := 2) C dX12_isOver_6 rfl rfl ?_
  refine r_jk (fun q6936 : Unit => True) (fun q6936 => S) (fun q6936 => O) (fun q6936 => []) 24 (fun q6936 => []) (fun q6936 h6937 => ?_) (fun k6938 k6939 => ?_)
  · refine r_iconst (v := 0) C dX12_isOver_24 (by decide) ?_
    exact r_ireturn C hQ (nar_z (BRd rfl)) dX12_isOver_25 (fun e => by cases e; exact ⟨(BRd rfl), rfl, rfl, rfl, rfl, rfl⟩)
  · refine r_icmp_gt (tgt := 24) C h6935 ha2 dX12_isOver_7 (by decide) (fun c6940 => ?_) (fun c6940 => ?_)
    · refine r_t c6940 ?_
      refine r_L (L' := []) [] rfl ?_
      exact k6939 () trivial
    · refine r_f c6940 ?_
      refine r_iload_n (pc := 10) (j := 2) C dX12_isOver_10 rfl rfl ?_
      refine r_aload_n (pc := 11) (j := 0) C dX12_isOver_11 rfl rfl ?_
      refine r_getR (j := 33) (r := 278) C cl_X12 kd_262 ln_262 (by decide) rfl r0_262_33 (by decide) q_1586 dX12_isOver_12 ?_
      refine r_iload_n (pc := 15) (j := 1) C dX12_isOver_15 rfl rfl ?_
      refine r_iald C kd_278 ln_278 gc_278 ha1 dX12_isOver_16 (fun v6941 h6942 => ?_)
      refine r_icmp_ge (tgt := 24) C ha2 h6942 dX12_isOver_17 (by decide) (fun c6943 => ?_) (fun c6943 => ?_)
      · refine r_f c6943 ?_
        refine r_L (L' := []) [] rfl ?_
        exact k6939 () trivial
      · refine r_t c6943 ?_
        refine r_iconst (v := 1) C dX12_isOver_20 (by decide) ?_
        refine r_goto (tgt := 25) C dX12_isOver_21 (by decide) ?_
        exact r_ireturn C hQ (nar_z (BRd rfl)) dX12_isOver_25 (fun e => by cases e; exact ⟨(BRd rfl), rfl, rfl, rfl, rfl, rfl⟩)

def f_X12_farther (a1 : Int) (a2 : Int) (a3 : Int) (O : Smo) : Option (Int) :=
  Option.bind (aget (O 278) (Ln 278) a1) fun (v6944 : Int) =>
  Option.bind (aget (O 276) (Ln 276) a1) fun (v6946 : Int) =>
  jn (wr (v6944 - v6946)) fun (v6948 : Int) =>
  Option.bind (aget (O 277) (Ln 277) a1) fun (v6950 : Int) =>
  Option.bind (aget (O 279) (Ln 279) a1) fun (v6952 : Int) =>
  Option.bind (aget (O 277) (Ln 277) a1) fun (v6954 : Int) =>
  Option.bind (aget (O 276) (Ln 276) a1) fun (v6956 : Int) =>
  some (wr ((wr ((wr (v6950 * v6948)) + (wr ((wr (v6952 - v6954)) * (wr (a2 - v6956)))))) - (wr (a3 * v6948))))
set_option maxRecDepth 100000 in
set_option maxHeartbeats 4000000 in
theorem m_X12_farther {l : Launch} {E : EwT} {S : Sst} {O : Smo} {a1 : Int} (ha1 : IR a1) {a2 : Int} (ha2 : IR a2) {a3 : Int} (ha3 : IR a3) {q : Int} (hq : f_X12_farther a1 a2 a3 O = some q) : MetG l E yX12_farther cX12_farther 5 (some .int) 0 0 0 0 n0 R0 S O [.ref (zad E 262), .int (zi a1), .int (zi a2), .int (zi a3)] (IR q) (some (.int (zi q))) n0 R0 S O := by
  refine ofG (L0 := [(0, .ref (zad E 262)), (1, .int (zi a1)), (2, .int (zi a2)), (3, .int (zi a3))]) hq (by decide +kernel) (Nat.le_of_ble_eq_true rfl) rfl (fun K _ C hQ => ?_)
  unfold f_X12_farther
  refine r_aload_n (pc := 0) (j := 0) C dX12_farther_0 rfl rfl ?_
  refine r_getR (j := 33) (r := 278) C cl_X12 kd_262 ln_262 (by decide) rfl r0_262_33 (by decide) q_1586 dX12_farther_1 ?_
  refine r_iload_n (pc := 4) (j := 1) C dX12_farther_4 rfl rfl ?_
  refine r_iald C kd_278 ln_278 gc_278 ha1 dX12_farther_5 (fun v6944 h6945 => ?_)
  refine r_aload_n (pc := 6) (j := 0) C dX12_farther_6 rfl rfl ?_
  refine r_getR (j := 31) (r := 276) C cl_X12 kd_262 ln_262 (by decide) rfl r0_262_31 (by decide) q_1584 dX12_farther_7 ?_
  refine r_iload_n (pc := 10) (j := 1) C dX12_farther_10 rfl rfl ?_
  refine r_iald C kd_276 ln_276 gc_276 ha1 dX12_farther_11 (fun v6946 h6947 => ?_)
  refine r_isub C dX12_farther_12 ?_
  refine r_jv (IR_wr _) (fun v6948 h6949 => ?_)
  refine r_istore (L' := [(4, .int (zi v6948)), (0, .ref (zad E 262)), (1, .int (zi a1)), (2, .int (zi a2)), (3, .int (zi a3))]) C dX12_farther_13 (by decide) rfl ?_
  refine r_aload_n (pc := 15) (j := 1) C dX12_farther_15 rfl rfl ?_
  refine r_getR (j := 32) (r := 277) C cl_X12 kd_262 ln_262 (by decide) rfl r0_262_32 (by decide) q_1585 dX12_farther_16 ?_
  refine r_iload_n (pc := 19) (j := 2) C dX12_farther_19 rfl rfl ?_
  refine r_iald C kd_277 ln_277 gc_277 ha1 dX12_farther_20 (fun v6950 h6951 => ?_)
  refine r_iload (pc := 21) (j := 0) C dX12_farther_21 rfl ?_
  refine r_imul C dX12_farther_23 ?_
  refine r_aload_n (pc := 24) (j := 1) C dX12_farther_24 rfl rfl ?_
  refine r_getR (j := 34) (r := 279) C cl_X12 kd_262 ln_262 (by decide) rfl r0_262_34 (by decide) q_1587 dX12_farther_25 ?_
  refine r_iload_n (pc := 28) (j := 2) C dX12_farther_28 rfl rfl ?_
  refine r_iald C kd_279 ln_279 gc_279 ha1 dX12_farther_29 (fun v6952 h6953 => ?_)
  refine r_aload_n (pc := 30) (j := 1) C dX12_farther_30 rfl rfl ?_
  refine r_getR (j := 32) (r := 277) C cl_X12 kd_262 ln_262 (by decide) rfl r0_262_32 (by decide) q_1585 dX12_farther_31 ?_
  refine r_iload_n (pc := 34) (j := 2) C dX12_farther_34 rfl rfl ?_
  refine r_iald C kd_277 ln_277 gc_277 ha1 dX12_farther_35 (fun v6954 h6955 => ?_)
  refine r_isub C dX12_farther_36 ?_
  refine r_iload_n (pc := 37) (j := 3) C dX12_farther_37 rfl rfl ?_
  refine r_aload_n (pc := 38) (j := 1) C dX12_farther_38 rfl rfl ?_
  refine r_getR (j := 31) (r := 276) C cl_X12 kd_262 ln_262 (by decide) rfl r0_262_31 (by decide) q_1584 dX12_farther_39 ?_
  refine r_iload_n (pc := 42) (j := 2) C dX12_farther_42 rfl rfl ?_
  refine r_iald C kd_276 ln_276 gc_276 ha1 dX12_farther_43 (fun v6956 h6957 => ?_)
  refine r_isub C dX12_farther_44 ?_
  refine r_imul C dX12_farther_45 ?_
  refine r_iadd C dX12_farther_46 ?_
  refine r_iload_n (pc := 47) (j := 4) C dX12_farther_47 rfl rfl ?_
  refine r_iload (pc := 48) (j := 0) C dX12_farther_48 rfl ?_
  refine r_imul C dX12_farther_50 ?_
  refine r_isub C dX12_farther_51 ?_
  exact r_ireturn C hQ rfl dX12_farther_52 (fun e => by cases e; exact ⟨(IR_wr _), rfl, rfl, rfl, rfl, rfl⟩)

def f_X12_isHigher (a1 : Int) (a2 : Int) (a3 : Int) (O : Smo) : Option (Int) :=
  Option.bind (aget (O 278) (Ln 278) a1) fun (v6958 : Int) =>
  Option.bind (aget (O 276) (Ln 276) a1) fun (v6960 : Int) =>
  jn (wr (v6958 - v6960)) fun (v6962 : Int) =>
  Option.bind (aget (O 278) (Ln 278) a2) fun (v6964 : Int) =>
  Option.bind (aget (O 276) (Ln 276) a2) fun (v6966 : Int) =>
  jn (wr (v6964 - v6966)) fun (v6968 : Int) =>
  Option.bind (f_X12_farther a1 a3 0 O) fun (q6971 : Int) =>
  Option.bind (f_X12_farther a2 a3 0 O) fun (q6974 : Int) =>
  jn (wr ((wr (q6971 * v6968)) - (wr (q6974 * v6962)))) fun (v6976 : Int) =>
  if v6976 = 0 then
    (Option.bind (aget (O 279) (Ln 279) a1) fun (v6979 : Int) =>
    Option.bind (aget (O 277) (Ln 277) a1) fun (v6981 : Int) =>
    Option.bind (aget (O 279) (Ln 279) a2) fun (v6983 : Int) =>
    Option.bind (aget (O 277) (Ln 277) a2) fun (v6985 : Int) =>
    if wr ((wr (v6983 - v6985)) * v6962) < wr ((wr (v6979 - v6981)) * v6968) then
      (some 1)
    else
      (some 0))
  else
    (if 0 < v6976 then
      (some 1)
    else
      (some 0))
set_option maxRecDepth 100000 in
set_option maxHeartbeats 4000000 in
theorem m_X12_isHigher {l : Launch} {E : EwT} {S : Sst} {O : Smo} {a1 : Int} (ha1 : IR a1) {a2 : Int} (ha2 : IR a2) {a3 : Int} (ha3 : IR a3) {q : Int} (hq : f_X12_isHigher a1 a2 a3 O = some q) : MetG l E yX12_isHigher cX12_isHigher 7 (some .boolean) 1 24 0 0 n0 R0 S O [.ref (zad E 262), .int (zi a1), .int (zi a2), .int (zi a3)] (BR q) (some (.int (zi q))) n0 R0 S O := by
  refine ofG (L0 := [(0, .ref (zad E 262)), (1, .int (zi a1)), (2, .int (zi a2)), (3, .int (zi a3))]) hq (by decide +kernel) (Nat.le_of_ble_eq_true rfl) rfl (fun K _ C hQ => ?_)
  unfold f_X12_isHigher
  refine r_aload_n (pc := 0) (j := 0) C dX12_isHigher_0 rfl rfl ?_
  refine r_getR (j := 33) (r := 278) C cl_X12 kd_262 ln_262 (by decide) rfl r0_262_33 (by decide) q_1586 dX12_isHigher_1 ?_
  refine r_iload_n (pc := 4) (j := 1) C dX12_isHigher_4 rfl rfl ?_
  refine r_iald C kd_278 ln_278 gc_278 ha1 dX12_isHigher_5 (fun v6958 h6959 => ?_)
  refine r_aload_n (pc := 6) (j := 0) C dX12_isHigher_6 rfl rfl ?_
  refine r_getR (j := 31) (r := 276) C cl_X12 kd_262 ln_262 (by decide) rfl r0_262_31 (by decide) q_1584 dX12_isHigher_7 ?_
  refine r_iload_n (pc := 10) (j := 1) C dX12_isHigher_10 rfl rfl ?_
  refine r_iald C kd_276 ln_276 gc_276 ha1 dX12_isHigher_11 (fun v6960 h6961 => ?_)
  refine r_isub C dX12_isHigher_12 ?_
  refine r_jv (IR_wr _) (fun v6962 h6963 => ?_)
  refine r_istore (L' := [(4, .int (zi v6962)), (0, .ref (zad E 262)), (1, .int (zi a1)), (2, .int (zi a2)), (3, .int (zi a3))]) C dX12_isHigher_13 (by decide) rfl ?_
  refine r_aload_n (pc := 15) (j := 1) C dX12_isHigher_15 rfl rfl ?_
  refine r_getR (j := 33) (r := 278) C cl_X12 kd_262 ln_262 (by decide) rfl r0_262_33 (by decide) q_1586 dX12_isHigher_16 ?_
  refine r_iload_n (pc := 19) (j := 3) C dX12_isHigher_19 rfl rfl ?_
  refine r_iald C kd_278 ln_278 gc_278 ha2 dX12_isHigher_20 (fun v6964 h6965 => ?_)
  refine r_aload_n (pc := 21) (j := 1) C dX12_isHigher_21 rfl rfl ?_
  refine r_getR (j := 31) (r := 276) C cl_X12 kd_262 ln_262 (by decide) rfl r0_262_31 (by decide) q_1584 dX12_isHigher_22 ?_
  refine r_iload_n (pc := 25) (j := 3) C dX12_isHigher_25 rfl rfl ?_
  refine r_iald C kd_276 ln_276 gc_276 ha2 dX12_isHigher_26 (fun v6966 h6967 => ?_)
  refine r_isub C dX12_isHigher_27 ?_
  refine r_jv (IR_wr _) (fun v6968 h6969 => ?_)
  refine r_istore (L' := [(5, .int (zi v6968)), (4, .int (zi v6962)), (0, .ref (zad E 262)), (1, .int (zi a1)), (2, .int (zi a2)), (3, .int (zi a3))]) C dX12_isHigher_28 (by decide) rfl ?_
  refine r_aload_n (pc := 30) (j := 2) C dX12_isHigher_30 rfl rfl ?_
  refine r_iload_n (pc := 31) (j := 3) C dX12_isHigher_31 rfl rfl ?_
  refine r_iload_n (pc := 32) (j := 5) C dX12_isHigher_32 rfl rfl ?_
  refine r_iconst (v := 0) C dX12_isHigher_33 (by decide) ?_
  refine r_bd (fun q6971 e6972 => ?_)
  refine r_cV1 (pc := 34) (k := 262) (As := [.int (zi a1), .int (zi a3), .int (zi 0)]) (st := []) C (m_X12_farther (a1 := a1) (a2 := a3) (a3 := 0) ha1 ha3 (IRd rfl) e6972) cal_X12_farther cl_X12 kd_262 ln_262 q_1992 dX12_isHigher_34 rfl rfl (Nat.le_of_ble_eq_true rfl) (Nat.le_of_ble_eq_true rfl) (Nat.le_of_ble_eq_true rfl) (Nat.le_of_ble_eq_true rfl) (Nat.le_of_ble_eq_true rfl) (fun h6970 => ?_)
  refine r_iload (pc := 37) (j := 0) C dX12_isHigher_37 rfl ?_
  refine r_imul C dX12_isHigher_39 ?_
  refine r_aload_n (pc := 40) (j := 2) C dX12_isHigher_40 rfl rfl ?_
  refine r_iload_n (pc := 41) (j := 4) C dX12_isHigher_41 rfl rfl ?_
  refine r_iload_n (pc := 42) (j := 5) C dX12_isHigher_42 rfl rfl ?_
  refine r_iconst (v := 0) C dX12_isHigher_43 (by decide) ?_
  refine r_bd (fun q6974 e6975 => ?_)
  refine r_cV1 (pc := 44) (k := 262) (As := [.int (zi a2), .int (zi a3), .int (zi 0)]) (st := [.int (zi (wr (q6971 * v6968)))]) C (m_X12_farther (a1 := a2) (a2 := a3) (a3 := 0) ha2 ha3 (IRd rfl) e6975) cal_X12_farther cl_X12 kd_262 ln_262 q_1992 dX12_isHigher_44 rfl rfl (Nat.le_of_ble_eq_true rfl) (Nat.le_of_ble_eq_true rfl) (Nat.le_of_ble_eq_true rfl) (Nat.le_of_ble_eq_true rfl) (Nat.le_of_ble_eq_true rfl) (fun h6973 => ?_)
  refine r_iload (pc := 47) (j := 1) C dX12_isHigher_47 rfl ?_
  refine r_imul C dX12_isHigher_49 ?_
  refine r_isub C dX12_isHigher_50 ?_
  refine r_jv (IR_wr _) (fun v6976 h6977 => ?_)
  refine r_istore (L' := [(6, .int (zi v6976)), (5, .int (zi v6968)), (4, .int (zi v6962)), (0, .ref (zad E 262)), (1, .int (zi a1)), (2, .int (zi a2)), (3, .int (zi a3))]) C dX12_isHigher_51 (by decide) rfl ?_
  refine r_iload (pc := 53) (j := 0) C dX12_isHigher_53 rfl ?_
  refine r_if_eq (tgt := 71) C h6977 dX12_isHigher_55 (by decide) (fun c6978 => ?_) (fun c6978 => ?_)
  · refine r_t c6978 ?_
    refine r_aload_n (pc := 71) (j := 3) C dX12_isHigher_71 rfl rfl ?_
    refine r_getR (j := 34) (r := 279) C cl_X12 kd_262 ln_262 (by decide) rfl r0_262_34 (by decide) q_1587 dX12_isHigher_72 ?_
    refine r_iload_n (pc := 75) (j := 4) C dX12_isHigher_75 rfl rfl ?_
    refine r_iald C kd_279 ln_279 gc_279 ha1 dX12_isHigher_76 (fun v6979 h6980 => ?_)
    refine r_aload_n (pc := 77) (j := 3) C dX12_isHigher_77 rfl rfl ?_
    refine r_getR (j := 32) (r := 277) C cl_X12 kd_262 ln_262 (by decide) rfl r0_262_32 (by decide) q_1585 dX12_isHigher_78 ?_
    refine r_iload_n (pc := 81) (j := 4) C dX12_isHigher_81 rfl rfl ?_
    refine r_iald C kd_277 ln_277 gc_277 ha1 dX12_isHigher_82 (fun v6981 h6982 => ?_)
    refine r_isub C dX12_isHigher_83 ?_
    refine r_iload (pc := 84) (j := 1) C dX12_isHigher_84 rfl ?_
    refine r_imul C dX12_isHigher_86 ?_
    refine r_aload_n (pc := 87) (j := 3) C dX12_isHigher_87 rfl rfl ?_
    refine r_getR (j := 34) (r := 279) C cl_X12 kd_262 ln_262 (by decide) rfl r0_262_34 (by decide) q_1587 dX12_isHigher_88 ?_
    refine r_iload_n (pc := 91) (j := 5) C dX12_isHigher_91 rfl rfl ?_
    refine r_iald C kd_279 ln_279 gc_279 ha2 dX12_isHigher_92 (fun v6983 h6984 => ?_)
    refine r_aload_n (pc := 93) (j := 3) C dX12_isHigher_93 rfl rfl ?_
    refine r_getR (j := 32) (r := 277) C cl_X12 kd_262 ln_262 (by decide) rfl r0_262_32 (by decide) q_1585 dX12_isHigher_94 ?_
    refine r_iload_n (pc := 97) (j := 5) C dX12_isHigher_97 rfl rfl ?_
    refine r_iald C kd_277 ln_277 gc_277 ha2 dX12_isHigher_98 (fun v6985 h6986 => ?_)
    refine r_isub C dX12_isHigher_99 ?_
    refine r_iload (pc := 100) (j := 2) C dX12_isHigher_100 rfl ?_
    refine r_imul C dX12_isHigher_102 ?_
    refine r_icmp_le (tgt := 110) C (IR_wr _) (IR_wr _) dX12_isHigher_103 (by decide) (fun c6987 => ?_) (fun c6987 => ?_)
    · refine r_f c6987 ?_
      refine r_iconst (v := 0) C dX12_isHigher_110 (by decide) ?_
      exact r_ireturn C hQ (nar_z (BRd rfl)) dX12_isHigher_111 (fun e => by cases e; exact ⟨(BRd rfl), rfl, rfl, rfl, rfl, rfl⟩)
    · refine r_t c6987 ?_
      refine r_iconst (v := 1) C dX12_isHigher_106 (by decide) ?_
      refine r_goto (tgt := 111) C dX12_isHigher_107 (by decide) ?_
      exact r_ireturn C hQ (nar_z (BRd rfl)) dX12_isHigher_111 (fun e => by cases e; exact ⟨(BRd rfl), rfl, rfl, rfl, rfl, rfl⟩)
  · refine r_f c6978 ?_
    refine r_iload (pc := 58) (j := 0) C dX12_isHigher_58 rfl ?_
    refine r_if_le (tgt := 67) C h6977 dX12_isHigher_60 (by decide) (fun c6988 => ?_) (fun c6988 => ?_)
    · refine r_f c6988 ?_
      refine r_iconst (v := 0) C dX12_isHigher_67 (by decide) ?_
      refine r_goto (tgt := 111) C dX12_isHigher_68 (by decide) ?_
      exact r_ireturn C hQ (nar_z (BRd rfl)) dX12_isHigher_111 (fun e => by cases e; exact ⟨(BRd rfl), rfl, rfl, rfl, rfl, rfl⟩)
    · refine r_t c6988 ?_
      refine r_iconst (v := 1) C dX12_isHigher_63 (by decide) ?_
      refine r_goto (tgt := 111) C dX12_isHigher_64 (by decide) ?_
      exact r_ireturn C hQ (nar_z (BRd rfl)) dX12_isHigher_111 (fun e => by cases e; exact ⟨(BRd rfl), rfl, rfl, rfl, rfl, rfl⟩)
