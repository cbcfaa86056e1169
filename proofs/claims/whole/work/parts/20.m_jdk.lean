/-! m_jdk: the methods as functions, and their walks (written by program) -/
def f_J9_min_7cf53 (a0 : Int) (a1 : Int) : Int :=
  if a1 < a0 then
    (a1)
  else
    (a0)
set_option maxRecDepth 100000 in
set_option maxHeartbeats 4000000 in
theorem m_J9_min_7cf53 {l : Launch} {E : EwT} {n : Nat} {R : Srf} {S : Sst} {O : Smo} {a0 : Int} (ha0 : IR a0) {a1 : Int} (ha1 : IR a1) {q : Int} (hq : f_J9_min_7cf53 a0 a1 = q) : MetG l E yJ9_min_7cf53 cJ9_min_7cf53 2 (some .int) 0 0 0 0 n R S O [.int (zi a0), .int (zi a1)] (IR q) (some (.int (zi q))) n R S O := by
  refine ofG (L0 := [(0, .int (zi a0)), (1, .int (zi a1))]) hq (by decide +kernel) (Nat.le_of_ble_eq_true rfl) rfl (fun K _ C hQ => ?_)
  unfold f_J9_min_7cf53
  refine r_iload_n (pc := 0) (j := 0) C dJ9_min_7cf53_0 rfl rfl ?_
  refine r_iload_n (pc := 1) (j := 1) C dJ9_min_7cf53_1 rfl rfl ?_
  refine r_icmp_gt (tgt := 9) C ha0 ha1 dJ9_min_7cf53_2 (by decide) (fun c83 => ?_) (fun c83 => ?_)
  · refine r_t c83 ?_
    refine r_iload_n (pc := 9) (j := 1) C dJ9_min_7cf53_9 rfl rfl ?_
    exact r_ireturn C hQ rfl dJ9_min_7cf53_10 (fun e => by subst e; exact ⟨ha1, rfl, rfl, rfl, rfl, rfl⟩)
  · refine r_f c83 ?_
    refine r_iload_n (pc := 5) (j := 0) C dJ9_min_7cf53_5 rfl rfl ?_
    refine r_goto (tgt := 10) C dJ9_min_7cf53_6 (by decide) ?_
    exact r_ireturn C hQ rfl dJ9_min_7cf53_10 (fun e => by subst e; exact ⟨ha0, rfl, rfl, rfl, rfl, rfl⟩)

def f_J9_max_7cf53 (a0 : Int) (a1 : Int) : Int :=
  if a0 < a1 then
    (a1)
  else
    (a0)
set_option maxRecDepth 100000 in
set_option maxHeartbeats 4000000 in
theorem m_J9_max_7cf53 {l : Launch} {E : EwT} {n : Nat} {R : Srf} {S : Sst} {O : Smo} {a0 : Int} (ha0 : IR a0) {a1 : Int} (ha1 : IR a1) {q : Int} (hq : f_J9_max_7cf53 a0 a1 = q) : MetG l E yJ9_max_7cf53 cJ9_max_7cf53 2 (some .int) 0 0 0 0 n R S O [.int (zi a0), .int (zi a1)] (IR q) (some (.int (zi q))) n R S O := by
  refine ofG (L0 := [(0, .int (zi a0)), (1, .int (zi a1))]) hq (by decide +kernel) (Nat.le_of_ble_eq_true rfl) rfl (fun K _ C hQ => ?_)
  unfold f_J9_max_7cf53
  refine r_iload_n (pc := 0) (j := 0) C dJ9_max_7cf53_0 rfl rfl ?_
  refine r_iload_n (pc := 1) (j := 1) C dJ9_max_7cf53_1 rfl rfl ?_
  refine r_icmp_lt (tgt := 9) C ha0 ha1 dJ9_max_7cf53_2 (by decide) (fun c379 => ?_) (fun c379 => ?_)
  · refine r_t c379 ?_
    refine r_iload_n (pc := 9) (j := 1) C dJ9_max_7cf53_9 rfl rfl ?_
    exact r_ireturn C hQ rfl dJ9_max_7cf53_10 (fun e => by subst e; exact ⟨ha1, rfl, rfl, rfl, rfl, rfl⟩)
  · refine r_f c379 ?_
    refine r_iload_n (pc := 5) (j := 0) C dJ9_max_7cf53_5 rfl rfl ?_
    refine r_goto (tgt := 10) C dJ9_max_7cf53_6 (by decide) ?_
    exact r_ireturn C hQ rfl dJ9_max_7cf53_10 (fun e => by subst e; exact ⟨ha0, rfl, rfl, rfl, rfl, rfl⟩)

def f_J6_compare_7cf53 (a0 : Int) (a1 : Int) : Int :=
  if a0 < a1 then
    ((-1))
  else
    (if a0 = a1 then
      (0)
    else
      (1))
set_option maxRecDepth 100000 in
set_option maxHeartbeats 4000000 in
theorem m_J6_compare_7cf53 {l : Launch} {E : EwT} {n : Nat} {R : Srf} {S : Sst} {O : Smo} {a0 : Int} (ha0 : IR a0) {a1 : Int} (ha1 : IR a1) {q : Int} (hq : f_J6_compare_7cf53 a0 a1 = q) : MetG l E yJ6_compare_7cf53 cJ6_compare_7cf53 2 (some .int) 0 0 0 0 n R S O [.int (zi a0), .int (zi a1)] (IR q) (some (.int (zi q))) n R S O := by
  refine ofG (L0 := [(0, .int (zi a0)), (1, .int (zi a1))]) hq (by decide +kernel) (Nat.le_of_ble_eq_true rfl) rfl (fun K _ C hQ => ?_)
  unfold f_J6_compare_7cf53
  refine r_iload_n (pc := 0) (j := 0) C dJ6_compare_7cf53_0 rfl rfl ?_
  refine r_iload_n (pc := 1) (j := 1) C dJ6_compare_7cf53_1 rfl rfl ?_
  refine r_icmp_ge (tgt := 9) C ha0 ha1 dJ6_compare_7cf53_2 (by decide) (fun c386 => ?_) (fun c386 => ?_)
  · refine r_f c386 ?_
    refine r_iload_n (pc := 9) (j := 0) C dJ6_compare_7cf53_9 rfl rfl ?_
    refine r_iload_n (pc := 10) (j := 1) C dJ6_compare_7cf53_10 rfl rfl ?_
    refine r_icmp_ne (tgt := 18) C ha0 ha1 dJ6_compare_7cf53_11 (by decide) (fun c387 => ?_) (fun c387 => ?_)
    · refine r_f c387 ?_
      refine r_iconst (v := 1) C dJ6_compare_7cf53_18 (by decide) ?_
      exact r_ireturn C hQ rfl dJ6_compare_7cf53_19 (fun e => by subst e; exact ⟨(IRd rfl), rfl, rfl, rfl, rfl, rfl⟩)
    · refine r_t c387 ?_
      refine r_iconst (v := 0) C dJ6_compare_7cf53_14 (by decide) ?_
      refine r_goto (tgt := 19) C dJ6_compare_7cf53_15 (by decide) ?_
      exact r_ireturn C hQ rfl dJ6_compare_7cf53_19 (fun e => by subst e; exact ⟨(IRd rfl), rfl, rfl, rfl, rfl, rfl⟩)
  · refine r_t c386 ?_
    refine r_iconst (v := (-1)) C dJ6_compare_7cf53_5 (by decide) ?_
    refine r_goto (tgt := 19) C dJ6_compare_7cf53_6 (by decide) ?_
    exact r_ireturn C hQ rfl dJ6_compare_7cf53_19 (fun e => by subst e; exact ⟨(IRd rfl), rfl, rfl, rfl, rfl, rfl⟩)

def f_J6_bitCount_0f7a4 (a0 : Int) : Int :=
  jn (wr (a0 - (zand (zushr a0 1) 1431655765))) fun (v1728 : Int) =>
  jn (wr ((zand v1728 858993459) + (zand (zushr v1728 2) 858993459))) fun (v1730 : Int) =>
  jn (zand (wr (v1730 + (zushr v1730 4))) 252645135) fun (v1732 : Int) =>
  jn (wr (v1732 + (zushr v1732 8))) fun (v1734 : Int) =>
  jn (wr (v1734 + (zushr v1734 16))) fun (v1736 : Int) =>
  zand v1736 63
set_option maxRecDepth 100000 in
set_option maxHeartbeats 4000000 in
theorem m_J6_bitCount_0f7a4 {l : Launch} {E : EwT} {n : Nat} {R : Srf} {S : Sst} {O : Smo} {a0 : Int} (ha0 : IR a0) {q : Int} (hq : f_J6_bitCount_0f7a4 a0 = q) : MetG l E yJ6_bitCount_0f7a4 cJ6_bitCount_0f7a4 1 (some .int) 0 0 0 0 n R S O [.int (zi a0)] (IR q) (some (.int (zi q))) n R S O := by
  refine ofG (L0 := [(0, .int (zi a0))]) hq (by decide +kernel) (Nat.le_of_ble_eq_true rfl) rfl (fun K _ C hQ => ?_)
  unfold f_J6_bitCount_0f7a4
  refine r_iload_n (pc := 0) (j := 0) C dJ6_bitCount_0f7a4_0 rfl rfl ?_
  refine r_iload_n (pc := 1) (j := 0) C dJ6_bitCount_0f7a4_1 rfl rfl ?_
  refine r_iconst (v := 1) C dJ6_bitCount_0f7a4_2 (by decide) ?_
  refine r_iushr C dJ6_bitCount_0f7a4_3 ?_
  refine r_ldcw (v := 1431655765) C q_1110 dJ6_bitCount_0f7a4_4 (by decide) ?_
  refine r_iand C dJ6_bitCount_0f7a4_7 ?_
  refine r_isub C dJ6_bitCount_0f7a4_8 ?_
  refine r_jv (IR_wr _) (fun v1728 h1729 => ?_)
  refine r_istore_n (L' := [(0, .int (zi v1728))]) C dJ6_bitCount_0f7a4_9 rfl (by decide) rfl ?_
  refine r_iload_n (pc := 10) (j := 0) C dJ6_bitCount_0f7a4_10 rfl rfl ?_
  refine r_ldcw (v := 858993459) C q_1111 dJ6_bitCount_0f7a4_11 (by decide) ?_
  refine r_iand C dJ6_bitCount_0f7a4_14 ?_
  refine r_iload_n (pc := 15) (j := 0) C dJ6_bitCount_0f7a4_15 rfl rfl ?_
  refine r_iconst (v := 2) C dJ6_bitCount_0f7a4_16 (by decide) ?_
  refine r_iushr C dJ6_bitCount_0f7a4_17 ?_
  refine r_ldcw (v := 858993459) C q_1111 dJ6_bitCount_0f7a4_18 (by decide) ?_
  refine r_iand C dJ6_bitCount_0f7a4_21 ?_
  refine r_iadd C dJ6_bitCount_0f7a4_22 ?_
  refine r_jv (IR_wr _) (fun v1730 h1731 => ?_)
  refine r_istore_n (L' := [(0, .int (zi v1730))]) C dJ6_bitCount_0f7a4_23 rfl (by decide) rfl ?_
  refine r_iload_n (pc := 24) (j := 0) C dJ6_bitCount_0f7a4_24 rfl rfl ?_
  refine r_iload_n (pc := 25) (j := 0) C dJ6_bitCount_0f7a4_25 rfl rfl ?_
  refine r_iconst (v := 4) C dJ6_bitCount_0f7a4_26 (by decide) ?_
  refine r_iushr C dJ6_bitCount_0f7a4_27 ?_
  refine r_iadd C dJ6_bitCount_0f7a4_28 ?_
  refine r_ldcw (v := 252645135) C q_1112 dJ6_bitCount_0f7a4_29 (by decide) ?_
  refine r_iand C dJ6_bitCount_0f7a4_32 ?_
  refine r_jv (i32_IR _) (fun v1732 h1733 => ?_)
  refine r_istore_n (L' := [(0, .int (zi v1732))]) C dJ6_bitCount_0f7a4_33 rfl (by decide) rfl ?_
  refine r_iload_n (pc := 34) (j := 0) C dJ6_bitCount_0f7a4_34 rfl rfl ?_
  refine r_iload_n (pc := 35) (j := 0) C dJ6_bitCount_0f7a4_35 rfl rfl ?_
  refine r_bipush (v := 8) C dJ6_bitCount_0f7a4_36 (by decide) ?_
  refine r_iushr C dJ6_bitCount_0f7a4_38 ?_
  refine r_iadd C dJ6_bitCount_0f7a4_39 ?_
  refine r_jv (IR_wr _) (fun v1734 h1735 => ?_)
  refine r_istore_n (L' := [(0, .int (zi v1734))]) C dJ6_bitCount_0f7a4_40 rfl (by decide) rfl ?_
  refine r_iload_n (pc := 41) (j := 0) C dJ6_bitCount_0f7a4_41 rfl rfl ?_
  refine r_iload_n (pc := 42) (j := 0) C dJ6_bitCount_0f7a4_42 rfl rfl ?_
  refine r_bipush (v := 16) C dJ6_bitCount_0f7a4_43 (by decide) ?_
  refine r_iushr C dJ6_bitCount_0f7a4_45 ?_
  refine r_iadd C dJ6_bitCount_0f7a4_46 ?_
  refine r_jv (IR_wr _) (fun v1736 h1737 => ?_)
  refine r_istore_n (L' := [(0, .int (zi v1736))]) C dJ6_bitCount_0f7a4_47 rfl (by decide) rfl ?_
  refine r_iload_n (pc := 48) (j := 0) C dJ6_bitCount_0f7a4_48 rfl rfl ?_
  refine r_bipush (v := 63) C dJ6_bitCount_0f7a4_49 (by decide) ?_
  refine r_iand C dJ6_bitCount_0f7a4_51 ?_
  exact r_ireturn C hQ rfl dJ6_bitCount_0f7a4_52 (fun e => by subst e; exact ⟨(i32_IR _), rfl, rfl, rfl, rfl, rfl⟩)

def f_J9_abs_0f7a4 (a0 : Int) : Int :=
  if a0 < 0 then
    (wr (-a0))
  else
    (a0)
set_option maxRecDepth 100000 in
set_option maxHeartbeats 4000000 in
theorem m_J9_abs_0f7a4 {l : Launch} {E : EwT} {n : Nat} {R : Srf} {S : Sst} {O : Smo} {a0 : Int} (ha0 : IR a0) {q : Int} (hq : f_J9_abs_0f7a4 a0 = q) : MetG l E yJ9_abs_0f7a4 cJ9_abs_0f7a4 1 (some .int) 0 0 0 0 n R S O [.int (zi a0)] (IR q) (some (.int (zi q))) n R S O := by
  refine ofG (L0 := [(0, .int (zi a0))]) hq (by decide +kernel) (Nat.le_of_ble_eq_true rfl) rfl (fun K _ C hQ => ?_)
  unfold f_J9_abs_0f7a4
  refine r_iload_n (pc := 0) (j := 0) C dJ9_abs_0f7a4_0 rfl rfl ?_
  refine r_if_ge (tgt := 9) C ha0 dJ9_abs_0f7a4_1 (by decide) (fun c3179 => ?_) (fun c3179 => ?_)
  · refine r_f c3179 ?_
    refine r_iload_n (pc := 9) (j := 0) C dJ9_abs_0f7a4_9 rfl rfl ?_
    exact r_ireturn C hQ rfl dJ9_abs_0f7a4_10 (fun e => by subst e; exact ⟨ha0, rfl, rfl, rfl, rfl, rfl⟩)
  · refine r_t c3179 ?_
    refine r_iload_n (pc := 4) (j := 0) C dJ9_abs_0f7a4_4 rfl rfl ?_
    refine r_ineg C dJ9_abs_0f7a4_5 ?_
    refine r_goto (tgt := 10) C dJ9_abs_0f7a4_6 (by decide) ?_
    exact r_ireturn C hQ rfl dJ9_abs_0f7a4_10 (fun e => by subst e; exact ⟨(IR_wr _), rfl, rfl, rfl, rfl, rfl⟩)

def f_J9_floorDiv_7cf53 (a0 : Int) (a1 : Int) : Option (Int) :=
  Option.bind ((if a1 = 0 then none else some (zdiv a0 a1))) fun (v4122 : Int) =>
  if (zxor a0 a1 < 0 ∧ ¬ wr (v4122 * a1) = a0) then
    (some (wr (v4122 - 1)))
  else
    (some v4122)
set_option maxRecDepth 100000 in
set_option maxHeartbeats 4000000 in
theorem m_J9_floorDiv_7cf53 {l : Launch} {E : EwT} {n : Nat} {R : Srf} {S : Sst} {O : Smo} {a0 : Int} (ha0 : IR a0) {a1 : Int} (ha1 : IR a1) {q : Int} (hq : f_J9_floorDiv_7cf53 a0 a1 = some q) : MetG l E yJ9_floorDiv_7cf53 cJ9_floorDiv_7cf53 3 (some .int) 0 0 0 0 n R S O [.int (zi a0), .int (zi a1)] (IR q) (some (.int (zi q))) n R S O := by
  refine ofG (L0 := [(0, .int (zi a0)), (1, .int (zi a1))]) hq (by decide +kernel) (Nat.le_of_ble_eq_true rfl) rfl (fun K _ C hQ => ?_)
  unfold f_J9_floorDiv_7cf53
  refine r_iload_n (pc := 0) (j := 0) C dJ9_floorDiv_7cf53_0 rfl rfl ?_
  refine r_iload_n (pc := 1) (j := 1) C dJ9_floorDiv_7cf53_1 rfl rfl ?_
  refine r_idiv C ha1 dJ9_floorDiv_7cf53_2 (fun v4122 h4123 => ?_)
  refine r_istore_n (L' := [(2, .int (zi v4122)), (0, .int (zi a0)), (1, .int (zi a1))]) C dJ9_floorDiv_7cf53_3 rfl (by decide) rfl ?_
  refine r_iload_n (pc := 4) (j := 1) C dJ9_floorDiv_7cf53_4 rfl rfl ?_
  refine r_iload_n (pc := 5) (j := 2) C dJ9_floorDiv_7cf53_5 rfl rfl ?_
  refine r_ixor C dJ9_floorDiv_7cf53_6 ?_
  refine r_cut (zxor a0 a1 < 0 ∧ ¬ wr (v4122 * a1) = a0) 17 21 [] (fun c4124 => ?_) (fun c4124 => ?_) (fun k4125 k4126 => ?_)
  · refine r_t c4124 ?_
    refine r_iload_n (pc := 17) (j := 0) C dJ9_floorDiv_7cf53_17 rfl rfl ?_
    refine r_iconst (v := 1) C dJ9_floorDiv_7cf53_18 (by decide) ?_
    refine r_isub C dJ9_floorDiv_7cf53_19 ?_
    exact r_ireturn C hQ rfl dJ9_floorDiv_7cf53_20 (fun e => by cases e; exact ⟨(IR_wr _), rfl, rfl, rfl, rfl, rfl⟩)
  · refine r_f c4124 ?_
    refine r_iload_n (pc := 21) (j := 0) C dJ9_floorDiv_7cf53_21 rfl rfl ?_
    exact r_ireturn C hQ rfl dJ9_floorDiv_7cf53_22 (fun e => by cases e; exact ⟨h4123, rfl, rfl, rfl, rfl, rfl⟩)
  · refine r_if_ge (tgt := 21) C (i32_IR _) dJ9_floorDiv_7cf53_7 (by decide) (fun c4127 => ?_) (fun c4127 => ?_)
    · exact k4126 (fun w => c4127 w.1)
    · refine r_iload_n (pc := 10) (j := 0) C dJ9_floorDiv_7cf53_10 rfl rfl ?_
      refine r_iload_n (pc := 11) (j := 2) C dJ9_floorDiv_7cf53_11 rfl rfl ?_
      refine r_imul C dJ9_floorDiv_7cf53_12 ?_
      refine r_iload_n (pc := 13) (j := 1) C dJ9_floorDiv_7cf53_13 rfl rfl ?_
      refine r_icmp_eq (tgt := 21) C (IR_wr _) ha0 dJ9_floorDiv_7cf53_14 (by decide) (fun c4128 => ?_) (fun c4128 => ?_)
      · exact k4126 (fun w => w.2 c4128)
      · exact k4125 ⟨c4127, c4128⟩
