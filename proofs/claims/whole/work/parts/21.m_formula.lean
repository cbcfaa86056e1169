/-! m_formula: the methods as functions, and their walks (written by program) -/
def f_X1_clear (p : Nat) (S : Sst) : Sst :=
  jn (upS S p 0 0) fun (S40 : Sst) =>
  jn (f_X6_clear (p + 1) S40) fun (q42 : Sst) =>
  q42
set_option maxRecDepth 100000 in
set_option maxHeartbeats 4000000 in
theorem m_X1_clear {l : Launch} {E : EwT} {n : Nat} {R : Srf} {S : Sst} {O : Smo} {p : Nat} (hp : gFm n R p) {q : Sst} (hq : f_X1_clear p S = q) : MetG l E yX1_clear cX1_clear 1 none 1 20 0 0 n R S O [.ref (zad E p)] (True) none n R q O := by
  refine ofG (L0 := [(0, .ref (zad E p))]) hq (by decide +kernel) (Nat.le_of_ble_eq_true rfl) rfl (fun K _ C hQ => ?_)
  unfold f_X1_clear
  refine r_aload_n (pc := 0) (j := 0) C dX1_clear_0 rfl rfl ?_
  refine r_iconst (v := 0) C dX1_clear_1 (by decide) ?_
  refine r_putS C cl_X1 (gFm_k hp).1 (gFm_k hp).2.1 (gFm_k hp).2.2 (by decide) (by decide) rfl rfl rfl (IRd rfl) q_188 dX1_clear_2 (fun S40 => ?_)
  refine r_aload_n (pc := 5) (j := 0) C dX1_clear_5 rfl rfl ?_
  refine r_getR (j := 1) (r := (p + 1)) C cl_X1 (gFm_k hp).1 (gFm_k hp).2.1 (by decide) rfl (hp.2.2 (0, 1, 1) (by decide)) (by omega) q_191 dX1_clear_6 ?_
  refine r_jn (fun q42 e43 => ?_)
  refine r_cV0 (pc := 9) (k := (p + 1)) (As := []) (st := []) C (m_X6_clear (p := (p + 1)) (gFm_w hp (i := 0) (by decide)) e43) cal_X6_clear cl_X6 (gRw_k (gFm_w hp (i := 0) (by decide))).1 (gRw_k (gFm_w hp (i := 0) (by decide))).2.1 q_212 dX1_clear_9 rfl rfl (Nat.le_of_ble_eq_true rfl) (Nat.le_of_ble_eq_true rfl) (Nat.le_of_ble_eq_true rfl) (Nat.le_of_ble_eq_true rfl) (Nat.le_of_ble_eq_true rfl) (fun h41 => ?_)
  exact r_return C hQ dX1_clear_12 (fun e => by subst e; exact ⟨trivial, rfl, rfl, rfl, rfl, rfl⟩)

def f_X1_add (p : Nat) (a1 : Int) (S : Sst) : Sst :=
  jn (f_X6_add (p + 1) a1 S) fun (q45 : Sst) =>
  q45
set_option maxRecDepth 100000 in
set_option maxHeartbeats 4000000 in
theorem m_X1_add {l : Launch} {E : EwT} {n : Nat} {R : Srf} {S : Sst} {O : Smo} {p : Nat} (hp : gFm n R p) {a1 : Int} (ha1 : IR a1) {q : Sst} (hq : f_X1_add p a1 S = q) : MetG l E yX1_add cX1_add 2 none 1 21 0 0 n R S O [.ref (zad E p), .int (zi a1)] (True) none n R q O := by
  refine ofG (L0 := [(0, .ref (zad E p)), (1, .int (zi a1))]) hq (by decide +kernel) (Nat.le_of_ble_eq_true rfl) rfl (fun K _ C hQ => ?_)
  unfold f_X1_add
  refine r_aload_n (pc := 0) (j := 0) C dX1_add_0 rfl rfl ?_
  refine r_getR (j := 1) (r := (p + 1)) C cl_X1 (gFm_k hp).1 (gFm_k hp).2.1 (by decide) rfl (hp.2.2 (0, 1, 1) (by decide)) (by omega) q_191 dX1_add_1 ?_
  refine r_iload_n (pc := 4) (j := 1) C dX1_add_4 rfl rfl ?_
  refine r_jn (fun q45 e46 => ?_)
  refine r_cV0 (pc := 5) (k := (p + 1)) (As := [.int (zi a1)]) (st := []) C (m_X6_add (p := (p + 1)) (a1 := a1) (gFm_w hp (i := 0) (by decide)) ha1 e46) cal_X6_add cl_X6 (gRw_k (gFm_w hp (i := 0) (by decide))).1 (gRw_k (gFm_w hp (i := 0) (by decide))).2.1 q_217 dX1_add_5 rfl rfl (Nat.le_of_ble_eq_true rfl) (Nat.le_of_ble_eq_true rfl) (Nat.le_of_ble_eq_true rfl) (Nat.le_of_ble_eq_true rfl) (Nat.le_of_ble_eq_true rfl) (fun h44 => ?_)
  exact r_return C hQ dX1_add_8 (fun e => by subst e; exact ⟨trivial, rfl, rfl, rfl, rfl, rfl⟩)

def f_X3_isBlank (a0 : Int) : Int :=
  if (a0 = 32 ∨ a0 = 10) then
    (1)
  else
    (0)
set_option maxRecDepth 100000 in
set_option maxHeartbeats 4000000 in
theorem m_X3_isBlank {l : Launch} {E : EwT} {n : Nat} {R : Srf} {S : Sst} {O : Smo} {a0 : Int} (ha0 : IR a0) {q : Int} (hq : f_X3_isBlank a0 = q) : MetG l E yX3_isBlank cX3_isBlank 1 (some .boolean) 0 0 0 0 n R S O [.int (zi a0)] (BR q) (some (.int (zi q))) n R S O := by
  refine ofG (L0 := [(0, .int (zi a0))]) hq (by decide +kernel) (Nat.le_of_ble_eq_true rfl) rfl (fun K _ C hQ => ?_)
  unfold f_X3_isBlank
  refine r_iload_n (pc := 0) (j := 0) C dX3_isBlank_0 rfl rfl ?_
  refine r_bipush (v := 32) C dX3_isBlank_1 (by decide) ?_
  refine r_cut (a0 = 32 ∨ a0 = 10) 12 16 [] (fun c84 => ?_) (fun c84 => ?_) (fun k85 k86 => ?_)
  · refine r_t c84 ?_
    refine r_iconst (v := 1) C dX3_isBlank_12 (by decide) ?_
    refine r_goto (tgt := 17) C dX3_isBlank_13 (by decide) ?_
    exact r_ireturn C hQ (nar_z (BRd rfl)) dX3_isBlank_17 (fun e => by subst e; exact ⟨(BRd rfl), rfl, rfl, rfl, rfl, rfl⟩)
  · refine r_f c84 ?_
    refine r_iconst (v := 0) C dX3_isBlank_16 (by decide) ?_
    exact r_ireturn C hQ (nar_z (BRd rfl)) dX3_isBlank_17 (fun e => by subst e; exact ⟨(BRd rfl), rfl, rfl, rfl, rfl, rfl⟩)
  · refine r_icmp_eq (tgt := 12) C ha0 (IRd rfl) dX3_isBlank_3 (by decide) (fun c87 => ?_) (fun c87 => ?_)
    · exact k85 (Or.inl c87)
    · refine r_iload_n (pc := 6) (j := 0) C dX3_isBlank_6 rfl rfl ?_
      refine r_bipush (v := 10) C dX3_isBlank_7 (by decide) ?_
      refine r_icmp_ne (tgt := 16) C ha0 (IRd rfl) dX3_isBlank_9 (by decide) (fun c88 => ?_) (fun c88 => ?_)
      · exact k86 (fun w => w.elim c87 c88)
      · exact k85 (Or.inr c88)

def f_X3_isLetter (a0 : Int) : Int :=
  if (a0 < 97 ∨ 122 < a0) then
    (0)
  else
    (1)
set_option maxRecDepth 100000 in
set_option maxHeartbeats 4000000 in
theorem m_X3_isLetter {l : Launch} {E : EwT} {n : Nat} {R : Srf} {S : Sst} {O : Smo} {a0 : Int} (ha0 : IR a0) {q : Int} (hq : f_X3_isLetter a0 = q) : MetG l E yX3_isLetter cX3_isLetter 1 (some .boolean) 0 0 0 0 n R S O [.int (zi a0)] (BR q) (some (.int (zi q))) n R S O := by
  refine ofG (L0 := [(0, .int (zi a0))]) hq (by decide +kernel) (Nat.le_of_ble_eq_true rfl) rfl (fun K _ C hQ => ?_)
  unfold f_X3_isLetter
  refine r_iload_n (pc := 0) (j := 0) C dX3_isLetter_0 rfl rfl ?_
  refine r_bipush (v := 97) C dX3_isLetter_1 (by decide) ?_
  refine r_cut (a0 < 97 ∨ 122 < a0) 16 12 [] (fun c89 => ?_) (fun c89 => ?_) (fun k90 k91 => ?_)
  · refine r_t c89 ?_
    refine r_iconst (v := 0) C dX3_isLetter_16 (by decide) ?_
    exact r_ireturn C hQ (nar_z (BRd rfl)) dX3_isLetter_17 (fun e => by subst e; exact ⟨(BRd rfl), rfl, rfl, rfl, rfl, rfl⟩)
  · refine r_f c89 ?_
    refine r_iconst (v := 1) C dX3_isLetter_12 (by decide) ?_
    refine r_goto (tgt := 17) C dX3_isLetter_13 (by decide) ?_
    exact r_ireturn C hQ (nar_z (BRd rfl)) dX3_isLetter_17 (fun e => by subst e; exact ⟨(BRd rfl), rfl, rfl, rfl, rfl, rfl⟩)
  · refine r_icmp_lt (tgt := 16) C ha0 (IRd rfl) dX3_isLetter_3 (by decide) (fun c92 => ?_) (fun c92 => ?_)
    · exact k90 (Or.inl c92)
    · refine r_iload_n (pc := 6) (j := 0) C dX3_isLetter_6 rfl rfl ?_
      refine r_bipush (v := 122) C dX3_isLetter_7 (by decide) ?_
      refine r_icmp_gt (tgt := 16) C ha0 (IRd rfl) dX3_isLetter_9 (by decide) (fun c93 => ?_) (fun c93 => ?_)
      · exact k90 (Or.inr c93)
      · exact k91 (fun w => w.elim c92 c93)

def f_X3_spell (a0 : Int) (a2 : Int) : Int :=
  wl ((wl (a0 * 32)) + (wr ((wr (a2 - 97)) + 1)))
set_option maxRecDepth 100000 in
set_option maxHeartbeats 4000000 in
theorem m_X3_spell {l : Launch} {E : EwT} {n : Nat} {R : Srf} {S : Sst} {O : Smo} {a0 : Int} (ha0 : LR a0) {a2 : Int} (ha2 : IR a2) {q : Int} (hq : f_X3_spell a0 a2 = q) : MetG l E yX3_spell cX3_spell 3 (some .long) 0 0 0 0 n R S O [.long (zl a0), .int (zi a2)] (LR q) (some (.long (zl q))) n R S O := by
  refine ofG (L0 := [(0, .long (zl a0)), (2, .int (zi a2))]) hq (by decide +kernel) (Nat.le_of_ble_eq_true rfl) rfl (fun K _ C hQ => ?_)
  unfold f_X3_spell
  refine r_lload_n (pc := 0) (j := 0) C dX3_spell_0 rfl rfl ?_
  refine r_ldc2 (v := 32) C q_340 dX3_spell_1 (by decide) ?_
  refine r_lmul C dX3_spell_4 ?_
  refine r_iload_n (pc := 5) (j := 1) C dX3_spell_5 rfl rfl ?_
  refine r_bipush (v := 97) C dX3_spell_6 (by decide) ?_
  refine r_isub C dX3_spell_8 ?_
  refine r_iconst (v := 1) C dX3_spell_9 (by decide) ?_
  refine r_iadd C dX3_spell_10 ?_
  refine r_i2l C (IR_wr _) dX3_spell_11 ?_
  refine r_ladd C dX3_spell_12 ?_
  exact r_lreturn C hQ dX3_spell_13 (fun e => by subst e; exact ⟨(LR_wl _), rfl, rfl, rfl, rfl, rfl⟩)

def f_X3_kindOfWord (S : Sst) : Option (Int) :=
  Option.bind (lp (fun (s112 : Int) =>
    if (s112 < S.2 53 6 ∧ s112 < (Ln 54 : Int)) then
      (Option.bind (aget (S.2 54) (Ln 54) s112) fun (v124 : Int) =>
      if zlcmp v124 (S.2 53 7) = 0 then
        (some (Sum.inr (Sum.inl s112)))
      else
        (some (Sum.inl (wr (s112 + 1)))))
    else
      (some (Sum.inr (Sum.inr ())))) FU 0) fun z135 => Sum.elim (fun (r130 : Int) =>
    if r130 < 14 then
      (some (wr (100 + r130)))
    else
      (some 4)) (fun (r132 : Unit) =>
    some 3) z135
set_option maxRecDepth 100000 in
set_option maxHeartbeats 4000000 in
theorem m_X3_kindOfWord {l : Launch} {E : EwT} {S : Sst} {O : Smo}  {q : Int} (hq : f_X3_kindOfWord S = some q) : MetG l E yX3_kindOfWord cX3_kindOfWord 2 (some .int) 0 0 0 0 n0 R0 S O [.ref (zad E 53)] (IR q) (some (.int (zi q))) n0 R0 S O := by
  refine ofG (L0 := [(0, .ref (zad E 53))]) hq (by decide +kernel) (Nat.le_of_ble_eq_true rfl) rfl (fun K _ C hQ => ?_)
  unfold f_X3_kindOfWord
  refine r_iconst (v := 0) C dX3_kindOfWord_0 (by decide) ?_
  refine r_istore_n (L' := [(1, .int (zi 0)), (0, .ref (zad E 53))]) C dX3_kindOfWord_1 rfl (by decide) rfl ?_
  refine r_L (L' := [(0, .ref (zad E 53)), (1, .int (zi 0))]) [1, 0] rfl ?_
  refine r_loop2 (fun s112 : Int => IR s112) (fun s112 => S) (fun s112 => O) (fun s112 => [(0, .ref (zad E 53)), (1, .int (zi s112))]) [] (fun r130 : Int => IR r130) (fun r130 => S) (fun r130 => O) (fun r130 => [(1, .int (zi r130))]) 33 (fun r130 h131 => ?_) (fun r132 : Unit => True) (fun r132 => S) (fun r132 => O) (fun r132 => []) 54 (fun r132 h133 => ?_) (fun k114 k116 k118 k115 k117 k119 s112 h113 => ?_) (IRd rfl)
  · refine r_iload_n (pc := 33) (j := 0) C dX3_kindOfWord_33 rfl rfl ?_
    refine r_bipush (v := 14) C dX3_kindOfWord_34 (by decide) ?_
    refine r_icmp_ge (tgt := 46) C h131 (IRd rfl) dX3_kindOfWord_36 (by decide) (fun c134 => ?_) (fun c134 => ?_)
    · refine r_f c134 ?_
      refine r_iconst (v := 4) C dX3_kindOfWord_46 (by decide) ?_
      exact r_ireturn C hQ rfl dX3_kindOfWord_47 (fun e => by cases e; exact ⟨(IRd rfl), rfl, rfl, rfl, rfl, rfl⟩)
    · refine r_t c134 ?_
      refine r_bipush (v := 100) C dX3_kindOfWord_39 (by decide) ?_
      refine r_iload_n (pc := 41) (j := 0) C dX3_kindOfWord_41 rfl rfl ?_
      refine r_iadd C dX3_kindOfWord_42 ?_
      refine r_goto (tgt := 47) C dX3_kindOfWord_43 (by decide) ?_
      exact r_ireturn C hQ rfl dX3_kindOfWord_47 (fun e => by cases e; exact ⟨(IR_wr _), rfl, rfl, rfl, rfl, rfl⟩)
  · refine r_iconst (v := 3) C dX3_kindOfWord_54 (by decide) ?_
    exact r_ireturn C hQ rfl dX3_kindOfWord_55 (fun e => by cases e; exact ⟨(IRd rfl), rfl, rfl, rfl, rfl, rfl⟩)
  · refine r_iload_n (pc := 2) (j := 1) C dX3_kindOfWord_2 rfl rfl ?_
    refine r_aload_n (pc := 3) (j := 0) C dX3_kindOfWord_3 rfl rfl ?_
    refine r_getS (j := 6) C cl_X3 kd_53 ln_53 lc_53 (by decide) (by decide) rfl q_353 dX3_kindOfWord_4 (fun h120 => ?_)
    refine r_cut (s112 < S.2 53 6 ∧ s112 < (Ln 54 : Int)) 19 54 [] (fun c121 => ?_) (fun c121 => ?_) (fun k122 k123 => ?_)
    · refine r_bt c121 ?_
      refine r_aload_n (pc := 19) (j := 0) C dX3_kindOfWord_19 rfl rfl ?_
      refine r_getR (j := 5) (r := 54) C cl_X3 kd_53 ln_53 (by decide) rfl r0_53_5 (by decide) q_352 dX3_kindOfWord_20 ?_
      refine r_iload_n (pc := 23) (j := 1) C dX3_kindOfWord_23 rfl rfl ?_
      refine r_bb ?_
      refine r_laldS C kd_54 ln_54 lc_54 h113 dX3_kindOfWord_24 (fun v124 h125 => ?_)
      refine r_aload_n (pc := 25) (j := 0) C dX3_kindOfWord_25 rfl rfl ?_
      refine r_getSl (j := 7) C cl_X3 kd_53 ln_53 lc_53 (by decide) (by decide) rfl q_354 dX3_kindOfWord_26 (fun h126 => ?_)
      refine r_lcmp C h125 h126 dX3_kindOfWord_29 ?_
      refine r_if_ne (tgt := 48) C (zlcmp_IR _ _) dX3_kindOfWord_30 (by decide) (fun c127 => ?_) (fun c127 => ?_)
      · refine r_bf c127 ?_
        refine r_iinc (j := 1) (L' := [(1, .int (zi (wr (s112 + 1)))), (0, .ref (zad E 53))]) C dX3_kindOfWord_48 rfl (by decide) rfl ?_
        refine r_goto (tgt := 2) C dX3_kindOfWord_51 (by decide) ?_
        refine r_L (L' := [(0, .ref (zad E 53)), (1, .int (zi (wr (s112 + 1))))]) [1, 0] rfl ?_
        exact k115 (wr (s112 + 1)) (IR_wr _)
      · refine r_bt c127 ?_
        refine r_L (L' := [(1, .int (zi s112))]) [1] rfl ?_
        exact k117 s112 h113
    · refine r_bf c121 ?_
      refine r_L (L' := []) [] rfl ?_
      exact k119 () trivial
    · refine r_icmp_ge (tgt := 54) C h113 h120 dX3_kindOfWord_7 (by decide) (fun c128 => ?_) (fun c128 => ?_)
      · exact k123 (fun w => c128 w.1)
      · refine r_iload_n (pc := 10) (j := 1) C dX3_kindOfWord_10 rfl rfl ?_
        refine r_aload_n (pc := 11) (j := 0) C dX3_kindOfWord_11 rfl rfl ?_
        refine r_getR (j := 5) (r := 54) C cl_X3 kd_53 ln_53 (by decide) rfl r0_53_5 (by decide) q_352 dX3_kindOfWord_12 ?_
        refine r_alen C (Or.inr (Or.inr (Or.inl kd_54))) ln_54 dX3_kindOfWord_15 ?_
        refine r_icmp_ge (tgt := 54) C h113 (IRd rfl) dX3_kindOfWord_16 (by decide) (fun c129 => ?_) (fun c129 => ?_)
        · exact k123 (fun w => c129 w.2)
        · exact k122 ⟨c128, c129⟩

def f_X3_stepWord (S : Sst) : Option (Sst) :=
  jn (upS S 53 7 0) fun (S136 : Sst) =>
  Option.bind (lp (fun (s137 : Sst) =>
    if (s137.2 53 9 < f_X6_size 1 s137 ∧ ¬ f_X3_isLetter (f_X6_at 1 (s137.2 53 9) s137) = 0) then
      (jn (upS s137 53 7 (f_X3_spell (s137.2 53 7) (f_X6_at 1 (s137.2 53 9) s137))) fun (S155 : Sst) =>
      jn (upS S155 53 9 (wr ((S155.2 53 9) + 1))) fun (S157 : Sst) =>
      some (Sum.inl S157))
    else
      (some (Sum.inr s137))) FU S136) fun (r160 : Sst) =>
  Option.bind (
    if 8 < wr ((r160.2 53 9) - (r160.2 53 8)) then
      (some 1)
    else
      (Option.bind (f_X3_kindOfWord r160) fun (q170 : Int) =>
      some q170)) fun (q164 : Int) =>
  jn (upS r160 53 0 q164) fun (S172 : Sst) =>
  some S172
set_option maxRecDepth 100000 in
set_option maxHeartbeats 4000000 in
theorem m_X3_stepWord {l : Launch} {E : EwT} {S : Sst} {O : Smo}  {q : Sst} (hq : f_X3_stepWord S = some q) : MetG l E yX3_stepWord cX3_stepWord 1 none 1 22 0 0 n0 R0 S O [.ref (zad E 53)] (True) none n0 R0 q O := by
  refine ofG (L0 := [(0, .ref (zad E 53))]) hq (by decide +kernel) (Nat.le_of_ble_eq_true rfl) rfl (fun K _ C hQ => ?_)
  unfold f_X3_stepWord
  refine r_aload_n (pc := 0) (j := 0) C dX3_stepWord_0 rfl rfl ?_
  refine r_lconst (v := 0) C dX3_stepWord_1 (by decide) ?_
  refine r_putSl C cl_X3 kd_53 ln_53 lc_53 (by decide) (by decide) rfl rfl rfl (LRd rfl) q_354 dX3_stepWord_2 (fun S136 => ?_)
  refine r_loop1 (fun s137 : Sst => True) (fun s137 => s137) (fun s137 => O) (fun s137 => [(0, .ref (zad E 53))]) [] (fun r160 : Sst => True) (fun r160 => r160) (fun r160 => O) (fun r160 => [(0, .ref (zad E 53))]) 71 (fun r160 h161 => ?_) (fun k139 k141 k140 k142 s137 h138 => ?_) trivial
  · refine r_aload_n (pc := 71) (j := 0) C dX3_stepWord_71 rfl rfl ?_
    refine r_aload_n (pc := 72) (j := 0) C dX3_stepWord_72 rfl rfl ?_
    refine r_getS (j := 9) C cl_X3 kd_53 ln_53 lc_53 (by decide) (by decide) rfl q_356 dX3_stepWord_73 (fun h162 => ?_)
    refine r_aload_n (pc := 76) (j := 0) C dX3_stepWord_76 rfl rfl ?_
    refine r_getS (j := 8) C cl_X3 kd_53 ln_53 lc_53 (by decide) (by decide) rfl q_355 dX3_stepWord_77 (fun h163 => ?_)
    refine r_isub C dX3_stepWord_80 ?_
    refine r_bipush (v := 8) C dX3_stepWord_81 (by decide) ?_
    refine r_joinb (fun q164 : Int => IR q164) (fun q164 => r160) (fun q164 => O) (fun q164 => []) 94 (fun q164 => [.int (zi q164), .ref (zad E 53)]) (fun q164 h165 => ?_) (fun k166 k167 => ?_)
    · refine r_putS C cl_X3 kd_53 ln_53 lc_53 (by decide) (by decide) rfl rfl rfl h165 q_343 dX3_stepWord_94 (fun S172 => ?_)
      exact r_return C hQ dX3_stepWord_97 (fun e => by cases e; exact ⟨trivial, rfl, rfl, rfl, rfl, rfl⟩)
    · refine r_icmp_le (tgt := 90) C (IR_wr _) (IRd rfl) dX3_stepWord_83 (by decide) (fun c168 => ?_) (fun c168 => ?_)
      · refine r_bf c168 ?_
        refine r_aload_n (pc := 90) (j := 0) C dX3_stepWord_90 rfl rfl ?_
        refine r_bb ?_
        refine r_bd (fun q170 e171 => ?_)
        refine r_cV1 (pc := 91) (k := 53) (As := []) (st := [.ref (zad E 53)]) C (m_X3_kindOfWord  e171) cal_X3_kindOfWord cl_X3 kd_53 ln_53 q_785 dX3_stepWord_91 rfl rfl (Nat.le_of_ble_eq_true rfl) (Nat.le_of_ble_eq_true rfl) (Nat.le_of_ble_eq_true rfl) (Nat.le_of_ble_eq_true rfl) (Nat.le_of_ble_eq_true rfl) (fun h169 => ?_)
        refine r_L (L' := []) [] rfl ?_
        exact k167 q170 h169
      · refine r_bt c168 ?_
        refine r_iconst (v := 1) C dX3_stepWord_86 (by decide) ?_
        refine r_goto (tgt := 94) C dX3_stepWord_87 (by decide) ?_
        refine r_L (L' := []) [] rfl ?_
        exact k167 1 (IRd rfl)
  · refine r_aload_n (pc := 5) (j := 0) C dX3_stepWord_5 rfl rfl ?_
    refine r_getS (j := 9) C cl_X3 kd_53 ln_53 lc_53 (by decide) (by decide) rfl q_356 dX3_stepWord_6 (fun h143 => ?_)
    refine r_aload_n (pc := 9) (j := 0) C dX3_stepWord_9 rfl rfl ?_
    refine r_getR (j := 4) (r := 1) C cl_X3 kd_53 ln_53 (by decide) rfl r0_53_4 (by decide) q_351 dX3_stepWord_10 ?_
    refine r_cV1 (pc := 13) (k := 1) (As := []) (st := [.int (zi (s137.2 53 9))]) C (m_X6_size (p := 1) gw_1 rfl) cal_X6_size cl_X6 kd_1 ln_1 q_770 dX3_stepWord_13 rfl rfl (Nat.le_of_ble_eq_true rfl) (Nat.le_of_ble_eq_true rfl) (Nat.le_of_ble_eq_true rfl) (Nat.le_of_ble_eq_true rfl) (Nat.le_of_ble_eq_true rfl) (fun h144 => ?_)
    refine r_cut (s137.2 53 9 < f_X6_size 1 s137 ∧ ¬ f_X3_isLetter (f_X6_at 1 (s137.2 53 9) s137) = 0) 36 71 [] (fun c148 => ?_) (fun c148 => ?_) (fun k149 k150 => ?_)
    · refine r_bt c148 ?_
      refine r_aload_n (pc := 36) (j := 0) C dX3_stepWord_36 rfl rfl ?_
      refine r_aload_n (pc := 37) (j := 0) C dX3_stepWord_37 rfl rfl ?_
      refine r_getSl (j := 7) C cl_X3 kd_53 ln_53 lc_53 (by decide) (by decide) rfl q_354 dX3_stepWord_38 (fun h151 => ?_)
      refine r_aload_n (pc := 41) (j := 0) C dX3_stepWord_41 rfl rfl ?_
      refine r_getR (j := 4) (r := 1) C cl_X3 kd_53 ln_53 (by decide) rfl r0_53_4 (by decide) q_351 dX3_stepWord_42 ?_
      refine r_aload_n (pc := 45) (j := 0) C dX3_stepWord_45 rfl rfl ?_
      refine r_getS (j := 9) C cl_X3 kd_53 ln_53 lc_53 (by decide) (by decide) rfl q_356 dX3_stepWord_46 (fun h152 => ?_)
      refine r_cV1 (pc := 49) (k := 1) (As := [.int (zi (s137.2 53 9))]) (st := [.long (zl (s137.2 53 7)), .ref (zad E 53)]) C (m_X6_at (p := 1) (a1 := s137.2 53 9) gw_1 h152 rfl) cal_X6_at cl_X6 kd_1 ln_1 q_771 dX3_stepWord_49 rfl rfl (Nat.le_of_ble_eq_true rfl) (Nat.le_of_ble_eq_true rfl) (Nat.le_of_ble_eq_true rfl) (Nat.le_of_ble_eq_true rfl) (Nat.le_of_ble_eq_true rfl) (fun h153 => ?_)
      refine r_cS1 (pc := 52) (As := [.long (zl (s137.2 53 7)), .int (zi (f_X6_at 1 (s137.2 53 9) s137))]) (st := [.ref (zad E 53)]) C (m_X3_spell (a0 := s137.2 53 7) (a2 := f_X6_at 1 (s137.2 53 9) s137) h151 h153 rfl) cal_X3_spell q_337 dX3_stepWord_52 rfl rfl (Nat.le_of_ble_eq_true rfl) (Nat.le_of_ble_eq_true rfl) (Nat.le_of_ble_eq_true rfl) (Nat.le_of_ble_eq_true rfl) (Nat.le_of_ble_eq_true rfl) (fun h154 => ?_)
      refine r_bj ?_
      refine r_putSl C cl_X3 kd_53 ln_53 lc_53 (by decide) (by decide) rfl rfl rfl h154 q_354 dX3_stepWord_55 (fun S155 => ?_)
      refine r_aload_n (pc := 58) (j := 0) C dX3_stepWord_58 rfl rfl ?_
      refine r_dup C dX3_stepWord_59 rfl ?_
      refine r_getS (j := 9) C cl_X3 kd_53 ln_53 lc_53 (by decide) (by decide) rfl q_356 dX3_stepWord_60 (fun h156 => ?_)
      refine r_iconst (v := 1) C dX3_stepWord_63 (by decide) ?_
      refine r_iadd C dX3_stepWord_64 ?_
      refine r_bj ?_
      refine r_putS C cl_X3 kd_53 ln_53 lc_53 (by decide) (by decide) rfl rfl rfl (IR_wr _) q_356 dX3_stepWord_65 (fun S157 => ?_)
      refine r_goto (tgt := 5) C dX3_stepWord_68 (by decide) ?_
      exact k140 S157 trivial
    · refine r_bf c148 ?_
      exact k142 s137 trivial
    · refine r_icmp_ge (tgt := 71) C h143 h144 dX3_stepWord_16 (by decide) (fun c158 => ?_) (fun c158 => ?_)
      · exact k150 (fun w => c158 w.1)
      · refine r_aload_n (pc := 19) (j := 0) C dX3_stepWord_19 rfl rfl ?_
        refine r_getR (j := 4) (r := 1) C cl_X3 kd_53 ln_53 (by decide) rfl r0_53_4 (by decide) q_351 dX3_stepWord_20 ?_
        refine r_aload_n (pc := 23) (j := 0) C dX3_stepWord_23 rfl rfl ?_
        refine r_getS (j := 9) C cl_X3 kd_53 ln_53 lc_53 (by decide) (by decide) rfl q_356 dX3_stepWord_24 (fun h145 => ?_)
        refine r_cV1 (pc := 27) (k := 1) (As := [.int (zi (s137.2 53 9))]) (st := []) C (m_X6_at (p := 1) (a1 := s137.2 53 9) gw_1 h145 rfl) cal_X6_at cl_X6 kd_1 ln_1 q_771 dX3_stepWord_27 rfl rfl (Nat.le_of_ble_eq_true rfl) (Nat.le_of_ble_eq_true rfl) (Nat.le_of_ble_eq_true rfl) (Nat.le_of_ble_eq_true rfl) (Nat.le_of_ble_eq_true rfl) (fun h146 => ?_)
        refine r_cS1 (pc := 30) (As := [.int (zi (f_X6_at 1 (s137.2 53 9) s137))]) (st := []) C (m_X3_isLetter (a0 := f_X6_at 1 (s137.2 53 9) s137) h146 rfl) cal_X3_isLetter q_778 dX3_stepWord_30 rfl rfl (Nat.le_of_ble_eq_true rfl) (Nat.le_of_ble_eq_true rfl) (Nat.le_of_ble_eq_true rfl) (Nat.le_of_ble_eq_true rfl) (Nat.le_of_ble_eq_true rfl) (fun h147 => ?_)
        refine r_if_eq (tgt := 71) C h147.ir dX3_stepWord_33 (by decide) (fun c159 => ?_) (fun c159 => ?_)
        · exact k150 (fun w => w.2 c159)
        · exact k149 ⟨c158, c159⟩

def f_X3_isDigit (a0 : Int) : Int :=
  if (a0 < 48 ∨ 57 < a0) then
    (0)
  else
    (1)
set_option maxRecDepth 100000 in
set_option maxHeartbeats 4000000 in
theorem m_X3_isDigit {l : Launch} {E : EwT} {n : Nat} {R : Srf} {S : Sst} {O : Smo} {a0 : Int} (ha0 : IR a0) {q : Int} (hq : f_X3_isDigit a0 = q) : MetG l E yX3_isDigit cX3_isDigit 1 (some .boolean) 0 0 0 0 n R S O [.int (zi a0)] (BR q) (some (.int (zi q))) n R S O := by
  refine ofG (L0 := [(0, .int (zi a0))]) hq (by decide +kernel) (Nat.le_of_ble_eq_true rfl) rfl (fun K _ C hQ => ?_)
  unfold f_X3_isDigit
  refine r_iload_n (pc := 0) (j := 0) C dX3_isDigit_0 rfl rfl ?_
  refine r_bipush (v := 48) C dX3_isDigit_1 (by decide) ?_
  refine r_cut (a0 < 48 ∨ 57 < a0) 16 12 [] (fun c173 => ?_) (fun c173 => ?_) (fun k174 k175 => ?_)
  · refine r_t c173 ?_
    refine r_iconst (v := 0) C dX3_isDigit_16 (by decide) ?_
    exact r_ireturn C hQ (nar_z (BRd rfl)) dX3_isDigit_17 (fun e => by subst e; exact ⟨(BRd rfl), rfl, rfl, rfl, rfl, rfl⟩)
  · refine r_f c173 ?_
    refine r_iconst (v := 1) C dX3_isDigit_12 (by decide) ?_
    refine r_goto (tgt := 17) C dX3_isDigit_13 (by decide) ?_
    exact r_ireturn C hQ (nar_z (BRd rfl)) dX3_isDigit_17 (fun e => by subst e; exact ⟨(BRd rfl), rfl, rfl, rfl, rfl, rfl⟩)
  · refine r_icmp_lt (tgt := 16) C ha0 (IRd rfl) dX3_isDigit_3 (by decide) (fun c176 => ?_) (fun c176 => ?_)
    · exact k174 (Or.inl c176)
    · refine r_iload_n (pc := 6) (j := 0) C dX3_isDigit_6 rfl rfl ?_
      refine r_bipush (v := 57) C dX3_isDigit_7 (by decide) ?_
      refine r_icmp_gt (tgt := 16) C ha0 (IRd rfl) dX3_isDigit_9 (by decide) (fun c177 => ?_) (fun c177 => ?_)
      · exact k174 (Or.inr c177)
      · exact k175 (fun w => w.elim c176 c177)

def f_X3_stepNumber (S : Sst) : Option (Sst) :=
  jn (upS S 53 1 0) fun (S178 : Sst) =>
  Option.bind (lp (fun (s179 : Sst) =>
    if (s179.2 53 9 < f_X6_size 1 s179 ∧ ¬ f_X3_isDigit (f_X6_at 1 (s179.2 53 9) s179) = 0) then
      (jn (upS s179 53 1 (wr ((wr ((s179.2 53 1) * 10)) + (wr ((f_X6_at 1 (s179.2 53 9) s179) - 48))))) fun (S196 : Sst) =>
      jn (upS S196 53 9 (wr ((S196.2 53 9) + 1))) fun (S198 : Sst) =>
      some (Sum.inl S198))
    else
      (some (Sum.inr s179))) FU S178) fun (r201 : Sst) =>
  jn (
    if 4 < wr ((r201.2 53 9) - (r201.2 53 8)) then
      (1)
    else
      (0)) fun (q205 : Int) =>
  jn (
    if (q205 = 0 ∧ f_X3_isLetter (f_X6_at 1 (r201.2 53 9) r201) = 0) then
      (2)
    else
      (1)) fun (q213 : Int) =>
  jn (upS r201 53 0 q213) fun (S222 : Sst) =>
  some S222
set_option maxRecDepth 100000 in
set_option maxHeartbeats 4000000 in
theorem m_X3_stepNumber {l : Launch} {E : EwT} {S : Sst} {O : Smo}  {q : Sst} (hq : f_X3_stepNumber S = some q) : MetG l E yX3_stepNumber cX3_stepNumber 2 none 1 21 0 0 n0 R0 S O [.ref (zad E 53)] (True) none n0 R0 q O := by
  refine ofG (L0 := [(0, .ref (zad E 53))]) hq (by decide +kernel) (Nat.le_of_ble_eq_true rfl) rfl (fun K _ C hQ => ?_)
  unfold f_X3_stepNumber
  refine r_aload_n (pc := 0) (j := 0) C dX3_stepNumber_0 rfl rfl ?_
  refine r_iconst (v := 0) C dX3_stepNumber_1 (by decide) ?_
  refine r_putS C cl_X3 kd_53 ln_53 lc_53 (by decide) (by decide) rfl rfl rfl (IRd rfl) q_346 dX3_stepNumber_2 (fun S178 => ?_)
  refine r_loop1 (fun s179 : Sst => True) (fun s179 => s179) (fun s179 => O) (fun s179 => [(0, .ref (zad E 53))]) [] (fun r201 : Sst => True) (fun r201 => r201) (fun r201 => O) (fun r201 => [(0, .ref (zad E 53))]) 75 (fun r201 h202 => ?_) (fun k181 k183 k182 k184 s179 h180 => ?_) trivial
  · refine r_aload_n (pc := 75) (j := 0) C dX3_stepNumber_75 rfl rfl ?_
    refine r_getS (j := 9) C cl_X3 kd_53 ln_53 lc_53 (by decide) (by decide) rfl q_356 dX3_stepNumber_76 (fun h203 => ?_)
    refine r_aload_n (pc := 79) (j := 0) C dX3_stepNumber_79 rfl rfl ?_
    refine r_getS (j := 8) C cl_X3 kd_53 ln_53 lc_53 (by decide) (by decide) rfl q_355 dX3_stepNumber_80 (fun h204 => ?_)
    refine r_isub C dX3_stepNumber_83 ?_
    refine r_iconst (v := 4) C dX3_stepNumber_84 (by decide) ?_
    refine r_join (fun q205 : Int => BR q205) (fun q205 => r201) (fun q205 => O) (fun q205 => [(0, .ref (zad E 53))]) 93 (fun q205 => [.int (zi q205)]) (fun q205 h206 => ?_) (fun k207 k208 => ?_)
    · refine r_istore_n (L' := [(1, .int (zi q205)), (0, .ref (zad E 53))]) C dX3_stepNumber_93 rfl (by decide) rfl ?_
      refine r_aload_n (pc := 94) (j := 1) C dX3_stepNumber_94 rfl rfl ?_
      refine r_iload_n (pc := 95) (j := 0) C dX3_stepNumber_95 rfl rfl ?_
      refine r_join (fun q213 : Int => IR q213) (fun q213 => r201) (fun q213 => O) (fun q213 => []) 121 (fun q213 => [.int (zi q213), .ref (zad E 53)]) (fun q213 h214 => ?_) (fun k215 k216 => ?_)
      · refine r_putS C cl_X3 kd_53 ln_53 lc_53 (by decide) (by decide) rfl rfl rfl h214 q_343 dX3_stepNumber_121 (fun S222 => ?_)
        exact r_return C hQ dX3_stepNumber_124 (fun e => by cases e; exact ⟨trivial, rfl, rfl, rfl, rfl, rfl⟩)
      · refine r_cut (q205 = 0 ∧ f_X3_isLetter (f_X6_at 1 (r201.2 53 9) r201) = 0) 120 116 [.ref (zad E 53)] (fun c217 => ?_) (fun c217 => ?_) (fun k218 k219 => ?_)
        · refine r_jt c217 ?_
          refine r_iconst (v := 2) C dX3_stepNumber_120 (by decide) ?_
          refine r_L (L' := []) [] rfl ?_
          exact k216 2 (IRd rfl)
        · refine r_jf c217 ?_
          refine r_iconst (v := 1) C dX3_stepNumber_116 (by decide) ?_
          refine r_goto (tgt := 121) C dX3_stepNumber_117 (by decide) ?_
          refine r_L (L' := []) [] rfl ?_
          exact k216 1 (IRd rfl)
        · refine r_if_ne (tgt := 116) C h206.ir dX3_stepNumber_96 (by decide) (fun c220 => ?_) (fun c220 => ?_)
          · exact k219 (fun w => c220 w.1)
          · refine r_aload_n (pc := 99) (j := 1) C dX3_stepNumber_99 rfl rfl ?_
            refine r_getR (j := 4) (r := 1) C cl_X3 kd_53 ln_53 (by decide) rfl r0_53_4 (by decide) q_351 dX3_stepNumber_100 ?_
            refine r_aload_n (pc := 103) (j := 1) C dX3_stepNumber_103 rfl rfl ?_
            refine r_getS (j := 9) C cl_X3 kd_53 ln_53 lc_53 (by decide) (by decide) rfl q_356 dX3_stepNumber_104 (fun h210 => ?_)
            refine r_cV1 (pc := 107) (k := 1) (As := [.int (zi (r201.2 53 9))]) (st := [.ref (zad E 53)]) C (m_X6_at (p := 1) (a1 := r201.2 53 9) gw_1 h210 rfl) cal_X6_at cl_X6 kd_1 ln_1 q_771 dX3_stepNumber_107 rfl rfl (Nat.le_of_ble_eq_true rfl) (Nat.le_of_ble_eq_true rfl) (Nat.le_of_ble_eq_true rfl) (Nat.le_of_ble_eq_true rfl) (Nat.le_of_ble_eq_true rfl) (fun h211 => ?_)
            refine r_cS1 (pc := 110) (As := [.int (zi (f_X6_at 1 (r201.2 53 9) r201))]) (st := [.ref (zad E 53)]) C (m_X3_isLetter (a0 := f_X6_at 1 (r201.2 53 9) r201) h211 rfl) cal_X3_isLetter q_778 dX3_stepNumber_110 rfl rfl (Nat.le_of_ble_eq_true rfl) (Nat.le_of_ble_eq_true rfl) (Nat.le_of_ble_eq_true rfl) (Nat.le_of_ble_eq_true rfl) (Nat.le_of_ble_eq_true rfl) (fun h212 => ?_)
            refine r_if_eq (tgt := 120) C h212.ir dX3_stepNumber_113 (by decide) (fun c221 => ?_) (fun c221 => ?_)
            · exact k218 ⟨c220, c221⟩
            · exact k219 (fun w => c221 w.2)
    · refine r_icmp_le (tgt := 92) C (IR_wr _) (IRd rfl) dX3_stepNumber_85 (by decide) (fun c209 => ?_) (fun c209 => ?_)
      · refine r_jf c209 ?_
        refine r_iconst (v := 0) C dX3_stepNumber_92 (by decide) ?_
        exact k208 0 (BRd rfl)
      · refine r_jt c209 ?_
        refine r_iconst (v := 1) C dX3_stepNumber_88 (by decide) ?_
        refine r_goto (tgt := 93) C dX3_stepNumber_89 (by decide) ?_
        exact k208 1 (BRd rfl)
  · refine r_aload_n (pc := 5) (j := 0) C dX3_stepNumber_5 rfl rfl ?_
    refine r_getS (j := 9) C cl_X3 kd_53 ln_53 lc_53 (by decide) (by decide) rfl q_356 dX3_stepNumber_6 (fun h185 => ?_)
    refine r_aload_n (pc := 9) (j := 0) C dX3_stepNumber_9 rfl rfl ?_
    refine r_getR (j := 4) (r := 1) C cl_X3 kd_53 ln_53 (by decide) rfl r0_53_4 (by decide) q_351 dX3_stepNumber_10 ?_
    refine r_cV1 (pc := 13) (k := 1) (As := []) (st := [.int (zi (s179.2 53 9))]) C (m_X6_size (p := 1) gw_1 rfl) cal_X6_size cl_X6 kd_1 ln_1 q_770 dX3_stepNumber_13 rfl rfl (Nat.le_of_ble_eq_true rfl) (Nat.le_of_ble_eq_true rfl) (Nat.le_of_ble_eq_true rfl) (Nat.le_of_ble_eq_true rfl) (Nat.le_of_ble_eq_true rfl) (fun h186 => ?_)
    refine r_cut (s179.2 53 9 < f_X6_size 1 s179 ∧ ¬ f_X3_isDigit (f_X6_at 1 (s179.2 53 9) s179) = 0) 36 75 [] (fun c190 => ?_) (fun c190 => ?_) (fun k191 k192 => ?_)
    · refine r_bt c190 ?_
      refine r_aload_n (pc := 36) (j := 0) C dX3_stepNumber_36 rfl rfl ?_
      refine r_aload_n (pc := 37) (j := 0) C dX3_stepNumber_37 rfl rfl ?_
      refine r_getS (j := 1) C cl_X3 kd_53 ln_53 lc_53 (by decide) (by decide) rfl q_346 dX3_stepNumber_38 (fun h193 => ?_)
      refine r_bipush (v := 10) C dX3_stepNumber_41 (by decide) ?_
      refine r_imul C dX3_stepNumber_43 ?_
      refine r_aload_n (pc := 44) (j := 0) C dX3_stepNumber_44 rfl rfl ?_
      refine r_getR (j := 4) (r := 1) C cl_X3 kd_53 ln_53 (by decide) rfl r0_53_4 (by decide) q_351 dX3_stepNumber_45 ?_
      refine r_aload_n (pc := 48) (j := 0) C dX3_stepNumber_48 rfl rfl ?_
      refine r_getS (j := 9) C cl_X3 kd_53 ln_53 lc_53 (by decide) (by decide) rfl q_356 dX3_stepNumber_49 (fun h194 => ?_)
      refine r_cV1 (pc := 52) (k := 1) (As := [.int (zi (s179.2 53 9))]) (st := [.int (zi (wr ((s179.2 53 1) * 10))), .ref (zad E 53)]) C (m_X6_at (p := 1) (a1 := s179.2 53 9) gw_1 h194 rfl) cal_X6_at cl_X6 kd_1 ln_1 q_771 dX3_stepNumber_52 rfl rfl (Nat.le_of_ble_eq_true rfl) (Nat.le_of_ble_eq_true rfl) (Nat.le_of_ble_eq_true rfl) (Nat.le_of_ble_eq_true rfl) (Nat.le_of_ble_eq_true rfl) (fun h195 => ?_)
      refine r_bipush (v := 48) C dX3_stepNumber_55 (by decide) ?_
      refine r_isub C dX3_stepNumber_57 ?_
      refine r_iadd C dX3_stepNumber_58 ?_
      refine r_bj ?_
      refine r_putS C cl_X3 kd_53 ln_53 lc_53 (by decide) (by decide) rfl rfl rfl (IR_wr _) q_346 dX3_stepNumber_59 (fun S196 => ?_)
      refine r_aload_n (pc := 62) (j := 0) C dX3_stepNumber_62 rfl rfl ?_
      refine r_dup C dX3_stepNumber_63 rfl ?_
      refine r_getS (j := 9) C cl_X3 kd_53 ln_53 lc_53 (by decide) (by decide) rfl q_356 dX3_stepNumber_64 (fun h197 => ?_)
      refine r_iconst (v := 1) C dX3_stepNumber_67 (by decide) ?_
      refine r_iadd C dX3_stepNumber_68 ?_
      refine r_bj ?_
      refine r_putS C cl_X3 kd_53 ln_53 lc_53 (by decide) (by decide) rfl rfl rfl (IR_wr _) q_356 dX3_stepNumber_69 (fun S198 => ?_)
      refine r_goto (tgt := 5) C dX3_stepNumber_72 (by decide) ?_
      exact k182 S198 trivial
    · refine r_bf c190 ?_
      exact k184 s179 trivial
    · refine r_icmp_ge (tgt := 75) C h185 h186 dX3_stepNumber_16 (by decide) (fun c199 => ?_) (fun c199 => ?_)
      · exact k192 (fun w => c199 w.1)
      · refine r_aload_n (pc := 19) (j := 0) C dX3_stepNumber_19 rfl rfl ?_
        refine r_getR (j := 4) (r := 1) C cl_X3 kd_53 ln_53 (by decide) rfl r0_53_4 (by decide) q_351 dX3_stepNumber_20 ?_
        refine r_aload_n (pc := 23) (j := 0) C dX3_stepNumber_23 rfl rfl ?_
        refine r_getS (j := 9) C cl_X3 kd_53 ln_53 lc_53 (by decide) (by decide) rfl q_356 dX3_stepNumber_24 (fun h187 => ?_)
        refine r_cV1 (pc := 27) (k := 1) (As := [.int (zi (s179.2 53 9))]) (st := []) C (m_X6_at (p := 1) (a1 := s179.2 53 9) gw_1 h187 rfl) cal_X6_at cl_X6 kd_1 ln_1 q_771 dX3_stepNumber_27 rfl rfl (Nat.le_of_ble_eq_true rfl) (Nat.le_of_ble_eq_true rfl) (Nat.le_of_ble_eq_true rfl) (Nat.le_of_ble_eq_true rfl) (Nat.le_of_ble_eq_true rfl) (fun h188 => ?_)
        refine r_cS1 (pc := 30) (As := [.int (zi (f_X6_at 1 (s179.2 53 9) s179))]) (st := []) C (m_X3_isDigit (a0 := f_X6_at 1 (s179.2 53 9) s179) h188 rfl) cal_X3_isDigit q_789 dX3_stepNumber_30 rfl rfl (Nat.le_of_ble_eq_true rfl) (Nat.le_of_ble_eq_true rfl) (Nat.le_of_ble_eq_true rfl) (Nat.le_of_ble_eq_true rfl) (Nat.le_of_ble_eq_true rfl) (fun h189 => ?_)
        refine r_if_eq (tgt := 75) C h189.ir dX3_stepNumber_33 (by decide) (fun c200 => ?_) (fun c200 => ?_)
        · exact k192 (fun w => w.2 c200)
        · exact k191 ⟨c199, c200⟩

def f_X3_step (S : Sst) : Option (Sst) :=
  if S.2 53 2 = 0 then
    (Option.bind (lp (fun (s225 : Sst) =>
      if (s225.2 53 9 < f_X6_size 1 s225 ∧ ¬ f_X3_isBlank (f_X6_at 1 (s225.2 53 9) s225) = 0) then
        (jn (upS s225 53 9 (wr ((s225.2 53 9) + 1))) fun (S240 : Sst) =>
        some (Sum.inl S240))
      else
        (some (Sum.inr s225))) FU S) fun (r243 : Sst) =>
    jn (upS r243 53 8 (r243.2 53 9)) fun (S246 : Sst) =>
    jn (f_X6_at 1 (S246.2 53 9) S246) fun (v249 : Int) =>
    if S246.2 53 9 < f_X6_size 1 S246 then
      (if f_X3_isLetter v249 = 0 then
        (if f_X3_isDigit v249 = 0 then
          (if f_J0_indexOf_0f7a4 1 (zi2c v249) < 0 then
            (jn (upS S246 53 0 1) fun (S260 : Sst) =>
            some S260)
          else
            (jn (upS S246 53 0 v249) fun (S261 : Sst) =>
            jn (upS S261 53 9 (wr ((S261.2 53 9) + 1))) fun (S263 : Sst) =>
            some S263))
        else
          (Option.bind (f_X3_stepNumber S246) fun (q265 : Sst) =>
          some q265))
      else
        (Option.bind (f_X3_stepWord S246) fun (q268 : Sst) =>
        some q268))
    else
      (jn (upS S246 53 0 0) fun (S270 : Sst) =>
      some S270))
  else
    (some S)
set_option maxRecDepth 100000 in
set_option maxHeartbeats 4000000 in
theorem m_X3_step {l : Launch} {E : EwT} {S : Sst} {O : Smo}  {q : Sst} (hq : f_X3_step S = some q) : MetG l E yX3_step cX3_step 2 none 6 171 0 0 n0 R0 S O [.ref (zad E 53)] (True) none n0 R0 q O := by
  refine ofG (L0 := [(0, .ref (zad E 53))]) hq (by decide +kernel) (Nat.le_of_ble_eq_true rfl) rfl (fun K _ C hQ => ?_)
  unfold f_X3_step
  refine r_aload_n (pc := 0) (j := 0) C dX3_step_0 rfl rfl ?_
  refine r_getS (j := 2) C cl_X3 kd_53 ln_53 lc_53 (by decide) (by decide) rfl q_347 dX3_step_1 (fun h223 => ?_)
  refine r_if_eq (tgt := 8) C h223 dX3_step_4 (by decide) (fun c224 => ?_) (fun c224 => ?_)
  · refine r_t c224 ?_
    refine r_loop1 (fun s225 : Sst => True) (fun s225 => s225) (fun s225 => O) (fun s225 => [(0, .ref (zad E 53))]) [] (fun r243 : Sst => True) (fun r243 => r243) (fun r243 => O) (fun r243 => [(0, .ref (zad E 53))]) 52 (fun r243 h244 => ?_) (fun k227 k229 k228 k230 s225 h226 => ?_) trivial
    · refine r_aload_n (pc := 52) (j := 0) C dX3_step_52 rfl rfl ?_
      refine r_aload_n (pc := 53) (j := 0) C dX3_step_53 rfl rfl ?_
      refine r_getS (j := 9) C cl_X3 kd_53 ln_53 lc_53 (by decide) (by decide) rfl q_356 dX3_step_54 (fun h245 => ?_)
      refine r_putS C cl_X3 kd_53 ln_53 lc_53 (by decide) (by decide) rfl rfl rfl h245 q_355 dX3_step_57 (fun S246 => ?_)
      refine r_aload_n (pc := 60) (j := 0) C dX3_step_60 rfl rfl ?_
      refine r_getR (j := 4) (r := 1) C cl_X3 kd_53 ln_53 (by decide) rfl r0_53_4 (by decide) q_351 dX3_step_61 ?_
      refine r_aload_n (pc := 64) (j := 0) C dX3_step_64 rfl rfl ?_
      refine r_getS (j := 9) C cl_X3 kd_53 ln_53 lc_53 (by decide) (by decide) rfl q_356 dX3_step_65 (fun h247 => ?_)
      refine r_cV1 (pc := 68) (k := 1) (As := [.int (zi (S246.2 53 9))]) (st := []) C (m_X6_at (p := 1) (a1 := S246.2 53 9) gw_1 h247 rfl) cal_X6_at cl_X6 kd_1 ln_1 q_771 dX3_step_68 rfl rfl (Nat.le_of_ble_eq_true rfl) (Nat.le_of_ble_eq_true rfl) (Nat.le_of_ble_eq_true rfl) (Nat.le_of_ble_eq_true rfl) (Nat.le_of_ble_eq_true rfl) (fun h248 => ?_)
      refine r_jv h248 (fun v249 h250 => ?_)
      refine r_istore_n (L' := [(1, .int (zi v249)), (0, .ref (zad E 53))]) C dX3_step_71 rfl (by decide) rfl ?_
      refine r_aload_n (pc := 72) (j := 1) C dX3_step_72 rfl rfl ?_
      refine r_getS (j := 9) C cl_X3 kd_53 ln_53 lc_53 (by decide) (by decide) rfl q_356 dX3_step_73 (fun h251 => ?_)
      refine r_aload_n (pc := 76) (j := 1) C dX3_step_76 rfl rfl ?_
      refine r_getR (j := 4) (r := 1) C cl_X3 kd_53 ln_53 (by decide) rfl r0_53_4 (by decide) q_351 dX3_step_77 ?_
      refine r_cV1 (pc := 80) (k := 1) (As := []) (st := [.int (zi (S246.2 53 9))]) C (m_X6_size (p := 1) gw_1 rfl) cal_X6_size cl_X6 kd_1 ln_1 q_770 dX3_step_80 rfl rfl (Nat.le_of_ble_eq_true rfl) (Nat.le_of_ble_eq_true rfl) (Nat.le_of_ble_eq_true rfl) (Nat.le_of_ble_eq_true rfl) (Nat.le_of_ble_eq_true rfl) (fun h252 => ?_)
      refine r_icmp_lt (tgt := 94) C h251 h252 dX3_step_83 (by decide) (fun c253 => ?_) (fun c253 => ?_)
      · refine r_t c253 ?_
        refine r_iload_n (pc := 94) (j := 0) C dX3_step_94 rfl rfl ?_
        refine r_cS1 (pc := 95) (As := [.int (zi v249)]) (st := []) C (m_X3_isLetter (a0 := v249) h250 rfl) cal_X3_isLetter q_778 dX3_step_95 rfl rfl (Nat.le_of_ble_eq_true rfl) (Nat.le_of_ble_eq_true rfl) (Nat.le_of_ble_eq_true rfl) (Nat.le_of_ble_eq_true rfl) (Nat.le_of_ble_eq_true rfl) (fun h254 => ?_)
        refine r_if_eq (tgt := 108) C h254.ir dX3_step_98 (by decide) (fun c255 => ?_) (fun c255 => ?_)
        · refine r_t c255 ?_
          refine r_iload_n (pc := 108) (j := 0) C dX3_step_108 rfl rfl ?_
          refine r_cS1 (pc := 109) (As := [.int (zi v249)]) (st := []) C (m_X3_isDigit (a0 := v249) h250 rfl) cal_X3_isDigit q_789 dX3_step_109 rfl rfl (Nat.le_of_ble_eq_true rfl) (Nat.le_of_ble_eq_true rfl) (Nat.le_of_ble_eq_true rfl) (Nat.le_of_ble_eq_true rfl) (Nat.le_of_ble_eq_true rfl) (fun h256 => ?_)
          refine r_if_eq (tgt := 122) C h256.ir dX3_step_112 (by decide) (fun c257 => ?_) (fun c257 => ?_)
          · refine r_t c257 ?_
            refine r_ldcS1 C rfl dX3_step_122 ?_
            refine r_iload_n (pc := 124) (j := 0) C dX3_step_124 rfl rfl ?_
            refine r_i2c C dX3_step_125 ?_
            refine r_cStr1 (pc := 126) (i := 1) (As := [.int (zi (zi2c v249))]) (st := []) (by decide) C (m_J0_indexOf_0f7a4 (i := 1) (a1 := zi2c v249) (by decide) (i32_IR _) rfl) cal_J0_indexOf_0f7a4 rfl q_797 dX3_step_126 rfl rfl (Nat.le_of_ble_eq_true rfl) (Nat.le_of_ble_eq_true rfl) (Nat.le_of_ble_eq_true rfl) (Nat.le_of_ble_eq_true rfl) (Nat.le_of_ble_eq_true rfl) (fun h258 => ?_)
            refine r_if_lt (tgt := 150) C h258 dX3_step_129 (by decide) (fun c259 => ?_) (fun c259 => ?_)
            · refine r_t c259 ?_
              refine r_aload_n (pc := 150) (j := 1) C dX3_step_150 rfl rfl ?_
              refine r_iconst (v := 1) C dX3_step_151 (by decide) ?_
              refine r_putS C cl_X3 kd_53 ln_53 lc_53 (by decide) (by decide) rfl rfl rfl (IRd rfl) q_343 dX3_step_152 (fun S260 => ?_)
              exact r_return C hQ dX3_step_155 (fun e => by cases e; exact ⟨trivial, rfl, rfl, rfl, rfl, rfl⟩)
            · refine r_f c259 ?_
              refine r_aload_n (pc := 132) (j := 1) C dX3_step_132 rfl rfl ?_
              refine r_iload_n (pc := 133) (j := 0) C dX3_step_133 rfl rfl ?_
              refine r_putS C cl_X3 kd_53 ln_53 lc_53 (by decide) (by decide) rfl rfl rfl h250 q_343 dX3_step_134 (fun S261 => ?_)
              refine r_aload_n (pc := 137) (j := 1) C dX3_step_137 rfl rfl ?_
              refine r_dup C dX3_step_138 rfl ?_
              refine r_getS (j := 9) C cl_X3 kd_53 ln_53 lc_53 (by decide) (by decide) rfl q_356 dX3_step_139 (fun h262 => ?_)
              refine r_iconst (v := 1) C dX3_step_142 (by decide) ?_
              refine r_iadd C dX3_step_143 ?_
              refine r_putS C cl_X3 kd_53 ln_53 lc_53 (by decide) (by decide) rfl rfl rfl (IR_wr _) q_356 dX3_step_144 (fun S263 => ?_)
              refine r_goto (tgt := 155) C dX3_step_147 (by decide) ?_
              exact r_return C hQ dX3_step_155 (fun e => by cases e; exact ⟨trivial, rfl, rfl, rfl, rfl, rfl⟩)
          · refine r_f c257 ?_
            refine r_aload_n (pc := 115) (j := 1) C dX3_step_115 rfl rfl ?_
            refine r_bd (fun q265 e266 => ?_)
            refine r_cV0 (pc := 116) (k := 53) (As := []) (st := []) C (m_X3_stepNumber  e266) cal_X3_stepNumber cl_X3 kd_53 ln_53 q_792 dX3_step_116 rfl rfl (Nat.le_of_ble_eq_true rfl) (Nat.le_of_ble_eq_true rfl) (Nat.le_of_ble_eq_true rfl) (Nat.le_of_ble_eq_true rfl) (Nat.le_of_ble_eq_true rfl) (fun h264 => ?_)
            refine r_goto (tgt := 155) C dX3_step_119 (by decide) ?_
            exact r_return C hQ dX3_step_155 (fun e => by cases e; exact ⟨trivial, rfl, rfl, rfl, rfl, rfl⟩)
        · refine r_f c255 ?_
          refine r_aload_n (pc := 101) (j := 1) C dX3_step_101 rfl rfl ?_
          refine r_bd (fun q268 e269 => ?_)
          refine r_cV0 (pc := 102) (k := 53) (As := []) (st := []) C (m_X3_stepWord  e269) cal_X3_stepWord cl_X3 kd_53 ln_53 q_781 dX3_step_102 rfl rfl (Nat.le_of_ble_eq_true rfl) (Nat.le_of_ble_eq_true rfl) (Nat.le_of_ble_eq_true rfl) (Nat.le_of_ble_eq_true rfl) (Nat.le_of_ble_eq_true rfl) (fun h267 => ?_)
          refine r_goto (tgt := 155) C dX3_step_105 (by decide) ?_
          exact r_return C hQ dX3_step_155 (fun e => by cases e; exact ⟨trivial, rfl, rfl, rfl, rfl, rfl⟩)
      · refine r_f c253 ?_
        refine r_aload_n (pc := 86) (j := 1) C dX3_step_86 rfl rfl ?_
        refine r_iconst (v := 0) C dX3_step_87 (by decide) ?_
        refine r_putS C cl_X3 kd_53 ln_53 lc_53 (by decide) (by decide) rfl rfl rfl (IRd rfl) q_343 dX3_step_88 (fun S270 => ?_)
        refine r_goto (tgt := 155) C dX3_step_91 (by decide) ?_
        exact r_return C hQ dX3_step_155 (fun e => by cases e; exact ⟨trivial, rfl, rfl, rfl, rfl, rfl⟩)
    · refine r_aload_n (pc := 8) (j := 0) C dX3_step_8 rfl rfl ?_
      refine r_getS (j := 9) C cl_X3 kd_53 ln_53 lc_53 (by decide) (by decide) rfl q_356 dX3_step_9 (fun h231 => ?_)
      refine r_aload_n (pc := 12) (j := 0) C dX3_step_12 rfl rfl ?_
      refine r_getR (j := 4) (r := 1) C cl_X3 kd_53 ln_53 (by decide) rfl r0_53_4 (by decide) q_351 dX3_step_13 ?_
      refine r_cV1 (pc := 16) (k := 1) (As := []) (st := [.int (zi (s225.2 53 9))]) C (m_X6_size (p := 1) gw_1 rfl) cal_X6_size cl_X6 kd_1 ln_1 q_770 dX3_step_16 rfl rfl (Nat.le_of_ble_eq_true rfl) (Nat.le_of_ble_eq_true rfl) (Nat.le_of_ble_eq_true rfl) (Nat.le_of_ble_eq_true rfl) (Nat.le_of_ble_eq_true rfl) (fun h232 => ?_)
      refine r_cut (s225.2 53 9 < f_X6_size 1 s225 ∧ ¬ f_X3_isBlank (f_X6_at 1 (s225.2 53 9) s225) = 0) 39 52 [] (fun c236 => ?_) (fun c236 => ?_) (fun k237 k238 => ?_)
      · refine r_bt c236 ?_
        refine r_aload_n (pc := 39) (j := 0) C dX3_step_39 rfl rfl ?_
        refine r_dup C dX3_step_40 rfl ?_
        refine r_getS (j := 9) C cl_X3 kd_53 ln_53 lc_53 (by decide) (by decide) rfl q_356 dX3_step_41 (fun h239 => ?_)
        refine r_iconst (v := 1) C dX3_step_44 (by decide) ?_
        refine r_iadd C dX3_step_45 ?_
        refine r_bj ?_
        refine r_putS C cl_X3 kd_53 ln_53 lc_53 (by decide) (by decide) rfl rfl rfl (IR_wr _) q_356 dX3_step_46 (fun S240 => ?_)
        refine r_goto (tgt := 8) C dX3_step_49 (by decide) ?_
        exact k228 S240 trivial
      · refine r_bf c236 ?_
        exact k230 s225 trivial
      · refine r_icmp_ge (tgt := 52) C h231 h232 dX3_step_19 (by decide) (fun c241 => ?_) (fun c241 => ?_)
        · exact k238 (fun w => c241 w.1)
        · refine r_aload_n (pc := 22) (j := 0) C dX3_step_22 rfl rfl ?_
          refine r_getR (j := 4) (r := 1) C cl_X3 kd_53 ln_53 (by decide) rfl r0_53_4 (by decide) q_351 dX3_step_23 ?_
          refine r_aload_n (pc := 26) (j := 0) C dX3_step_26 rfl rfl ?_
          refine r_getS (j := 9) C cl_X3 kd_53 ln_53 lc_53 (by decide) (by decide) rfl q_356 dX3_step_27 (fun h233 => ?_)
          refine r_cV1 (pc := 30) (k := 1) (As := [.int (zi (s225.2 53 9))]) (st := []) C (m_X6_at (p := 1) (a1 := s225.2 53 9) gw_1 h233 rfl) cal_X6_at cl_X6 kd_1 ln_1 q_771 dX3_step_30 rfl rfl (Nat.le_of_ble_eq_true rfl) (Nat.le_of_ble_eq_true rfl) (Nat.le_of_ble_eq_true rfl) (Nat.le_of_ble_eq_true rfl) (Nat.le_of_ble_eq_true rfl) (fun h234 => ?_)
          refine r_cS1 (pc := 33) (As := [.int (zi (f_X6_at 1 (s225.2 53 9) s225))]) (st := []) C (m_X3_isBlank (a0 := f_X6_at 1 (s225.2 53 9) s225) h234 rfl) cal_X3_isBlank q_775 dX3_step_33 rfl rfl (Nat.le_of_ble_eq_true rfl) (Nat.le_of_ble_eq_true rfl) (Nat.le_of_ble_eq_true rfl) (Nat.le_of_ble_eq_true rfl) (Nat.le_of_ble_eq_true rfl) (fun h235 => ?_)
          refine r_if_eq (tgt := 52) C h235.ir dX3_step_36 (by decide) (fun c242 => ?_) (fun c242 => ?_)
          · exact k238 (fun w => w.2 c242)
          · exact k237 ⟨c241, c242⟩
  · refine r_f c224 ?_
    exact r_return C hQ dX3_step_7 (fun e => by cases e; exact ⟨trivial, rfl, rfl, rfl, rfl, rfl⟩)

def f_X3_restart (S : Sst) : Option (Sst) :=
  jn (upS S 53 6 (f_J9_min_7cf53 (S.2 53 6) 14)) fun (S273 : Sst) =>
  jn (upS S273 53 2 0) fun (S274 : Sst) =>
  jn (upS S274 53 3 (-1)) fun (S275 : Sst) =>
  jn (upS S275 53 9 0) fun (S276 : Sst) =>
  Option.bind (f_X3_step S276) fun (q278 : Sst) =>
  some q278
set_option maxRecDepth 100000 in
set_option maxHeartbeats 4000000 in
theorem m_X3_restart {l : Launch} {E : EwT} {S : Sst} {O : Smo}  {q : Sst} (hq : f_X3_restart S = some q) : MetG l E yX3_restart cX3_restart 1 none 7 192 0 0 n0 R0 S O [.ref (zad E 53)] (True) none n0 R0 q O := by
  refine ofG (L0 := [(0, .ref (zad E 53))]) hq (by decide +kernel) (Nat.le_of_ble_eq_true rfl) rfl (fun K _ C hQ => ?_)
  unfold f_X3_restart
  refine r_aload_n (pc := 0) (j := 0) C dX3_restart_0 rfl rfl ?_
  refine r_aload_n (pc := 1) (j := 0) C dX3_restart_1 rfl rfl ?_
  refine r_getS (j := 6) C cl_X3 kd_53 ln_53 lc_53 (by decide) (by decide) rfl q_353 dX3_restart_2 (fun h271 => ?_)
  refine r_bipush (v := 14) C dX3_restart_5 (by decide) ?_
  refine r_cS1 (pc := 7) (As := [.int (zi (S.2 53 6)), .int (zi 14)]) (st := [.ref (zad E 53)]) C (m_J9_min_7cf53 (a0 := S.2 53 6) (a1 := 14) h271 (IRd rfl) rfl) cal_J9_min_7cf53 q_763 dX3_restart_7 rfl rfl (Nat.le_of_ble_eq_true rfl) (Nat.le_of_ble_eq_true rfl) (Nat.le_of_ble_eq_true rfl) (Nat.le_of_ble_eq_true rfl) (Nat.le_of_ble_eq_true rfl) (fun h272 => ?_)
  refine r_putS C cl_X3 kd_53 ln_53 lc_53 (by decide) (by decide) rfl rfl rfl h272 q_353 dX3_restart_10 (fun S273 => ?_)
  refine r_aload_n (pc := 13) (j := 0) C dX3_restart_13 rfl rfl ?_
  refine r_iconst (v := 0) C dX3_restart_14 (by decide) ?_
  refine r_putS C cl_X3 kd_53 ln_53 lc_53 (by decide) (by decide) rfl rfl rfl (IRd rfl) q_347 dX3_restart_15 (fun S274 => ?_)
  refine r_aload_n (pc := 18) (j := 0) C dX3_restart_18 rfl rfl ?_
  refine r_iconst (v := (-1)) C dX3_restart_19 (by decide) ?_
  refine r_putS C cl_X3 kd_53 ln_53 lc_53 (by decide) (by decide) rfl rfl rfl (IRd rfl) q_349 dX3_restart_20 (fun S275 => ?_)
  refine r_aload_n (pc := 23) (j := 0) C dX3_restart_23 rfl rfl ?_
  refine r_iconst (v := 0) C dX3_restart_24 (by decide) ?_
  refine r_putS C cl_X3 kd_53 ln_53 lc_53 (by decide) (by decide) rfl rfl rfl (IRd rfl) q_356 dX3_restart_25 (fun S276 => ?_)
  refine r_aload_n (pc := 28) (j := 0) C dX3_restart_28 rfl rfl ?_
  refine r_bd (fun q278 e279 => ?_)
  refine r_cV0 (pc := 29) (k := 53) (As := []) (st := []) C (m_X3_step  e279) cal_X3_step cl_X3 kd_53 ln_53 q_766 dX3_restart_29 rfl rfl (Nat.le_of_ble_eq_true rfl) (Nat.le_of_ble_eq_true rfl) (Nat.le_of_ble_eq_true rfl) (Nat.le_of_ble_eq_true rfl) (Nat.le_of_ble_eq_true rfl) (fun h277 => ?_)
  exact r_return C hQ dX3_restart_32 (fun e => by cases e; exact ⟨trivial, rfl, rfl, rfl, rfl, rfl⟩)

def f_X3_fail (a1 : Int) (S : Sst) : Sst :=
  if S.2 53 2 = 0 then
    (jn (
      if S.2 53 0 = 1 then
        (1)
      else
        (a1)) fun (q284 : Int) =>
    jn (upS S 53 2 q284) fun (S289 : Sst) =>
    jn (upS S289 53 3 (S289.2 53 8)) fun (S291 : Sst) =>
    S291)
  else
    (S)
set_option maxRecDepth 100000 in
set_option maxHeartbeats 4000000 in
theorem m_X3_fail {l : Launch} {E : EwT} {S : Sst} {O : Smo} {a1 : Int} (ha1 : IR a1) {q : Sst} (hq : f_X3_fail a1 S = q) : MetG l E yX3_fail cX3_fail 2 none 0 0 0 0 n0 R0 S O [.ref (zad E 53), .int (zi a1)] (True) none n0 R0 q O := by
  refine ofG (L0 := [(0, .ref (zad E 53)), (1, .int (zi a1))]) hq (by decide +kernel) (Nat.le_of_ble_eq_true rfl) rfl (fun K _ C hQ => ?_)
  unfold f_X3_fail
  refine r_aload_n (pc := 0) (j := 0) C dX3_fail_0 rfl rfl ?_
  refine r_getS (j := 2) C cl_X3 kd_53 ln_53 lc_53 (by decide) (by decide) rfl q_347 dX3_fail_1 (fun h281 => ?_)
  refine r_if_ne (tgt := 32) C h281 dX3_fail_4 (by decide) (fun c282 => ?_) (fun c282 => ?_)
  · refine r_f c282 ?_
    exact r_return C hQ dX3_fail_32 (fun e => by subst e; exact ⟨trivial, rfl, rfl, rfl, rfl, rfl⟩)
  · refine r_t c282 ?_
    refine r_aload_n (pc := 7) (j := 0) C dX3_fail_7 rfl rfl ?_
    refine r_aload_n (pc := 8) (j := 0) C dX3_fail_8 rfl rfl ?_
    refine r_getS (j := 0) C cl_X3 kd_53 ln_53 lc_53 (by decide) (by decide) rfl q_343 dX3_fail_9 (fun h283 => ?_)
    refine r_iconst (v := 1) C dX3_fail_12 (by decide) ?_
    refine r_join (fun q284 : Int => IR q284) (fun q284 => S) (fun q284 => O) (fun q284 => [(0, .ref (zad E 53))]) 21 (fun q284 => [.int (zi q284), .ref (zad E 53)]) (fun q284 h285 => ?_) (fun k286 k287 => ?_)
    · refine r_putS C cl_X3 kd_53 ln_53 lc_53 (by decide) (by decide) rfl rfl rfl h285 q_347 dX3_fail_21 (fun S289 => ?_)
      refine r_aload_n (pc := 24) (j := 0) C dX3_fail_24 rfl rfl ?_
      refine r_aload_n (pc := 25) (j := 0) C dX3_fail_25 rfl rfl ?_
      refine r_getS (j := 8) C cl_X3 kd_53 ln_53 lc_53 (by decide) (by decide) rfl q_355 dX3_fail_26 (fun h290 => ?_)
      refine r_putS C cl_X3 kd_53 ln_53 lc_53 (by decide) (by decide) rfl rfl rfl h290 q_349 dX3_fail_29 (fun S291 => ?_)
      exact r_return C hQ dX3_fail_32 (fun e => by subst e; exact ⟨trivial, rfl, rfl, rfl, rfl, rfl⟩)
    · refine r_icmp_ne (tgt := 20) C h283 (IRd rfl) dX3_fail_13 (by decide) (fun c288 => ?_) (fun c288 => ?_)
      · refine r_jf c288 ?_
        refine r_iload_n (pc := 20) (j := 1) C dX3_fail_20 rfl rfl ?_
        refine r_L (L' := [(0, .ref (zad E 53))]) [0] rfl ?_
        exact k287 a1 ha1
      · refine r_jt c288 ?_
        refine r_iconst (v := 1) C dX3_fail_16 (by decide) ?_
        refine r_goto (tgt := 21) C dX3_fail_17 (by decide) ?_
        refine r_L (L' := [(0, .ref (zad E 53))]) [0] rfl ?_
        exact k287 1 (IRd rfl)

def f_X3_addWord (a1 : Int) (S : Sst) : Option (Sst) :=
  if (S.2 53 6 < 0 ∨ ¬ S.2 53 6 < (Ln 54 : Int)) then
    (some S)
  else
    (Option.bind (asetS S 54 (Ln 54) (S.2 53 6) a1) fun (S298 : Sst) =>
    jn (upS S298 53 6 (wr ((S298.2 53 6) + 1))) fun (S300 : Sst) =>
    some S300)
set_option maxRecDepth 100000 in
set_option maxHeartbeats 4000000 in
theorem m_X3_addWord {l : Launch} {E : EwT} {n : Nat} {R : Srf} {S : Sst} {O : Smo} {a1 : Int} (ha1 : LR a1) (hL : gLx n R) {q : Sst} (hq : f_X3_addWord a1 S = some q) : MetG l E yX3_addWord cX3_addWord 3 none 0 0 0 0 n R S O [.ref (zad E 53), .long (zl a1)] (True) none n R q O := by
  refine ofG (L0 := [(0, .ref (zad E 53)), (1, .long (zl a1))]) hq (by decide +kernel) (Nat.le_of_ble_eq_true rfl) rfl (fun K _ C hQ => ?_)
  unfold f_X3_addWord
  refine r_aload_n (pc := 0) (j := 0) C dX3_addWord_0 rfl rfl ?_
  refine r_getS (j := 6) C cl_X3 kd_53 (by have := hL.1; omega) lc_53 (by decide) (by decide) rfl q_353 dX3_addWord_1 (fun h292 => ?_)
  refine r_cut (S.2 53 6 < 0 ∨ ¬ S.2 53 6 < (Ln 54 : Int)) 39 19 [] (fun c294 => ?_) (fun c294 => ?_) (fun k295 k296 => ?_)
  · refine r_t c294 ?_
    exact r_return C hQ dX3_addWord_39 (fun e => by cases e; exact ⟨trivial, rfl, rfl, rfl, rfl, rfl⟩)
  · refine r_f c294 ?_
    refine r_aload_n (pc := 19) (j := 0) C dX3_addWord_19 rfl rfl ?_
    refine r_getR (j := 5) (r := 54) C cl_X3 kd_53 (by have := hL.1; omega) (by decide) rfl hL.2 (by decide) q_352 dX3_addWord_20 ?_
    refine r_aload_n (pc := 23) (j := 0) C dX3_addWord_23 rfl rfl ?_
    refine r_getS (j := 6) C cl_X3 kd_53 (by have := hL.1; omega) lc_53 (by decide) (by decide) rfl q_353 dX3_addWord_24 (fun h297 => ?_)
    refine r_lload_n (pc := 27) (j := 1) C dX3_addWord_27 rfl rfl ?_
    refine r_lastS C kd_54 (by have := hL.1; omega) lc_54 h297 ha1 dX3_addWord_28 (fun S298 => ?_)
    refine r_aload_n (pc := 29) (j := 0) C dX3_addWord_29 rfl rfl ?_
    refine r_dup C dX3_addWord_30 rfl ?_
    refine r_getS (j := 6) C cl_X3 kd_53 (by have := hL.1; omega) lc_53 (by decide) (by decide) rfl q_353 dX3_addWord_31 (fun h299 => ?_)
    refine r_iconst (v := 1) C dX3_addWord_34 (by decide) ?_
    refine r_iadd C dX3_addWord_35 ?_
    refine r_putS C cl_X3 kd_53 (by have := hL.1; omega) lc_53 (by decide) (by decide) rfl rfl rfl (IR_wr _) q_353 dX3_addWord_36 (fun S300 => ?_)
    exact r_return C hQ dX3_addWord_39 (fun e => by cases e; exact ⟨trivial, rfl, rfl, rfl, rfl, rfl⟩)
  · refine r_if_lt (tgt := 39) C h292 dX3_addWord_4 (by decide) (fun c301 => ?_) (fun c301 => ?_)
    · exact k295 (Or.inl c301)
    · refine r_aload_n (pc := 7) (j := 0) C dX3_addWord_7 rfl rfl ?_
      refine r_getS (j := 6) C cl_X3 kd_53 (by have := hL.1; omega) lc_53 (by decide) (by decide) rfl q_353 dX3_addWord_8 (fun h293 => ?_)
      refine r_aload_n (pc := 11) (j := 0) C dX3_addWord_11 rfl rfl ?_
      refine r_getR (j := 5) (r := 54) C cl_X3 kd_53 (by have := hL.1; omega) (by decide) rfl hL.2 (by decide) q_352 dX3_addWord_12 ?_
      refine r_alen C (Or.inr (Or.inr (Or.inl kd_54))) (by have := hL.1; omega) dX3_addWord_15 ?_
      refine r_icmp_ge (tgt := 39) C h293 (IRd rfl) dX3_addWord_16 (by decide) (fun c302 => ?_) (fun c302 => ?_)
      · exact k295 (Or.inr c302)
      · exact k296 (fun w => w.elim c301 (fun x => x c302))

def f_X3_addName (S : Sst) : Option (Sst) :=
  Option.bind (f_X3_addWord (S.2 53 7) S) fun (q305 : Sst) =>
  some q305
set_option maxRecDepth 100000 in
set_option maxHeartbeats 4000000 in
theorem m_X3_addName {l : Launch} {E : EwT} {S : Sst} {O : Smo}  {q : Sst} (hq : f_X3_addName S = some q) : MetG l E yX3_addName cX3_addName 1 none 1 22 0 0 n0 R0 S O [.ref (zad E 53)] (True) none n0 R0 q O := by
  refine ofG (L0 := [(0, .ref (zad E 53))]) hq (by decide +kernel) (Nat.le_of_ble_eq_true rfl) rfl (fun K _ C hQ => ?_)
  unfold f_X3_addName
  refine r_aload_n (pc := 0) (j := 0) C dX3_addName_0 rfl rfl ?_
  refine r_aload_n (pc := 1) (j := 0) C dX3_addName_1 rfl rfl ?_
  refine r_getSl (j := 7) C cl_X3 kd_53 ln_53 lc_53 (by decide) (by decide) rfl q_354 dX3_addName_2 (fun h303 => ?_)
  refine r_bd (fun q305 e306 => ?_)
  refine r_cV0 (pc := 5) (k := 53) (As := [.long (zl (S.2 53 7))]) (st := []) C (m_X3_addWord (a1 := S.2 53 7) h303 gLx0 e306) cal_X3_addWord cl_X3 kd_53 ln_53 q_333 dX3_addName_5 rfl rfl (Nat.le_of_ble_eq_true rfl) (Nat.le_of_ble_eq_true rfl) (Nat.le_of_ble_eq_true rfl) (Nat.le_of_ble_eq_true rfl) (Nat.le_of_ble_eq_true rfl) (fun h304 => ?_)
  exact r_return C hQ dX3_addName_8 (fun e => by cases e; exact ⟨trivial, rfl, rfl, rfl, rfl, rfl⟩)

def f_X3_failed (S : Sst) : Int :=
  if S.2 53 2 = 0 then
    (0)
  else
    (1)
set_option maxRecDepth 100000 in
set_option maxHeartbeats 4000000 in
theorem m_X3_failed {l : Launch} {E : EwT} {S : Sst} {O : Smo}  {q : Int} (hq : f_X3_failed S = q) : MetG l E yX3_failed cX3_failed 1 (some .boolean) 0 0 0 0 n0 R0 S O [.ref (zad E 53)] (BR q) (some (.int (zi q))) n0 R0 S O := by
  refine ofG (L0 := [(0, .ref (zad E 53))]) hq (by decide +kernel) (Nat.le_of_ble_eq_true rfl) rfl (fun K _ C hQ => ?_)
  unfold f_X3_failed
  refine r_aload_n (pc := 0) (j := 0) C dX3_failed_0 rfl rfl ?_
  refine r_getS (j := 2) C cl_X3 kd_53 ln_53 lc_53 (by decide) (by decide) rfl q_347 dX3_failed_1 (fun h359 => ?_)
  refine r_if_eq (tgt := 11) C h359 dX3_failed_4 (by decide) (fun c360 => ?_) (fun c360 => ?_)
  · refine r_t c360 ?_
    refine r_iconst (v := 0) C dX3_failed_11 (by decide) ?_
    exact r_ireturn C hQ (nar_z (BRd rfl)) dX3_failed_12 (fun e => by subst e; exact ⟨(BRd rfl), rfl, rfl, rfl, rfl, rfl⟩)
  · refine r_f c360 ?_
    refine r_iconst (v := 1) C dX3_failed_7 (by decide) ?_
    refine r_goto (tgt := 12) C dX3_failed_8 (by decide) ?_
    exact r_ireturn C hQ (nar_z (BRd rfl)) dX3_failed_12 (fun e => by subst e; exact ⟨(BRd rfl), rfl, rfl, rfl, rfl, rfl⟩)

def f_X1_joined (a0 : Int) (a1 : Int) (a2 : Int) : Option (Int) :=
  if a0 = 37 then
    (if a2 = 0 then
      (some 0)
    else
      (Option.bind ((if a2 = 0 then none else some (zrem a1 a2))) fun (v809 : Int) =>
      some v809))
  else
    (if a0 = 42 then
      (some (wr (a1 * a2)))
    else
      (if a0 = 43 then
        (some (wr (a1 + a2)))
      else
        (if a0 = 45 then
          (some (wr (a1 - a2)))
        else
          (if a0 = 47 then
            (if a2 = 0 then
              (some 0)
            else
              (Option.bind ((if a2 = 0 then none else some (zdiv a1 a2))) fun (v816 : Int) =>
              some v816))
          else
            (if a0 = 60 then
              (if a1 < a2 then
                (some 1)
              else
                (some 0))
            else
              (if a0 = 61 then
                (if a1 = a2 then
                  (some 1)
                else
                  (some 0))
              else
                (if a0 = 62 then
                  (if a2 < a1 then
                    (some 1)
                  else
                    (some 0))
                else
                  (if a0 = 106 then
                    (if (a1 = 0 ∧ a2 = 0) then
                      (some 0)
                    else
                      (some 1))
                  else
                    (if a0 = 107 then
                      (if (a1 = 0 ∨ a2 = 0) then
                        (some 0)
                      else
                        (some 1))
                    else
                      (some 0))))))))))
set_option maxRecDepth 100000 in
set_option maxHeartbeats 4000000 in
theorem m_X1_joined {l : Launch} {E : EwT} {n : Nat} {R : Srf} {S : Sst} {O : Smo} {a0 : Int} (ha0 : IR a0) {a1 : Int} (ha1 : IR a1) {a2 : Int} (ha2 : IR a2) {q : Int} (hq : f_X1_joined a0 a1 a2 = some q) : MetG l E yX1_joined cX1_joined 3 (some .int) 0 0 0 0 n R S O [.int (zi a0), .int (zi a1), .int (zi a2)] (IR q) (some (.int (zi q))) n R S O := by
  refine ofG (L0 := [(0, .int (zi a0)), (1, .int (zi a1)), (2, .int (zi a2))]) hq (by decide +kernel) (Nat.le_of_ble_eq_true rfl) rfl (fun K _ C hQ => ?_)
  unfold f_X1_joined
  refine r_iload_n (pc := 0) (j := 0) C dX1_joined_0 rfl rfl ?_
  by_cases c807 : (a0 = 37)
  · refine r_t c807 ?_
    refine r_lswIn (kx := 37) (tgt := 177) C ha0 dX1_joined_1 rfl c807 rfl (by decide) ?_
    refine r_iload_n (pc := 177) (j := 2) C dX1_joined_177 rfl rfl ?_
    refine r_if_ne (tgt := 185) C ha2 dX1_joined_178 (by decide) (fun c808 => ?_) (fun c808 => ?_)
    · refine r_f c808 ?_
      refine r_iload_n (pc := 185) (j := 1) C dX1_joined_185 rfl rfl ?_
      refine r_iload_n (pc := 186) (j := 2) C dX1_joined_186 rfl rfl ?_
      refine r_irem C ha2 dX1_joined_187 (fun v809 h810 => ?_)
      exact r_ireturn C hQ rfl dX1_joined_188 (fun e => by cases e; exact ⟨h810, rfl, rfl, rfl, rfl, rfl⟩)
    · refine r_t c808 ?_
      refine r_iconst (v := 0) C dX1_joined_181 (by decide) ?_
      refine r_goto (tgt := 188) C dX1_joined_182 (by decide) ?_
      exact r_ireturn C hQ rfl dX1_joined_188 (fun e => by cases e; exact ⟨(IRd rfl), rfl, rfl, rfl, rfl, rfl⟩)
  · refine r_f c807 ?_
    by_cases c811 : (a0 = 42)
    · refine r_t c811 ?_
      refine r_lswIn (kx := 42) (tgt := 161) C ha0 dX1_joined_1 rfl c811 rfl (by decide) ?_
      refine r_iload_n (pc := 161) (j := 1) C dX1_joined_161 rfl rfl ?_
      refine r_iload_n (pc := 162) (j := 2) C dX1_joined_162 rfl rfl ?_
      refine r_imul C dX1_joined_163 ?_
      exact r_ireturn C hQ rfl dX1_joined_164 (fun e => by cases e; exact ⟨(IR_wr _), rfl, rfl, rfl, rfl, rfl⟩)
    · refine r_f c811 ?_
      by_cases c812 : (a0 = 43)
      · refine r_t c812 ?_
        refine r_lswIn (kx := 43) (tgt := 153) C ha0 dX1_joined_1 rfl c812 rfl (by decide) ?_
        refine r_iload_n (pc := 153) (j := 1) C dX1_joined_153 rfl rfl ?_
        refine r_iload_n (pc := 154) (j := 2) C dX1_joined_154 rfl rfl ?_
        refine r_iadd C dX1_joined_155 ?_
        exact r_ireturn C hQ rfl dX1_joined_156 (fun e => by cases e; exact ⟨(IR_wr _), rfl, rfl, rfl, rfl, rfl⟩)
      · refine r_f c812 ?_
        by_cases c813 : (a0 = 45)
        · refine r_t c813 ?_
          refine r_lswIn (kx := 45) (tgt := 157) C ha0 dX1_joined_1 rfl c813 rfl (by decide) ?_
          refine r_iload_n (pc := 157) (j := 1) C dX1_joined_157 rfl rfl ?_
          refine r_iload_n (pc := 158) (j := 2) C dX1_joined_158 rfl rfl ?_
          refine r_isub C dX1_joined_159 ?_
          exact r_ireturn C hQ rfl dX1_joined_160 (fun e => by cases e; exact ⟨(IR_wr _), rfl, rfl, rfl, rfl, rfl⟩)
        · refine r_f c813 ?_
          by_cases c814 : (a0 = 47)
          · refine r_t c814 ?_
            refine r_lswIn (kx := 47) (tgt := 165) C ha0 dX1_joined_1 rfl c814 rfl (by decide) ?_
            refine r_iload_n (pc := 165) (j := 2) C dX1_joined_165 rfl rfl ?_
            refine r_if_ne (tgt := 173) C ha2 dX1_joined_166 (by decide) (fun c815 => ?_) (fun c815 => ?_)
            · refine r_f c815 ?_
              refine r_iload_n (pc := 173) (j := 1) C dX1_joined_173 rfl rfl ?_
              refine r_iload_n (pc := 174) (j := 2) C dX1_joined_174 rfl rfl ?_
              refine r_idiv C ha2 dX1_joined_175 (fun v816 h817 => ?_)
              exact r_ireturn C hQ rfl dX1_joined_176 (fun e => by cases e; exact ⟨h817, rfl, rfl, rfl, rfl, rfl⟩)
            · refine r_t c815 ?_
              refine r_iconst (v := 0) C dX1_joined_169 (by decide) ?_
              refine r_goto (tgt := 176) C dX1_joined_170 (by decide) ?_
              exact r_ireturn C hQ rfl dX1_joined_176 (fun e => by cases e; exact ⟨(IRd rfl), rfl, rfl, rfl, rfl, rfl⟩)
          · refine r_f c814 ?_
            by_cases c818 : (a0 = 60)
            · refine r_t c818 ?_
              refine r_lswIn (kx := 60) (tgt := 120) C ha0 dX1_joined_1 rfl c818 rfl (by decide) ?_
              refine r_iload_n (pc := 120) (j := 1) C dX1_joined_120 rfl rfl ?_
              refine r_iload_n (pc := 121) (j := 2) C dX1_joined_121 rfl rfl ?_
              refine r_icmp_ge (tgt := 129) C ha1 ha2 dX1_joined_122 (by decide) (fun c819 => ?_) (fun c819 => ?_)
              · refine r_f c819 ?_
                refine r_iconst (v := 0) C dX1_joined_129 (by decide) ?_
                exact r_ireturn C hQ rfl dX1_joined_130 (fun e => by cases e; exact ⟨(IRd rfl), rfl, rfl, rfl, rfl, rfl⟩)
              · refine r_t c819 ?_
                refine r_iconst (v := 1) C dX1_joined_125 (by decide) ?_
                refine r_goto (tgt := 130) C dX1_joined_126 (by decide) ?_
                exact r_ireturn C hQ rfl dX1_joined_130 (fun e => by cases e; exact ⟨(IRd rfl), rfl, rfl, rfl, rfl, rfl⟩)
            · refine r_f c818 ?_
              by_cases c820 : (a0 = 61)
              · refine r_t c820 ?_
                refine r_lswIn (kx := 61) (tgt := 142) C ha0 dX1_joined_1 rfl c820 rfl (by decide) ?_
                refine r_iload_n (pc := 142) (j := 1) C dX1_joined_142 rfl rfl ?_
                refine r_iload_n (pc := 143) (j := 2) C dX1_joined_143 rfl rfl ?_
                refine r_icmp_ne (tgt := 151) C ha1 ha2 dX1_joined_144 (by decide) (fun c821 => ?_) (fun c821 => ?_)
                · refine r_f c821 ?_
                  refine r_iconst (v := 0) C dX1_joined_151 (by decide) ?_
                  exact r_ireturn C hQ rfl dX1_joined_152 (fun e => by cases e; exact ⟨(IRd rfl), rfl, rfl, rfl, rfl, rfl⟩)
                · refine r_t c821 ?_
                  refine r_iconst (v := 1) C dX1_joined_147 (by decide) ?_
                  refine r_goto (tgt := 152) C dX1_joined_148 (by decide) ?_
                  exact r_ireturn C hQ rfl dX1_joined_152 (fun e => by cases e; exact ⟨(IRd rfl), rfl, rfl, rfl, rfl, rfl⟩)
              · refine r_f c820 ?_
                by_cases c822 : (a0 = 62)
                · refine r_t c822 ?_
                  refine r_lswIn (kx := 62) (tgt := 131) C ha0 dX1_joined_1 rfl c822 rfl (by decide) ?_
                  refine r_iload_n (pc := 131) (j := 1) C dX1_joined_131 rfl rfl ?_
                  refine r_iload_n (pc := 132) (j := 2) C dX1_joined_132 rfl rfl ?_
                  refine r_icmp_le (tgt := 140) C ha1 ha2 dX1_joined_133 (by decide) (fun c823 => ?_) (fun c823 => ?_)
                  · refine r_f c823 ?_
                    refine r_iconst (v := 0) C dX1_joined_140 (by decide) ?_
                    exact r_ireturn C hQ rfl dX1_joined_141 (fun e => by cases e; exact ⟨(IRd rfl), rfl, rfl, rfl, rfl, rfl⟩)
                  · refine r_t c823 ?_
                    refine r_iconst (v := 1) C dX1_joined_136 (by decide) ?_
                    refine r_goto (tgt := 141) C dX1_joined_137 (by decide) ?_
                    exact r_ireturn C hQ rfl dX1_joined_141 (fun e => by cases e; exact ⟨(IRd rfl), rfl, rfl, rfl, rfl, rfl⟩)
                · refine r_f c822 ?_
                  by_cases c824 : (a0 = 106)
                  · refine r_t c824 ?_
                    refine r_lswIn (kx := 106) (tgt := 92) C ha0 dX1_joined_1 rfl c824 rfl (by decide) ?_
                    refine r_iload_n (pc := 92) (j := 1) C dX1_joined_92 rfl rfl ?_
                    refine r_cut (a1 = 0 ∧ a2 = 0) 104 100 [] (fun c825 => ?_) (fun c825 => ?_) (fun k826 k827 => ?_)
                    · refine r_t c825 ?_
                      refine r_iconst (v := 0) C dX1_joined_104 (by decide) ?_
                      exact r_ireturn C hQ rfl dX1_joined_105 (fun e => by cases e; exact ⟨(IRd rfl), rfl, rfl, rfl, rfl, rfl⟩)
                    · refine r_f c825 ?_
                      refine r_iconst (v := 1) C dX1_joined_100 (by decide) ?_
                      refine r_goto (tgt := 105) C dX1_joined_101 (by decide) ?_
                      exact r_ireturn C hQ rfl dX1_joined_105 (fun e => by cases e; exact ⟨(IRd rfl), rfl, rfl, rfl, rfl, rfl⟩)
                    · refine r_if_ne (tgt := 100) C ha1 dX1_joined_93 (by decide) (fun c828 => ?_) (fun c828 => ?_)
                      · exact k827 (fun w => c828 w.1)
                      · refine r_iload_n (pc := 96) (j := 2) C dX1_joined_96 rfl rfl ?_
                        refine r_if_eq (tgt := 104) C ha2 dX1_joined_97 (by decide) (fun c829 => ?_) (fun c829 => ?_)
                        · exact k826 ⟨c828, c829⟩
                        · exact k827 (fun w => c829 w.2)
                  · refine r_f c824 ?_
                    by_cases c830 : (a0 = 107)
                    · refine r_t c830 ?_
                      refine r_lswIn (kx := 107) (tgt := 106) C ha0 dX1_joined_1 rfl c830 rfl (by decide) ?_
                      refine r_iload_n (pc := 106) (j := 1) C dX1_joined_106 rfl rfl ?_
                      refine r_cut (a1 = 0 ∨ a2 = 0) 118 114 [] (fun c831 => ?_) (fun c831 => ?_) (fun k832 k833 => ?_)
                      · refine r_t c831 ?_
                        refine r_iconst (v := 0) C dX1_joined_118 (by decide) ?_
                        exact r_ireturn C hQ rfl dX1_joined_119 (fun e => by cases e; exact ⟨(IRd rfl), rfl, rfl, rfl, rfl, rfl⟩)
                      · refine r_f c831 ?_
                        refine r_iconst (v := 1) C dX1_joined_114 (by decide) ?_
                        refine r_goto (tgt := 119) C dX1_joined_115 (by decide) ?_
                        exact r_ireturn C hQ rfl dX1_joined_119 (fun e => by cases e; exact ⟨(IRd rfl), rfl, rfl, rfl, rfl, rfl⟩)
                      · refine r_if_eq (tgt := 118) C ha1 dX1_joined_107 (by decide) (fun c834 => ?_) (fun c834 => ?_)
                        · exact k832 (Or.inl c834)
                        · refine r_iload_n (pc := 110) (j := 2) C dX1_joined_110 rfl rfl ?_
                          refine r_if_eq (tgt := 118) C ha2 dX1_joined_111 (by decide) (fun c835 => ?_) (fun c835 => ?_)
                          · exact k832 (Or.inr c835)
                          · exact k833 (fun w => w.elim c834 c835)
                    · refine r_f c830 ?_
                      refine r_lswOut (tgt := 189) C ha0 dX1_joined_1 rfl (by intro q hq; simp at hq; rcases hq with rfl | rfl | rfl | rfl | rfl | rfl | rfl | rfl | rfl | rfl <;> omega) (by decide) ?_
                      refine r_iconst (v := 0) C dX1_joined_189 (by decide) ?_
                      exact r_ireturn C hQ rfl dX1_joined_190 (fun e => by cases e; exact ⟨(IRd rfl), rfl, rfl, rfl, rfl, rfl⟩)

def f_X1_doStep (p : Nat) (a1 : Int) (S : Sst) : Option (Sst) :=
  if a1 < 1000 then
    (jn (f_X6_takeLast (p + 3) S) fun (q838 : Int × Sst) =>
    jn (f_X6_takeLast (p + 3) q838.2) fun (q841 : Int × Sst) =>
    Option.bind (f_X1_joined a1 q841.1 q838.1) fun (q844 : Int) =>
    jn (f_X6_add (p + 3) q844 q841.2) fun (q847 : Sst) =>
    some q847)
  else
    (jn (f_X6_add (p + 3) (wr (a1 - 1000)) S) fun (q850 : Sst) =>
    some q850)
set_option maxRecDepth 100000 in
set_option maxHeartbeats 4000000 in
theorem m_X1_doStep {l : Launch} {E : EwT} {S : Sst} {O : Smo} {p : Nat} (hp : gFm n0 R0 p) {a1 : Int} (ha1 : IR a1) {q : Sst} (hq : f_X1_doStep p a1 S = some q) : MetG l E yX1_doStep cX1_doStep 4 none 2 42 0 0 n0 R0 S O [.ref (zad E p), .int (zi a1)] (True) none n0 R0 q O := by
  refine ofG (L0 := [(0, .ref (zad E p)), (1, .int (zi a1))]) hq (by decide +kernel) (Nat.le_of_ble_eq_true rfl) rfl (fun K _ C hQ => ?_)
  unfold f_X1_doStep
  refine r_iload_n (pc := 0) (j := 1) C dX1_doStep_0 rfl rfl ?_
  refine r_sipush (v := 1000) C dX1_doStep_1 (by decide) ?_
  refine r_icmp_lt (tgt := 20) C ha1 (IRd rfl) dX1_doStep_4 (by decide) (fun c836 => ?_) (fun c836 => ?_)
  · refine r_t c836 ?_
    refine r_aload_n (pc := 20) (j := 0) C dX1_doStep_20 rfl rfl ?_
    refine r_getR (j := 2) (r := (p + 3)) C cl_X1 (gFm_k hp).1 (gFm_k hp).2.1 (by decide) rfl (hp.2.2 (0, 2, 3) (by decide)) (by omega) q_192 dX1_doStep_21 ?_
    refine r_jn (fun q838 e839 => ?_)
    refine r_cV1 (pc := 24) (k := (p + 3)) (As := []) (st := []) C (m_X6_takeLast (p := (p + 3)) (gFm_w hp (i := 1) (by decide)) e839) cal_X6_takeLast cl_X6 (gRw_k (gFm_w hp (i := 1) (by decide))).1 (gRw_k (gFm_w hp (i := 1) (by decide))).2.1 q_976 dX1_doStep_24 rfl rfl (Nat.le_of_ble_eq_true rfl) (Nat.le_of_ble_eq_true rfl) (Nat.le_of_ble_eq_true rfl) (Nat.le_of_ble_eq_true rfl) (Nat.le_of_ble_eq_true rfl) (fun h837 => ?_)
    refine r_istore_n (L' := [(2, .int (zi q838.1)), (0, .ref (zad E p)), (1, .int (zi a1))]) C dX1_doStep_27 rfl (by decide) rfl ?_
    refine r_aload_n (pc := 28) (j := 1) C dX1_doStep_28 rfl rfl ?_
    refine r_getR (j := 2) (r := (p + 3)) C cl_X1 (gFm_k hp).1 (gFm_k hp).2.1 (by decide) rfl (hp.2.2 (0, 2, 3) (by decide)) (by omega) q_192 dX1_doStep_29 ?_
    refine r_jn (fun q841 e842 => ?_)
    refine r_cV1 (pc := 32) (k := (p + 3)) (As := []) (st := []) C (m_X6_takeLast (p := (p + 3)) (gFm_w hp (i := 1) (by decide)) e842) cal_X6_takeLast cl_X6 (gRw_k (gFm_w hp (i := 1) (by decide))).1 (gRw_k (gFm_w hp (i := 1) (by decide))).2.1 q_976 dX1_doStep_32 rfl rfl (Nat.le_of_ble_eq_true rfl) (Nat.le_of_ble_eq_true rfl) (Nat.le_of_ble_eq_true rfl) (Nat.le_of_ble_eq_true rfl) (Nat.le_of_ble_eq_true rfl) (fun h840 => ?_)
    refine r_istore_n (L' := [(3, .int (zi q841.1)), (2, .int (zi q838.1)), (0, .ref (zad E p)), (1, .int (zi a1))]) C dX1_doStep_35 rfl (by decide) rfl ?_
    refine r_aload_n (pc := 36) (j := 2) C dX1_doStep_36 rfl rfl ?_
    refine r_getR (j := 2) (r := (p + 3)) C cl_X1 (gFm_k hp).1 (gFm_k hp).2.1 (by decide) rfl (hp.2.2 (0, 2, 3) (by decide)) (by omega) q_192 dX1_doStep_37 ?_
    refine r_iload_n (pc := 40) (j := 3) C dX1_doStep_40 rfl rfl ?_
    refine r_iload_n (pc := 41) (j := 0) C dX1_doStep_41 rfl rfl ?_
    refine r_iload_n (pc := 42) (j := 1) C dX1_doStep_42 rfl rfl ?_
    refine r_bd (fun q844 e845 => ?_)
    refine r_cS1 (pc := 43) (As := [.int (zi a1), .int (zi q841.1), .int (zi q838.1)]) (st := [.ref (zad E (p + 3))]) C (m_X1_joined (a0 := a1) (a1 := q841.1) (a2 := q838.1) ha1 h840 h837 e845) cal_X1_joined q_981 dX1_doStep_43 rfl rfl (Nat.le_of_ble_eq_true rfl) (Nat.le_of_ble_eq_true rfl) (Nat.le_of_ble_eq_true rfl) (Nat.le_of_ble_eq_true rfl) (Nat.le_of_ble_eq_true rfl) (fun h843 => ?_)
    refine r_jn (fun q847 e848 => ?_)
    refine r_cV0 (pc := 46) (k := (p + 3)) (As := [.int (zi q844)]) (st := []) C (m_X6_add (p := (p + 3)) (a1 := q844) (gFm_w hp (i := 1) (by decide)) h843 e848) cal_X6_add cl_X6 (gRw_k (gFm_w hp (i := 1) (by decide))).1 (gRw_k (gFm_w hp (i := 1) (by decide))).2.1 q_217 dX1_doStep_46 rfl rfl (Nat.le_of_ble_eq_true rfl) (Nat.le_of_ble_eq_true rfl) (Nat.le_of_ble_eq_true rfl) (Nat.le_of_ble_eq_true rfl) (Nat.le_of_ble_eq_true rfl) (fun h846 => ?_)
    exact r_return C hQ dX1_doStep_49 (fun e => by cases e; exact ⟨trivial, rfl, rfl, rfl, rfl, rfl⟩)
  · refine r_f c836 ?_
    refine r_aload_n (pc := 7) (j := 0) C dX1_doStep_7 rfl rfl ?_
    refine r_getR (j := 2) (r := (p + 3)) C cl_X1 (gFm_k hp).1 (gFm_k hp).2.1 (by decide) rfl (hp.2.2 (0, 2, 3) (by decide)) (by omega) q_192 dX1_doStep_8 ?_
    refine r_iload_n (pc := 11) (j := 1) C dX1_doStep_11 rfl rfl ?_
    refine r_sipush (v := 1000) C dX1_doStep_12 (by decide) ?_
    refine r_isub C dX1_doStep_15 ?_
    refine r_jn (fun q850 e851 => ?_)
    refine r_cV0 (pc := 16) (k := (p + 3)) (As := [.int (zi (wr (a1 - 1000)))]) (st := []) C (m_X6_add (p := (p + 3)) (a1 := wr (a1 - 1000)) (gFm_w hp (i := 1) (by decide)) (IR_wr _) e851) cal_X6_add cl_X6 (gRw_k (gFm_w hp (i := 1) (by decide))).1 (gRw_k (gFm_w hp (i := 1) (by decide))).2.1 q_217 dX1_doStep_16 rfl rfl (Nat.le_of_ble_eq_true rfl) (Nat.le_of_ble_eq_true rfl) (Nat.le_of_ble_eq_true rfl) (Nat.le_of_ble_eq_true rfl) (Nat.le_of_ble_eq_true rfl) (fun h849 => ?_)
    exact r_return C hQ dX1_doStep_19 (fun e => by cases e; exact ⟨trivial, rfl, rfl, rfl, rfl, rfl⟩)

def f_X1_valueFor (p : Nat) (a1 : Int) (a2 : Int) (a3 : Int) (a4 : Int) (a5 : Int) (S : Sst) : Option (Int × Sst) :=
  jn (f_X6_clear (p + 3) S) fun (q906 : Sst) =>
  Option.bind (lp (fun (s908 : Int × Sst) =>
    if s908.1 < f_X6_size (p + 1) s908.2 then
      (jn (f_X6_at (p + 1) s908.1 s908.2) fun (v917 : Int) =>
      Option.bind (
        if v917 = 108 then
          (jn (f_X6_takeLast (p + 3) s908.2) fun (q925 : Int × Sst) =>
          jn (
            if q925.1 = 0 then
              (1)
            else
              (0)) fun (q927 : Int) =>
          jn (f_X6_add (p + 3) q927 q925.2) fun (q933 : Sst) =>
          some q933)
        else
          (if v917 = 109 then
            (jn (f_X6_add (p + 3) a1 s908.2) fun (q937 : Sst) =>
            some q937)
          else
            (if v917 = 110 then
              (jn (f_X6_add (p + 3) a2 s908.2) fun (q941 : Sst) =>
              some q941)
            else
              (if v917 = 111 then
                (jn (f_X6_add (p + 3) a3 s908.2) fun (q945 : Sst) =>
                some q945)
              else
                (if v917 = 112 then
                  (jn (f_X6_add (p + 3) a4 s908.2) fun (q949 : Sst) =>
                  some q949)
                else
                  (if v917 = 113 then
                    (jn (f_X6_add (p + 3) a5 s908.2) fun (q953 : Sst) =>
                    some q953)
                  else
                    (Option.bind (f_X1_doStep p v917 s908.2) fun (q956 : Sst) =>
                    some q956))))))) fun (q919 : Sst) =>
      some (Sum.inl (wr (s908.1 + 1), q919)))
    else
      (some (Sum.inr s908.2))) FU (0, q906)) fun (r958 : Sst) =>
  some (f_X6_last (p + 3) r958, r958)
set_option maxRecDepth 100000 in
set_option maxHeartbeats 4000000 in
theorem m_X1_valueFor {l : Launch} {E : EwT} {S : Sst} {O : Smo} {p : Nat} (hp : gFm n0 R0 p) {a1 : Int} (ha1 : IR a1) {a2 : Int} (ha2 : IR a2) {a3 : Int} (ha3 : IR a3) {a4 : Int} (ha4 : IR a4) {a5 : Int} (ha5 : IR a5) {q : Int × Sst} (hq : f_X1_valueFor p a1 a2 a3 a4 a5 S = some q) : MetG l E yX1_valueFor cX1_valueFor 8 (some .int) 3 65 0 0 n0 R0 S O [.ref (zad E p), .int (zi a1), .int (zi a2), .int (zi a3), .int (zi a4), .int (zi a5)] (IR q.1) (some (.int (zi q.1))) n0 R0 q.2 O := by
  refine ofG (L0 := [(0, .ref (zad E p)), (1, .int (zi a1)), (2, .int (zi a2)), (3, .int (zi a3)), (4, .int (zi a4)), (5, .int (zi a5))]) hq (by decide +kernel) (Nat.le_of_ble_eq_true rfl) rfl (fun K _ C hQ => ?_)
  unfold f_X1_valueFor
  refine r_aload_n (pc := 0) (j := 0) C dX1_valueFor_0 rfl rfl ?_
  refine r_getR (j := 2) (r := (p + 3)) C cl_X1 (gFm_k hp).1 (gFm_k hp).2.1 (by decide) rfl (hp.2.2 (0, 2, 3) (by decide)) (by omega) q_192 dX1_valueFor_1 ?_
  refine r_jn (fun q906 e907 => ?_)
  refine r_cV0 (pc := 4) (k := (p + 3)) (As := []) (st := []) C (m_X6_clear (p := (p + 3)) (gFm_w hp (i := 1) (by decide)) e907) cal_X6_clear cl_X6 (gRw_k (gFm_w hp (i := 1) (by decide))).1 (gRw_k (gFm_w hp (i := 1) (by decide))).2.1 q_212 dX1_valueFor_4 rfl rfl (Nat.le_of_ble_eq_true rfl) (Nat.le_of_ble_eq_true rfl) (Nat.le_of_ble_eq_true rfl) (Nat.le_of_ble_eq_true rfl) (Nat.le_of_ble_eq_true rfl) (fun h905 => ?_)
  refine r_iconst (v := 0) C dX1_valueFor_7 (by decide) ?_
  refine r_istore (L' := [(6, .int (zi 0)), (0, .ref (zad E p)), (1, .int (zi a1)), (2, .int (zi a2)), (3, .int (zi a3)), (4, .int (zi a4)), (5, .int (zi a5))]) C dX1_valueFor_8 (by decide) rfl ?_
  refine r_L (L' := [(0, .ref (zad E p)), (1, .int (zi a1)), (2, .int (zi a2)), (3, .int (zi a3)), (4, .int (zi a4)), (5, .int (zi a5)), (6, .int (zi 0))]) [1, 2, 3, 4, 5, 6, 0] rfl ?_
  refine r_loop1 (fun s908 : Int × Sst => IR s908.1) (fun s908 => s908.2) (fun s908 => O) (fun s908 => [(0, .ref (zad E p)), (1, .int (zi a1)), (2, .int (zi a2)), (3, .int (zi a3)), (4, .int (zi a4)), (5, .int (zi a5)), (6, .int (zi s908.1))]) [] (fun r958 : Sst => True) (fun r958 => r958) (fun r958 => O) (fun r958 => [(0, .ref (zad E p))]) 166 (fun r958 h959 => ?_) (fun k910 k912 k911 k913 s908 h909 => ?_) (IRd rfl)
  · refine r_aload_n (pc := 166) (j := 0) C dX1_valueFor_166 rfl rfl ?_
    refine r_getR (j := 2) (r := (p + 3)) C cl_X1 (gFm_k hp).1 (gFm_k hp).2.1 (by decide) rfl (hp.2.2 (0, 2, 3) (by decide)) (by omega) q_192 dX1_valueFor_167 ?_
    refine r_cV1 (pc := 170) (k := (p + 3)) (As := []) (st := []) C (m_X6_last (p := (p + 3)) (gFm_w hp (i := 1) (by decide)) rfl) cal_X6_last cl_X6 (gRw_k (gFm_w hp (i := 1) (by decide))).1 (gRw_k (gFm_w hp (i := 1) (by decide))).2.1 q_984 dX1_valueFor_170 rfl rfl (Nat.le_of_ble_eq_true rfl) (Nat.le_of_ble_eq_true rfl) (Nat.le_of_ble_eq_true rfl) (Nat.le_of_ble_eq_true rfl) (Nat.le_of_ble_eq_true rfl) (fun h960 => ?_)
    exact r_ireturn C hQ rfl dX1_valueFor_173 (fun e => by cases e; exact ⟨h960, rfl, rfl, rfl, rfl, rfl⟩)
  · refine r_iload (pc := 10) (j := 6) C dX1_valueFor_10 rfl ?_
    refine r_aload_n (pc := 12) (j := 0) C dX1_valueFor_12 rfl rfl ?_
    refine r_getR (j := 1) (r := (p + 1)) C cl_X1 (gFm_k hp).1 (gFm_k hp).2.1 (by decide) rfl (hp.2.2 (0, 1, 1) (by decide)) (by omega) q_191 dX1_valueFor_13 ?_
    refine r_cV1 (pc := 16) (k := (p + 1)) (As := []) (st := [.int (zi s908.1)]) C (m_X6_size (p := (p + 1)) (gFm_w hp (i := 0) (by decide)) rfl) cal_X6_size cl_X6 (gRw_k (gFm_w hp (i := 0) (by decide))).1 (gRw_k (gFm_w hp (i := 0) (by decide))).2.1 q_974 dX1_valueFor_16 rfl rfl (Nat.le_of_ble_eq_true rfl) (Nat.le_of_ble_eq_true rfl) (Nat.le_of_ble_eq_true rfl) (Nat.le_of_ble_eq_true rfl) (Nat.le_of_ble_eq_true rfl) (fun h914 => ?_)
    refine r_icmp_ge (tgt := 166) C h909 h914 dX1_valueFor_19 (by decide) (fun c915 => ?_) (fun c915 => ?_)
    · refine r_bf c915 ?_
      refine r_L (L' := [(0, .ref (zad E p))]) [0] rfl ?_
      exact k913 s908.2 trivial
    · refine r_bt c915 ?_
      refine r_aload_n (pc := 22) (j := 0) C dX1_valueFor_22 rfl rfl ?_
      refine r_getR (j := 1) (r := (p + 1)) C cl_X1 (gFm_k hp).1 (gFm_k hp).2.1 (by decide) rfl (hp.2.2 (0, 1, 1) (by decide)) (by omega) q_191 dX1_valueFor_23 ?_
      refine r_iload (pc := 26) (j := 6) C dX1_valueFor_26 rfl ?_
      refine r_cV1 (pc := 28) (k := (p + 1)) (As := [.int (zi s908.1)]) (st := []) C (m_X6_at (p := (p + 1)) (a1 := s908.1) (gFm_w hp (i := 0) (by decide)) h909 rfl) cal_X6_at cl_X6 (gRw_k (gFm_w hp (i := 0) (by decide))).1 (gRw_k (gFm_w hp (i := 0) (by decide))).2.1 q_975 dX1_valueFor_28 rfl rfl (Nat.le_of_ble_eq_true rfl) (Nat.le_of_ble_eq_true rfl) (Nat.le_of_ble_eq_true rfl) (Nat.le_of_ble_eq_true rfl) (Nat.le_of_ble_eq_true rfl) (fun h916 => ?_)
      refine r_bj ?_
      refine r_jv h916 (fun v917 h918 => ?_)
      refine r_istore (L' := [(7, .int (zi v917)), (0, .ref (zad E p)), (1, .int (zi a1)), (2, .int (zi a2)), (3, .int (zi a3)), (4, .int (zi a4)), (5, .int (zi a5)), (6, .int (zi s908.1))]) C dX1_valueFor_31 (by decide) rfl ?_
      refine r_iload (pc := 33) (j := 0) C dX1_valueFor_33 rfl ?_
      refine r_bb ?_
      refine r_joinb (fun q919 : Sst => True) (fun q919 => q919) (fun q919 => O) (fun q919 => [(0, .ref (zad E p)), (1, .int (zi a1)), (2, .int (zi a2)), (3, .int (zi a3)), (4, .int (zi a4)), (5, .int (zi a5)), (6, .int (zi s908.1))]) 160 (fun q919 => []) (fun q919 h920 => ?_) (fun k921 k922 => ?_)
      · refine r_iinc (j := 6) (L' := [(6, .int (zi (wr (s908.1 + 1)))), (0, .ref (zad E p)), (1, .int (zi a1)), (2, .int (zi a2)), (3, .int (zi a3)), (4, .int (zi a4)), (5, .int (zi a5))]) C dX1_valueFor_160 rfl (by decide) rfl ?_
        refine r_goto (tgt := 10) C dX1_valueFor_163 (by decide) ?_
        refine r_L (L' := [(0, .ref (zad E p)), (1, .int (zi a1)), (2, .int (zi a2)), (3, .int (zi a3)), (4, .int (zi a4)), (5, .int (zi a5)), (6, .int (zi (wr (s908.1 + 1))))]) [1, 2, 3, 4, 5, 6, 0] rfl ?_
        exact k911 (wr (s908.1 + 1), q919) (IR_wr _)
      · by_cases c923 : (v917 = 108)
        · refine r_bt c923 ?_
          refine r_tswIn (kx := 108) (tgt := 129) C h918 dX1_valueFor_35 c923 (by decide) (by decide) rfl (by decide) ?_
          refine r_aload_n (pc := 129) (j := 1) C dX1_valueFor_129 rfl rfl ?_
          refine r_getR (j := 2) (r := (p + 3)) C cl_X1 (gFm_k hp).1 (gFm_k hp).2.1 (by decide) rfl (hp.2.2 (0, 2, 3) (by decide)) (by omega) q_192 dX1_valueFor_130 ?_
          refine r_aload_n (pc := 133) (j := 1) C dX1_valueFor_133 rfl rfl ?_
          refine r_getR (j := 2) (r := (p + 3)) C cl_X1 (gFm_k hp).1 (gFm_k hp).2.1 (by decide) rfl (hp.2.2 (0, 2, 3) (by decide)) (by omega) q_192 dX1_valueFor_134 ?_
          refine r_bj ?_
          refine r_jn (fun q925 e926 => ?_)
          refine r_cV1 (pc := 137) (k := (p + 3)) (As := []) (st := [.ref (zad E (p + 3))]) C (m_X6_takeLast (p := (p + 3)) (gFm_w hp (i := 1) (by decide)) e926) cal_X6_takeLast cl_X6 (gRw_k (gFm_w hp (i := 1) (by decide))).1 (gRw_k (gFm_w hp (i := 1) (by decide))).2.1 q_976 dX1_valueFor_137 rfl rfl (Nat.le_of_ble_eq_true rfl) (Nat.le_of_ble_eq_true rfl) (Nat.le_of_ble_eq_true rfl) (Nat.le_of_ble_eq_true rfl) (Nat.le_of_ble_eq_true rfl) (fun h924 => ?_)
          refine r_bj ?_
          refine r_join (fun q927 : Int => BR q927) (fun q927 => q925.2) (fun q927 => O) (fun q927 => [(0, .ref (zad E p)), (1, .int (zi a1)), (2, .int (zi a2)), (3, .int (zi a3)), (4, .int (zi a4)), (5, .int (zi a5)), (6, .int (zi s908.1))]) 148 (fun q927 => [.int (zi q927), .ref (zad E (p + 3))]) (fun q927 h928 => ?_) (fun k929 k930 => ?_)
          · refine r_bj ?_
            refine r_jn (fun q933 e934 => ?_)
            refine r_cV0 (pc := 148) (k := (p + 3)) (As := [.int (zi q927)]) (st := []) C (m_X6_add (p := (p + 3)) (a1 := q927) (gFm_w hp (i := 1) (by decide)) h928.ir e934) cal_X6_add cl_X6 (gRw_k (gFm_w hp (i := 1) (by decide))).1 (gRw_k (gFm_w hp (i := 1) (by decide))).2.1 q_217 dX1_valueFor_148 rfl rfl (Nat.le_of_ble_eq_true rfl) (Nat.le_of_ble_eq_true rfl) (Nat.le_of_ble_eq_true rfl) (Nat.le_of_ble_eq_true rfl) (Nat.le_of_ble_eq_true rfl) (fun h932 => ?_)
            refine r_goto (tgt := 160) C dX1_valueFor_151 (by decide) ?_
            exact k922 q933 trivial
          · refine r_if_ne (tgt := 147) C h924 dX1_valueFor_140 (by decide) (fun c931 => ?_) (fun c931 => ?_)
            · refine r_jf c931 ?_
              refine r_iconst (v := 0) C dX1_valueFor_147 (by decide) ?_
              refine r_L (L' := [(0, .ref (zad E p)), (1, .int (zi a1)), (2, .int (zi a2)), (3, .int (zi a3)), (4, .int (zi a4)), (5, .int (zi a5)), (6, .int (zi s908.1))]) [1, 2, 3, 4, 5, 6, 7] rfl ?_
              exact k930 0 (BRd rfl)
            · refine r_jt c931 ?_
              refine r_iconst (v := 1) C dX1_valueFor_143 (by decide) ?_
              refine r_goto (tgt := 148) C dX1_valueFor_144 (by decide) ?_
              refine r_L (L' := [(0, .ref (zad E p)), (1, .int (zi a1)), (2, .int (zi a2)), (3, .int (zi a3)), (4, .int (zi a4)), (5, .int (zi a5)), (6, .int (zi s908.1))]) [1, 2, 3, 4, 5, 6, 7] rfl ?_
              exact k930 1 (BRd rfl)
        · refine r_bf c923 ?_
          by_cases c935 : (v917 = 109)
          · refine r_bt c935 ?_
            refine r_tswIn (kx := 109) (tgt := 72) C h918 dX1_valueFor_35 c935 (by decide) (by decide) rfl (by decide) ?_
            refine r_aload_n (pc := 72) (j := 1) C dX1_valueFor_72 rfl rfl ?_
            refine r_getR (j := 2) (r := (p + 3)) C cl_X1 (gFm_k hp).1 (gFm_k hp).2.1 (by decide) rfl (hp.2.2 (0, 2, 3) (by decide)) (by omega) q_192 dX1_valueFor_73 ?_
            refine r_iload_n (pc := 76) (j := 2) C dX1_valueFor_76 rfl rfl ?_
            refine r_bj ?_
            refine r_jn (fun q937 e938 => ?_)
            refine r_cV0 (pc := 77) (k := (p + 3)) (As := [.int (zi a1)]) (st := []) C (m_X6_add (p := (p + 3)) (a1 := a1) (gFm_w hp (i := 1) (by decide)) ha1 e938) cal_X6_add cl_X6 (gRw_k (gFm_w hp (i := 1) (by decide))).1 (gRw_k (gFm_w hp (i := 1) (by decide))).2.1 q_217 dX1_valueFor_77 rfl rfl (Nat.le_of_ble_eq_true rfl) (Nat.le_of_ble_eq_true rfl) (Nat.le_of_ble_eq_true rfl) (Nat.le_of_ble_eq_true rfl) (Nat.le_of_ble_eq_true rfl) (fun h936 => ?_)
            refine r_goto (tgt := 160) C dX1_valueFor_80 (by decide) ?_
            refine r_L (L' := [(0, .ref (zad E p)), (1, .int (zi a1)), (2, .int (zi a2)), (3, .int (zi a3)), (4, .int (zi a4)), (5, .int (zi a5)), (6, .int (zi s908.1))]) [1, 2, 3, 4, 5, 6, 7] rfl ?_
            exact k922 q937 trivial
          · refine r_bf c935 ?_
            by_cases c939 : (v917 = 110)
            · refine r_bt c939 ?_
              refine r_tswIn (kx := 110) (tgt := 83) C h918 dX1_valueFor_35 c939 (by decide) (by decide) rfl (by decide) ?_
              refine r_aload_n (pc := 83) (j := 1) C dX1_valueFor_83 rfl rfl ?_
              refine r_getR (j := 2) (r := (p + 3)) C cl_X1 (gFm_k hp).1 (gFm_k hp).2.1 (by decide) rfl (hp.2.2 (0, 2, 3) (by decide)) (by omega) q_192 dX1_valueFor_84 ?_
              refine r_iload_n (pc := 87) (j := 3) C dX1_valueFor_87 rfl rfl ?_
              refine r_bj ?_
              refine r_jn (fun q941 e942 => ?_)
              refine r_cV0 (pc := 88) (k := (p + 3)) (As := [.int (zi a2)]) (st := []) C (m_X6_add (p := (p + 3)) (a1 := a2) (gFm_w hp (i := 1) (by decide)) ha2 e942) cal_X6_add cl_X6 (gRw_k (gFm_w hp (i := 1) (by decide))).1 (gRw_k (gFm_w hp (i := 1) (by decide))).2.1 q_217 dX1_valueFor_88 rfl rfl (Nat.le_of_ble_eq_true rfl) (Nat.le_of_ble_eq_true rfl) (Nat.le_of_ble_eq_true rfl) (Nat.le_of_ble_eq_true rfl) (Nat.le_of_ble_eq_true rfl) (fun h940 => ?_)
              refine r_goto (tgt := 160) C dX1_valueFor_91 (by decide) ?_
              refine r_L (L' := [(0, .ref (zad E p)), (1, .int (zi a1)), (2, .int (zi a2)), (3, .int (zi a3)), (4, .int (zi a4)), (5, .int (zi a5)), (6, .int (zi s908.1))]) [1, 2, 3, 4, 5, 6, 7] rfl ?_
              exact k922 q941 trivial
            · refine r_bf c939 ?_
              by_cases c943 : (v917 = 111)
              · refine r_bt c943 ?_
                refine r_tswIn (kx := 111) (tgt := 94) C h918 dX1_valueFor_35 c943 (by decide) (by decide) rfl (by decide) ?_
                refine r_aload_n (pc := 94) (j := 1) C dX1_valueFor_94 rfl rfl ?_
                refine r_getR (j := 2) (r := (p + 3)) C cl_X1 (gFm_k hp).1 (gFm_k hp).2.1 (by decide) rfl (hp.2.2 (0, 2, 3) (by decide)) (by omega) q_192 dX1_valueFor_95 ?_
                refine r_iload_n (pc := 98) (j := 4) C dX1_valueFor_98 rfl rfl ?_
                refine r_bj ?_
                refine r_jn (fun q945 e946 => ?_)
                refine r_cV0 (pc := 99) (k := (p + 3)) (As := [.int (zi a3)]) (st := []) C (m_X6_add (p := (p + 3)) (a1 := a3) (gFm_w hp (i := 1) (by decide)) ha3 e946) cal_X6_add cl_X6 (gRw_k (gFm_w hp (i := 1) (by decide))).1 (gRw_k (gFm_w hp (i := 1) (by decide))).2.1 q_217 dX1_valueFor_99 rfl rfl (Nat.le_of_ble_eq_true rfl) (Nat.le_of_ble_eq_true rfl) (Nat.le_of_ble_eq_true rfl) (Nat.le_of_ble_eq_true rfl) (Nat.le_of_ble_eq_true rfl) (fun h944 => ?_)
                refine r_goto (tgt := 160) C dX1_valueFor_102 (by decide) ?_
                refine r_L (L' := [(0, .ref (zad E p)), (1, .int (zi a1)), (2, .int (zi a2)), (3, .int (zi a3)), (4, .int (zi a4)), (5, .int (zi a5)), (6, .int (zi s908.1))]) [1, 2, 3, 4, 5, 6, 7] rfl ?_
                exact k922 q945 trivial
              · refine r_bf c943 ?_
                by_cases c947 : (v917 = 112)
                · refine r_bt c947 ?_
                  refine r_tswIn (kx := 112) (tgt := 105) C h918 dX1_valueFor_35 c947 (by decide) (by decide) rfl (by decide) ?_
                  refine r_aload_n (pc := 105) (j := 1) C dX1_valueFor_105 rfl rfl ?_
                  refine r_getR (j := 2) (r := (p + 3)) C cl_X1 (gFm_k hp).1 (gFm_k hp).2.1 (by decide) rfl (hp.2.2 (0, 2, 3) (by decide)) (by omega) q_192 dX1_valueFor_106 ?_
                  refine r_iload (pc := 109) (j := 5) C dX1_valueFor_109 rfl ?_
                  refine r_bj ?_
                  refine r_jn (fun q949 e950 => ?_)
                  refine r_cV0 (pc := 111) (k := (p + 3)) (As := [.int (zi a4)]) (st := []) C (m_X6_add (p := (p + 3)) (a1 := a4) (gFm_w hp (i := 1) (by decide)) ha4 e950) cal_X6_add cl_X6 (gRw_k (gFm_w hp (i := 1) (by decide))).1 (gRw_k (gFm_w hp (i := 1) (by decide))).2.1 q_217 dX1_valueFor_111 rfl rfl (Nat.le_of_ble_eq_true rfl) (Nat.le_of_ble_eq_true rfl) (Nat.le_of_ble_eq_true rfl) (Nat.le_of_ble_eq_true rfl) (Nat.le_of_ble_eq_true rfl) (fun h948 => ?_)
                  refine r_goto (tgt := 160) C dX1_valueFor_114 (by decide) ?_
                  refine r_L (L' := [(0, .ref (zad E p)), (1, .int (zi a1)), (2, .int (zi a2)), (3, .int (zi a3)), (4, .int (zi a4)), (5, .int (zi a5)), (6, .int (zi s908.1))]) [1, 2, 3, 4, 5, 6, 7] rfl ?_
                  exact k922 q949 trivial
                · refine r_bf c947 ?_
                  by_cases c951 : (v917 = 113)
                  · refine r_bt c951 ?_
                    refine r_tswIn (kx := 113) (tgt := 117) C h918 dX1_valueFor_35 c951 (by decide) (by decide) rfl (by decide) ?_
                    refine r_aload_n (pc := 117) (j := 1) C dX1_valueFor_117 rfl rfl ?_
                    refine r_getR (j := 2) (r := (p + 3)) C cl_X1 (gFm_k hp).1 (gFm_k hp).2.1 (by decide) rfl (hp.2.2 (0, 2, 3) (by decide)) (by omega) q_192 dX1_valueFor_118 ?_
                    refine r_iload (pc := 121) (j := 6) C dX1_valueFor_121 rfl ?_
                    refine r_bj ?_
                    refine r_jn (fun q953 e954 => ?_)
                    refine r_cV0 (pc := 123) (k := (p + 3)) (As := [.int (zi a5)]) (st := []) C (m_X6_add (p := (p + 3)) (a1 := a5) (gFm_w hp (i := 1) (by decide)) ha5 e954) cal_X6_add cl_X6 (gRw_k (gFm_w hp (i := 1) (by decide))).1 (gRw_k (gFm_w hp (i := 1) (by decide))).2.1 q_217 dX1_valueFor_123 rfl rfl (Nat.le_of_ble_eq_true rfl) (Nat.le_of_ble_eq_true rfl) (Nat.le_of_ble_eq_true rfl) (Nat.le_of_ble_eq_true rfl) (Nat.le_of_ble_eq_true rfl) (fun h952 => ?_)
                    refine r_goto (tgt := 160) C dX1_valueFor_126 (by decide) ?_
                    refine r_L (L' := [(0, .ref (zad E p)), (1, .int (zi a1)), (2, .int (zi a2)), (3, .int (zi a3)), (4, .int (zi a4)), (5, .int (zi a5)), (6, .int (zi s908.1))]) [1, 2, 3, 4, 5, 6, 7] rfl ?_
                    exact k922 q953 trivial
                  · refine r_bf c951 ?_
                    refine r_tswOut (tgt := 154) C h918 dX1_valueFor_35 (by omega) (by decide) ?_
                    refine r_aload_n (pc := 154) (j := 1) C dX1_valueFor_154 rfl rfl ?_
                    refine r_iload (pc := 155) (j := 0) C dX1_valueFor_155 rfl ?_
                    refine r_bb ?_
                    refine r_bd (fun q956 e957 => ?_)
                    refine r_cV0 (pc := 157) (k := p) (As := [.int (zi v917)]) (st := []) C (m_X1_doStep (p := p) (a1 := v917) hp h918 e957) cal_X1_doStep cl_X1 (gFm_k hp).1 (gFm_k hp).2.1 q_977 dX1_valueFor_157 rfl rfl (Nat.le_of_ble_eq_true rfl) (Nat.le_of_ble_eq_true rfl) (Nat.le_of_ble_eq_true rfl) (Nat.le_of_ble_eq_true rfl) (Nat.le_of_ble_eq_true rfl) (fun h955 => ?_)
                    refine r_L (L' := [(0, .ref (zad E p)), (1, .int (zi a1)), (2, .int (zi a2)), (3, .int (zi a3)), (4, .int (zi a4)), (5, .int (zi a5)), (6, .int (zi s908.1))]) [1, 2, 3, 4, 5, 6, 7] rfl ?_
                    exact k922 q956 trivial
