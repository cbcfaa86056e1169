/-! m_plan: the methods as functions, and their walks (written by program) -/
def f_X4_clear (p : Nat) (S : Sst) : Sst :=
  jn (f_X6_clear (p + 1) S) fun (q48 : Sst) =>
  jn (f_X6_clear (p + 3) q48) fun (q51 : Sst) =>
  jn (f_X6_clear (p + 5) q51) fun (q54 : Sst) =>
  jn (f_X6_clear (p + 7) q54) fun (q57 : Sst) =>
  jn (f_X6_clear (p + 9) q57) fun (q60 : Sst) =>
  jn (f_X6_clear (p + 11) q60) fun (q63 : Sst) =>
  jn (f_X6_clear (p + 13) q63) fun (q66 : Sst) =>
  jn (f_X6_clear (p + 15) q66) fun (q69 : Sst) =>
  jn (f_X6_clear (p + 17) q69) fun (q72 : Sst) =>
  jn (f_X1_clear (p + 19) q72) fun (q75 : Sst) =>
  jn (f_X1_add (p + 19) 113 q75) fun (q78 : Sst) =>
  jn (upS q78 p 10 0) fun (S80 : Sst) =>
  jn (upS S80 p 11 3) fun (S81 : Sst) =>
  jn (upS S81 p 12 0) fun (S82 : Sst) =>
  S82
set_option maxRecDepth 100000 in
set_option maxHeartbeats 4000000 in
theorem m_X4_clear {l : Launch} {E : EwT} {n : Nat} {R : Srf} {S : Sst} {O : Smo} {p : Nat} (hp : gPl n R p) {q : Sst} (hq : f_X4_clear p S = q) : MetG l E yX4_clear cX4_clear 1 none 2 42 0 0 n R S O [.ref (zad E p)] (True) none n R q O := by
  refine ofG (L0 := [(0, .ref (zad E p))]) hq (by decide +kernel) (Nat.le_of_ble_eq_true rfl) rfl (fun K _ C hQ => ?_)
  unfold f_X4_clear
  refine r_aload_n (pc := 0) (j := 0) C dX4_clear_0 rfl rfl ?_
  refine r_getR (j := 0) (r := (p + 1)) C cl_X4 (gPl_k hp).1 (gPl_k hp).2.1 (by decide) rfl (hp.2.2 (0, 0, 1) (by decide)) (by omega) q_221 dX4_clear_1 ?_
  refine r_jn (fun q48 e49 => ?_)
  refine r_cV0 (pc := 4) (k := (p + 1)) (As := []) (st := []) C (m_X6_clear (p := (p + 1)) (gPl_w hp (i := 0) (by decide)) e49) cal_X6_clear cl_X6 (gRw_k (gPl_w hp (i := 0) (by decide))).1 (gRw_k (gPl_w hp (i := 0) (by decide))).2.1 q_204 dX4_clear_4 rfl rfl (Nat.le_of_ble_eq_true rfl) (Nat.le_of_ble_eq_true rfl) (Nat.le_of_ble_eq_true rfl) (Nat.le_of_ble_eq_true rfl) (Nat.le_of_ble_eq_true rfl) (fun h47 => ?_)
  refine r_aload_n (pc := 7) (j := 0) C dX4_clear_7 rfl rfl ?_
  refine r_getR (j := 1) (r := (p + 3)) C cl_X4 (gPl_k hp).1 (gPl_k hp).2.1 (by decide) rfl (hp.2.2 (0, 1, 3) (by decide)) (by omega) q_223 dX4_clear_8 ?_
  refine r_jn (fun q51 e52 => ?_)
  refine r_cV0 (pc := 11) (k := (p + 3)) (As := []) (st := []) C (m_X6_clear (p := (p + 3)) (gPl_w hp (i := 1) (by decide)) e52) cal_X6_clear cl_X6 (gRw_k (gPl_w hp (i := 1) (by decide))).1 (gRw_k (gPl_w hp (i := 1) (by decide))).2.1 q_204 dX4_clear_11 rfl rfl (Nat.le_of_ble_eq_true rfl) (Nat.le_of_ble_eq_true rfl) (Nat.le_of_ble_eq_true rfl) (Nat.le_of_ble_eq_true rfl) (Nat.le_of_ble_eq_true rfl) (fun h50 => ?_)
  refine r_aload_n (pc := 14) (j := 0) C dX4_clear_14 rfl rfl ?_
  refine r_getR (j := 2) (r := (p + 5)) C cl_X4 (gPl_k hp).1 (gPl_k hp).2.1 (by decide) rfl (hp.2.2 (0, 2, 5) (by decide)) (by omega) q_225 dX4_clear_15 ?_
  refine r_jn (fun q54 e55 => ?_)
  refine r_cV0 (pc := 18) (k := (p + 5)) (As := []) (st := []) C (m_X6_clear (p := (p + 5)) (gPl_w hp (i := 2) (by decide)) e55) cal_X6_clear cl_X6 (gRw_k (gPl_w hp (i := 2) (by decide))).1 (gRw_k (gPl_w hp (i := 2) (by decide))).2.1 q_204 dX4_clear_18 rfl rfl (Nat.le_of_ble_eq_true rfl) (Nat.le_of_ble_eq_true rfl) (Nat.le_of_ble_eq_true rfl) (Nat.le_of_ble_eq_true rfl) (Nat.le_of_ble_eq_true rfl) (fun h53 => ?_)
  refine r_aload_n (pc := 21) (j := 0) C dX4_clear_21 rfl rfl ?_
  refine r_getR (j := 3) (r := (p + 7)) C cl_X4 (gPl_k hp).1 (gPl_k hp).2.1 (by decide) rfl (hp.2.2 (0, 3, 7) (by decide)) (by omega) q_227 dX4_clear_22 ?_
  refine r_jn (fun q57 e58 => ?_)
  refine r_cV0 (pc := 25) (k := (p + 7)) (As := []) (st := []) C (m_X6_clear (p := (p + 7)) (gPl_w hp (i := 3) (by decide)) e58) cal_X6_clear cl_X6 (gRw_k (gPl_w hp (i := 3) (by decide))).1 (gRw_k (gPl_w hp (i := 3) (by decide))).2.1 q_204 dX4_clear_25 rfl rfl (Nat.le_of_ble_eq_true rfl) (Nat.le_of_ble_eq_true rfl) (Nat.le_of_ble_eq_true rfl) (Nat.le_of_ble_eq_true rfl) (Nat.le_of_ble_eq_true rfl) (fun h56 => ?_)
  refine r_aload_n (pc := 28) (j := 0) C dX4_clear_28 rfl rfl ?_
  refine r_getR (j := 4) (r := (p + 9)) C cl_X4 (gPl_k hp).1 (gPl_k hp).2.1 (by decide) rfl (hp.2.2 (0, 4, 9) (by decide)) (by omega) q_229 dX4_clear_29 ?_
  refine r_jn (fun q60 e61 => ?_)
  refine r_cV0 (pc := 32) (k := (p + 9)) (As := []) (st := []) C (m_X6_clear (p := (p + 9)) (gPl_w hp (i := 4) (by decide)) e61) cal_X6_clear cl_X6 (gRw_k (gPl_w hp (i := 4) (by decide))).1 (gRw_k (gPl_w hp (i := 4) (by decide))).2.1 q_204 dX4_clear_32 rfl rfl (Nat.le_of_ble_eq_true rfl) (Nat.le_of_ble_eq_true rfl) (Nat.le_of_ble_eq_true rfl) (Nat.le_of_ble_eq_true rfl) (Nat.le_of_ble_eq_true rfl) (fun h59 => ?_)
  refine r_aload_n (pc := 35) (j := 0) C dX4_clear_35 rfl rfl ?_
  refine r_getR (j := 5) (r := (p + 11)) C cl_X4 (gPl_k hp).1 (gPl_k hp).2.1 (by decide) rfl (hp.2.2 (0, 5, 11) (by decide)) (by omega) q_231 dX4_clear_36 ?_
  refine r_jn (fun q63 e64 => ?_)
  refine r_cV0 (pc := 39) (k := (p + 11)) (As := []) (st := []) C (m_X6_clear (p := (p + 11)) (gPl_w hp (i := 5) (by decide)) e64) cal_X6_clear cl_X6 (gRw_k (gPl_w hp (i := 5) (by decide))).1 (gRw_k (gPl_w hp (i := 5) (by decide))).2.1 q_204 dX4_clear_39 rfl rfl (Nat.le_of_ble_eq_true rfl) (Nat.le_of_ble_eq_true rfl) (Nat.le_of_ble_eq_true rfl) (Nat.le_of_ble_eq_true rfl) (Nat.le_of_ble_eq_true rfl) (fun h62 => ?_)
  refine r_aload_n (pc := 42) (j := 0) C dX4_clear_42 rfl rfl ?_
  refine r_getR (j := 6) (r := (p + 13)) C cl_X4 (gPl_k hp).1 (gPl_k hp).2.1 (by decide) rfl (hp.2.2 (0, 6, 13) (by decide)) (by omega) q_232 dX4_clear_43 ?_
  refine r_jn (fun q66 e67 => ?_)
  refine r_cV0 (pc := 46) (k := (p + 13)) (As := []) (st := []) C (m_X6_clear (p := (p + 13)) (gPl_w hp (i := 6) (by decide)) e67) cal_X6_clear cl_X6 (gRw_k (gPl_w hp (i := 6) (by decide))).1 (gRw_k (gPl_w hp (i := 6) (by decide))).2.1 q_204 dX4_clear_46 rfl rfl (Nat.le_of_ble_eq_true rfl) (Nat.le_of_ble_eq_true rfl) (Nat.le_of_ble_eq_true rfl) (Nat.le_of_ble_eq_true rfl) (Nat.le_of_ble_eq_true rfl) (fun h65 => ?_)
  refine r_aload_n (pc := 49) (j := 0) C dX4_clear_49 rfl rfl ?_
  refine r_getR (j := 7) (r := (p + 15)) C cl_X4 (gPl_k hp).1 (gPl_k hp).2.1 (by decide) rfl (hp.2.2 (0, 7, 15) (by decide)) (by omega) q_234 dX4_clear_50 ?_
  refine r_jn (fun q69 e70 => ?_)
  refine r_cV0 (pc := 53) (k := (p + 15)) (As := []) (st := []) C (m_X6_clear (p := (p + 15)) (gPl_w hp (i := 7) (by decide)) e70) cal_X6_clear cl_X6 (gRw_k (gPl_w hp (i := 7) (by decide))).1 (gRw_k (gPl_w hp (i := 7) (by decide))).2.1 q_204 dX4_clear_53 rfl rfl (Nat.le_of_ble_eq_true rfl) (Nat.le_of_ble_eq_true rfl) (Nat.le_of_ble_eq_true rfl) (Nat.le_of_ble_eq_true rfl) (Nat.le_of_ble_eq_true rfl) (fun h68 => ?_)
  refine r_aload_n (pc := 56) (j := 0) C dX4_clear_56 rfl rfl ?_
  refine r_getR (j := 8) (r := (p + 17)) C cl_X4 (gPl_k hp).1 (gPl_k hp).2.1 (by decide) rfl (hp.2.2 (0, 8, 17) (by decide)) (by omega) q_237 dX4_clear_57 ?_
  refine r_jn (fun q72 e73 => ?_)
  refine r_cV0 (pc := 60) (k := (p + 17)) (As := []) (st := []) C (m_X6_clear (p := (p + 17)) (gPl_w hp (i := 8) (by decide)) e73) cal_X6_clear cl_X6 (gRw_k (gPl_w hp (i := 8) (by decide))).1 (gRw_k (gPl_w hp (i := 8) (by decide))).2.1 q_204 dX4_clear_60 rfl rfl (Nat.le_of_ble_eq_true rfl) (Nat.le_of_ble_eq_true rfl) (Nat.le_of_ble_eq_true rfl) (Nat.le_of_ble_eq_true rfl) (Nat.le_of_ble_eq_true rfl) (fun h71 => ?_)
  refine r_aload_n (pc := 63) (j := 0) C dX4_clear_63 rfl rfl ?_
  refine r_getR (j := 9) (r := (p + 19)) C cl_X4 (gPl_k hp).1 (gPl_k hp).2.1 (by decide) rfl (hp.2.2 (0, 9, 19) (by decide)) (by omega) q_241 dX4_clear_64 ?_
  refine r_jn (fun q75 e76 => ?_)
  refine r_cV0 (pc := 67) (k := (p + 19)) (As := []) (st := []) C (m_X1_clear (p := (p + 19)) (gPl_f hp) e76) cal_X1_clear cl_X1 (gFm_k (gPl_f hp)).1 (gFm_k (gPl_f hp)).2.1 q_208 dX4_clear_67 rfl rfl (Nat.le_of_ble_eq_true rfl) (Nat.le_of_ble_eq_true rfl) (Nat.le_of_ble_eq_true rfl) (Nat.le_of_ble_eq_true rfl) (Nat.le_of_ble_eq_true rfl) (fun h74 => ?_)
  refine r_aload_n (pc := 70) (j := 0) C dX4_clear_70 rfl rfl ?_
  refine r_getR (j := 9) (r := (p + 19)) C cl_X4 (gPl_k hp).1 (gPl_k hp).2.1 (by decide) rfl (hp.2.2 (0, 9, 19) (by decide)) (by omega) q_241 dX4_clear_71 ?_
  refine r_bipush (v := 113) C dX4_clear_74 (by decide) ?_
  refine r_jn (fun q78 e79 => ?_)
  refine r_cV0 (pc := 76) (k := (p + 19)) (As := [.int (zi 113)]) (st := []) C (m_X1_add (p := (p + 19)) (a1 := 113) (gPl_f hp) (IRd rfl) e79) cal_X1_add cl_X1 (gFm_k (gPl_f hp)).1 (gFm_k (gPl_f hp)).2.1 q_213 dX4_clear_76 rfl rfl (Nat.le_of_ble_eq_true rfl) (Nat.le_of_ble_eq_true rfl) (Nat.le_of_ble_eq_true rfl) (Nat.le_of_ble_eq_true rfl) (Nat.le_of_ble_eq_true rfl) (fun h77 => ?_)
  refine r_aload_n (pc := 79) (j := 0) C dX4_clear_79 rfl rfl ?_
  refine r_iconst (v := 0) C dX4_clear_80 (by decide) ?_
  refine r_putS C cl_X4 (gPl_k hp).1 (gPl_k hp).2.1 (gPl_k hp).2.2 (by decide) (by decide) rfl rfl rfl (IRd rfl) q_243 dX4_clear_81 (fun S80 => ?_)
  refine r_aload_n (pc := 84) (j := 0) C dX4_clear_84 rfl rfl ?_
  refine r_iconst (v := 3) C dX4_clear_85 (by decide) ?_
  refine r_putS C cl_X4 (gPl_k hp).1 (gPl_k hp).2.1 (gPl_k hp).2.2 (by decide) (by decide) rfl rfl rfl (IRd rfl) q_245 dX4_clear_86 (fun S81 => ?_)
  refine r_aload_n (pc := 89) (j := 0) C dX4_clear_89 rfl rfl ?_
  refine r_iconst (v := 0) C dX4_clear_90 (by decide) ?_
  refine r_putS C cl_X4 (gPl_k hp).1 (gPl_k hp).2.1 (gPl_k hp).2.2 (by decide) (by decide) rfl rfl rfl (IRd rfl) q_249 dX4_clear_91 (fun S82 => ?_)
  exact r_return C hQ dX4_clear_94 (fun e => by subst e; exact ⟨trivial, rfl, rfl, rfl, rfl, rfl⟩)

def f_X4_count (p : Nat) (S : Sst) : Int :=
  f_X6_size (p + 1) S
set_option maxRecDepth 100000 in
set_option maxHeartbeats 4000000 in
theorem m_X4_count {l : Launch} {E : EwT} {S : Sst} {O : Smo} {p : Nat} (hp : gPl n0 R0 p) {q : Int} (hq : f_X4_count p S = q) : MetG l E yX4_count cX4_count 1 (some .int) 1 20 0 0 n0 R0 S O [.ref (zad E p)] (IR q) (some (.int (zi q))) n0 R0 S O := by
  refine ofG (L0 := [(0, .ref (zad E p))]) hq (by decide +kernel) (Nat.le_of_ble_eq_true rfl) rfl (fun K _ C hQ => ?_)
  unfold f_X4_count
  refine r_aload_n (pc := 0) (j := 0) C dX4_count_0 rfl rfl ?_
  refine r_getR (j := 0) (r := (p + 1)) C cl_X4 (gPl_k hp).1 (gPl_k hp).2.1 (by decide) rfl (hp.2.2 (0, 0, 1) (by decide)) (by omega) q_221 dX4_count_1 ?_
  refine r_cV1 (pc := 4) (k := (p + 1)) (As := []) (st := []) C (m_X6_size (p := (p + 1)) (gPl_w hp (i := 0) (by decide)) rfl) cal_X6_size cl_X6 (gRw_k (gPl_w hp (i := 0) (by decide))).1 (gRw_k (gPl_w hp (i := 0) (by decide))).2.1 q_856 dX4_count_4 rfl rfl (Nat.le_of_ble_eq_true rfl) (Nat.le_of_ble_eq_true rfl) (Nat.le_of_ble_eq_true rfl) (Nat.le_of_ble_eq_true rfl) (Nat.le_of_ble_eq_true rfl) (fun h280 => ?_)
  exact r_ireturn C hQ rfl dX4_count_7 (fun e => by subst e; exact ⟨h280, rfl, rfl, rfl, rfl, rfl⟩)

def f_X4_addSegment (p : Nat) (a1 : Int) (a2 : Int) (a3 : Int) (a4 : Int) (S : Sst) : Sst :=
  jn (f_X6_add (p + 1) a1 S) fun (q362 : Sst) =>
  jn (f_X6_add (p + 3) a2 q362) fun (q365 : Sst) =>
  jn (f_X6_add (p + 5) a3 q365) fun (q368 : Sst) =>
  jn (f_X6_add (p + 7) a4 q368) fun (q371 : Sst) =>
  jn (f_X6_add (p + 9) (wr (a3 - a1)) q371) fun (q374 : Sst) =>
  jn (f_X6_add (p + 11) (wr (a4 - a2)) q374) fun (q377 : Sst) =>
  q377
set_option maxRecDepth 100000 in
set_option maxHeartbeats 4000000 in
theorem m_X4_addSegment {l : Launch} {E : EwT} {S : Sst} {O : Smo} {p : Nat} (hp : gPl n0 R0 p) {a1 : Int} (ha1 : IR a1) {a2 : Int} (ha2 : IR a2) {a3 : Int} (ha3 : IR a3) {a4 : Int} (ha4 : IR a4) {q : Sst} (hq : f_X4_addSegment p a1 a2 a3 a4 S = q) : MetG l E yX4_addSegment cX4_addSegment 5 none 1 21 0 0 n0 R0 S O [.ref (zad E p), .int (zi a1), .int (zi a2), .int (zi a3), .int (zi a4)] (True) none n0 R0 q O := by
  refine ofG (L0 := [(0, .ref (zad E p)), (1, .int (zi a1)), (2, .int (zi a2)), (3, .int (zi a3)), (4, .int (zi a4))]) hq (by decide +kernel) (Nat.le_of_ble_eq_true rfl) rfl (fun K _ C hQ => ?_)
  unfold f_X4_addSegment
  refine r_aload_n (pc := 0) (j := 0) C dX4_addSegment_0 rfl rfl ?_
  refine r_getR (j := 0) (r := (p + 1)) C cl_X4 (gPl_k hp).1 (gPl_k hp).2.1 (by decide) rfl (hp.2.2 (0, 0, 1) (by decide)) (by omega) q_221 dX4_addSegment_1 ?_
  refine r_iload_n (pc := 4) (j := 1) C dX4_addSegment_4 rfl rfl ?_
  refine r_jn (fun q362 e363 => ?_)
  refine r_cV0 (pc := 5) (k := (p + 1)) (As := [.int (zi a1)]) (st := []) C (m_X6_add (p := (p + 1)) (a1 := a1) (gPl_w hp (i := 0) (by decide)) ha1 e363) cal_X6_add cl_X6 (gRw_k (gPl_w hp (i := 0) (by decide))).1 (gRw_k (gPl_w hp (i := 0) (by decide))).2.1 q_890 dX4_addSegment_5 rfl rfl (Nat.le_of_ble_eq_true rfl) (Nat.le_of_ble_eq_true rfl) (Nat.le_of_ble_eq_true rfl) (Nat.le_of_ble_eq_true rfl) (Nat.le_of_ble_eq_true rfl) (fun h361 => ?_)
  refine r_aload_n (pc := 8) (j := 0) C dX4_addSegment_8 rfl rfl ?_
  refine r_getR (j := 1) (r := (p + 3)) C cl_X4 (gPl_k hp).1 (gPl_k hp).2.1 (by decide) rfl (hp.2.2 (0, 1, 3) (by decide)) (by omega) q_223 dX4_addSegment_9 ?_
  refine r_iload_n (pc := 12) (j := 2) C dX4_addSegment_12 rfl rfl ?_
  refine r_jn (fun q365 e366 => ?_)
  refine r_cV0 (pc := 13) (k := (p + 3)) (As := [.int (zi a2)]) (st := []) C (m_X6_add (p := (p + 3)) (a1 := a2) (gPl_w hp (i := 1) (by decide)) ha2 e366) cal_X6_add cl_X6 (gRw_k (gPl_w hp (i := 1) (by decide))).1 (gRw_k (gPl_w hp (i := 1) (by decide))).2.1 q_890 dX4_addSegment_13 rfl rfl (Nat.le_of_ble_eq_true rfl) (Nat.le_of_ble_eq_true rfl) (Nat.le_of_ble_eq_true rfl) (Nat.le_of_ble_eq_true rfl) (Nat.le_of_ble_eq_true rfl) (fun h364 => ?_)
  refine r_aload_n (pc := 16) (j := 0) C dX4_addSegment_16 rfl rfl ?_
  refine r_getR (j := 2) (r := (p + 5)) C cl_X4 (gPl_k hp).1 (gPl_k hp).2.1 (by decide) rfl (hp.2.2 (0, 2, 5) (by decide)) (by omega) q_225 dX4_addSegment_17 ?_
  refine r_iload_n (pc := 20) (j := 3) C dX4_addSegment_20 rfl rfl ?_
  refine r_jn (fun q368 e369 => ?_)
  refine r_cV0 (pc := 21) (k := (p + 5)) (As := [.int (zi a3)]) (st := []) C (m_X6_add (p := (p + 5)) (a1 := a3) (gPl_w hp (i := 2) (by decide)) ha3 e369) cal_X6_add cl_X6 (gRw_k (gPl_w hp (i := 2) (by decide))).1 (gRw_k (gPl_w hp (i := 2) (by decide))).2.1 q_890 dX4_addSegment_21 rfl rfl (Nat.le_of_ble_eq_true rfl) (Nat.le_of_ble_eq_true rfl) (Nat.le_of_ble_eq_true rfl) (Nat.le_of_ble_eq_true rfl) (Nat.le_of_ble_eq_true rfl) (fun h367 => ?_)
  refine r_aload_n (pc := 24) (j := 0) C dX4_addSegment_24 rfl rfl ?_
  refine r_getR (j := 3) (r := (p + 7)) C cl_X4 (gPl_k hp).1 (gPl_k hp).2.1 (by decide) rfl (hp.2.2 (0, 3, 7) (by decide)) (by omega) q_227 dX4_addSegment_25 ?_
  refine r_iload (pc := 28) (j := 4) C dX4_addSegment_28 rfl ?_
  refine r_jn (fun q371 e372 => ?_)
  refine r_cV0 (pc := 30) (k := (p + 7)) (As := [.int (zi a4)]) (st := []) C (m_X6_add (p := (p + 7)) (a1 := a4) (gPl_w hp (i := 3) (by decide)) ha4 e372) cal_X6_add cl_X6 (gRw_k (gPl_w hp (i := 3) (by decide))).1 (gRw_k (gPl_w hp (i := 3) (by decide))).2.1 q_890 dX4_addSegment_30 rfl rfl (Nat.le_of_ble_eq_true rfl) (Nat.le_of_ble_eq_true rfl) (Nat.le_of_ble_eq_true rfl) (Nat.le_of_ble_eq_true rfl) (Nat.le_of_ble_eq_true rfl) (fun h370 => ?_)
  refine r_aload_n (pc := 33) (j := 0) C dX4_addSegment_33 rfl rfl ?_
  refine r_getR (j := 4) (r := (p + 9)) C cl_X4 (gPl_k hp).1 (gPl_k hp).2.1 (by decide) rfl (hp.2.2 (0, 4, 9) (by decide)) (by omega) q_229 dX4_addSegment_34 ?_
  refine r_iload_n (pc := 37) (j := 3) C dX4_addSegment_37 rfl rfl ?_
  refine r_iload_n (pc := 38) (j := 1) C dX4_addSegment_38 rfl rfl ?_
  refine r_isub C dX4_addSegment_39 ?_
  refine r_jn (fun q374 e375 => ?_)
  refine r_cV0 (pc := 40) (k := (p + 9)) (As := [.int (zi (wr (a3 - a1)))]) (st := []) C (m_X6_add (p := (p + 9)) (a1 := wr (a3 - a1)) (gPl_w hp (i := 4) (by decide)) (IR_wr _) e375) cal_X6_add cl_X6 (gRw_k (gPl_w hp (i := 4) (by decide))).1 (gRw_k (gPl_w hp (i := 4) (by decide))).2.1 q_890 dX4_addSegment_40 rfl rfl (Nat.le_of_ble_eq_true rfl) (Nat.le_of_ble_eq_true rfl) (Nat.le_of_ble_eq_true rfl) (Nat.le_of_ble_eq_true rfl) (Nat.le_of_ble_eq_true rfl) (fun h373 => ?_)
  refine r_aload_n (pc := 43) (j := 0) C dX4_addSegment_43 rfl rfl ?_
  refine r_getR (j := 5) (r := (p + 11)) C cl_X4 (gPl_k hp).1 (gPl_k hp).2.1 (by decide) rfl (hp.2.2 (0, 5, 11) (by decide)) (by omega) q_231 dX4_addSegment_44 ?_
  refine r_iload (pc := 47) (j := 4) C dX4_addSegment_47 rfl ?_
  refine r_iload_n (pc := 49) (j := 2) C dX4_addSegment_49 rfl rfl ?_
  refine r_isub C dX4_addSegment_50 ?_
  refine r_jn (fun q377 e378 => ?_)
  refine r_cV0 (pc := 51) (k := (p + 11)) (As := [.int (zi (wr (a4 - a2)))]) (st := []) C (m_X6_add (p := (p + 11)) (a1 := wr (a4 - a2)) (gPl_w hp (i := 5) (by decide)) (IR_wr _) e378) cal_X6_add cl_X6 (gRw_k (gPl_w hp (i := 5) (by decide))).1 (gRw_k (gPl_w hp (i := 5) (by decide))).2.1 q_890 dX4_addSegment_51 rfl rfl (Nat.le_of_ble_eq_true rfl) (Nat.le_of_ble_eq_true rfl) (Nat.le_of_ble_eq_true rfl) (Nat.le_of_ble_eq_true rfl) (Nat.le_of_ble_eq_true rfl) (fun h376 => ?_)
  exact r_return C hQ dX4_addSegment_54 (fun e => by subst e; exact ⟨trivial, rfl, rfl, rfl, rfl, rfl⟩)

def f_X4_aheadOf (p : Nat) (a1 : Int) (a2 : Int) (a3 : Int) (S : Sst) : Int :=
  jn (wr ((f_X6_at (p + 11) a1 S) * (wr (a2 - (f_X6_at (p + 1) a1 S))))) fun (v382 : Int) =>
  wr ((wr ((wr ((f_X6_at (p + 3) a1 S) - a3)) * (f_X6_at (p + 9) a1 S))) + v382)
set_option maxRecDepth 100000 in
set_option maxHeartbeats 4000000 in
theorem m_X4_aheadOf {l : Launch} {E : EwT} {S : Sst} {O : Smo} {p : Nat} (hp : gPl n0 R0 p) {a1 : Int} (ha1 : IR a1) {a2 : Int} (ha2 : IR a2) {a3 : Int} (ha3 : IR a3) {q : Int} (hq : f_X4_aheadOf p a1 a2 a3 S = q) : MetG l E yX4_aheadOf cX4_aheadOf 5 (some .int) 1 21 0 0 n0 R0 S O [.ref (zad E p), .int (zi a1), .int (zi a2), .int (zi a3)] (IR q) (some (.int (zi q))) n0 R0 S O := by
  refine ofG (L0 := [(0, .ref (zad E p)), (1, .int (zi a1)), (2, .int (zi a2)), (3, .int (zi a3))]) hq (by decide +kernel) (Nat.le_of_ble_eq_true rfl) rfl (fun K _ C hQ => ?_)
  unfold f_X4_aheadOf
  refine r_aload_n (pc := 0) (j := 0) C dX4_aheadOf_0 rfl rfl ?_
  refine r_getR (j := 5) (r := (p + 11)) C cl_X4 (gPl_k hp).1 (gPl_k hp).2.1 (by decide) rfl (hp.2.2 (0, 5, 11) (by decide)) (by omega) q_231 dX4_aheadOf_1 ?_
  refine r_iload_n (pc := 4) (j := 1) C dX4_aheadOf_4 rfl rfl ?_
  refine r_cV1 (pc := 5) (k := (p + 11)) (As := [.int (zi a1)]) (st := []) C (m_X6_at (p := (p + 11)) (a1 := a1) (gPl_w hp (i := 5) (by decide)) ha1 rfl) cal_X6_at cl_X6 (gRw_k (gPl_w hp (i := 5) (by decide))).1 (gRw_k (gPl_w hp (i := 5) (by decide))).2.1 q_900 dX4_aheadOf_5 rfl rfl (Nat.le_of_ble_eq_true rfl) (Nat.le_of_ble_eq_true rfl) (Nat.le_of_ble_eq_true rfl) (Nat.le_of_ble_eq_true rfl) (Nat.le_of_ble_eq_true rfl) (fun h380 => ?_)
  refine r_iload_n (pc := 8) (j := 2) C dX4_aheadOf_8 rfl rfl ?_
  refine r_aload_n (pc := 9) (j := 0) C dX4_aheadOf_9 rfl rfl ?_
  refine r_getR (j := 0) (r := (p + 1)) C cl_X4 (gPl_k hp).1 (gPl_k hp).2.1 (by decide) rfl (hp.2.2 (0, 0, 1) (by decide)) (by omega) q_221 dX4_aheadOf_10 ?_
  refine r_iload_n (pc := 13) (j := 1) C dX4_aheadOf_13 rfl rfl ?_
  refine r_cV1 (pc := 14) (k := (p + 1)) (As := [.int (zi a1)]) (st := [.int (zi a2), .int (zi (f_X6_at (p + 11) a1 S))]) C (m_X6_at (p := (p + 1)) (a1 := a1) (gPl_w hp (i := 0) (by decide)) ha1 rfl) cal_X6_at cl_X6 (gRw_k (gPl_w hp (i := 0) (by decide))).1 (gRw_k (gPl_w hp (i := 0) (by decide))).2.1 q_900 dX4_aheadOf_14 rfl rfl (Nat.le_of_ble_eq_true rfl) (Nat.le_of_ble_eq_true rfl) (Nat.le_of_ble_eq_true rfl) (Nat.le_of_ble_eq_true rfl) (Nat.le_of_ble_eq_true rfl) (fun h381 => ?_)
  refine r_isub C dX4_aheadOf_17 ?_
  refine r_imul C dX4_aheadOf_18 ?_
  refine r_jv (IR_wr _) (fun v382 h383 => ?_)
  refine r_istore (L' := [(4, .int (zi v382)), (0, .ref (zad E p)), (1, .int (zi a1)), (2, .int (zi a2)), (3, .int (zi a3))]) C dX4_aheadOf_19 (by decide) rfl ?_
  refine r_aload_n (pc := 21) (j := 1) C dX4_aheadOf_21 rfl rfl ?_
  refine r_getR (j := 1) (r := (p + 3)) C cl_X4 (gPl_k hp).1 (gPl_k hp).2.1 (by decide) rfl (hp.2.2 (0, 1, 3) (by decide)) (by omega) q_223 dX4_aheadOf_22 ?_
  refine r_iload_n (pc := 25) (j := 2) C dX4_aheadOf_25 rfl rfl ?_
  refine r_cV1 (pc := 26) (k := (p + 3)) (As := [.int (zi a1)]) (st := []) C (m_X6_at (p := (p + 3)) (a1 := a1) (gPl_w hp (i := 1) (by decide)) ha1 rfl) cal_X6_at cl_X6 (gRw_k (gPl_w hp (i := 1) (by decide))).1 (gRw_k (gPl_w hp (i := 1) (by decide))).2.1 q_900 dX4_aheadOf_26 rfl rfl (Nat.le_of_ble_eq_true rfl) (Nat.le_of_ble_eq_true rfl) (Nat.le_of_ble_eq_true rfl) (Nat.le_of_ble_eq_true rfl) (Nat.le_of_ble_eq_true rfl) (fun h384 => ?_)
  refine r_iload_n (pc := 29) (j := 4) C dX4_aheadOf_29 rfl rfl ?_
  refine r_isub C dX4_aheadOf_30 ?_
  refine r_aload_n (pc := 31) (j := 1) C dX4_aheadOf_31 rfl rfl ?_
  refine r_getR (j := 4) (r := (p + 9)) C cl_X4 (gPl_k hp).1 (gPl_k hp).2.1 (by decide) rfl (hp.2.2 (0, 4, 9) (by decide)) (by omega) q_229 dX4_aheadOf_32 ?_
  refine r_iload_n (pc := 35) (j := 2) C dX4_aheadOf_35 rfl rfl ?_
  refine r_cV1 (pc := 36) (k := (p + 9)) (As := [.int (zi a1)]) (st := [.int (zi (wr ((f_X6_at (p + 3) a1 S) - a3)))]) C (m_X6_at (p := (p + 9)) (a1 := a1) (gPl_w hp (i := 4) (by decide)) ha1 rfl) cal_X6_at cl_X6 (gRw_k (gPl_w hp (i := 4) (by decide))).1 (gRw_k (gPl_w hp (i := 4) (by decide))).2.1 q_900 dX4_aheadOf_36 rfl rfl (Nat.le_of_ble_eq_true rfl) (Nat.le_of_ble_eq_true rfl) (Nat.le_of_ble_eq_true rfl) (Nat.le_of_ble_eq_true rfl) (Nat.le_of_ble_eq_true rfl) (fun h385 => ?_)
  refine r_imul C dX4_aheadOf_39 ?_
  refine r_iload (pc := 40) (j := 0) C dX4_aheadOf_40 rfl ?_
  refine r_iadd C dX4_aheadOf_42 ?_
  exact r_ireturn C hQ rfl dX4_aheadOf_43 (fun e => by subst e; exact ⟨(IR_wr _), rfl, rfl, rfl, rfl, rfl⟩)

def f_X4_comparedAt (p : Nat) (a1 : Int) (a2 : Int) (a3 : Int) (S : Sst) : Int :=
  jn (wr ((f_X4_aheadOf p a1 a3 0 S) * (f_X6_at (p + 9) a2 S))) fun (v390 : Int) =>
  jn (wr ((f_X4_aheadOf p a2 a3 0 S) * (f_X6_at (p + 9) a1 S))) fun (v394 : Int) =>
  f_J6_compare_7cf53 v390 v394
set_option maxRecDepth 100000 in
set_option maxHeartbeats 4000000 in
theorem m_X4_comparedAt {l : Launch} {E : EwT} {S : Sst} {O : Smo} {p : Nat} (hp : gPl n0 R0 p) {a1 : Int} (ha1 : IR a1) {a2 : Int} (ha2 : IR a2) {a3 : Int} (ha3 : IR a3) {q : Int} (hq : f_X4_comparedAt p a1 a2 a3 S = q) : MetG l E yX4_comparedAt cX4_comparedAt 6 (some .int) 2 45 0 0 n0 R0 S O [.ref (zad E p), .int (zi a1), .int (zi a2), .int (zi a3)] (IR q) (some (.int (zi q))) n0 R0 S O := by
  refine ofG (L0 := [(0, .ref (zad E p)), (1, .int (zi a1)), (2, .int (zi a2)), (3, .int (zi a3))]) hq (by decide +kernel) (Nat.le_of_ble_eq_true rfl) rfl (fun K _ C hQ => ?_)
  unfold f_X4_comparedAt
  refine r_aload_n (pc := 0) (j := 0) C dX4_comparedAt_0 rfl rfl ?_
  refine r_iload_n (pc := 1) (j := 1) C dX4_comparedAt_1 rfl rfl ?_
  refine r_iload_n (pc := 2) (j := 3) C dX4_comparedAt_2 rfl rfl ?_
  refine r_iconst (v := 0) C dX4_comparedAt_3 (by decide) ?_
  refine r_cV1 (pc := 4) (k := p) (As := [.int (zi a1), .int (zi a3), .int (zi 0)]) (st := []) C (m_X4_aheadOf (p := p) (a1 := a1) (a2 := a3) (a3 := 0) hp ha1 ha3 (IRd rfl) rfl) cal_X4_aheadOf cl_X4 (gPl_k hp).1 (gPl_k hp).2.1 q_907 dX4_comparedAt_4 rfl rfl (Nat.le_of_ble_eq_true rfl) (Nat.le_of_ble_eq_true rfl) (Nat.le_of_ble_eq_true rfl) (Nat.le_of_ble_eq_true rfl) (Nat.le_of_ble_eq_true rfl) (fun h388 => ?_)
  refine r_aload_n (pc := 7) (j := 0) C dX4_comparedAt_7 rfl rfl ?_
  refine r_getR (j := 4) (r := (p + 9)) C cl_X4 (gPl_k hp).1 (gPl_k hp).2.1 (by decide) rfl (hp.2.2 (0, 4, 9) (by decide)) (by omega) q_229 dX4_comparedAt_8 ?_
  refine r_iload_n (pc := 11) (j := 2) C dX4_comparedAt_11 rfl rfl ?_
  refine r_cV1 (pc := 12) (k := (p + 9)) (As := [.int (zi a2)]) (st := [.int (zi (f_X4_aheadOf p a1 a3 0 S))]) C (m_X6_at (p := (p + 9)) (a1 := a2) (gPl_w hp (i := 4) (by decide)) ha2 rfl) cal_X6_at cl_X6 (gRw_k (gPl_w hp (i := 4) (by decide))).1 (gRw_k (gPl_w hp (i := 4) (by decide))).2.1 q_900 dX4_comparedAt_12 rfl rfl (Nat.le_of_ble_eq_true rfl) (Nat.le_of_ble_eq_true rfl) (Nat.le_of_ble_eq_true rfl) (Nat.le_of_ble_eq_true rfl) (Nat.le_of_ble_eq_true rfl) (fun h389 => ?_)
  refine r_imul C dX4_comparedAt_15 ?_
  refine r_jv (IR_wr _) (fun v390 h391 => ?_)
  refine r_istore (L' := [(4, .int (zi v390)), (0, .ref (zad E p)), (1, .int (zi a1)), (2, .int (zi a2)), (3, .int (zi a3))]) C dX4_comparedAt_16 (by decide) rfl ?_
  refine r_aload_n (pc := 18) (j := 1) C dX4_comparedAt_18 rfl rfl ?_
  refine r_iload_n (pc := 19) (j := 3) C dX4_comparedAt_19 rfl rfl ?_
  refine r_iload_n (pc := 20) (j := 4) C dX4_comparedAt_20 rfl rfl ?_
  refine r_iconst (v := 0) C dX4_comparedAt_21 (by decide) ?_
  refine r_cV1 (pc := 22) (k := p) (As := [.int (zi a2), .int (zi a3), .int (zi 0)]) (st := []) C (m_X4_aheadOf (p := p) (a1 := a2) (a2 := a3) (a3 := 0) hp ha2 ha3 (IRd rfl) rfl) cal_X4_aheadOf cl_X4 (gPl_k hp).1 (gPl_k hp).2.1 q_907 dX4_comparedAt_22 rfl rfl (Nat.le_of_ble_eq_true rfl) (Nat.le_of_ble_eq_true rfl) (Nat.le_of_ble_eq_true rfl) (Nat.le_of_ble_eq_true rfl) (Nat.le_of_ble_eq_true rfl) (fun h392 => ?_)
  refine r_aload_n (pc := 25) (j := 1) C dX4_comparedAt_25 rfl rfl ?_
  refine r_getR (j := 4) (r := (p + 9)) C cl_X4 (gPl_k hp).1 (gPl_k hp).2.1 (by decide) rfl (hp.2.2 (0, 4, 9) (by decide)) (by omega) q_229 dX4_comparedAt_26 ?_
  refine r_iload_n (pc := 29) (j := 2) C dX4_comparedAt_29 rfl rfl ?_
  refine r_cV1 (pc := 30) (k := (p + 9)) (As := [.int (zi a1)]) (st := [.int (zi (f_X4_aheadOf p a2 a3 0 S))]) C (m_X6_at (p := (p + 9)) (a1 := a1) (gPl_w hp (i := 4) (by decide)) ha1 rfl) cal_X6_at cl_X6 (gRw_k (gPl_w hp (i := 4) (by decide))).1 (gRw_k (gPl_w hp (i := 4) (by decide))).2.1 q_900 dX4_comparedAt_30 rfl rfl (Nat.le_of_ble_eq_true rfl) (Nat.le_of_ble_eq_true rfl) (Nat.le_of_ble_eq_true rfl) (Nat.le_of_ble_eq_true rfl) (Nat.le_of_ble_eq_true rfl) (fun h393 => ?_)
  refine r_imul C dX4_comparedAt_33 ?_
  refine r_jv (IR_wr _) (fun v394 h395 => ?_)
  refine r_istore (L' := [(5, .int (zi v394)), (4, .int (zi v390)), (0, .ref (zad E p)), (1, .int (zi a1)), (2, .int (zi a2)), (3, .int (zi a3))]) C dX4_comparedAt_34 (by decide) rfl ?_
  refine r_iload (pc := 36) (j := 1) C dX4_comparedAt_36 rfl ?_
  refine r_iload (pc := 38) (j := 0) C dX4_comparedAt_38 rfl ?_
  refine r_cS1 (pc := 40) (As := [.int (zi v390), .int (zi v394)]) (st := []) C (m_J6_compare_7cf53 (a0 := v390) (a1 := v394) h391 h395 rfl) cal_J6_compare_7cf53 q_911 dX4_comparedAt_40 rfl rfl (Nat.le_of_ble_eq_true rfl) (Nat.le_of_ble_eq_true rfl) (Nat.le_of_ble_eq_true rfl) (Nat.le_of_ble_eq_true rfl) (Nat.le_of_ble_eq_true rfl) (fun h396 => ?_)
  exact r_ireturn C hQ rfl dX4_comparedAt_43 (fun e => by subst e; exact ⟨h396, rfl, rfl, rfl, rfl, rfl⟩)

def f_X4_meet (p : Nat) (a1 : Int) (a2 : Int) (S : Sst) : Int :=
  jn (f_J9_max_7cf53 (f_X6_at (p + 1) a1 S) (f_X6_at (p + 1) a2 S)) fun (v400 : Int) =>
  jn (f_J9_min_7cf53 (f_X6_at (p + 5) a1 S) (f_X6_at (p + 5) a2 S)) fun (v405 : Int) =>
  if v400 < v405 then
    (jn (f_X4_comparedAt p a1 a2 v400 S) fun (v409 : Int) =>
    jn (f_X4_comparedAt p a1 a2 v405 S) fun (v412 : Int) =>
    if v409 = 0 then
      (if (v412 = 0 ∨ ¬ f_X6_at (p + 1) a1 S = f_X6_at (p + 1) a2 S) then
        (1)
      else
        (0))
    else
      (if v412 = 0 then
        (if f_X6_at (p + 5) a1 S = f_X6_at (p + 5) a2 S then
          (0)
        else
          (1))
      else
        (if v409 = v412 then
          (0)
        else
          (1))))
  else
    (0)
set_option maxRecDepth 100000 in
set_option maxHeartbeats 4000000 in
theorem m_X4_meet {l : Launch} {E : EwT} {S : Sst} {O : Smo} {p : Nat} (hp : gPl n0 R0 p) {a1 : Int} (ha1 : IR a1) {a2 : Int} (ha2 : IR a2) {q : Int} (hq : f_X4_meet p a1 a2 S = q) : MetG l E yX4_meet cX4_meet 7 (some .boolean) 3 70 0 0 n0 R0 S O [.ref (zad E p), .int (zi a1), .int (zi a2)] (BR q) (some (.int (zi q))) n0 R0 S O := by
  refine ofG (L0 := [(0, .ref (zad E p)), (1, .int (zi a1)), (2, .int (zi a2))]) hq (by decide +kernel) (Nat.le_of_ble_eq_true rfl) rfl (fun K _ C hQ => ?_)
  unfold f_X4_meet
  refine r_aload_n (pc := 0) (j := 0) C dX4_meet_0 rfl rfl ?_
  refine r_getR (j := 0) (r := (p + 1)) C cl_X4 (gPl_k hp).1 (gPl_k hp).2.1 (by decide) rfl (hp.2.2 (0, 0, 1) (by decide)) (by omega) q_221 dX4_meet_1 ?_
  refine r_iload_n (pc := 4) (j := 1) C dX4_meet_4 rfl rfl ?_
  refine r_cV1 (pc := 5) (k := (p + 1)) (As := [.int (zi a1)]) (st := []) C (m_X6_at (p := (p + 1)) (a1 := a1) (gPl_w hp (i := 0) (by decide)) ha1 rfl) cal_X6_at cl_X6 (gRw_k (gPl_w hp (i := 0) (by decide))).1 (gRw_k (gPl_w hp (i := 0) (by decide))).2.1 q_900 dX4_meet_5 rfl rfl (Nat.le_of_ble_eq_true rfl) (Nat.le_of_ble_eq_true rfl) (Nat.le_of_ble_eq_true rfl) (Nat.le_of_ble_eq_true rfl) (Nat.le_of_ble_eq_true rfl) (fun h397 => ?_)
  refine r_aload_n (pc := 8) (j := 0) C dX4_meet_8 rfl rfl ?_
  refine r_getR (j := 0) (r := (p + 1)) C cl_X4 (gPl_k hp).1 (gPl_k hp).2.1 (by decide) rfl (hp.2.2 (0, 0, 1) (by decide)) (by omega) q_221 dX4_meet_9 ?_
  refine r_iload_n (pc := 12) (j := 2) C dX4_meet_12 rfl rfl ?_
  refine r_cV1 (pc := 13) (k := (p + 1)) (As := [.int (zi a2)]) (st := [.int (zi (f_X6_at (p + 1) a1 S))]) C (m_X6_at (p := (p + 1)) (a1 := a2) (gPl_w hp (i := 0) (by decide)) ha2 rfl) cal_X6_at cl_X6 (gRw_k (gPl_w hp (i := 0) (by decide))).1 (gRw_k (gPl_w hp (i := 0) (by decide))).2.1 q_900 dX4_meet_13 rfl rfl (Nat.le_of_ble_eq_true rfl) (Nat.le_of_ble_eq_true rfl) (Nat.le_of_ble_eq_true rfl) (Nat.le_of_ble_eq_true rfl) (Nat.le_of_ble_eq_true rfl) (fun h398 => ?_)
  refine r_cS1 (pc := 16) (As := [.int (zi (f_X6_at (p + 1) a1 S)), .int (zi (f_X6_at (p + 1) a2 S))]) (st := []) C (m_J9_max_7cf53 (a0 := f_X6_at (p + 1) a1 S) (a1 := f_X6_at (p + 1) a2 S) h397 h398 rfl) cal_J9_max_7cf53 q_901 dX4_meet_16 rfl rfl (Nat.le_of_ble_eq_true rfl) (Nat.le_of_ble_eq_true rfl) (Nat.le_of_ble_eq_true rfl) (Nat.le_of_ble_eq_true rfl) (Nat.le_of_ble_eq_true rfl) (fun h399 => ?_)
  refine r_jv h399 (fun v400 h401 => ?_)
  refine r_istore_n (L' := [(3, .int (zi v400)), (0, .ref (zad E p)), (1, .int (zi a1)), (2, .int (zi a2))]) C dX4_meet_19 rfl (by decide) rfl ?_
  refine r_aload_n (pc := 20) (j := 1) C dX4_meet_20 rfl rfl ?_
  refine r_getR (j := 2) (r := (p + 5)) C cl_X4 (gPl_k hp).1 (gPl_k hp).2.1 (by decide) rfl (hp.2.2 (0, 2, 5) (by decide)) (by omega) q_225 dX4_meet_21 ?_
  refine r_iload_n (pc := 24) (j := 2) C dX4_meet_24 rfl rfl ?_
  refine r_cV1 (pc := 25) (k := (p + 5)) (As := [.int (zi a1)]) (st := []) C (m_X6_at (p := (p + 5)) (a1 := a1) (gPl_w hp (i := 2) (by decide)) ha1 rfl) cal_X6_at cl_X6 (gRw_k (gPl_w hp (i := 2) (by decide))).1 (gRw_k (gPl_w hp (i := 2) (by decide))).2.1 q_900 dX4_meet_25 rfl rfl (Nat.le_of_ble_eq_true rfl) (Nat.le_of_ble_eq_true rfl) (Nat.le_of_ble_eq_true rfl) (Nat.le_of_ble_eq_true rfl) (Nat.le_of_ble_eq_true rfl) (fun h402 => ?_)
  refine r_aload_n (pc := 28) (j := 1) C dX4_meet_28 rfl rfl ?_
  refine r_getR (j := 2) (r := (p + 5)) C cl_X4 (gPl_k hp).1 (gPl_k hp).2.1 (by decide) rfl (hp.2.2 (0, 2, 5) (by decide)) (by omega) q_225 dX4_meet_29 ?_
  refine r_iload_n (pc := 32) (j := 3) C dX4_meet_32 rfl rfl ?_
  refine r_cV1 (pc := 33) (k := (p + 5)) (As := [.int (zi a2)]) (st := [.int (zi (f_X6_at (p + 5) a1 S))]) C (m_X6_at (p := (p + 5)) (a1 := a2) (gPl_w hp (i := 2) (by decide)) ha2 rfl) cal_X6_at cl_X6 (gRw_k (gPl_w hp (i := 2) (by decide))).1 (gRw_k (gPl_w hp (i := 2) (by decide))).2.1 q_900 dX4_meet_33 rfl rfl (Nat.le_of_ble_eq_true rfl) (Nat.le_of_ble_eq_true rfl) (Nat.le_of_ble_eq_true rfl) (Nat.le_of_ble_eq_true rfl) (Nat.le_of_ble_eq_true rfl) (fun h403 => ?_)
  refine r_cS1 (pc := 36) (As := [.int (zi (f_X6_at (p + 5) a1 S)), .int (zi (f_X6_at (p + 5) a2 S))]) (st := []) C (m_J9_min_7cf53 (a0 := f_X6_at (p + 5) a1 S) (a1 := f_X6_at (p + 5) a2 S) h402 h403 rfl) cal_J9_min_7cf53 q_902 dX4_meet_36 rfl rfl (Nat.le_of_ble_eq_true rfl) (Nat.le_of_ble_eq_true rfl) (Nat.le_of_ble_eq_true rfl) (Nat.le_of_ble_eq_true rfl) (Nat.le_of_ble_eq_true rfl) (fun h404 => ?_)
  refine r_jv h404 (fun v405 h406 => ?_)
  refine r_istore (L' := [(4, .int (zi v405)), (3, .int (zi v400)), (0, .ref (zad E p)), (1, .int (zi a1)), (2, .int (zi a2))]) C dX4_meet_39 (by decide) rfl ?_
  refine r_iload_n (pc := 41) (j := 1) C dX4_meet_41 rfl rfl ?_
  refine r_iload (pc := 42) (j := 0) C dX4_meet_42 rfl ?_
  refine r_icmp_lt (tgt := 49) C h401 h406 dX4_meet_44 (by decide) (fun c407 => ?_) (fun c407 => ?_)
  · refine r_t c407 ?_
    refine r_aload_n (pc := 49) (j := 2) C dX4_meet_49 rfl rfl ?_
    refine r_iload_n (pc := 50) (j := 3) C dX4_meet_50 rfl rfl ?_
    refine r_iload_n (pc := 51) (j := 4) C dX4_meet_51 rfl rfl ?_
    refine r_iload_n (pc := 52) (j := 1) C dX4_meet_52 rfl rfl ?_
    refine r_cV1 (pc := 53) (k := p) (As := [.int (zi a1), .int (zi a2), .int (zi v400)]) (st := []) C (m_X4_comparedAt (p := p) (a1 := a1) (a2 := a2) (a3 := v400) hp ha1 ha2 h401 rfl) cal_X4_comparedAt cl_X4 (gPl_k hp).1 (gPl_k hp).2.1 q_903 dX4_meet_53 rfl rfl (Nat.le_of_ble_eq_true rfl) (Nat.le_of_ble_eq_true rfl) (Nat.le_of_ble_eq_true rfl) (Nat.le_of_ble_eq_true rfl) (Nat.le_of_ble_eq_true rfl) (fun h408 => ?_)
    refine r_jv h408 (fun v409 h410 => ?_)
    refine r_istore (L' := [(5, .int (zi v409)), (4, .int (zi v405)), (3, .int (zi v400)), (0, .ref (zad E p)), (1, .int (zi a1)), (2, .int (zi a2))]) C dX4_meet_56 (by decide) rfl ?_
    refine r_aload_n (pc := 58) (j := 3) C dX4_meet_58 rfl rfl ?_
    refine r_iload_n (pc := 59) (j := 4) C dX4_meet_59 rfl rfl ?_
    refine r_iload_n (pc := 60) (j := 5) C dX4_meet_60 rfl rfl ?_
    refine r_iload (pc := 61) (j := 1) C dX4_meet_61 rfl ?_
    refine r_cV1 (pc := 63) (k := p) (As := [.int (zi a1), .int (zi a2), .int (zi v405)]) (st := []) C (m_X4_comparedAt (p := p) (a1 := a1) (a2 := a2) (a3 := v405) hp ha1 ha2 h406 rfl) cal_X4_comparedAt cl_X4 (gPl_k hp).1 (gPl_k hp).2.1 q_903 dX4_meet_63 rfl rfl (Nat.le_of_ble_eq_true rfl) (Nat.le_of_ble_eq_true rfl) (Nat.le_of_ble_eq_true rfl) (Nat.le_of_ble_eq_true rfl) (Nat.le_of_ble_eq_true rfl) (fun h411 => ?_)
    refine r_jv h411 (fun v412 h413 => ?_)
    refine r_istore (L' := [(6, .int (zi v412)), (5, .int (zi v409)), (4, .int (zi v405)), (3, .int (zi v400)), (0, .ref (zad E p)), (1, .int (zi a1)), (2, .int (zi a2))]) C dX4_meet_66 (by decide) rfl ?_
    refine r_iload (pc := 68) (j := 1) C dX4_meet_68 rfl ?_
    refine r_if_ne (tgt := 103) C h410 dX4_meet_70 (by decide) (fun c414 => ?_) (fun c414 => ?_)
    · refine r_f c414 ?_
      refine r_iload (pc := 103) (j := 0) C dX4_meet_103 rfl ?_
      refine r_if_ne (tgt := 133) C h413 dX4_meet_105 (by decide) (fun c422 => ?_) (fun c422 => ?_)
      · refine r_f c422 ?_
        refine r_iload (pc := 133) (j := 1) C dX4_meet_133 rfl ?_
        refine r_iload (pc := 135) (j := 0) C dX4_meet_135 rfl ?_
        refine r_icmp_eq (tgt := 144) C h410 h413 dX4_meet_137 (by decide) (fun c426 => ?_) (fun c426 => ?_)
        · refine r_t c426 ?_
          refine r_iconst (v := 0) C dX4_meet_144 (by decide) ?_
          exact r_ireturn C hQ (nar_z (BRd rfl)) dX4_meet_145 (fun e => by subst e; exact ⟨(BRd rfl), rfl, rfl, rfl, rfl, rfl⟩)
        · refine r_f c426 ?_
          refine r_iconst (v := 1) C dX4_meet_140 (by decide) ?_
          refine r_goto (tgt := 145) C dX4_meet_141 (by decide) ?_
          exact r_ireturn C hQ (nar_z (BRd rfl)) dX4_meet_145 (fun e => by subst e; exact ⟨(BRd rfl), rfl, rfl, rfl, rfl, rfl⟩)
      · refine r_t c422 ?_
        refine r_aload_n (pc := 108) (j := 4) C dX4_meet_108 rfl rfl ?_
        refine r_getR (j := 2) (r := (p + 5)) C cl_X4 (gPl_k hp).1 (gPl_k hp).2.1 (by decide) rfl (hp.2.2 (0, 2, 5) (by decide)) (by omega) q_225 dX4_meet_109 ?_
        refine r_iload_n (pc := 112) (j := 5) C dX4_meet_112 rfl rfl ?_
        refine r_cV1 (pc := 113) (k := (p + 5)) (As := [.int (zi a1)]) (st := []) C (m_X6_at (p := (p + 5)) (a1 := a1) (gPl_w hp (i := 2) (by decide)) ha1 rfl) cal_X6_at cl_X6 (gRw_k (gPl_w hp (i := 2) (by decide))).1 (gRw_k (gPl_w hp (i := 2) (by decide))).2.1 q_900 dX4_meet_113 rfl rfl (Nat.le_of_ble_eq_true rfl) (Nat.le_of_ble_eq_true rfl) (Nat.le_of_ble_eq_true rfl) (Nat.le_of_ble_eq_true rfl) (Nat.le_of_ble_eq_true rfl) (fun h423 => ?_)
        refine r_aload_n (pc := 116) (j := 4) C dX4_meet_116 rfl rfl ?_
        refine r_getR (j := 2) (r := (p + 5)) C cl_X4 (gPl_k hp).1 (gPl_k hp).2.1 (by decide) rfl (hp.2.2 (0, 2, 5) (by decide)) (by omega) q_225 dX4_meet_117 ?_
        refine r_iload_n (pc := 120) (j := 6) C dX4_meet_120 rfl rfl ?_
        refine r_cV1 (pc := 121) (k := (p + 5)) (As := [.int (zi a2)]) (st := [.int (zi (f_X6_at (p + 5) a1 S))]) C (m_X6_at (p := (p + 5)) (a1 := a2) (gPl_w hp (i := 2) (by decide)) ha2 rfl) cal_X6_at cl_X6 (gRw_k (gPl_w hp (i := 2) (by decide))).1 (gRw_k (gPl_w hp (i := 2) (by decide))).2.1 q_900 dX4_meet_121 rfl rfl (Nat.le_of_ble_eq_true rfl) (Nat.le_of_ble_eq_true rfl) (Nat.le_of_ble_eq_true rfl) (Nat.le_of_ble_eq_true rfl) (Nat.le_of_ble_eq_true rfl) (fun h424 => ?_)
        refine r_icmp_eq (tgt := 131) C h423 h424 dX4_meet_124 (by decide) (fun c425 => ?_) (fun c425 => ?_)
        · refine r_t c425 ?_
          refine r_iconst (v := 0) C dX4_meet_131 (by decide) ?_
          exact r_ireturn C hQ (nar_z (BRd rfl)) dX4_meet_132 (fun e => by subst e; exact ⟨(BRd rfl), rfl, rfl, rfl, rfl, rfl⟩)
        · refine r_f c425 ?_
          refine r_iconst (v := 1) C dX4_meet_127 (by decide) ?_
          refine r_goto (tgt := 132) C dX4_meet_128 (by decide) ?_
          exact r_ireturn C hQ (nar_z (BRd rfl)) dX4_meet_132 (fun e => by subst e; exact ⟨(BRd rfl), rfl, rfl, rfl, rfl, rfl⟩)
    · refine r_t c414 ?_
      refine r_iload (pc := 73) (j := 0) C dX4_meet_73 rfl ?_
      refine r_cut (v412 = 0 ∨ ¬ f_X6_at (p + 1) a1 S = f_X6_at (p + 1) a2 S) 97 101 [] (fun c417 => ?_) (fun c417 => ?_) (fun k418 k419 => ?_)
      · refine r_t c417 ?_
        refine r_iconst (v := 1) C dX4_meet_97 (by decide) ?_
        refine r_goto (tgt := 102) C dX4_meet_98 (by decide) ?_
        exact r_ireturn C hQ (nar_z (BRd rfl)) dX4_meet_102 (fun e => by subst e; exact ⟨(BRd rfl), rfl, rfl, rfl, rfl, rfl⟩)
      · refine r_f c417 ?_
        refine r_iconst (v := 0) C dX4_meet_101 (by decide) ?_
        exact r_ireturn C hQ (nar_z (BRd rfl)) dX4_meet_102 (fun e => by subst e; exact ⟨(BRd rfl), rfl, rfl, rfl, rfl, rfl⟩)
      · refine r_if_eq (tgt := 97) C h413 dX4_meet_75 (by decide) (fun c420 => ?_) (fun c420 => ?_)
        · exact k418 (Or.inl c420)
        · refine r_aload_n (pc := 78) (j := 4) C dX4_meet_78 rfl rfl ?_
          refine r_getR (j := 0) (r := (p + 1)) C cl_X4 (gPl_k hp).1 (gPl_k hp).2.1 (by decide) rfl (hp.2.2 (0, 0, 1) (by decide)) (by omega) q_221 dX4_meet_79 ?_
          refine r_iload_n (pc := 82) (j := 5) C dX4_meet_82 rfl rfl ?_
          refine r_cV1 (pc := 83) (k := (p + 1)) (As := [.int (zi a1)]) (st := []) C (m_X6_at (p := (p + 1)) (a1 := a1) (gPl_w hp (i := 0) (by decide)) ha1 rfl) cal_X6_at cl_X6 (gRw_k (gPl_w hp (i := 0) (by decide))).1 (gRw_k (gPl_w hp (i := 0) (by decide))).2.1 q_900 dX4_meet_83 rfl rfl (Nat.le_of_ble_eq_true rfl) (Nat.le_of_ble_eq_true rfl) (Nat.le_of_ble_eq_true rfl) (Nat.le_of_ble_eq_true rfl) (Nat.le_of_ble_eq_true rfl) (fun h415 => ?_)
          refine r_aload_n (pc := 86) (j := 4) C dX4_meet_86 rfl rfl ?_
          refine r_getR (j := 0) (r := (p + 1)) C cl_X4 (gPl_k hp).1 (gPl_k hp).2.1 (by decide) rfl (hp.2.2 (0, 0, 1) (by decide)) (by omega) q_221 dX4_meet_87 ?_
          refine r_iload_n (pc := 90) (j := 6) C dX4_meet_90 rfl rfl ?_
          refine r_cV1 (pc := 91) (k := (p + 1)) (As := [.int (zi a2)]) (st := [.int (zi (f_X6_at (p + 1) a1 S))]) C (m_X6_at (p := (p + 1)) (a1 := a2) (gPl_w hp (i := 0) (by decide)) ha2 rfl) cal_X6_at cl_X6 (gRw_k (gPl_w hp (i := 0) (by decide))).1 (gRw_k (gPl_w hp (i := 0) (by decide))).2.1 q_900 dX4_meet_91 rfl rfl (Nat.le_of_ble_eq_true rfl) (Nat.le_of_ble_eq_true rfl) (Nat.le_of_ble_eq_true rfl) (Nat.le_of_ble_eq_true rfl) (Nat.le_of_ble_eq_true rfl) (fun h416 => ?_)
          refine r_icmp_eq (tgt := 101) C h415 h416 dX4_meet_94 (by decide) (fun c421 => ?_) (fun c421 => ?_)
          · exact k419 (fun w => w.elim c420 (fun x => x c421))
          · exact k418 (Or.inr c421)
  · refine r_f c407 ?_
    refine r_iconst (v := 0) C dX4_meet_47 (by decide) ?_
    exact r_ireturn C hQ (nar_z (BRd rfl)) dX4_meet_48 (fun e => by subst e; exact ⟨(BRd rfl), rfl, rfl, rfl, rfl, rfl⟩)

def f_X4_lastMeetsAnother (p : Nat) (S : Sst) : Option (Int) :=
  jn (wr ((f_X4_count p S) - 1)) fun (v442 : Int) =>
  Option.bind (lp (fun (s444 : Int) =>
    if s444 < v442 then
      (if f_X4_meet p s444 v442 S = 0 then
        (some (Sum.inl (wr (s444 + 1))))
      else
        (some (Sum.inr (Sum.inl ()))))
    else
      (some (Sum.inr (Sum.inr ())))) FU 0) fun z459 => Sum.elim (fun (r455 : Unit) =>
    some 1) (fun (r457 : Unit) =>
    some 0) z459
set_option maxRecDepth 100000 in
set_option maxHeartbeats 4000000 in
theorem m_X4_lastMeetsAnother {l : Launch} {E : EwT} {S : Sst} {O : Smo} {p : Nat} (hp : gPl n0 R0 p) {q : Int} (hq : f_X4_lastMeetsAnother p S = some q) : MetG l E yX4_lastMeetsAnother cX4_lastMeetsAnother 3 (some .boolean) 4 96 0 0 n0 R0 S O [.ref (zad E p)] (BR q) (some (.int (zi q))) n0 R0 S O := by
  refine ofG (L0 := [(0, .ref (zad E p))]) hq (by decide +kernel) (Nat.le_of_ble_eq_true rfl) rfl (fun K _ C hQ => ?_)
  unfold f_X4_lastMeetsAnother
  refine r_aload_n (pc := 0) (j := 0) C dX4_lastMeetsAnother_0 rfl rfl ?_
  refine r_cV1 (pc := 1) (k := p) (As := []) (st := []) C (m_X4_count (p := p) hp rfl) cal_X4_count cl_X4 (gPl_k hp).1 (gPl_k hp).2.1 q_895 dX4_lastMeetsAnother_1 rfl rfl (Nat.le_of_ble_eq_true rfl) (Nat.le_of_ble_eq_true rfl) (Nat.le_of_ble_eq_true rfl) (Nat.le_of_ble_eq_true rfl) (Nat.le_of_ble_eq_true rfl) (fun h441 => ?_)
  refine r_iconst (v := 1) C dX4_lastMeetsAnother_4 (by decide) ?_
  refine r_isub C dX4_lastMeetsAnother_5 ?_
  refine r_jv (IR_wr _) (fun v442 h443 => ?_)
  refine r_istore_n (L' := [(1, .int (zi v442)), (0, .ref (zad E p))]) C dX4_lastMeetsAnother_6 rfl (by decide) rfl ?_
  refine r_iconst (v := 0) C dX4_lastMeetsAnother_7 (by decide) ?_
  refine r_istore_n (L' := [(2, .int (zi 0)), (1, .int (zi v442)), (0, .ref (zad E p))]) C dX4_lastMeetsAnother_8 rfl (by decide) rfl ?_
  refine r_L (L' := [(0, .ref (zad E p)), (1, .int (zi v442)), (2, .int (zi 0))]) [2, 1, 0] rfl ?_
  refine r_loop2 (fun s444 : Int => IR s444) (fun s444 => S) (fun s444 => O) (fun s444 => [(0, .ref (zad E p)), (1, .int (zi v442)), (2, .int (zi s444))]) [] (fun r455 : Unit => True) (fun r455 => S) (fun r455 => O) (fun r455 => []) 23 (fun r455 h456 => ?_) (fun r457 : Unit => True) (fun r457 => S) (fun r457 => O) (fun r457 => []) 31 (fun r457 h458 => ?_) (fun k446 k448 k450 k447 k449 k451 s444 h445 => ?_) (IRd rfl)
  · refine r_iconst (v := 1) C dX4_lastMeetsAnother_23 (by decide) ?_
    exact r_ireturn C hQ (nar_z (BRd rfl)) dX4_lastMeetsAnother_24 (fun e => by cases e; exact ⟨(BRd rfl), rfl, rfl, rfl, rfl, rfl⟩)
  · refine r_iconst (v := 0) C dX4_lastMeetsAnother_31 (by decide) ?_
    exact r_ireturn C hQ (nar_z (BRd rfl)) dX4_lastMeetsAnother_32 (fun e => by cases e; exact ⟨(BRd rfl), rfl, rfl, rfl, rfl, rfl⟩)
  · refine r_iload_n (pc := 9) (j := 2) C dX4_lastMeetsAnother_9 rfl rfl ?_
    refine r_iload_n (pc := 10) (j := 1) C dX4_lastMeetsAnother_10 rfl rfl ?_
    refine r_icmp_ge (tgt := 31) C h445 h443 dX4_lastMeetsAnother_11 (by decide) (fun c452 => ?_) (fun c452 => ?_)
    · refine r_bf c452 ?_
      refine r_L (L' := []) [] rfl ?_
      exact k451 () trivial
    · refine r_bt c452 ?_
      refine r_aload_n (pc := 14) (j := 0) C dX4_lastMeetsAnother_14 rfl rfl ?_
      refine r_iload_n (pc := 15) (j := 2) C dX4_lastMeetsAnother_15 rfl rfl ?_
      refine r_iload_n (pc := 16) (j := 1) C dX4_lastMeetsAnother_16 rfl rfl ?_
      refine r_cV1 (pc := 17) (k := p) (As := [.int (zi s444), .int (zi v442)]) (st := []) C (m_X4_meet (p := p) (a1 := s444) (a2 := v442) hp h445 h443 rfl) cal_X4_meet cl_X4 (gPl_k hp).1 (gPl_k hp).2.1 q_896 dX4_lastMeetsAnother_17 rfl rfl (Nat.le_of_ble_eq_true rfl) (Nat.le_of_ble_eq_true rfl) (Nat.le_of_ble_eq_true rfl) (Nat.le_of_ble_eq_true rfl) (Nat.le_of_ble_eq_true rfl) (fun h453 => ?_)
      refine r_if_eq (tgt := 25) C h453.ir dX4_lastMeetsAnother_20 (by decide) (fun c454 => ?_) (fun c454 => ?_)
      · refine r_bt c454 ?_
        refine r_iinc (j := 2) (L' := [(2, .int (zi (wr (s444 + 1)))), (0, .ref (zad E p)), (1, .int (zi v442))]) C dX4_lastMeetsAnother_25 rfl (by decide) rfl ?_
        refine r_goto (tgt := 9) C dX4_lastMeetsAnother_28 (by decide) ?_
        refine r_L (L' := [(0, .ref (zad E p)), (1, .int (zi v442)), (2, .int (zi (wr (s444 + 1))))]) [1, 2, 0] rfl ?_
        exact k447 (wr (s444 + 1)) (IR_wr _)
      · refine r_bf c454 ?_
        refine r_L (L' := []) [] rfl ?_
        exact k449 () trivial

def f_X4_weigh (p : Nat) (S : Sst) : Option (Sst) :=
  jn (S.2 p 12) fun (v986 : Int) =>
  Option.bind (lp (fun (s988 : Int × Int × Sst) =>
    if s988.2.1 < f_X4_count p s988.2.2 then
      (jn (zrem (wr ((wr (s988.1 * 137)) + 71)) 1000) fun (v996 : Int) =>
      jn (f_X6_at (p + 1) s988.2.1 s988.2.2) fun (v999 : Int) =>
      Option.bind (f_X1_valueFor (p + 19) s988.2.1 v999 (f_X6_at (p + 9) s988.2.1 s988.2.2) (f_X6_at (p + 11) s988.2.1 s988.2.2) (zrem v996 100) s988.2.2) fun (q1004 : Int × Sst) =>
      jn (f_X6_add (p + 15) q1004.1 q1004.2) fun (q1007 : Sst) =>
      some (Sum.inl (v996, wr (s988.2.1 + 1), q1007)))
    else
      (some (Sum.inr s988.2.2))) FU (v986, 0, S)) fun (r1009 : Sst) =>
  some r1009
set_option maxRecDepth 100000 in
set_option maxHeartbeats 4000000 in
theorem m_X4_weigh {l : Launch} {E : EwT} {S : Sst} {O : Smo} {p : Nat} (hp : gPl n0 R0 p) {q : Sst} (hq : f_X4_weigh p S = some q) : MetG l E yX4_weigh cX4_weigh 4 none 4 92 0 0 n0 R0 S O [.ref (zad E p)] (True) none n0 R0 q O := by
  refine ofG (L0 := [(0, .ref (zad E p))]) hq (by decide +kernel) (Nat.le_of_ble_eq_true rfl) rfl (fun K _ C hQ => ?_)
  unfold f_X4_weigh
  refine r_aload_n (pc := 0) (j := 0) C dX4_weigh_0 rfl rfl ?_
  refine r_getS (j := 12) C cl_X4 (gPl_k hp).1 (gPl_k hp).2.1 (gPl_k hp).2.2 (by decide) (by decide) rfl q_249 dX4_weigh_1 (fun h985 => ?_)
  refine r_jv h985 (fun v986 h987 => ?_)
  refine r_istore_n (L' := [(1, .int (zi v986)), (0, .ref (zad E p))]) C dX4_weigh_4 rfl (by decide) rfl ?_
  refine r_iconst (v := 0) C dX4_weigh_5 (by decide) ?_
  refine r_istore_n (L' := [(2, .int (zi 0)), (1, .int (zi v986)), (0, .ref (zad E p))]) C dX4_weigh_6 rfl (by decide) rfl ?_
  refine r_L (L' := [(0, .ref (zad E p)), (1, .int (zi v986)), (2, .int (zi 0))]) [2, 1, 0] rfl ?_
  refine r_loop1 (fun s988 : Int × Int × Sst => IR s988.1 ∧ IR s988.2.1) (fun s988 => s988.2.2) (fun s988 => O) (fun s988 => [(0, .ref (zad E p)), (1, .int (zi s988.1)), (2, .int (zi s988.2.1))]) [] (fun r1009 : Sst => True) (fun r1009 => r1009) (fun r1009 => O) (fun r1009 => []) 79 (fun r1009 h1010 => ?_) (fun k990 k992 k991 k993 s988 h989 => ?_) ⟨h987, (IRd rfl)⟩
  · exact r_return C hQ dX4_weigh_79 (fun e => by cases e; exact ⟨trivial, rfl, rfl, rfl, rfl, rfl⟩)
  · refine r_iload_n (pc := 7) (j := 2) C dX4_weigh_7 rfl rfl ?_
    refine r_aload_n (pc := 8) (j := 0) C dX4_weigh_8 rfl rfl ?_
    refine r_cV1 (pc := 9) (k := p) (As := []) (st := [.int (zi s988.2.1)]) C (m_X4_count (p := p) hp rfl) cal_X4_count cl_X4 (gPl_k hp).1 (gPl_k hp).2.1 q_895 dX4_weigh_9 rfl rfl (Nat.le_of_ble_eq_true rfl) (Nat.le_of_ble_eq_true rfl) (Nat.le_of_ble_eq_true rfl) (Nat.le_of_ble_eq_true rfl) (Nat.le_of_ble_eq_true rfl) (fun h994 => ?_)
    refine r_icmp_ge (tgt := 79) C h989.2 h994 dX4_weigh_12 (by decide) (fun c995 => ?_) (fun c995 => ?_)
    · refine r_bf c995 ?_
      refine r_L (L' := []) [] rfl ?_
      exact k993 s988.2.2 trivial
    · refine r_bt c995 ?_
      refine r_iload_n (pc := 15) (j := 1) C dX4_weigh_15 rfl rfl ?_
      refine r_sipush (v := 137) C dX4_weigh_16 (by decide) ?_
      refine r_imul C dX4_weigh_19 ?_
      refine r_bipush (v := 71) C dX4_weigh_20 (by decide) ?_
      refine r_iadd C dX4_weigh_22 ?_
      refine r_sipush (v := 1000) C dX4_weigh_23 (by decide) ?_
      refine r_iremk C (IRd rfl) (by decide) dX4_weigh_26 ?_
      refine r_bj ?_
      refine r_jv (i32_IR _) (fun v996 h997 => ?_)
      refine r_istore_n (L' := [(1, .int (zi v996)), (0, .ref (zad E p)), (2, .int (zi s988.2.1))]) C dX4_weigh_27 rfl (by decide) rfl ?_
      refine r_aload_n (pc := 28) (j := 1) C dX4_weigh_28 rfl rfl ?_
      refine r_getR (j := 0) (r := (p + 1)) C cl_X4 (gPl_k hp).1 (gPl_k hp).2.1 (by decide) rfl (hp.2.2 (0, 0, 1) (by decide)) (by omega) q_221 dX4_weigh_29 ?_
      refine r_iload_n (pc := 32) (j := 2) C dX4_weigh_32 rfl rfl ?_
      refine r_cV1 (pc := 33) (k := (p + 1)) (As := [.int (zi s988.2.1)]) (st := []) C (m_X6_at (p := (p + 1)) (a1 := s988.2.1) (gPl_w hp (i := 0) (by decide)) h989.2 rfl) cal_X6_at cl_X6 (gRw_k (gPl_w hp (i := 0) (by decide))).1 (gRw_k (gPl_w hp (i := 0) (by decide))).2.1 q_900 dX4_weigh_33 rfl rfl (Nat.le_of_ble_eq_true rfl) (Nat.le_of_ble_eq_true rfl) (Nat.le_of_ble_eq_true rfl) (Nat.le_of_ble_eq_true rfl) (Nat.le_of_ble_eq_true rfl) (fun h998 => ?_)
      refine r_bj ?_
      refine r_jv h998 (fun v999 h1000 => ?_)
      refine r_istore_n (L' := [(3, .int (zi v999)), (1, .int (zi v996)), (0, .ref (zad E p)), (2, .int (zi s988.2.1))]) C dX4_weigh_36 rfl (by decide) rfl ?_
      refine r_aload_n (pc := 37) (j := 2) C dX4_weigh_37 rfl rfl ?_
      refine r_getR (j := 7) (r := (p + 15)) C cl_X4 (gPl_k hp).1 (gPl_k hp).2.1 (by decide) rfl (hp.2.2 (0, 7, 15) (by decide)) (by omega) q_234 dX4_weigh_38 ?_
      refine r_aload_n (pc := 41) (j := 2) C dX4_weigh_41 rfl rfl ?_
      refine r_getR (j := 9) (r := (p + 19)) C cl_X4 (gPl_k hp).1 (gPl_k hp).2.1 (by decide) rfl (hp.2.2 (0, 9, 19) (by decide)) (by omega) q_241 dX4_weigh_42 ?_
      refine r_iload_n (pc := 45) (j := 3) C dX4_weigh_45 rfl rfl ?_
      refine r_iload_n (pc := 46) (j := 0) C dX4_weigh_46 rfl rfl ?_
      refine r_aload_n (pc := 47) (j := 2) C dX4_weigh_47 rfl rfl ?_
      refine r_getR (j := 4) (r := (p + 9)) C cl_X4 (gPl_k hp).1 (gPl_k hp).2.1 (by decide) rfl (hp.2.2 (0, 4, 9) (by decide)) (by omega) q_229 dX4_weigh_48 ?_
      refine r_iload_n (pc := 51) (j := 3) C dX4_weigh_51 rfl rfl ?_
      refine r_cV1 (pc := 52) (k := (p + 9)) (As := [.int (zi s988.2.1)]) (st := [.int (zi v999), .int (zi s988.2.1), .ref (zad E (p + 19)), .ref (zad E (p + 15))]) C (m_X6_at (p := (p + 9)) (a1 := s988.2.1) (gPl_w hp (i := 4) (by decide)) h989.2 rfl) cal_X6_at cl_X6 (gRw_k (gPl_w hp (i := 4) (by decide))).1 (gRw_k (gPl_w hp (i := 4) (by decide))).2.1 q_900 dX4_weigh_52 rfl rfl (Nat.le_of_ble_eq_true rfl) (Nat.le_of_ble_eq_true rfl) (Nat.le_of_ble_eq_true rfl) (Nat.le_of_ble_eq_true rfl) (Nat.le_of_ble_eq_true rfl) (fun h1001 => ?_)
      refine r_aload_n (pc := 55) (j := 2) C dX4_weigh_55 rfl rfl ?_
      refine r_getR (j := 5) (r := (p + 11)) C cl_X4 (gPl_k hp).1 (gPl_k hp).2.1 (by decide) rfl (hp.2.2 (0, 5, 11) (by decide)) (by omega) q_231 dX4_weigh_56 ?_
      refine r_iload_n (pc := 59) (j := 3) C dX4_weigh_59 rfl rfl ?_
      refine r_cV1 (pc := 60) (k := (p + 11)) (As := [.int (zi s988.2.1)]) (st := [.int (zi (f_X6_at (p + 9) s988.2.1 s988.2.2)), .int (zi v999), .int (zi s988.2.1), .ref (zad E (p + 19)), .ref (zad E (p + 15))]) C (m_X6_at (p := (p + 11)) (a1 := s988.2.1) (gPl_w hp (i := 5) (by decide)) h989.2 rfl) cal_X6_at cl_X6 (gRw_k (gPl_w hp (i := 5) (by decide))).1 (gRw_k (gPl_w hp (i := 5) (by decide))).2.1 q_900 dX4_weigh_60 rfl rfl (Nat.le_of_ble_eq_true rfl) (Nat.le_of_ble_eq_true rfl) (Nat.le_of_ble_eq_true rfl) (Nat.le_of_ble_eq_true rfl) (Nat.le_of_ble_eq_true rfl) (fun h1002 => ?_)
      refine r_iload_n (pc := 63) (j := 1) C dX4_weigh_63 rfl rfl ?_
      refine r_bipush (v := 100) C dX4_weigh_64 (by decide) ?_
      refine r_iremk C (IRd rfl) (by decide) dX4_weigh_66 ?_
      refine r_bb ?_
      refine r_bd (fun q1004 e1005 => ?_)
      refine r_cV1 (pc := 67) (k := (p + 19)) (As := [.int (zi s988.2.1), .int (zi v999), .int (zi (f_X6_at (p + 9) s988.2.1 s988.2.2)), .int (zi (f_X6_at (p + 11) s988.2.1 s988.2.2)), .int (zi (zrem v996 100))]) (st := [.ref (zad E (p + 15))]) C (m_X1_valueFor (p := (p + 19)) (a1 := s988.2.1) (a2 := v999) (a3 := f_X6_at (p + 9) s988.2.1 s988.2.2) (a4 := f_X6_at (p + 11) s988.2.1 s988.2.2) (a5 := zrem v996 100) (gPl_f hp) h989.2 h1000 h1001 h1002 (i32_IR _) e1005) cal_X1_valueFor cl_X1 (gFm_k (gPl_f hp)).1 (gFm_k (gPl_f hp)).2.1 q_970 dX4_weigh_67 rfl rfl (Nat.le_of_ble_eq_true rfl) (Nat.le_of_ble_eq_true rfl) (Nat.le_of_ble_eq_true rfl) (Nat.le_of_ble_eq_true rfl) (Nat.le_of_ble_eq_true rfl) (fun h1003 => ?_)
      refine r_bj ?_
      refine r_jn (fun q1007 e1008 => ?_)
      refine r_cV0 (pc := 70) (k := (p + 15)) (As := [.int (zi q1004.1)]) (st := []) C (m_X6_add (p := (p + 15)) (a1 := q1004.1) (gPl_w hp (i := 7) (by decide)) h1003 e1008) cal_X6_add cl_X6 (gRw_k (gPl_w hp (i := 7) (by decide))).1 (gRw_k (gPl_w hp (i := 7) (by decide))).2.1 q_890 dX4_weigh_70 rfl rfl (Nat.le_of_ble_eq_true rfl) (Nat.le_of_ble_eq_true rfl) (Nat.le_of_ble_eq_true rfl) (Nat.le_of_ble_eq_true rfl) (Nat.le_of_ble_eq_true rfl) (fun h1006 => ?_)
      refine r_iinc (j := 3) (L' := [(2, .int (zi (wr (s988.2.1 + 1)))), (3, .int (zi v999)), (1, .int (zi v996)), (0, .ref (zad E p))]) C dX4_weigh_73 rfl (by decide) rfl ?_
      refine r_goto (tgt := 7) C dX4_weigh_76 (by decide) ?_
      refine r_L (L' := [(0, .ref (zad E p)), (1, .int (zi v996)), (2, .int (zi (wr (s988.2.1 + 1))))]) [3, 2, 0] rfl ?_
      exact k991 (v996, wr (s988.2.1 + 1), q1007) ⟨h997, (IR_wr _)⟩

def f_X4_has (p : Nat) (a1 : Int) (S : Sst) : Int :=
  if (a1 < 0 ∨ ¬ a1 < f_X6_size (p + 1) S) then
    (0)
  else
    (1)
set_option maxRecDepth 100000 in
set_option maxHeartbeats 4000000 in
theorem m_X4_has {l : Launch} {E : EwT} {S : Sst} {O : Smo} {p : Nat} (hp : gPl n0 R0 p) {a1 : Int} (ha1 : IR a1) {q : Int} (hq : f_X4_has p a1 S = q) : MetG l E yX4_has cX4_has 2 (some .boolean) 1 20 0 0 n0 R0 S O [.ref (zad E p), .int (zi a1)] (BR q) (some (.int (zi q))) n0 R0 S O := by
  refine ofG (L0 := [(0, .ref (zad E p)), (1, .int (zi a1))]) hq (by decide +kernel) (Nat.le_of_ble_eq_true rfl) rfl (fun K _ C hQ => ?_)
  unfold f_X4_has
  refine r_iload_n (pc := 0) (j := 1) C dX4_has_0 rfl rfl ?_
  refine r_cut (a1 < 0 ∨ ¬ a1 < f_X6_size (p + 1) S) 19 15 [] (fun c1012 => ?_) (fun c1012 => ?_) (fun k1013 k1014 => ?_)
  · refine r_t c1012 ?_
    refine r_iconst (v := 0) C dX4_has_19 (by decide) ?_
    exact r_ireturn C hQ (nar_z (BRd rfl)) dX4_has_20 (fun e => by subst e; exact ⟨(BRd rfl), rfl, rfl, rfl, rfl, rfl⟩)
  · refine r_f c1012 ?_
    refine r_iconst (v := 1) C dX4_has_15 (by decide) ?_
    refine r_goto (tgt := 20) C dX4_has_16 (by decide) ?_
    exact r_ireturn C hQ (nar_z (BRd rfl)) dX4_has_20 (fun e => by subst e; exact ⟨(BRd rfl), rfl, rfl, rfl, rfl, rfl⟩)
  · refine r_if_lt (tgt := 19) C ha1 dX4_has_1 (by decide) (fun c1015 => ?_) (fun c1015 => ?_)
    · exact k1013 (Or.inl c1015)
    · refine r_iload_n (pc := 4) (j := 1) C dX4_has_4 rfl rfl ?_
      refine r_aload_n (pc := 5) (j := 0) C dX4_has_5 rfl rfl ?_
      refine r_getR (j := 0) (r := (p + 1)) C cl_X4 (gPl_k hp).1 (gPl_k hp).2.1 (by decide) rfl (hp.2.2 (0, 0, 1) (by decide)) (by omega) q_221 dX4_has_6 ?_
      refine r_cV1 (pc := 9) (k := (p + 1)) (As := []) (st := [.int (zi a1)]) C (m_X6_size (p := (p + 1)) (gPl_w hp (i := 0) (by decide)) rfl) cal_X6_size cl_X6 (gRw_k (gPl_w hp (i := 0) (by decide))).1 (gRw_k (gPl_w hp (i := 0) (by decide))).2.1 q_856 dX4_has_9 rfl rfl (Nat.le_of_ble_eq_true rfl) (Nat.le_of_ble_eq_true rfl) (Nat.le_of_ble_eq_true rfl) (Nat.le_of_ble_eq_true rfl) (Nat.le_of_ble_eq_true rfl) (fun h1011 => ?_)
      refine r_icmp_ge (tgt := 19) C ha1 h1011 dX4_has_12 (by decide) (fun c1016 => ?_) (fun c1016 => ?_)
      · exact k1013 (Or.inr c1016)
      · exact k1014 (fun w => w.elim c1015 (fun x => x c1016))

def f_X4_isOver (p : Nat) (a1 : Int) (a2 : Int) (S : Sst) : Int :=
  if ((f_X4_has p a1 S = 0 ∨ a2 < f_X6_at (p + 1) a1 S) ∨ ¬ a2 < f_X6_at (p + 5) a1 S) then
    (0)
  else
    (1)
set_option maxRecDepth 100000 in
set_option maxHeartbeats 4000000 in
theorem m_X4_isOver {l : Launch} {E : EwT} {S : Sst} {O : Smo} {p : Nat} (hp : gPl n0 R0 p) {a1 : Int} (ha1 : IR a1) {a2 : Int} (ha2 : IR a2) {q : Int} (hq : f_X4_isOver p a1 a2 S = q) : MetG l E yX4_isOver cX4_isOver 3 (some .boolean) 2 41 0 0 n0 R0 S O [.ref (zad E p), .int (zi a1), .int (zi a2)] (BR q) (some (.int (zi q))) n0 R0 S O := by
  refine ofG (L0 := [(0, .ref (zad E p)), (1, .int (zi a1)), (2, .int (zi a2))]) hq (by decide +kernel) (Nat.le_of_ble_eq_true rfl) rfl (fun K _ C hQ => ?_)
  unfold f_X4_isOver
  refine r_aload_n (pc := 0) (j := 0) C dX4_isOver_0 rfl rfl ?_
  refine r_iload_n (pc := 1) (j := 1) C dX4_isOver_1 rfl rfl ?_
  refine r_cV1 (pc := 2) (k := p) (As := [.int (zi a1)]) (st := []) C (m_X4_has (p := p) (a1 := a1) hp ha1 rfl) cal_X4_has cl_X4 (gPl_k hp).1 (gPl_k hp).2.1 q_993 dX4_isOver_2 rfl rfl (Nat.le_of_ble_eq_true rfl) (Nat.le_of_ble_eq_true rfl) (Nat.le_of_ble_eq_true rfl) (Nat.le_of_ble_eq_true rfl) (Nat.le_of_ble_eq_true rfl) (fun h1017 => ?_)
  refine r_cut ((f_X4_has p a1 S = 0 ∨ a2 < f_X6_at (p + 1) a1 S) ∨ ¬ a2 < f_X6_at (p + 5) a1 S) 36 32 [] (fun c1020 => ?_) (fun c1020 => ?_) (fun k1021 k1022 => ?_)
  · refine r_t c1020 ?_
    refine r_iconst (v := 0) C dX4_isOver_36 (by decide) ?_
    exact r_ireturn C hQ (nar_z (BRd rfl)) dX4_isOver_37 (fun e => by subst e; exact ⟨(BRd rfl), rfl, rfl, rfl, rfl, rfl⟩)
  · refine r_f c1020 ?_
    refine r_iconst (v := 1) C dX4_isOver_32 (by decide) ?_
    refine r_goto (tgt := 37) C dX4_isOver_33 (by decide) ?_
    exact r_ireturn C hQ (nar_z (BRd rfl)) dX4_isOver_37 (fun e => by subst e; exact ⟨(BRd rfl), rfl, rfl, rfl, rfl, rfl⟩)
  · refine r_if_eq (tgt := 36) C h1017.ir dX4_isOver_5 (by decide) (fun c1023 => ?_) (fun c1023 => ?_)
    · exact k1021 (Or.inl (Or.inl c1023))
    · refine r_aload_n (pc := 8) (j := 0) C dX4_isOver_8 rfl rfl ?_
      refine r_getR (j := 0) (r := (p + 1)) C cl_X4 (gPl_k hp).1 (gPl_k hp).2.1 (by decide) rfl (hp.2.2 (0, 0, 1) (by decide)) (by omega) q_221 dX4_isOver_9 ?_
      refine r_iload_n (pc := 12) (j := 1) C dX4_isOver_12 rfl rfl ?_
      refine r_cV1 (pc := 13) (k := (p + 1)) (As := [.int (zi a1)]) (st := []) C (m_X6_at (p := (p + 1)) (a1 := a1) (gPl_w hp (i := 0) (by decide)) ha1 rfl) cal_X6_at cl_X6 (gRw_k (gPl_w hp (i := 0) (by decide))).1 (gRw_k (gPl_w hp (i := 0) (by decide))).2.1 q_900 dX4_isOver_13 rfl rfl (Nat.le_of_ble_eq_true rfl) (Nat.le_of_ble_eq_true rfl) (Nat.le_of_ble_eq_true rfl) (Nat.le_of_ble_eq_true rfl) (Nat.le_of_ble_eq_true rfl) (fun h1018 => ?_)
      refine r_iload_n (pc := 16) (j := 2) C dX4_isOver_16 rfl rfl ?_
      refine r_icmp_gt (tgt := 36) C h1018 ha2 dX4_isOver_17 (by decide) (fun c1024 => ?_) (fun c1024 => ?_)
      · exact k1021 (Or.inl (Or.inr c1024))
      · refine r_iload_n (pc := 20) (j := 2) C dX4_isOver_20 rfl rfl ?_
        refine r_aload_n (pc := 21) (j := 0) C dX4_isOver_21 rfl rfl ?_
        refine r_getR (j := 2) (r := (p + 5)) C cl_X4 (gPl_k hp).1 (gPl_k hp).2.1 (by decide) rfl (hp.2.2 (0, 2, 5) (by decide)) (by omega) q_225 dX4_isOver_22 ?_
        refine r_iload_n (pc := 25) (j := 1) C dX4_isOver_25 rfl rfl ?_
        refine r_cV1 (pc := 26) (k := (p + 5)) (As := [.int (zi a1)]) (st := [.int (zi a2)]) C (m_X6_at (p := (p + 5)) (a1 := a1) (gPl_w hp (i := 2) (by decide)) ha1 rfl) cal_X6_at cl_X6 (gRw_k (gPl_w hp (i := 2) (by decide))).1 (gRw_k (gPl_w hp (i := 2) (by decide))).2.1 q_900 dX4_isOver_26 rfl rfl (Nat.le_of_ble_eq_true rfl) (Nat.le_of_ble_eq_true rfl) (Nat.le_of_ble_eq_true rfl) (Nat.le_of_ble_eq_true rfl) (Nat.le_of_ble_eq_true rfl) (fun h1019 => ?_)
        refine r_icmp_ge (tgt := 36) C ha2 h1019 dX4_isOver_29 (by decide) (fun c1025 => ?_) (fun c1025 => ?_)
        · exact k1021 (Or.inr c1025)
        · exact k1022 (fun w => w.elim (fun w => w.elim c1023 c1024) (fun x => x c1025))

def f_X4_isSteeper (p : Nat) (a1 : Int) (a2 : Int) (S : Sst) : Int :=
  if wr ((f_X6_at (p + 11) a2 S) * (f_X6_at (p + 9) a1 S)) < wr ((f_X6_at (p + 11) a1 S) * (f_X6_at (p + 9) a2 S)) then
    (1)
  else
    (0)
set_option maxRecDepth 100000 in
set_option maxHeartbeats 4000000 in
theorem m_X4_isSteeper {l : Launch} {E : EwT} {S : Sst} {O : Smo} {p : Nat} (hp : gPl n0 R0 p) {a1 : Int} (ha1 : IR a1) {a2 : Int} (ha2 : IR a2) {q : Int} (hq : f_X4_isSteeper p a1 a2 S = q) : MetG l E yX4_isSteeper cX4_isSteeper 3 (some .boolean) 1 21 0 0 n0 R0 S O [.ref (zad E p), .int (zi a1), .int (zi a2)] (BR q) (some (.int (zi q))) n0 R0 S O := by
  refine ofG (L0 := [(0, .ref (zad E p)), (1, .int (zi a1)), (2, .int (zi a2))]) hq (by decide +kernel) (Nat.le_of_ble_eq_true rfl) rfl (fun K _ C hQ => ?_)
  unfold f_X4_isSteeper
  refine r_aload_n (pc := 0) (j := 0) C dX4_isSteeper_0 rfl rfl ?_
  refine r_getR (j := 5) (r := (p + 11)) C cl_X4 (gPl_k hp).1 (gPl_k hp).2.1 (by decide) rfl (hp.2.2 (0, 5, 11) (by decide)) (by omega) q_231 dX4_isSteeper_1 ?_
  refine r_iload_n (pc := 4) (j := 1) C dX4_isSteeper_4 rfl rfl ?_
  refine r_cV1 (pc := 5) (k := (p + 11)) (As := [.int (zi a1)]) (st := []) C (m_X6_at (p := (p + 11)) (a1 := a1) (gPl_w hp (i := 5) (by decide)) ha1 rfl) cal_X6_at cl_X6 (gRw_k (gPl_w hp (i := 5) (by decide))).1 (gRw_k (gPl_w hp (i := 5) (by decide))).2.1 q_900 dX4_isSteeper_5 rfl rfl (Nat.le_of_ble_eq_true rfl) (Nat.le_of_ble_eq_true rfl) (Nat.le_of_ble_eq_true rfl) (Nat.le_of_ble_eq_true rfl) (Nat.le_of_ble_eq_true rfl) (fun h1026 => ?_)
  refine r_aload_n (pc := 8) (j := 0) C dX4_isSteeper_8 rfl rfl ?_
  refine r_getR (j := 4) (r := (p + 9)) C cl_X4 (gPl_k hp).1 (gPl_k hp).2.1 (by decide) rfl (hp.2.2 (0, 4, 9) (by decide)) (by omega) q_229 dX4_isSteeper_9 ?_
  refine r_iload_n (pc := 12) (j := 2) C dX4_isSteeper_12 rfl rfl ?_
  refine r_cV1 (pc := 13) (k := (p + 9)) (As := [.int (zi a2)]) (st := [.int (zi (f_X6_at (p + 11) a1 S))]) C (m_X6_at (p := (p + 9)) (a1 := a2) (gPl_w hp (i := 4) (by decide)) ha2 rfl) cal_X6_at cl_X6 (gRw_k (gPl_w hp (i := 4) (by decide))).1 (gRw_k (gPl_w hp (i := 4) (by decide))).2.1 q_900 dX4_isSteeper_13 rfl rfl (Nat.le_of_ble_eq_true rfl) (Nat.le_of_ble_eq_true rfl) (Nat.le_of_ble_eq_true rfl) (Nat.le_of_ble_eq_true rfl) (Nat.le_of_ble_eq_true rfl) (fun h1027 => ?_)
  refine r_imul C dX4_isSteeper_16 ?_
  refine r_aload_n (pc := 17) (j := 0) C dX4_isSteeper_17 rfl rfl ?_
  refine r_getR (j := 5) (r := (p + 11)) C cl_X4 (gPl_k hp).1 (gPl_k hp).2.1 (by decide) rfl (hp.2.2 (0, 5, 11) (by decide)) (by omega) q_231 dX4_isSteeper_18 ?_
  refine r_iload_n (pc := 21) (j := 2) C dX4_isSteeper_21 rfl rfl ?_
  refine r_cV1 (pc := 22) (k := (p + 11)) (As := [.int (zi a2)]) (st := [.int (zi (wr ((f_X6_at (p + 11) a1 S) * (f_X6_at (p + 9) a2 S))))]) C (m_X6_at (p := (p + 11)) (a1 := a2) (gPl_w hp (i := 5) (by decide)) ha2 rfl) cal_X6_at cl_X6 (gRw_k (gPl_w hp (i := 5) (by decide))).1 (gRw_k (gPl_w hp (i := 5) (by decide))).2.1 q_900 dX4_isSteeper_22 rfl rfl (Nat.le_of_ble_eq_true rfl) (Nat.le_of_ble_eq_true rfl) (Nat.le_of_ble_eq_true rfl) (Nat.le_of_ble_eq_true rfl) (Nat.le_of_ble_eq_true rfl) (fun h1028 => ?_)
  refine r_aload_n (pc := 25) (j := 0) C dX4_isSteeper_25 rfl rfl ?_
  refine r_getR (j := 4) (r := (p + 9)) C cl_X4 (gPl_k hp).1 (gPl_k hp).2.1 (by decide) rfl (hp.2.2 (0, 4, 9) (by decide)) (by omega) q_229 dX4_isSteeper_26 ?_
  refine r_iload_n (pc := 29) (j := 1) C dX4_isSteeper_29 rfl rfl ?_
  refine r_cV1 (pc := 30) (k := (p + 9)) (As := [.int (zi a1)]) (st := [.int (zi (f_X6_at (p + 11) a2 S)), .int (zi (wr ((f_X6_at (p + 11) a1 S) * (f_X6_at (p + 9) a2 S))))]) C (m_X6_at (p := (p + 9)) (a1 := a1) (gPl_w hp (i := 4) (by decide)) ha1 rfl) cal_X6_at cl_X6 (gRw_k (gPl_w hp (i := 4) (by decide))).1 (gRw_k (gPl_w hp (i := 4) (by decide))).2.1 q_900 dX4_isSteeper_30 rfl rfl (Nat.le_of_ble_eq_true rfl) (Nat.le_of_ble_eq_true rfl) (Nat.le_of_ble_eq_true rfl) (Nat.le_of_ble_eq_true rfl) (Nat.le_of_ble_eq_true rfl) (fun h1029 => ?_)
  refine r_imul C dX4_isSteeper_33 ?_
  refine r_icmp_le (tgt := 41) C (IR_wr _) (IR_wr _) dX4_isSteeper_34 (by decide) (fun c1030 => ?_) (fun c1030 => ?_)
  · refine r_f c1030 ?_
    refine r_iconst (v := 0) C dX4_isSteeper_41 (by decide) ?_
    exact r_ireturn C hQ (nar_z (BRd rfl)) dX4_isSteeper_42 (fun e => by subst e; exact ⟨(BRd rfl), rfl, rfl, rfl, rfl, rfl⟩)
  · refine r_t c1030 ?_
    refine r_iconst (v := 1) C dX4_isSteeper_37 (by decide) ?_
    refine r_goto (tgt := 42) C dX4_isSteeper_38 (by decide) ?_
    exact r_ireturn C hQ (nar_z (BRd rfl)) dX4_isSteeper_42 (fun e => by subst e; exact ⟨(BRd rfl), rfl, rfl, rfl, rfl, rfl⟩)

def f_X4_findLowerOnes (p : Nat) (a1 : Int) (S : Sst) : Option (Int) :=
  Option.bind (lp (fun (s1073 : Int × Int) =>
    if s1073.2 < f_X4_count p S then
      (jn (f_J9_max_7cf53 (f_X6_at (p + 1) a1 S) (f_X6_at (p + 1) s1073.2 S)) fun (v1084 : Int) =>
      jn (
        if ((s1073.2 = a1 ∨ f_X4_isOver p a1 v1084 S = 0) ∨ f_X4_isOver p s1073.2 v1084 S = 0) then
          (s1073.1)
        else
          (jn (f_X4_comparedAt p a1 s1073.2 v1084 S) fun (v1096 : Int) =>
          jn (
            if v1096 = 0 then
              (f_X4_isSteeper p a1 s1073.2 S)
            else
              (if 0 < v1096 then
                (1)
              else
                (0))) fun (q1098 : Int) =>
          jn (
            if q1098 = 0 then
              (0)
            else
              (zshl 1 s1073.2)) fun (q1105 : Int) =>
          jn (zor s1073.1 q1105) fun (v1110 : Int) =>
          v1110)) fun (q1088 : Int) =>
      some (Sum.inl (q1088, wr (s1073.2 + 1))))
    else
      (some (Sum.inr s1073.1))) FU (0, 0)) fun (r1115 : Int) =>
  some r1115
set_option maxRecDepth 100000 in
set_option maxHeartbeats 4000000 in
theorem m_X4_findLowerOnes {l : Launch} {E : EwT} {S : Sst} {O : Smo} {p : Nat} (hp : gPl n0 R0 p) {a1 : Int} (ha1 : IR a1) {q : Int} (hq : f_X4_findLowerOnes p a1 S = some q) : MetG l E yX4_findLowerOnes cX4_findLowerOnes 7 (some .int) 3 70 0 0 n0 R0 S O [.ref (zad E p), .int (zi a1)] (IR q) (some (.int (zi q))) n0 R0 S O := by
  refine ofG (L0 := [(0, .ref (zad E p)), (1, .int (zi a1))]) hq (by decide +kernel) (Nat.le_of_ble_eq_true rfl) rfl (fun K _ C hQ => ?_)
  unfold f_X4_findLowerOnes
  refine r_iconst (v := 0) C dX4_findLowerOnes_0 (by decide) ?_
  refine r_istore_n (L' := [(2, .int (zi 0)), (0, .ref (zad E p)), (1, .int (zi a1))]) C dX4_findLowerOnes_1 rfl (by decide) rfl ?_
  refine r_iconst (v := 0) C dX4_findLowerOnes_2 (by decide) ?_
  refine r_istore_n (L' := [(3, .int (zi 0)), (2, .int (zi 0)), (0, .ref (zad E p)), (1, .int (zi a1))]) C dX4_findLowerOnes_3 rfl (by decide) rfl ?_
  refine r_L (L' := [(0, .ref (zad E p)), (1, .int (zi a1)), (2, .int (zi 0)), (3, .int (zi 0))]) [2, 3, 1, 0] rfl ?_
  refine r_loop1 (fun s1073 : Int × Int => IR s1073.1 ∧ IR s1073.2) (fun s1073 => S) (fun s1073 => O) (fun s1073 => [(0, .ref (zad E p)), (1, .int (zi a1)), (2, .int (zi s1073.1)), (3, .int (zi s1073.2))]) [] (fun r1115 : Int => IR r1115) (fun r1115 => S) (fun r1115 => O) (fun r1115 => [(2, .int (zi r1115))]) 115 (fun r1115 h1116 => ?_) (fun k1075 k1077 k1076 k1078 s1073 h1074 => ?_) ⟨(IRd rfl), (IRd rfl)⟩
  · refine r_iload_n (pc := 115) (j := 0) C dX4_findLowerOnes_115 rfl rfl ?_
    exact r_ireturn C hQ rfl dX4_findLowerOnes_116 (fun e => by cases e; exact ⟨h1116, rfl, rfl, rfl, rfl, rfl⟩)
  · refine r_iload_n (pc := 4) (j := 3) C dX4_findLowerOnes_4 rfl rfl ?_
    refine r_aload_n (pc := 5) (j := 0) C dX4_findLowerOnes_5 rfl rfl ?_
    refine r_cV1 (pc := 6) (k := p) (As := []) (st := [.int (zi s1073.2)]) C (m_X4_count (p := p) hp rfl) cal_X4_count cl_X4 (gPl_k hp).1 (gPl_k hp).2.1 q_895 dX4_findLowerOnes_6 rfl rfl (Nat.le_of_ble_eq_true rfl) (Nat.le_of_ble_eq_true rfl) (Nat.le_of_ble_eq_true rfl) (Nat.le_of_ble_eq_true rfl) (Nat.le_of_ble_eq_true rfl) (fun h1079 => ?_)
    refine r_icmp_ge (tgt := 115) C h1074.2 h1079 dX4_findLowerOnes_9 (by decide) (fun c1080 => ?_) (fun c1080 => ?_)
    · refine r_bf c1080 ?_
      refine r_L (L' := [(2, .int (zi s1073.1))]) [2] rfl ?_
      exact k1078 s1073.1 h1074.1
    · refine r_bt c1080 ?_
      refine r_aload_n (pc := 12) (j := 0) C dX4_findLowerOnes_12 rfl rfl ?_
      refine r_getR (j := 0) (r := (p + 1)) C cl_X4 (gPl_k hp).1 (gPl_k hp).2.1 (by decide) rfl (hp.2.2 (0, 0, 1) (by decide)) (by omega) q_221 dX4_findLowerOnes_13 ?_
      refine r_iload_n (pc := 16) (j := 1) C dX4_findLowerOnes_16 rfl rfl ?_
      refine r_cV1 (pc := 17) (k := (p + 1)) (As := [.int (zi a1)]) (st := []) C (m_X6_at (p := (p + 1)) (a1 := a1) (gPl_w hp (i := 0) (by decide)) ha1 rfl) cal_X6_at cl_X6 (gRw_k (gPl_w hp (i := 0) (by decide))).1 (gRw_k (gPl_w hp (i := 0) (by decide))).2.1 q_900 dX4_findLowerOnes_17 rfl rfl (Nat.le_of_ble_eq_true rfl) (Nat.le_of_ble_eq_true rfl) (Nat.le_of_ble_eq_true rfl) (Nat.le_of_ble_eq_true rfl) (Nat.le_of_ble_eq_true rfl) (fun h1081 => ?_)
      refine r_aload_n (pc := 20) (j := 0) C dX4_findLowerOnes_20 rfl rfl ?_
      refine r_getR (j := 0) (r := (p + 1)) C cl_X4 (gPl_k hp).1 (gPl_k hp).2.1 (by decide) rfl (hp.2.2 (0, 0, 1) (by decide)) (by omega) q_221 dX4_findLowerOnes_21 ?_
      refine r_iload_n (pc := 24) (j := 3) C dX4_findLowerOnes_24 rfl rfl ?_
      refine r_cV1 (pc := 25) (k := (p + 1)) (As := [.int (zi s1073.2)]) (st := [.int (zi (f_X6_at (p + 1) a1 S))]) C (m_X6_at (p := (p + 1)) (a1 := s1073.2) (gPl_w hp (i := 0) (by decide)) h1074.2 rfl) cal_X6_at cl_X6 (gRw_k (gPl_w hp (i := 0) (by decide))).1 (gRw_k (gPl_w hp (i := 0) (by decide))).2.1 q_900 dX4_findLowerOnes_25 rfl rfl (Nat.le_of_ble_eq_true rfl) (Nat.le_of_ble_eq_true rfl) (Nat.le_of_ble_eq_true rfl) (Nat.le_of_ble_eq_true rfl) (Nat.le_of_ble_eq_true rfl) (fun h1082 => ?_)
      refine r_cS1 (pc := 28) (As := [.int (zi (f_X6_at (p + 1) a1 S)), .int (zi (f_X6_at (p + 1) s1073.2 S))]) (st := []) C (m_J9_max_7cf53 (a0 := f_X6_at (p + 1) a1 S) (a1 := f_X6_at (p + 1) s1073.2 S) h1081 h1082 rfl) cal_J9_max_7cf53 q_901 dX4_findLowerOnes_28 rfl rfl (Nat.le_of_ble_eq_true rfl) (Nat.le_of_ble_eq_true rfl) (Nat.le_of_ble_eq_true rfl) (Nat.le_of_ble_eq_true rfl) (Nat.le_of_ble_eq_true rfl) (fun h1083 => ?_)
      refine r_bj ?_
      refine r_jv h1083 (fun v1084 h1085 => ?_)
      refine r_istore (L' := [(4, .int (zi v1084)), (0, .ref (zad E p)), (1, .int (zi a1)), (2, .int (zi s1073.1)), (3, .int (zi s1073.2))]) C dX4_findLowerOnes_31 (by decide) rfl ?_
      refine r_iload_n (pc := 33) (j := 4) C dX4_findLowerOnes_33 rfl rfl ?_
      refine r_iload_n (pc := 34) (j := 2) C dX4_findLowerOnes_34 rfl rfl ?_
      refine r_bj ?_
      refine r_join (fun q1088 : Int => IR q1088) (fun q1088 => S) (fun q1088 => O) (fun q1088 => [(0, .ref (zad E p)), (1, .int (zi a1)), (2, .int (zi q1088)), (3, .int (zi s1073.2))]) 109 (fun q1088 => []) (fun q1088 h1089 => ?_) (fun k1090 k1091 => ?_)
      · refine r_iinc (j := 3) (L' := [(3, .int (zi (wr (s1073.2 + 1)))), (0, .ref (zad E p)), (1, .int (zi a1)), (2, .int (zi q1088))]) C dX4_findLowerOnes_109 rfl (by decide) rfl ?_
        refine r_goto (tgt := 4) C dX4_findLowerOnes_112 (by decide) ?_
        refine r_L (L' := [(0, .ref (zad E p)), (1, .int (zi a1)), (2, .int (zi q1088)), (3, .int (zi (wr (s1073.2 + 1))))]) [1, 2, 3, 0] rfl ?_
        exact k1076 (q1088, wr (s1073.2 + 1)) ⟨h1089, (IR_wr _)⟩
      · refine r_cut ((s1073.2 = a1 ∨ f_X4_isOver p a1 v1084 S = 0) ∨ f_X4_isOver p s1073.2 v1084 S = 0) 109 58 [] (fun c1092 => ?_) (fun c1092 => ?_) (fun k1093 k1094 => ?_)
        · refine r_jt c1092 ?_
          refine r_L (L' := [(0, .ref (zad E p)), (1, .int (zi a1)), (2, .int (zi s1073.1)), (3, .int (zi s1073.2))]) [1, 2, 3, 4] rfl ?_
          exact k1091 s1073.1 h1074.1
        · refine r_jf c1092 ?_
          refine r_aload_n (pc := 58) (j := 1) C dX4_findLowerOnes_58 rfl rfl ?_
          refine r_iload_n (pc := 59) (j := 2) C dX4_findLowerOnes_59 rfl rfl ?_
          refine r_iload_n (pc := 60) (j := 4) C dX4_findLowerOnes_60 rfl rfl ?_
          refine r_iload (pc := 61) (j := 0) C dX4_findLowerOnes_61 rfl ?_
          refine r_cV1 (pc := 63) (k := p) (As := [.int (zi a1), .int (zi s1073.2), .int (zi v1084)]) (st := []) C (m_X4_comparedAt (p := p) (a1 := a1) (a2 := s1073.2) (a3 := v1084) hp ha1 h1074.2 h1085 rfl) cal_X4_comparedAt cl_X4 (gPl_k hp).1 (gPl_k hp).2.1 q_903 dX4_findLowerOnes_63 rfl rfl (Nat.le_of_ble_eq_true rfl) (Nat.le_of_ble_eq_true rfl) (Nat.le_of_ble_eq_true rfl) (Nat.le_of_ble_eq_true rfl) (Nat.le_of_ble_eq_true rfl) (fun h1095 => ?_)
          refine r_jj ?_
          refine r_jv h1095 (fun v1096 h1097 => ?_)
          refine r_istore (L' := [(5, .int (zi v1096)), (4, .int (zi v1084)), (0, .ref (zad E p)), (1, .int (zi a1)), (2, .int (zi s1073.1)), (3, .int (zi s1073.2))]) C dX4_findLowerOnes_66 (by decide) rfl ?_
          refine r_iload (pc := 68) (j := 0) C dX4_findLowerOnes_68 rfl ?_
          refine r_jj ?_
          refine r_join (fun q1098 : Int => BR q1098) (fun q1098 => S) (fun q1098 => O) (fun q1098 => [(0, .ref (zad E p)), (1, .int (zi a1)), (2, .int (zi s1073.1)), (3, .int (zi s1073.2))]) 92 (fun q1098 => [.int (zi q1098)]) (fun q1098 h1099 => ?_) (fun k1100 k1101 => ?_)
          · refine r_istore (L' := [(6, .int (zi q1098)), (0, .ref (zad E p)), (1, .int (zi a1)), (2, .int (zi s1073.1)), (3, .int (zi s1073.2))]) C dX4_findLowerOnes_92 (by decide) rfl ?_
            refine r_iload_n (pc := 94) (j := 3) C dX4_findLowerOnes_94 rfl rfl ?_
            refine r_iload (pc := 95) (j := 0) C dX4_findLowerOnes_95 rfl ?_
            refine r_jj ?_
            refine r_join (fun q1105 : Int => IR q1105) (fun q1105 => S) (fun q1105 => O) (fun q1105 => [(0, .ref (zad E p)), (1, .int (zi a1)), (3, .int (zi s1073.2))]) 107 (fun q1105 => [.int (zi q1105), .int (zi s1073.1)]) (fun q1105 h1106 => ?_) (fun k1107 k1108 => ?_)
            · refine r_ior C dX4_findLowerOnes_107 ?_
              refine r_jj ?_
              refine r_jv (i32_IR _) (fun v1110 h1111 => ?_)
              refine r_istore_n (L' := [(2, .int (zi v1110)), (0, .ref (zad E p)), (1, .int (zi a1)), (3, .int (zi s1073.2))]) C dX4_findLowerOnes_108 rfl (by decide) rfl ?_
              refine r_L (L' := [(0, .ref (zad E p)), (1, .int (zi a1)), (2, .int (zi v1110)), (3, .int (zi s1073.2))]) [1, 2, 0, 3] rfl ?_
              exact k1091 v1110 h1111
            · refine r_if_eq (tgt := 106) C h1099.ir dX4_findLowerOnes_97 (by decide) (fun c1109 => ?_) (fun c1109 => ?_)
              · refine r_jt c1109 ?_
                refine r_iconst (v := 0) C dX4_findLowerOnes_106 (by decide) ?_
                refine r_L (L' := [(0, .ref (zad E p)), (1, .int (zi a1)), (3, .int (zi s1073.2))]) [1, 2, 4] rfl ?_
                exact k1108 0 (IRd rfl)
              · refine r_jf c1109 ?_
                refine r_iconst (v := 1) C dX4_findLowerOnes_100 (by decide) ?_
                refine r_iload_n (pc := 101) (j := 4) C dX4_findLowerOnes_101 rfl rfl ?_
                refine r_ishl C dX4_findLowerOnes_102 ?_
                refine r_goto (tgt := 107) C dX4_findLowerOnes_103 (by decide) ?_
                refine r_L (L' := [(0, .ref (zad E p)), (1, .int (zi a1)), (3, .int (zi s1073.2))]) [1, 2, 4] rfl ?_
                exact k1108 (zshl 1 s1073.2) (i32_IR _)
          · refine r_if_ne (tgt := 82) C h1097 dX4_findLowerOnes_70 (by decide) (fun c1102 => ?_) (fun c1102 => ?_)
            · refine r_jf c1102 ?_
              refine r_iload (pc := 82) (j := 0) C dX4_findLowerOnes_82 rfl ?_
              refine r_if_le (tgt := 91) C h1097 dX4_findLowerOnes_84 (by decide) (fun c1104 => ?_) (fun c1104 => ?_)
              · refine r_jf c1104 ?_
                refine r_iconst (v := 0) C dX4_findLowerOnes_91 (by decide) ?_
                refine r_L (L' := [(0, .ref (zad E p)), (1, .int (zi a1)), (2, .int (zi s1073.1)), (3, .int (zi s1073.2))]) [2, 3, 4, 5] rfl ?_
                exact k1101 0 (BRd rfl)
              · refine r_jt c1104 ?_
                refine r_iconst (v := 1) C dX4_findLowerOnes_87 (by decide) ?_
                refine r_goto (tgt := 92) C dX4_findLowerOnes_88 (by decide) ?_
                refine r_L (L' := [(0, .ref (zad E p)), (1, .int (zi a1)), (2, .int (zi s1073.1)), (3, .int (zi s1073.2))]) [2, 3, 4, 5] rfl ?_
                exact k1101 1 (BRd rfl)
            · refine r_jt c1102 ?_
              refine r_aload_n (pc := 73) (j := 2) C dX4_findLowerOnes_73 rfl rfl ?_
              refine r_iload_n (pc := 74) (j := 3) C dX4_findLowerOnes_74 rfl rfl ?_
              refine r_iload_n (pc := 75) (j := 5) C dX4_findLowerOnes_75 rfl rfl ?_
              refine r_cV1 (pc := 76) (k := p) (As := [.int (zi a1), .int (zi s1073.2)]) (st := []) C (m_X4_isSteeper (p := p) (a1 := a1) (a2 := s1073.2) hp ha1 h1074.2 rfl) cal_X4_isSteeper cl_X4 (gPl_k hp).1 (gPl_k hp).2.1 q_997 dX4_findLowerOnes_76 rfl rfl (Nat.le_of_ble_eq_true rfl) (Nat.le_of_ble_eq_true rfl) (Nat.le_of_ble_eq_true rfl) (Nat.le_of_ble_eq_true rfl) (Nat.le_of_ble_eq_true rfl) (fun h1103 => ?_)
              refine r_goto (tgt := 92) C dX4_findLowerOnes_79 (by decide) ?_
              refine r_L (L' := [(0, .ref (zad E p)), (1, .int (zi a1)), (2, .int (zi s1073.1)), (3, .int (zi s1073.2))]) [2, 3, 4, 5] rfl ?_
              exact k1101 (f_X4_isSteeper p a1 s1073.2 S) h1103
        · refine r_icmp_eq (tgt := 109) C h1074.2 ha1 dX4_findLowerOnes_35 (by decide) (fun c1112 => ?_) (fun c1112 => ?_)
          · exact k1093 (Or.inl (Or.inl c1112))
          · refine r_aload_n (pc := 38) (j := 1) C dX4_findLowerOnes_38 rfl rfl ?_
            refine r_iload_n (pc := 39) (j := 2) C dX4_findLowerOnes_39 rfl rfl ?_
            refine r_iload (pc := 40) (j := 0) C dX4_findLowerOnes_40 rfl ?_
            refine r_cV1 (pc := 42) (k := p) (As := [.int (zi a1), .int (zi v1084)]) (st := []) C (m_X4_isOver (p := p) (a1 := a1) (a2 := v1084) hp ha1 h1085 rfl) cal_X4_isOver cl_X4 (gPl_k hp).1 (gPl_k hp).2.1 q_989 dX4_findLowerOnes_42 rfl rfl (Nat.le_of_ble_eq_true rfl) (Nat.le_of_ble_eq_true rfl) (Nat.le_of_ble_eq_true rfl) (Nat.le_of_ble_eq_true rfl) (Nat.le_of_ble_eq_true rfl) (fun h1086 => ?_)
            refine r_if_eq (tgt := 109) C h1086.ir dX4_findLowerOnes_45 (by decide) (fun c1113 => ?_) (fun c1113 => ?_)
            · exact k1093 (Or.inl (Or.inr c1113))
            · refine r_aload_n (pc := 48) (j := 1) C dX4_findLowerOnes_48 rfl rfl ?_
              refine r_iload_n (pc := 49) (j := 4) C dX4_findLowerOnes_49 rfl rfl ?_
              refine r_iload (pc := 50) (j := 0) C dX4_findLowerOnes_50 rfl ?_
              refine r_cV1 (pc := 52) (k := p) (As := [.int (zi s1073.2), .int (zi v1084)]) (st := []) C (m_X4_isOver (p := p) (a1 := s1073.2) (a2 := v1084) hp h1074.2 h1085 rfl) cal_X4_isOver cl_X4 (gPl_k hp).1 (gPl_k hp).2.1 q_989 dX4_findLowerOnes_52 rfl rfl (Nat.le_of_ble_eq_true rfl) (Nat.le_of_ble_eq_true rfl) (Nat.le_of_ble_eq_true rfl) (Nat.le_of_ble_eq_true rfl) (Nat.le_of_ble_eq_true rfl) (fun h1087 => ?_)
              refine r_if_eq (tgt := 109) C h1087.ir dX4_findLowerOnes_55 (by decide) (fun c1114 => ?_) (fun c1114 => ?_)
              · exact k1093 (Or.inr c1114)
              · exact k1094 (fun w => w.elim (fun w => w.elim c1112 c1113) c1114)

def f_X4_isEvent (p : Nat) (a1 : Int) (S : Sst) : Option (Int) :=
  Option.bind (lp (fun (s1134 : Int) =>
    if s1134 < f_X4_count p S then
      (if (f_X6_at (p + 1) s1134 S = a1 ∨ f_X6_at (p + 5) s1134 S = a1) then
        (some (Sum.inr (Sum.inl ())))
      else
        (some (Sum.inl (wr (s1134 + 1)))))
    else
      (some (Sum.inr (Sum.inr ())))) FU 0) fun z1155 => Sum.elim (fun (r1151 : Unit) =>
    some 1) (fun (r1153 : Unit) =>
    some 0) z1155
set_option maxRecDepth 100000 in
set_option maxHeartbeats 4000000 in
theorem m_X4_isEvent {l : Launch} {E : EwT} {S : Sst} {O : Smo} {p : Nat} (hp : gPl n0 R0 p) {a1 : Int} (ha1 : IR a1) {q : Int} (hq : f_X4_isEvent p a1 S = some q) : MetG l E yX4_isEvent cX4_isEvent 3 (some .boolean) 2 40 0 0 n0 R0 S O [.ref (zad E p), .int (zi a1)] (BR q) (some (.int (zi q))) n0 R0 S O := by
  refine ofG (L0 := [(0, .ref (zad E p)), (1, .int (zi a1))]) hq (by decide +kernel) (Nat.le_of_ble_eq_true rfl) rfl (fun K _ C hQ => ?_)
  unfold f_X4_isEvent
  refine r_iconst (v := 0) C dX4_isEvent_0 (by decide) ?_
  refine r_istore_n (L' := [(2, .int (zi 0)), (0, .ref (zad E p)), (1, .int (zi a1))]) C dX4_isEvent_1 rfl (by decide) rfl ?_
  refine r_L (L' := [(0, .ref (zad E p)), (1, .int (zi a1)), (2, .int (zi 0))]) [1, 2, 0] rfl ?_
  refine r_loop2 (fun s1134 : Int => IR s1134) (fun s1134 => S) (fun s1134 => O) (fun s1134 => [(0, .ref (zad E p)), (1, .int (zi a1)), (2, .int (zi s1134))]) [] (fun r1151 : Unit => True) (fun r1151 => S) (fun r1151 => O) (fun r1151 => []) 34 (fun r1151 h1152 => ?_) (fun r1153 : Unit => True) (fun r1153 => S) (fun r1153 => O) (fun r1153 => []) 42 (fun r1153 h1154 => ?_) (fun k1136 k1138 k1140 k1137 k1139 k1141 s1134 h1135 => ?_) (IRd rfl)
  · refine r_iconst (v := 1) C dX4_isEvent_34 (by decide) ?_
    exact r_ireturn C hQ (nar_z (BRd rfl)) dX4_isEvent_35 (fun e => by cases e; exact ⟨(BRd rfl), rfl, rfl, rfl, rfl, rfl⟩)
  · refine r_iconst (v := 0) C dX4_isEvent_42 (by decide) ?_
    exact r_ireturn C hQ (nar_z (BRd rfl)) dX4_isEvent_43 (fun e => by cases e; exact ⟨(BRd rfl), rfl, rfl, rfl, rfl, rfl⟩)
  · refine r_iload_n (pc := 2) (j := 2) C dX4_isEvent_2 rfl rfl ?_
    refine r_aload_n (pc := 3) (j := 0) C dX4_isEvent_3 rfl rfl ?_
    refine r_cV1 (pc := 4) (k := p) (As := []) (st := [.int (zi s1134)]) C (m_X4_count (p := p) hp rfl) cal_X4_count cl_X4 (gPl_k hp).1 (gPl_k hp).2.1 q_895 dX4_isEvent_4 rfl rfl (Nat.le_of_ble_eq_true rfl) (Nat.le_of_ble_eq_true rfl) (Nat.le_of_ble_eq_true rfl) (Nat.le_of_ble_eq_true rfl) (Nat.le_of_ble_eq_true rfl) (fun h1142 => ?_)
    refine r_icmp_ge (tgt := 42) C h1135 h1142 dX4_isEvent_7 (by decide) (fun c1143 => ?_) (fun c1143 => ?_)
    · refine r_bf c1143 ?_
      refine r_L (L' := []) [] rfl ?_
      exact k1141 () trivial
    · refine r_bt c1143 ?_
      refine r_aload_n (pc := 10) (j := 0) C dX4_isEvent_10 rfl rfl ?_
      refine r_getR (j := 0) (r := (p + 1)) C cl_X4 (gPl_k hp).1 (gPl_k hp).2.1 (by decide) rfl (hp.2.2 (0, 0, 1) (by decide)) (by omega) q_221 dX4_isEvent_11 ?_
      refine r_iload_n (pc := 14) (j := 2) C dX4_isEvent_14 rfl rfl ?_
      refine r_cV1 (pc := 15) (k := (p + 1)) (As := [.int (zi s1134)]) (st := []) C (m_X6_at (p := (p + 1)) (a1 := s1134) (gPl_w hp (i := 0) (by decide)) h1135 rfl) cal_X6_at cl_X6 (gRw_k (gPl_w hp (i := 0) (by decide))).1 (gRw_k (gPl_w hp (i := 0) (by decide))).2.1 q_900 dX4_isEvent_15 rfl rfl (Nat.le_of_ble_eq_true rfl) (Nat.le_of_ble_eq_true rfl) (Nat.le_of_ble_eq_true rfl) (Nat.le_of_ble_eq_true rfl) (Nat.le_of_ble_eq_true rfl) (fun h1144 => ?_)
      refine r_iload_n (pc := 18) (j := 1) C dX4_isEvent_18 rfl rfl ?_
      refine r_cut (f_X6_at (p + 1) s1134 S = a1 ∨ f_X6_at (p + 5) s1134 S = a1) 34 36 [] (fun c1146 => ?_) (fun c1146 => ?_) (fun k1147 k1148 => ?_)
      · refine r_bt c1146 ?_
        refine r_L (L' := []) [] rfl ?_
        exact k1139 () trivial
      · refine r_bf c1146 ?_
        refine r_iinc (j := 2) (L' := [(2, .int (zi (wr (s1134 + 1)))), (0, .ref (zad E p)), (1, .int (zi a1))]) C dX4_isEvent_36 rfl (by decide) rfl ?_
        refine r_goto (tgt := 2) C dX4_isEvent_39 (by decide) ?_
        refine r_L (L' := [(0, .ref (zad E p)), (1, .int (zi a1)), (2, .int (zi (wr (s1134 + 1))))]) [1, 2, 0] rfl ?_
        exact k1137 (wr (s1134 + 1)) (IR_wr _)
      · refine r_icmp_eq (tgt := 34) C h1144 ha1 dX4_isEvent_19 (by decide) (fun c1149 => ?_) (fun c1149 => ?_)
        · exact k1147 (Or.inl c1149)
        · refine r_aload_n (pc := 22) (j := 0) C dX4_isEvent_22 rfl rfl ?_
          refine r_getR (j := 2) (r := (p + 5)) C cl_X4 (gPl_k hp).1 (gPl_k hp).2.1 (by decide) rfl (hp.2.2 (0, 2, 5) (by decide)) (by omega) q_225 dX4_isEvent_23 ?_
          refine r_iload_n (pc := 26) (j := 2) C dX4_isEvent_26 rfl rfl ?_
          refine r_cV1 (pc := 27) (k := (p + 5)) (As := [.int (zi s1134)]) (st := []) C (m_X6_at (p := (p + 5)) (a1 := s1134) (gPl_w hp (i := 2) (by decide)) h1135 rfl) cal_X6_at cl_X6 (gRw_k (gPl_w hp (i := 2) (by decide))).1 (gRw_k (gPl_w hp (i := 2) (by decide))).2.1 q_900 dX4_isEvent_27 rfl rfl (Nat.le_of_ble_eq_true rfl) (Nat.le_of_ble_eq_true rfl) (Nat.le_of_ble_eq_true rfl) (Nat.le_of_ble_eq_true rfl) (Nat.le_of_ble_eq_true rfl) (fun h1145 => ?_)
          refine r_iload_n (pc := 30) (j := 1) C dX4_isEvent_30 rfl rfl ?_
          refine r_icmp_ne (tgt := 36) C h1145 ha1 dX4_isEvent_31 (by decide) (fun c1150 => ?_) (fun c1150 => ?_)
          · exact k1148 (fun w => w.elim c1149 c1150)
          · exact k1147 (Or.inr c1150)

def f_X4_settle (p : Nat) (S : Sst) : Option (Sst) :=
  jn (upS S p 10 (S.2 (p + 19) 0)) fun (S1215 : Sst) =>
  Option.bind (f_X4_weigh p S1215) fun (q1217 : Sst) =>
  Option.bind (lp (fun (s1219 : Int × Sst) =>
    if s1219.1 < f_X4_count p s1219.2 then
      (Option.bind (f_X4_findLowerOnes p s1219.1 s1219.2) fun (q1228 : Int) =>
      jn (f_X6_add (p + 13) q1228 s1219.2) fun (q1231 : Sst) =>
      some (Sum.inl (wr (s1219.1 + 1), q1231)))
    else
      (some (Sum.inr s1219.2))) FU (0, q1217)) fun (r1233 : Sst) =>
  Option.bind (lp (fun (s1235 : Int × Sst) =>
    if 60 < s1235.1 then
      (some (Sum.inr s1235.2))
    else
      (Option.bind (f_X4_isEvent p s1235.1 s1235.2) fun (q1243 : Int) =>
      jn (
        if q1243 = 0 then
          (s1235.2)
        else
          (jn (f_X6_add (p + 17) s1235.1 s1235.2) fun (q1251 : Sst) =>
          q1251)) fun (q1245 : Sst) =>
      some (Sum.inl (wr (s1235.1 + 1), q1245)))) FU (0, r1233)) fun (r1253 : Sst) =>
  some r1253
set_option maxRecDepth 100000 in
set_option maxHeartbeats 4000000 in
theorem m_X4_settle {l : Launch} {E : EwT} {S : Sst} {O : Smo} {p : Nat} (hp : gPl n0 R0 p) {q : Sst} (hq : f_X4_settle p S = some q) : MetG l E yX4_settle cX4_settle 2 none 5 115 0 0 n0 R0 S O [.ref (zad E p)] (True) none n0 R0 q O := by
  refine ofG (L0 := [(0, .ref (zad E p))]) hq (by decide +kernel) (Nat.le_of_ble_eq_true rfl) rfl (fun K _ C hQ => ?_)
  unfold f_X4_settle
  refine r_aload_n (pc := 0) (j := 0) C dX4_settle_0 rfl rfl ?_
  refine r_aload_n (pc := 1) (j := 0) C dX4_settle_1 rfl rfl ?_
  refine r_getR (j := 9) (r := (p + 19)) C cl_X4 (gPl_k hp).1 (gPl_k hp).2.1 (by decide) rfl (hp.2.2 (0, 9, 19) (by decide)) (by omega) q_241 dX4_settle_2 ?_
  refine r_getS (j := 0) C cl_X1 (gFm_k (gPl_f hp)).1 (gFm_k (gPl_f hp)).2.1 (gFm_k (gPl_f hp)).2.2 (by decide) (by decide) rfl q_190 dX4_settle_5 (fun h1214 => ?_)
  refine r_putS C cl_X4 (gPl_k hp).1 (gPl_k hp).2.1 (gPl_k hp).2.2 (by decide) (by decide) rfl rfl rfl h1214 q_243 dX4_settle_8 (fun S1215 => ?_)
  refine r_aload_n (pc := 11) (j := 0) C dX4_settle_11 rfl rfl ?_
  refine r_bd (fun q1217 e1218 => ?_)
  refine r_cV0 (pc := 12) (k := p) (As := []) (st := []) C (m_X4_weigh (p := p) hp e1218) cal_X4_weigh cl_X4 (gPl_k hp).1 (gPl_k hp).2.1 q_966 dX4_settle_12 rfl rfl (Nat.le_of_ble_eq_true rfl) (Nat.le_of_ble_eq_true rfl) (Nat.le_of_ble_eq_true rfl) (Nat.le_of_ble_eq_true rfl) (Nat.le_of_ble_eq_true rfl) (fun h1216 => ?_)
  refine r_iconst (v := 0) C dX4_settle_15 (by decide) ?_
  refine r_istore_n (L' := [(1, .int (zi 0)), (0, .ref (zad E p))]) C dX4_settle_16 rfl (by decide) rfl ?_
  refine r_L (L' := [(0, .ref (zad E p)), (1, .int (zi 0))]) [1, 0] rfl ?_
  refine r_loop1 (fun s1219 : Int × Sst => IR s1219.1) (fun s1219 => s1219.2) (fun s1219 => O) (fun s1219 => [(0, .ref (zad E p)), (1, .int (zi s1219.1))]) [] (fun r1233 : Sst => True) (fun r1233 => r1233) (fun r1233 => O) (fun r1233 => [(0, .ref (zad E p))]) 43 (fun r1233 h1234 => ?_) (fun k1221 k1223 k1222 k1224 s1219 h1220 => ?_) (IRd rfl)
  · refine r_iconst (v := 0) C dX4_settle_43 (by decide) ?_
    refine r_istore_n (L' := [(1, .int (zi 0)), (0, .ref (zad E p))]) C dX4_settle_44 rfl (by decide) rfl ?_
    refine r_L (L' := [(0, .ref (zad E p)), (1, .int (zi 0))]) [1, 0] rfl ?_
    refine r_loop1 (fun s1235 : Int × Sst => IR s1235.1) (fun s1235 => s1235.2) (fun s1235 => O) (fun s1235 => [(0, .ref (zad E p)), (1, .int (zi s1235.1))]) [] (fun r1253 : Sst => True) (fun r1253 => r1253) (fun r1253 => O) (fun r1253 => []) 73 (fun r1253 h1254 => ?_) (fun k1237 k1239 k1238 k1240 s1235 h1236 => ?_) (IRd rfl)
    · exact r_return C hQ dX4_settle_73 (fun e => by cases e; exact ⟨trivial, rfl, rfl, rfl, rfl, rfl⟩)
    · refine r_iload_n (pc := 45) (j := 1) C dX4_settle_45 rfl rfl ?_
      refine r_bipush (v := 60) C dX4_settle_46 (by decide) ?_
      refine r_icmp_gt (tgt := 73) C h1236 (IRd rfl) dX4_settle_48 (by decide) (fun c1241 => ?_) (fun c1241 => ?_)
      · refine r_bt c1241 ?_
        refine r_L (L' := []) [] rfl ?_
        exact k1240 s1235.2 trivial
      · refine r_bf c1241 ?_
        refine r_aload_n (pc := 51) (j := 0) C dX4_settle_51 rfl rfl ?_
        refine r_iload_n (pc := 52) (j := 1) C dX4_settle_52 rfl rfl ?_
        refine r_bb ?_
        refine r_bd (fun q1243 e1244 => ?_)
        refine r_cV1 (pc := 53) (k := p) (As := [.int (zi s1235.1)]) (st := []) C (m_X4_isEvent (p := p) (a1 := s1235.1) hp h1236 e1244) cal_X4_isEvent cl_X4 (gPl_k hp).1 (gPl_k hp).2.1 q_1001 dX4_settle_53 rfl rfl (Nat.le_of_ble_eq_true rfl) (Nat.le_of_ble_eq_true rfl) (Nat.le_of_ble_eq_true rfl) (Nat.le_of_ble_eq_true rfl) (Nat.le_of_ble_eq_true rfl) (fun h1242 => ?_)
        refine r_bj ?_
        refine r_join (fun q1245 : Sst => True) (fun q1245 => q1245) (fun q1245 => O) (fun q1245 => [(0, .ref (zad E p)), (1, .int (zi s1235.1))]) 67 (fun q1245 => []) (fun q1245 h1246 => ?_) (fun k1247 k1248 => ?_)
        · refine r_iinc (j := 1) (L' := [(1, .int (zi (wr (s1235.1 + 1)))), (0, .ref (zad E p))]) C dX4_settle_67 rfl (by decide) rfl ?_
          refine r_goto (tgt := 45) C dX4_settle_70 (by decide) ?_
          refine r_L (L' := [(0, .ref (zad E p)), (1, .int (zi (wr (s1235.1 + 1))))]) [1, 0] rfl ?_
          exact k1238 (wr (s1235.1 + 1), q1245) (IR_wr _)
        · refine r_if_eq (tgt := 67) C h1242.ir dX4_settle_56 (by decide) (fun c1249 => ?_) (fun c1249 => ?_)
          · refine r_jt c1249 ?_
            exact k1248 s1235.2 trivial
          · refine r_jf c1249 ?_
            refine r_aload_n (pc := 59) (j := 0) C dX4_settle_59 rfl rfl ?_
            refine r_getR (j := 8) (r := (p + 17)) C cl_X4 (gPl_k hp).1 (gPl_k hp).2.1 (by decide) rfl (hp.2.2 (0, 8, 17) (by decide)) (by omega) q_237 dX4_settle_60 ?_
            refine r_iload_n (pc := 63) (j := 1) C dX4_settle_63 rfl rfl ?_
            refine r_jj ?_
            refine r_jn (fun q1251 e1252 => ?_)
            refine r_cV0 (pc := 64) (k := (p + 17)) (As := [.int (zi s1235.1)]) (st := []) C (m_X6_add (p := (p + 17)) (a1 := s1235.1) (gPl_w hp (i := 8) (by decide)) h1236 e1252) cal_X6_add cl_X6 (gRw_k (gPl_w hp (i := 8) (by decide))).1 (gRw_k (gPl_w hp (i := 8) (by decide))).2.1 q_890 dX4_settle_64 rfl rfl (Nat.le_of_ble_eq_true rfl) (Nat.le_of_ble_eq_true rfl) (Nat.le_of_ble_eq_true rfl) (Nat.le_of_ble_eq_true rfl) (Nat.le_of_ble_eq_true rfl) (fun h1250 => ?_)
            exact k1248 q1251 trivial
  · refine r_iload_n (pc := 17) (j := 1) C dX4_settle_17 rfl rfl ?_
    refine r_aload_n (pc := 18) (j := 0) C dX4_settle_18 rfl rfl ?_
    refine r_cV1 (pc := 19) (k := p) (As := []) (st := [.int (zi s1219.1)]) C (m_X4_count (p := p) hp rfl) cal_X4_count cl_X4 (gPl_k hp).1 (gPl_k hp).2.1 q_895 dX4_settle_19 rfl rfl (Nat.le_of_ble_eq_true rfl) (Nat.le_of_ble_eq_true rfl) (Nat.le_of_ble_eq_true rfl) (Nat.le_of_ble_eq_true rfl) (Nat.le_of_ble_eq_true rfl) (fun h1225 => ?_)
    refine r_icmp_ge (tgt := 43) C h1220 h1225 dX4_settle_22 (by decide) (fun c1226 => ?_) (fun c1226 => ?_)
    · refine r_bf c1226 ?_
      refine r_L (L' := [(0, .ref (zad E p))]) [0] rfl ?_
      exact k1224 s1219.2 trivial
    · refine r_bt c1226 ?_
      refine r_aload_n (pc := 25) (j := 0) C dX4_settle_25 rfl rfl ?_
      refine r_getR (j := 6) (r := (p + 13)) C cl_X4 (gPl_k hp).1 (gPl_k hp).2.1 (by decide) rfl (hp.2.2 (0, 6, 13) (by decide)) (by omega) q_232 dX4_settle_26 ?_
      refine r_aload_n (pc := 29) (j := 0) C dX4_settle_29 rfl rfl ?_
      refine r_iload_n (pc := 30) (j := 1) C dX4_settle_30 rfl rfl ?_
      refine r_bb ?_
      refine r_bd (fun q1228 e1229 => ?_)
      refine r_cV1 (pc := 31) (k := p) (As := [.int (zi s1219.1)]) (st := [.ref (zad E (p + 13))]) C (m_X4_findLowerOnes (p := p) (a1 := s1219.1) hp h1220 e1229) cal_X4_findLowerOnes cl_X4 (gPl_k hp).1 (gPl_k hp).2.1 q_985 dX4_settle_31 rfl rfl (Nat.le_of_ble_eq_true rfl) (Nat.le_of_ble_eq_true rfl) (Nat.le_of_ble_eq_true rfl) (Nat.le_of_ble_eq_true rfl) (Nat.le_of_ble_eq_true rfl) (fun h1227 => ?_)
      refine r_bj ?_
      refine r_jn (fun q1231 e1232 => ?_)
      refine r_cV0 (pc := 34) (k := (p + 13)) (As := [.int (zi q1228)]) (st := []) C (m_X6_add (p := (p + 13)) (a1 := q1228) (gPl_w hp (i := 6) (by decide)) h1227 e1232) cal_X6_add cl_X6 (gRw_k (gPl_w hp (i := 6) (by decide))).1 (gRw_k (gPl_w hp (i := 6) (by decide))).2.1 q_890 dX4_settle_34 rfl rfl (Nat.le_of_ble_eq_true rfl) (Nat.le_of_ble_eq_true rfl) (Nat.le_of_ble_eq_true rfl) (Nat.le_of_ble_eq_true rfl) (Nat.le_of_ble_eq_true rfl) (fun h1230 => ?_)
      refine r_iinc (j := 1) (L' := [(1, .int (zi (wr (s1219.1 + 1)))), (0, .ref (zad E p))]) C dX4_settle_37 rfl (by decide) rfl ?_
      refine r_goto (tgt := 17) C dX4_settle_40 (by decide) ?_
      refine r_L (L' := [(0, .ref (zad E p)), (1, .int (zi (wr (s1219.1 + 1))))]) [1, 0] rfl ?_
      exact k1222 (wr (s1219.1 + 1), q1231) (IR_wr _)

def f_X4_takeFrom (p : Nat) (o1 : Nat) (S : Sst) : Sst :=
  jn (f_X6_takeFrom (p + 1) (o1 + 1) S) fun (q1477 : Sst) =>
  jn (f_X6_takeFrom (p + 3) (o1 + 3) q1477) fun (q1480 : Sst) =>
  jn (f_X6_takeFrom (p + 5) (o1 + 5) q1480) fun (q1483 : Sst) =>
  jn (f_X6_takeFrom (p + 7) (o1 + 7) q1483) fun (q1486 : Sst) =>
  jn (f_X6_takeFrom (p + 9) (o1 + 9) q1486) fun (q1489 : Sst) =>
  jn (f_X6_takeFrom (p + 11) (o1 + 11) q1489) fun (q1492 : Sst) =>
  jn (f_X6_takeFrom (p + 13) (o1 + 13) q1492) fun (q1495 : Sst) =>
  jn (f_X6_takeFrom (p + 15) (o1 + 15) q1495) fun (q1498 : Sst) =>
  jn (f_X6_takeFrom (p + 17) (o1 + 17) q1498) fun (q1501 : Sst) =>
  jn (upS q1501 p 10 (q1501.2 o1 10)) fun (S1504 : Sst) =>
  jn (upS S1504 p 11 (S1504.2 o1 11)) fun (S1506 : Sst) =>
  S1506
set_option maxRecDepth 100000 in
set_option maxHeartbeats 4000000 in
theorem m_X4_takeFrom {l : Launch} {E : EwT} {S : Sst} {O : Smo} {p : Nat} (hp : gPl n0 R0 p) {o1 : Nat} (ho1 : gPl n0 R0 o1) {q : Sst} (hq : f_X4_takeFrom p o1 S = q) : MetG l E yX4_takeFrom cX4_takeFrom 2 none 2 43 0 0 n0 R0 S O [.ref (zad E p), .ref (zad E o1)] (True) none n0 R0 q O := by
  refine ofG (L0 := [(0, .ref (zad E p)), (1, .ref (zad E o1))]) hq (by decide +kernel) (Nat.le_of_ble_eq_true rfl) rfl (fun K _ C hQ => ?_)
  unfold f_X4_takeFrom
  refine r_aload_n (pc := 0) (j := 0) C dX4_takeFrom_0 rfl rfl ?_
  refine r_getR (j := 0) (r := (p + 1)) C cl_X4 (gPl_k hp).1 (gPl_k hp).2.1 (by decide) rfl (hp.2.2 (0, 0, 1) (by decide)) (by omega) q_221 dX4_takeFrom_1 ?_
  refine r_aload_n (pc := 4) (j := 1) C dX4_takeFrom_4 rfl rfl ?_
  refine r_getR (j := 0) (r := (o1 + 1)) C cl_X4 (gPl_k ho1).1 (gPl_k ho1).2.1 (by decide) rfl (ho1.2.2 (0, 0, 1) (by decide)) (by omega) q_221 dX4_takeFrom_5 ?_
  refine r_jn (fun q1477 e1478 => ?_)
  refine r_cV0 (pc := 8) (k := (p + 1)) (As := [.ref (zad E (o1 + 1))]) (st := []) C (m_X6_takeFrom (p := (p + 1)) (o1 := (o1 + 1)) (gPl_w hp (i := 0) (by decide)) (gPl_w ho1 (i := 0) (by decide)) e1478) cal_X6_takeFrom cl_X6 (gRw_k (gPl_w hp (i := 0) (by decide))).1 (gRw_k (gPl_w hp (i := 0) (by decide))).2.1 q_1011 dX4_takeFrom_8 rfl rfl (Nat.le_of_ble_eq_true rfl) (Nat.le_of_ble_eq_true rfl) (Nat.le_of_ble_eq_true rfl) (Nat.le_of_ble_eq_true rfl) (Nat.le_of_ble_eq_true rfl) (fun h1476 => ?_)
  refine r_aload_n (pc := 11) (j := 0) C dX4_takeFrom_11 rfl rfl ?_
  refine r_getR (j := 1) (r := (p + 3)) C cl_X4 (gPl_k hp).1 (gPl_k hp).2.1 (by decide) rfl (hp.2.2 (0, 1, 3) (by decide)) (by omega) q_223 dX4_takeFrom_12 ?_
  refine r_aload_n (pc := 15) (j := 1) C dX4_takeFrom_15 rfl rfl ?_
  refine r_getR (j := 1) (r := (o1 + 3)) C cl_X4 (gPl_k ho1).1 (gPl_k ho1).2.1 (by decide) rfl (ho1.2.2 (0, 1, 3) (by decide)) (by omega) q_223 dX4_takeFrom_16 ?_
  refine r_jn (fun q1480 e1481 => ?_)
  refine r_cV0 (pc := 19) (k := (p + 3)) (As := [.ref (zad E (o1 + 3))]) (st := []) C (m_X6_takeFrom (p := (p + 3)) (o1 := (o1 + 3)) (gPl_w hp (i := 1) (by decide)) (gPl_w ho1 (i := 1) (by decide)) e1481) cal_X6_takeFrom cl_X6 (gRw_k (gPl_w hp (i := 1) (by decide))).1 (gRw_k (gPl_w hp (i := 1) (by decide))).2.1 q_1011 dX4_takeFrom_19 rfl rfl (Nat.le_of_ble_eq_true rfl) (Nat.le_of_ble_eq_true rfl) (Nat.le_of_ble_eq_true rfl) (Nat.le_of_ble_eq_true rfl) (Nat.le_of_ble_eq_true rfl) (fun h1479 => ?_)
  refine r_aload_n (pc := 22) (j := 0) C dX4_takeFrom_22 rfl rfl ?_
  refine r_getR (j := 2) (r := (p + 5)) C cl_X4 (gPl_k hp).1 (gPl_k hp).2.1 (by decide) rfl (hp.2.2 (0, 2, 5) (by decide)) (by omega) q_225 dX4_takeFrom_23 ?_
  refine r_aload_n (pc := 26) (j := 1) C dX4_takeFrom_26 rfl rfl ?_
  refine r_getR (j := 2) (r := (o1 + 5)) C cl_X4 (gPl_k ho1).1 (gPl_k ho1).2.1 (by decide) rfl (ho1.2.2 (0, 2, 5) (by decide)) (by omega) q_225 dX4_takeFrom_27 ?_
  refine r_jn (fun q1483 e1484 => ?_)
  refine r_cV0 (pc := 30) (k := (p + 5)) (As := [.ref (zad E (o1 + 5))]) (st := []) C (m_X6_takeFrom (p := (p + 5)) (o1 := (o1 + 5)) (gPl_w hp (i := 2) (by decide)) (gPl_w ho1 (i := 2) (by decide)) e1484) cal_X6_takeFrom cl_X6 (gRw_k (gPl_w hp (i := 2) (by decide))).1 (gRw_k (gPl_w hp (i := 2) (by decide))).2.1 q_1011 dX4_takeFrom_30 rfl rfl (Nat.le_of_ble_eq_true rfl) (Nat.le_of_ble_eq_true rfl) (Nat.le_of_ble_eq_true rfl) (Nat.le_of_ble_eq_true rfl) (Nat.le_of_ble_eq_true rfl) (fun h1482 => ?_)
  refine r_aload_n (pc := 33) (j := 0) C dX4_takeFrom_33 rfl rfl ?_
  refine r_getR (j := 3) (r := (p + 7)) C cl_X4 (gPl_k hp).1 (gPl_k hp).2.1 (by decide) rfl (hp.2.2 (0, 3, 7) (by decide)) (by omega) q_227 dX4_takeFrom_34 ?_
  refine r_aload_n (pc := 37) (j := 1) C dX4_takeFrom_37 rfl rfl ?_
  refine r_getR (j := 3) (r := (o1 + 7)) C cl_X4 (gPl_k ho1).1 (gPl_k ho1).2.1 (by decide) rfl (ho1.2.2 (0, 3, 7) (by decide)) (by omega) q_227 dX4_takeFrom_38 ?_
  refine r_jn (fun q1486 e1487 => ?_)
  refine r_cV0 (pc := 41) (k := (p + 7)) (As := [.ref (zad E (o1 + 7))]) (st := []) C (m_X6_takeFrom (p := (p + 7)) (o1 := (o1 + 7)) (gPl_w hp (i := 3) (by decide)) (gPl_w ho1 (i := 3) (by decide)) e1487) cal_X6_takeFrom cl_X6 (gRw_k (gPl_w hp (i := 3) (by decide))).1 (gRw_k (gPl_w hp (i := 3) (by decide))).2.1 q_1011 dX4_takeFrom_41 rfl rfl (Nat.le_of_ble_eq_true rfl) (Nat.le_of_ble_eq_true rfl) (Nat.le_of_ble_eq_true rfl) (Nat.le_of_ble_eq_true rfl) (Nat.le_of_ble_eq_true rfl) (fun h1485 => ?_)
  refine r_aload_n (pc := 44) (j := 0) C dX4_takeFrom_44 rfl rfl ?_
  refine r_getR (j := 4) (r := (p + 9)) C cl_X4 (gPl_k hp).1 (gPl_k hp).2.1 (by decide) rfl (hp.2.2 (0, 4, 9) (by decide)) (by omega) q_229 dX4_takeFrom_45 ?_
  refine r_aload_n (pc := 48) (j := 1) C dX4_takeFrom_48 rfl rfl ?_
  refine r_getR (j := 4) (r := (o1 + 9)) C cl_X4 (gPl_k ho1).1 (gPl_k ho1).2.1 (by decide) rfl (ho1.2.2 (0, 4, 9) (by decide)) (by omega) q_229 dX4_takeFrom_49 ?_
  refine r_jn (fun q1489 e1490 => ?_)
  refine r_cV0 (pc := 52) (k := (p + 9)) (As := [.ref (zad E (o1 + 9))]) (st := []) C (m_X6_takeFrom (p := (p + 9)) (o1 := (o1 + 9)) (gPl_w hp (i := 4) (by decide)) (gPl_w ho1 (i := 4) (by decide)) e1490) cal_X6_takeFrom cl_X6 (gRw_k (gPl_w hp (i := 4) (by decide))).1 (gRw_k (gPl_w hp (i := 4) (by decide))).2.1 q_1011 dX4_takeFrom_52 rfl rfl (Nat.le_of_ble_eq_true rfl) (Nat.le_of_ble_eq_true rfl) (Nat.le_of_ble_eq_true rfl) (Nat.le_of_ble_eq_true rfl) (Nat.le_of_ble_eq_true rfl) (fun h1488 => ?_)
  refine r_aload_n (pc := 55) (j := 0) C dX4_takeFrom_55 rfl rfl ?_
  refine r_getR (j := 5) (r := (p + 11)) C cl_X4 (gPl_k hp).1 (gPl_k hp).2.1 (by decide) rfl (hp.2.2 (0, 5, 11) (by decide)) (by omega) q_231 dX4_takeFrom_56 ?_
  refine r_aload_n (pc := 59) (j := 1) C dX4_takeFrom_59 rfl rfl ?_
  refine r_getR (j := 5) (r := (o1 + 11)) C cl_X4 (gPl_k ho1).1 (gPl_k ho1).2.1 (by decide) rfl (ho1.2.2 (0, 5, 11) (by decide)) (by omega) q_231 dX4_takeFrom_60 ?_
  refine r_jn (fun q1492 e1493 => ?_)
  refine r_cV0 (pc := 63) (k := (p + 11)) (As := [.ref (zad E (o1 + 11))]) (st := []) C (m_X6_takeFrom (p := (p + 11)) (o1 := (o1 + 11)) (gPl_w hp (i := 5) (by decide)) (gPl_w ho1 (i := 5) (by decide)) e1493) cal_X6_takeFrom cl_X6 (gRw_k (gPl_w hp (i := 5) (by decide))).1 (gRw_k (gPl_w hp (i := 5) (by decide))).2.1 q_1011 dX4_takeFrom_63 rfl rfl (Nat.le_of_ble_eq_true rfl) (Nat.le_of_ble_eq_true rfl) (Nat.le_of_ble_eq_true rfl) (Nat.le_of_ble_eq_true rfl) (Nat.le_of_ble_eq_true rfl) (fun h1491 => ?_)
  refine r_aload_n (pc := 66) (j := 0) C dX4_takeFrom_66 rfl rfl ?_
  refine r_getR (j := 6) (r := (p + 13)) C cl_X4 (gPl_k hp).1 (gPl_k hp).2.1 (by decide) rfl (hp.2.2 (0, 6, 13) (by decide)) (by omega) q_232 dX4_takeFrom_67 ?_
  refine r_aload_n (pc := 70) (j := 1) C dX4_takeFrom_70 rfl rfl ?_
  refine r_getR (j := 6) (r := (o1 + 13)) C cl_X4 (gPl_k ho1).1 (gPl_k ho1).2.1 (by decide) rfl (ho1.2.2 (0, 6, 13) (by decide)) (by omega) q_232 dX4_takeFrom_71 ?_
  refine r_jn (fun q1495 e1496 => ?_)
  refine r_cV0 (pc := 74) (k := (p + 13)) (As := [.ref (zad E (o1 + 13))]) (st := []) C (m_X6_takeFrom (p := (p + 13)) (o1 := (o1 + 13)) (gPl_w hp (i := 6) (by decide)) (gPl_w ho1 (i := 6) (by decide)) e1496) cal_X6_takeFrom cl_X6 (gRw_k (gPl_w hp (i := 6) (by decide))).1 (gRw_k (gPl_w hp (i := 6) (by decide))).2.1 q_1011 dX4_takeFrom_74 rfl rfl (Nat.le_of_ble_eq_true rfl) (Nat.le_of_ble_eq_true rfl) (Nat.le_of_ble_eq_true rfl) (Nat.le_of_ble_eq_true rfl) (Nat.le_of_ble_eq_true rfl) (fun h1494 => ?_)
  refine r_aload_n (pc := 77) (j := 0) C dX4_takeFrom_77 rfl rfl ?_
  refine r_getR (j := 7) (r := (p + 15)) C cl_X4 (gPl_k hp).1 (gPl_k hp).2.1 (by decide) rfl (hp.2.2 (0, 7, 15) (by decide)) (by omega) q_234 dX4_takeFrom_78 ?_
  refine r_aload_n (pc := 81) (j := 1) C dX4_takeFrom_81 rfl rfl ?_
  refine r_getR (j := 7) (r := (o1 + 15)) C cl_X4 (gPl_k ho1).1 (gPl_k ho1).2.1 (by decide) rfl (ho1.2.2 (0, 7, 15) (by decide)) (by omega) q_234 dX4_takeFrom_82 ?_
  refine r_jn (fun q1498 e1499 => ?_)
  refine r_cV0 (pc := 85) (k := (p + 15)) (As := [.ref (zad E (o1 + 15))]) (st := []) C (m_X6_takeFrom (p := (p + 15)) (o1 := (o1 + 15)) (gPl_w hp (i := 7) (by decide)) (gPl_w ho1 (i := 7) (by decide)) e1499) cal_X6_takeFrom cl_X6 (gRw_k (gPl_w hp (i := 7) (by decide))).1 (gRw_k (gPl_w hp (i := 7) (by decide))).2.1 q_1011 dX4_takeFrom_85 rfl rfl (Nat.le_of_ble_eq_true rfl) (Nat.le_of_ble_eq_true rfl) (Nat.le_of_ble_eq_true rfl) (Nat.le_of_ble_eq_true rfl) (Nat.le_of_ble_eq_true rfl) (fun h1497 => ?_)
  refine r_aload_n (pc := 88) (j := 0) C dX4_takeFrom_88 rfl rfl ?_
  refine r_getR (j := 8) (r := (p + 17)) C cl_X4 (gPl_k hp).1 (gPl_k hp).2.1 (by decide) rfl (hp.2.2 (0, 8, 17) (by decide)) (by omega) q_237 dX4_takeFrom_89 ?_
  refine r_aload_n (pc := 92) (j := 1) C dX4_takeFrom_92 rfl rfl ?_
  refine r_getR (j := 8) (r := (o1 + 17)) C cl_X4 (gPl_k ho1).1 (gPl_k ho1).2.1 (by decide) rfl (ho1.2.2 (0, 8, 17) (by decide)) (by omega) q_237 dX4_takeFrom_93 ?_
  refine r_jn (fun q1501 e1502 => ?_)
  refine r_cV0 (pc := 96) (k := (p + 17)) (As := [.ref (zad E (o1 + 17))]) (st := []) C (m_X6_takeFrom (p := (p + 17)) (o1 := (o1 + 17)) (gPl_w hp (i := 8) (by decide)) (gPl_w ho1 (i := 8) (by decide)) e1502) cal_X6_takeFrom cl_X6 (gRw_k (gPl_w hp (i := 8) (by decide))).1 (gRw_k (gPl_w hp (i := 8) (by decide))).2.1 q_1011 dX4_takeFrom_96 rfl rfl (Nat.le_of_ble_eq_true rfl) (Nat.le_of_ble_eq_true rfl) (Nat.le_of_ble_eq_true rfl) (Nat.le_of_ble_eq_true rfl) (Nat.le_of_ble_eq_true rfl) (fun h1500 => ?_)
  refine r_aload_n (pc := 99) (j := 0) C dX4_takeFrom_99 rfl rfl ?_
  refine r_aload_n (pc := 100) (j := 1) C dX4_takeFrom_100 rfl rfl ?_
  refine r_getS (j := 10) C cl_X4 (gPl_k ho1).1 (gPl_k ho1).2.1 (gPl_k ho1).2.2 (by decide) (by decide) rfl q_243 dX4_takeFrom_101 (fun h1503 => ?_)
  refine r_putS C cl_X4 (gPl_k hp).1 (gPl_k hp).2.1 (gPl_k hp).2.2 (by decide) (by decide) rfl rfl rfl h1503 q_243 dX4_takeFrom_104 (fun S1504 => ?_)
  refine r_aload_n (pc := 107) (j := 0) C dX4_takeFrom_107 rfl rfl ?_
  refine r_aload_n (pc := 108) (j := 1) C dX4_takeFrom_108 rfl rfl ?_
  refine r_getS (j := 11) C cl_X4 (gPl_k ho1).1 (gPl_k ho1).2.1 (gPl_k ho1).2.2 (by decide) (by decide) rfl q_245 dX4_takeFrom_109 (fun h1505 => ?_)
  refine r_putS C cl_X4 (gPl_k hp).1 (gPl_k hp).2.1 (gPl_k hp).2.2 (by decide) (by decide) rfl rfl rfl h1505 q_245 dX4_takeFrom_112 (fun S1506 => ?_)
  exact r_return C hQ dX4_takeFrom_115 (fun e => by subst e; exact ⟨trivial, rfl, rfl, rfl, rfl, rfl⟩)

def f_X4_isHigher (p : Nat) (a1 : Int) (a2 : Int) (S : Sst) : Int :=
  if ((a2 < 0 ∨ ¬ a2 < 8) ∨ zand (zshr (f_X6_at (p + 13) a1 S) a2) 1 = 0) then
    (0)
  else
    (1)
set_option maxRecDepth 100000 in
set_option maxHeartbeats 4000000 in
theorem m_X4_isHigher {l : Launch} {E : EwT} {S : Sst} {O : Smo} {p : Nat} (hp : gPl n0 R0 p) {a1 : Int} (ha1 : IR a1) {a2 : Int} (ha2 : IR a2) {q : Int} (hq : f_X4_isHigher p a1 a2 S = q) : MetG l E yX4_isHigher cX4_isHigher 3 (some .boolean) 1 21 0 0 n0 R0 S O [.ref (zad E p), .int (zi a1), .int (zi a2)] (BR q) (some (.int (zi q))) n0 R0 S O := by
  refine ofG (L0 := [(0, .ref (zad E p)), (1, .int (zi a1)), (2, .int (zi a2))]) hq (by decide +kernel) (Nat.le_of_ble_eq_true rfl) rfl (fun K _ C hQ => ?_)
  unfold f_X4_isHigher
  refine r_iload_n (pc := 0) (j := 2) C dX4_isHigher_0 rfl rfl ?_
  refine r_cut ((a2 < 0 ∨ ¬ a2 < 8) ∨ zand (zshr (f_X6_at (p + 13) a1 S) a2) 1 = 0) 29 25 [] (fun c1661 => ?_) (fun c1661 => ?_) (fun k1662 k1663 => ?_)
  · refine r_t c1661 ?_
    refine r_iconst (v := 0) C dX4_isHigher_29 (by decide) ?_
    exact r_ireturn C hQ (nar_z (BRd rfl)) dX4_isHigher_30 (fun e => by subst e; exact ⟨(BRd rfl), rfl, rfl, rfl, rfl, rfl⟩)
  · refine r_f c1661 ?_
    refine r_iconst (v := 1) C dX4_isHigher_25 (by decide) ?_
    refine r_goto (tgt := 30) C dX4_isHigher_26 (by decide) ?_
    exact r_ireturn C hQ (nar_z (BRd rfl)) dX4_isHigher_30 (fun e => by subst e; exact ⟨(BRd rfl), rfl, rfl, rfl, rfl, rfl⟩)
  · refine r_if_lt (tgt := 29) C ha2 dX4_isHigher_1 (by decide) (fun c1664 => ?_) (fun c1664 => ?_)
    · exact k1662 (Or.inl (Or.inl c1664))
    · refine r_iload_n (pc := 4) (j := 2) C dX4_isHigher_4 rfl rfl ?_
      refine r_bipush (v := 8) C dX4_isHigher_5 (by decide) ?_
      refine r_icmp_ge (tgt := 29) C ha2 (IRd rfl) dX4_isHigher_7 (by decide) (fun c1665 => ?_) (fun c1665 => ?_)
      · exact k1662 (Or.inl (Or.inr c1665))
      · refine r_aload_n (pc := 10) (j := 0) C dX4_isHigher_10 rfl rfl ?_
        refine r_getR (j := 6) (r := (p + 13)) C cl_X4 (gPl_k hp).1 (gPl_k hp).2.1 (by decide) rfl (hp.2.2 (0, 6, 13) (by decide)) (by omega) q_232 dX4_isHigher_11 ?_
        refine r_iload_n (pc := 14) (j := 1) C dX4_isHigher_14 rfl rfl ?_
        refine r_cV1 (pc := 15) (k := (p + 13)) (As := [.int (zi a1)]) (st := []) C (m_X6_at (p := (p + 13)) (a1 := a1) (gPl_w hp (i := 6) (by decide)) ha1 rfl) cal_X6_at cl_X6 (gRw_k (gPl_w hp (i := 6) (by decide))).1 (gRw_k (gPl_w hp (i := 6) (by decide))).2.1 q_900 dX4_isHigher_15 rfl rfl (Nat.le_of_ble_eq_true rfl) (Nat.le_of_ble_eq_true rfl) (Nat.le_of_ble_eq_true rfl) (Nat.le_of_ble_eq_true rfl) (Nat.le_of_ble_eq_true rfl) (fun h1660 => ?_)
        refine r_iload_n (pc := 18) (j := 2) C dX4_isHigher_18 rfl rfl ?_
        refine r_ishr C dX4_isHigher_19 ?_
        refine r_iconst (v := 1) C dX4_isHigher_20 (by decide) ?_
        refine r_iand C dX4_isHigher_21 ?_
        refine r_if_eq (tgt := 29) C (i32_IR _) dX4_isHigher_22 (by decide) (fun c1666 => ?_) (fun c1666 => ?_)
        · exact k1662 (Or.inr c1666)
        · exact k1663 (fun w => w.elim (fun w => w.elim c1664 (fun x => x c1665)) c1666)

def f_X4_inBehind (p : Nat) (a1 : Int) (a2 : Int) (S : Sst) : Option (Int) :=
  Option.bind (lp (fun (s1706 : Int × Int) =>
    if s1706.2 < f_X4_count p S then
      (jn (
        if f_X6_at (p + 1) s1706.2 S = a2 then
          (jn (zor s1706.1 (zshl 1 s1706.2)) fun (v1720 : Int) =>
          v1720)
        else
          (if f_X6_at (p + 5) s1706.2 S = a2 then
            (jn (zand s1706.1 (zxor (zshl 1 s1706.2) (-1))) fun (v1724 : Int) =>
            v1724)
          else
            (s1706.1))) fun (q1715 : Int) =>
      some (Sum.inl (q1715, wr (s1706.2 + 1))))
    else
      (some (Sum.inr s1706.1))) FU (a1, 0)) fun (r1726 : Int) =>
  some r1726
set_option maxRecDepth 100000 in
set_option maxHeartbeats 4000000 in
theorem m_X4_inBehind {l : Launch} {E : EwT} {S : Sst} {O : Smo} {p : Nat} (hp : gPl n0 R0 p) {a1 : Int} (ha1 : IR a1) {a2 : Int} (ha2 : IR a2) {q : Int} (hq : f_X4_inBehind p a1 a2 S = some q) : MetG l E yX4_inBehind cX4_inBehind 5 (some .int) 2 40 0 0 n0 R0 S O [.ref (zad E p), .int (zi a1), .int (zi a2)] (IR q) (some (.int (zi q))) n0 R0 S O := by
  refine ofG (L0 := [(0, .ref (zad E p)), (1, .int (zi a1)), (2, .int (zi a2))]) hq (by decide +kernel) (Nat.le_of_ble_eq_true rfl) rfl (fun K _ C hQ => ?_)
  unfold f_X4_inBehind
  refine r_iload_n (pc := 0) (j := 1) C dX4_inBehind_0 rfl rfl ?_
  refine r_istore_n (L' := [(3, .int (zi a1)), (0, .ref (zad E p)), (1, .int (zi a1)), (2, .int (zi a2))]) C dX4_inBehind_1 rfl (by decide) rfl ?_
  refine r_iconst (v := 0) C dX4_inBehind_2 (by decide) ?_
  refine r_istore (L' := [(4, .int (zi 0)), (3, .int (zi a1)), (0, .ref (zad E p)), (1, .int (zi a1)), (2, .int (zi a2))]) C dX4_inBehind_3 (by decide) rfl ?_
  refine r_L (L' := [(0, .ref (zad E p)), (2, .int (zi a2)), (3, .int (zi a1)), (4, .int (zi 0))]) [2, 4, 1, 0] rfl ?_
  refine r_loop1 (fun s1706 : Int × Int => IR s1706.1 ∧ IR s1706.2) (fun s1706 => S) (fun s1706 => O) (fun s1706 => [(0, .ref (zad E p)), (2, .int (zi a2)), (3, .int (zi s1706.1)), (4, .int (zi s1706.2))]) [] (fun r1726 : Int => IR r1726) (fun r1726 => S) (fun r1726 => O) (fun r1726 => [(3, .int (zi r1726))]) 65 (fun r1726 h1727 => ?_) (fun k1708 k1710 k1709 k1711 s1706 h1707 => ?_) ⟨ha1, (IRd rfl)⟩
  · refine r_iload_n (pc := 65) (j := 0) C dX4_inBehind_65 rfl rfl ?_
    exact r_ireturn C hQ rfl dX4_inBehind_66 (fun e => by cases e; exact ⟨h1727, rfl, rfl, rfl, rfl, rfl⟩)
  · refine r_iload (pc := 5) (j := 3) C dX4_inBehind_5 rfl ?_
    refine r_aload_n (pc := 7) (j := 0) C dX4_inBehind_7 rfl rfl ?_
    refine r_cV1 (pc := 8) (k := p) (As := []) (st := [.int (zi s1706.2)]) C (m_X4_count (p := p) hp rfl) cal_X4_count cl_X4 (gPl_k hp).1 (gPl_k hp).2.1 q_895 dX4_inBehind_8 rfl rfl (Nat.le_of_ble_eq_true rfl) (Nat.le_of_ble_eq_true rfl) (Nat.le_of_ble_eq_true rfl) (Nat.le_of_ble_eq_true rfl) (Nat.le_of_ble_eq_true rfl) (fun h1712 => ?_)
    refine r_icmp_ge (tgt := 65) C h1707.2 h1712 dX4_inBehind_11 (by decide) (fun c1713 => ?_) (fun c1713 => ?_)
    · refine r_bf c1713 ?_
      refine r_L (L' := [(3, .int (zi s1706.1))]) [2] rfl ?_
      exact k1711 s1706.1 h1707.1
    · refine r_bt c1713 ?_
      refine r_aload_n (pc := 14) (j := 0) C dX4_inBehind_14 rfl rfl ?_
      refine r_getR (j := 0) (r := (p + 1)) C cl_X4 (gPl_k hp).1 (gPl_k hp).2.1 (by decide) rfl (hp.2.2 (0, 0, 1) (by decide)) (by omega) q_221 dX4_inBehind_15 ?_
      refine r_iload (pc := 18) (j := 3) C dX4_inBehind_18 rfl ?_
      refine r_cV1 (pc := 20) (k := (p + 1)) (As := [.int (zi s1706.2)]) (st := []) C (m_X6_at (p := (p + 1)) (a1 := s1706.2) (gPl_w hp (i := 0) (by decide)) h1707.2 rfl) cal_X6_at cl_X6 (gRw_k (gPl_w hp (i := 0) (by decide))).1 (gRw_k (gPl_w hp (i := 0) (by decide))).2.1 q_900 dX4_inBehind_20 rfl rfl (Nat.le_of_ble_eq_true rfl) (Nat.le_of_ble_eq_true rfl) (Nat.le_of_ble_eq_true rfl) (Nat.le_of_ble_eq_true rfl) (Nat.le_of_ble_eq_true rfl) (fun h1714 => ?_)
      refine r_iload_n (pc := 23) (j := 1) C dX4_inBehind_23 rfl rfl ?_
      refine r_bj ?_
      refine r_join (fun q1715 : Int => IR q1715) (fun q1715 => S) (fun q1715 => O) (fun q1715 => [(0, .ref (zad E p)), (2, .int (zi a2)), (3, .int (zi q1715)), (4, .int (zi s1706.2))]) 59 (fun q1715 => []) (fun q1715 h1716 => ?_) (fun k1717 k1718 => ?_)
      · refine r_iinc (j := 3) (L' := [(4, .int (zi (wr (s1706.2 + 1)))), (0, .ref (zad E p)), (2, .int (zi a2)), (3, .int (zi q1715))]) C dX4_inBehind_59 rfl (by decide) rfl ?_
        refine r_goto (tgt := 5) C dX4_inBehind_62 (by decide) ?_
        refine r_L (L' := [(0, .ref (zad E p)), (2, .int (zi a2)), (3, .int (zi q1715)), (4, .int (zi (wr (s1706.2 + 1))))]) [1, 2, 3, 0] rfl ?_
        exact k1709 (q1715, wr (s1706.2 + 1)) ⟨h1716, (IR_wr _)⟩
      · refine r_icmp_ne (tgt := 37) C h1714 ha2 dX4_inBehind_24 (by decide) (fun c1719 => ?_) (fun c1719 => ?_)
        · refine r_jf c1719 ?_
          refine r_aload_n (pc := 37) (j := 0) C dX4_inBehind_37 rfl rfl ?_
          refine r_getR (j := 2) (r := (p + 5)) C cl_X4 (gPl_k hp).1 (gPl_k hp).2.1 (by decide) rfl (hp.2.2 (0, 2, 5) (by decide)) (by omega) q_225 dX4_inBehind_38 ?_
          refine r_iload (pc := 41) (j := 3) C dX4_inBehind_41 rfl ?_
          refine r_cV1 (pc := 43) (k := (p + 5)) (As := [.int (zi s1706.2)]) (st := []) C (m_X6_at (p := (p + 5)) (a1 := s1706.2) (gPl_w hp (i := 2) (by decide)) h1707.2 rfl) cal_X6_at cl_X6 (gRw_k (gPl_w hp (i := 2) (by decide))).1 (gRw_k (gPl_w hp (i := 2) (by decide))).2.1 q_900 dX4_inBehind_43 rfl rfl (Nat.le_of_ble_eq_true rfl) (Nat.le_of_ble_eq_true rfl) (Nat.le_of_ble_eq_true rfl) (Nat.le_of_ble_eq_true rfl) (Nat.le_of_ble_eq_true rfl) (fun h1722 => ?_)
          refine r_iload_n (pc := 46) (j := 1) C dX4_inBehind_46 rfl rfl ?_
          refine r_icmp_ne (tgt := 59) C h1722 ha2 dX4_inBehind_47 (by decide) (fun c1723 => ?_) (fun c1723 => ?_)
          · refine r_jf c1723 ?_
            exact k1718 s1706.1 h1707.1
          · refine r_jt c1723 ?_
            refine r_iload_n (pc := 50) (j := 2) C dX4_inBehind_50 rfl rfl ?_
            refine r_iconst (v := 1) C dX4_inBehind_51 (by decide) ?_
            refine r_iload (pc := 52) (j := 3) C dX4_inBehind_52 rfl ?_
            refine r_ishl C dX4_inBehind_54 ?_
            refine r_iconst (v := (-1)) C dX4_inBehind_55 (by decide) ?_
            refine r_ixor C dX4_inBehind_56 ?_
            refine r_iand C dX4_inBehind_57 ?_
            refine r_jj ?_
            refine r_jv (i32_IR _) (fun v1724 h1725 => ?_)
            refine r_istore_n (L' := [(3, .int (zi v1724)), (0, .ref (zad E p)), (2, .int (zi a2)), (4, .int (zi s1706.2))]) C dX4_inBehind_58 rfl (by decide) rfl ?_
            refine r_L (L' := [(0, .ref (zad E p)), (2, .int (zi a2)), (3, .int (zi v1724)), (4, .int (zi s1706.2))]) [1, 2, 0, 3] rfl ?_
            exact k1718 v1724 h1725
        · refine r_jt c1719 ?_
          refine r_iload_n (pc := 27) (j := 2) C dX4_inBehind_27 rfl rfl ?_
          refine r_iconst (v := 1) C dX4_inBehind_28 (by decide) ?_
          refine r_iload (pc := 29) (j := 3) C dX4_inBehind_29 rfl ?_
          refine r_ishl C dX4_inBehind_31 ?_
          refine r_ior C dX4_inBehind_32 ?_
          refine r_jj ?_
          refine r_jv (i32_IR _) (fun v1720 h1721 => ?_)
          refine r_istore_n (L' := [(3, .int (zi v1720)), (0, .ref (zad E p)), (2, .int (zi a2)), (4, .int (zi s1706.2))]) C dX4_inBehind_33 rfl (by decide) rfl ?_
          refine r_goto (tgt := 59) C dX4_inBehind_34 (by decide) ?_
          refine r_L (L' := [(0, .ref (zad E p)), (2, .int (zi a2)), (3, .int (zi v1720)), (4, .int (zi s1706.2))]) [1, 2, 0, 3] rfl ?_
          exact k1718 v1720 h1721

def f_X4_ceilingOf (p : Nat) (a1 : Int) (a2 : Int) (S : Sst) : Option (Int) :=
  jn (f_X6_at (p + 9) a1 S) fun (v4130 : Int) =>
  jn (wr ((f_X6_at (p + 11) a1 S) * (wr ((f_X6_at (p + 1) a1 S) - a2)))) fun (v4134 : Int) =>
  if v4130 < 1 then
    (some (-1))
  else
    (Option.bind (f_J9_floorDiv_7cf53 v4134 v4130) fun (q4139 : Int) =>
    some (wr ((f_X6_at (p + 3) a1 S) - q4139)))
set_option maxRecDepth 100000 in
set_option maxHeartbeats 4000000 in
theorem m_X4_ceilingOf {l : Launch} {E : EwT} {S : Sst} {O : Smo} {p : Nat} (hp : gPl n0 R0 p) {a1 : Int} (ha1 : IR a1) {a2 : Int} (ha2 : IR a2) {q : Int} (hq : f_X4_ceilingOf p a1 a2 S = some q) : MetG l E yX4_ceilingOf cX4_ceilingOf 5 (some .int) 1 22 0 0 n0 R0 S O [.ref (zad E p), .int (zi a1), .int (zi a2)] (IR q) (some (.int (zi q))) n0 R0 S O := by
  refine ofG (L0 := [(0, .ref (zad E p)), (1, .int (zi a1)), (2, .int (zi a2))]) hq (by decide +kernel) (Nat.le_of_ble_eq_true rfl) rfl (fun K _ C hQ => ?_)
  unfold f_X4_ceilingOf
  refine r_aload_n (pc := 0) (j := 0) C dX4_ceilingOf_0 rfl rfl ?_
  refine r_getR (j := 4) (r := (p + 9)) C cl_X4 (gPl_k hp).1 (gPl_k hp).2.1 (by decide) rfl (hp.2.2 (0, 4, 9) (by decide)) (by omega) q_229 dX4_ceilingOf_1 ?_
  refine r_iload_n (pc := 4) (j := 1) C dX4_ceilingOf_4 rfl rfl ?_
  refine r_cV1 (pc := 5) (k := (p + 9)) (As := [.int (zi a1)]) (st := []) C (m_X6_at (p := (p + 9)) (a1 := a1) (gPl_w hp (i := 4) (by decide)) ha1 rfl) cal_X6_at cl_X6 (gRw_k (gPl_w hp (i := 4) (by decide))).1 (gRw_k (gPl_w hp (i := 4) (by decide))).2.1 q_900 dX4_ceilingOf_5 rfl rfl (Nat.le_of_ble_eq_true rfl) (Nat.le_of_ble_eq_true rfl) (Nat.le_of_ble_eq_true rfl) (Nat.le_of_ble_eq_true rfl) (Nat.le_of_ble_eq_true rfl) (fun h4129 => ?_)
  refine r_jv h4129 (fun v4130 h4131 => ?_)
  refine r_istore_n (L' := [(3, .int (zi v4130)), (0, .ref (zad E p)), (1, .int (zi a1)), (2, .int (zi a2))]) C dX4_ceilingOf_8 rfl (by decide) rfl ?_
  refine r_aload_n (pc := 9) (j := 1) C dX4_ceilingOf_9 rfl rfl ?_
  refine r_getR (j := 5) (r := (p + 11)) C cl_X4 (gPl_k hp).1 (gPl_k hp).2.1 (by decide) rfl (hp.2.2 (0, 5, 11) (by decide)) (by omega) q_231 dX4_ceilingOf_10 ?_
  refine r_iload_n (pc := 13) (j := 2) C dX4_ceilingOf_13 rfl rfl ?_
  refine r_cV1 (pc := 14) (k := (p + 11)) (As := [.int (zi a1)]) (st := []) C (m_X6_at (p := (p + 11)) (a1 := a1) (gPl_w hp (i := 5) (by decide)) ha1 rfl) cal_X6_at cl_X6 (gRw_k (gPl_w hp (i := 5) (by decide))).1 (gRw_k (gPl_w hp (i := 5) (by decide))).2.1 q_900 dX4_ceilingOf_14 rfl rfl (Nat.le_of_ble_eq_true rfl) (Nat.le_of_ble_eq_true rfl) (Nat.le_of_ble_eq_true rfl) (Nat.le_of_ble_eq_true rfl) (Nat.le_of_ble_eq_true rfl) (fun h4132 => ?_)
  refine r_aload_n (pc := 17) (j := 1) C dX4_ceilingOf_17 rfl rfl ?_
  refine r_getR (j := 0) (r := (p + 1)) C cl_X4 (gPl_k hp).1 (gPl_k hp).2.1 (by decide) rfl (hp.2.2 (0, 0, 1) (by decide)) (by omega) q_221 dX4_ceilingOf_18 ?_
  refine r_iload_n (pc := 21) (j := 2) C dX4_ceilingOf_21 rfl rfl ?_
  refine r_cV1 (pc := 22) (k := (p + 1)) (As := [.int (zi a1)]) (st := [.int (zi (f_X6_at (p + 11) a1 S))]) C (m_X6_at (p := (p + 1)) (a1 := a1) (gPl_w hp (i := 0) (by decide)) ha1 rfl) cal_X6_at cl_X6 (gRw_k (gPl_w hp (i := 0) (by decide))).1 (gRw_k (gPl_w hp (i := 0) (by decide))).2.1 q_900 dX4_ceilingOf_22 rfl rfl (Nat.le_of_ble_eq_true rfl) (Nat.le_of_ble_eq_true rfl) (Nat.le_of_ble_eq_true rfl) (Nat.le_of_ble_eq_true rfl) (Nat.le_of_ble_eq_true rfl) (fun h4133 => ?_)
  refine r_iload_n (pc := 25) (j := 3) C dX4_ceilingOf_25 rfl rfl ?_
  refine r_isub C dX4_ceilingOf_26 ?_
  refine r_imul C dX4_ceilingOf_27 ?_
  refine r_jv (IR_wr _) (fun v4134 h4135 => ?_)
  refine r_istore (L' := [(4, .int (zi v4134)), (3, .int (zi v4130)), (0, .ref (zad E p)), (1, .int (zi a1)), (2, .int (zi a2))]) C dX4_ceilingOf_28 (by decide) rfl ?_
  refine r_iload_n (pc := 30) (j := 1) C dX4_ceilingOf_30 rfl rfl ?_
  refine r_iconst (v := 1) C dX4_ceilingOf_31 (by decide) ?_
  refine r_icmp_ge (tgt := 39) C h4131 (IRd rfl) dX4_ceilingOf_32 (by decide) (fun c4136 => ?_) (fun c4136 => ?_)
  · refine r_f c4136 ?_
    refine r_aload_n (pc := 39) (j := 2) C dX4_ceilingOf_39 rfl rfl ?_
    refine r_getR (j := 1) (r := (p + 3)) C cl_X4 (gPl_k hp).1 (gPl_k hp).2.1 (by decide) rfl (hp.2.2 (0, 1, 3) (by decide)) (by omega) q_223 dX4_ceilingOf_40 ?_
    refine r_iload_n (pc := 43) (j := 3) C dX4_ceilingOf_43 rfl rfl ?_
    refine r_cV1 (pc := 44) (k := (p + 3)) (As := [.int (zi a1)]) (st := []) C (m_X6_at (p := (p + 3)) (a1 := a1) (gPl_w hp (i := 1) (by decide)) ha1 rfl) cal_X6_at cl_X6 (gRw_k (gPl_w hp (i := 1) (by decide))).1 (gRw_k (gPl_w hp (i := 1) (by decide))).2.1 q_900 dX4_ceilingOf_44 rfl rfl (Nat.le_of_ble_eq_true rfl) (Nat.le_of_ble_eq_true rfl) (Nat.le_of_ble_eq_true rfl) (Nat.le_of_ble_eq_true rfl) (Nat.le_of_ble_eq_true rfl) (fun h4137 => ?_)
    refine r_iload (pc := 47) (j := 0) C dX4_ceilingOf_47 rfl ?_
    refine r_iload_n (pc := 49) (j := 1) C dX4_ceilingOf_49 rfl rfl ?_
    refine r_bd (fun q4139 e4140 => ?_)
    refine r_cS1 (pc := 50) (As := [.int (zi v4134), .int (zi v4130)]) (st := [.int (zi (f_X6_at (p + 3) a1 S))]) C (m_J9_floorDiv_7cf53 (a0 := v4134) (a1 := v4130) h4135 h4131 e4140) cal_J9_floorDiv_7cf53 q_1458 dX4_ceilingOf_50 rfl rfl (Nat.le_of_ble_eq_true rfl) (Nat.le_of_ble_eq_true rfl) (Nat.le_of_ble_eq_true rfl) (Nat.le_of_ble_eq_true rfl) (Nat.le_of_ble_eq_true rfl) (fun h4138 => ?_)
    refine r_isub C dX4_ceilingOf_53 ?_
    exact r_ireturn C hQ rfl dX4_ceilingOf_54 (fun e => by cases e; exact ⟨(IR_wr _), rfl, rfl, rfl, rfl, rfl⟩)
  · refine r_t c4136 ?_
    refine r_iconst (v := (-1)) C dX4_ceilingOf_35 (by decide) ?_
    refine r_goto (tgt := 54) C dX4_ceilingOf_36 (by decide) ?_
    exact r_ireturn C hQ rfl dX4_ceilingOf_54 (fun e => by cases e; exact ⟨(IRd rfl), rfl, rfl, rfl, rfl, rfl⟩)

def f_X4_regionOf (p : Nat) (a1 : Int) (a2 : Int) (S : Sst) : Option (Int) :=
  Option.bind (lp (fun (s4459 : Int × Int) =>
    if s4459.2 < f_X4_count p S then
      (jn (
        if (f_X4_isOver p s4459.2 a1 S = 0 ∨ 0 < f_X4_aheadOf p s4459.2 a1 a2 S) then
          (s4459.1)
        else
          (if (s4459.1 = (-1) ∨ ¬ f_X4_isHigher p s4459.2 s4459.1 S = 0) then
            (s4459.2)
          else
            (s4459.1))) fun (q4469 : Int) =>
      some (Sum.inl (q4469, wr (s4459.2 + 1))))
    else
      (some (Sum.inr s4459.1))) FU ((-1), 0)) fun (r4484 : Int) =>
  some r4484
set_option maxRecDepth 100000 in
set_option maxHeartbeats 4000000 in
theorem m_X4_regionOf {l : Launch} {E : EwT} {S : Sst} {O : Smo} {p : Nat} (hp : gPl n0 R0 p) {a1 : Int} (ha1 : IR a1) {a2 : Int} (ha2 : IR a2) {q : Int} (hq : f_X4_regionOf p a1 a2 S = some q) : MetG l E yX4_regionOf cX4_regionOf 5 (some .int) 3 63 0 0 n0 R0 S O [.ref (zad E p), .int (zi a1), .int (zi a2)] (IR q) (some (.int (zi q))) n0 R0 S O := by
  refine ofG (L0 := [(0, .ref (zad E p)), (1, .int (zi a1)), (2, .int (zi a2))]) hq (by decide +kernel) (Nat.le_of_ble_eq_true rfl) rfl (fun K _ C hQ => ?_)
  unfold f_X4_regionOf
  refine r_iconst (v := (-1)) C dX4_regionOf_0 (by decide) ?_
  refine r_istore_n (L' := [(3, .int (zi (-1))), (0, .ref (zad E p)), (1, .int (zi a1)), (2, .int (zi a2))]) C dX4_regionOf_1 rfl (by decide) rfl ?_
  refine r_iconst (v := 0) C dX4_regionOf_2 (by decide) ?_
  refine r_istore (L' := [(4, .int (zi 0)), (3, .int (zi (-1))), (0, .ref (zad E p)), (1, .int (zi a1)), (2, .int (zi a2))]) C dX4_regionOf_3 (by decide) rfl ?_
  refine r_L (L' := [(0, .ref (zad E p)), (1, .int (zi a1)), (2, .int (zi a2)), (3, .int (zi (-1))), (4, .int (zi 0))]) [2, 3, 4, 1, 0] rfl ?_
  refine r_loop1 (fun s4459 : Int × Int => IR s4459.1 ∧ IR s4459.2) (fun s4459 => S) (fun s4459 => O) (fun s4459 => [(0, .ref (zad E p)), (1, .int (zi a1)), (2, .int (zi a2)), (3, .int (zi s4459.1)), (4, .int (zi s4459.2))]) [] (fun r4484 : Int => IR r4484) (fun r4484 => S) (fun r4484 => O) (fun r4484 => [(3, .int (zi r4484))]) 59 (fun r4484 h4485 => ?_) (fun k4461 k4463 k4462 k4464 s4459 h4460 => ?_) ⟨(IRd rfl), (IRd rfl)⟩
  · refine r_iload_n (pc := 59) (j := 0) C dX4_regionOf_59 rfl rfl ?_
    exact r_ireturn C hQ rfl dX4_regionOf_60 (fun e => by cases e; exact ⟨h4485, rfl, rfl, rfl, rfl, rfl⟩)
  · refine r_iload (pc := 5) (j := 4) C dX4_regionOf_5 rfl ?_
    refine r_aload_n (pc := 7) (j := 0) C dX4_regionOf_7 rfl rfl ?_
    refine r_cV1 (pc := 8) (k := p) (As := []) (st := [.int (zi s4459.2)]) C (m_X4_count (p := p) hp rfl) cal_X4_count cl_X4 (gPl_k hp).1 (gPl_k hp).2.1 q_895 dX4_regionOf_8 rfl rfl (Nat.le_of_ble_eq_true rfl) (Nat.le_of_ble_eq_true rfl) (Nat.le_of_ble_eq_true rfl) (Nat.le_of_ble_eq_true rfl) (Nat.le_of_ble_eq_true rfl) (fun h4465 => ?_)
    refine r_icmp_ge (tgt := 59) C h4460.2 h4465 dX4_regionOf_11 (by decide) (fun c4466 => ?_) (fun c4466 => ?_)
    · refine r_bf c4466 ?_
      refine r_L (L' := [(3, .int (zi s4459.1))]) [3] rfl ?_
      exact k4464 s4459.1 h4460.1
    · refine r_bt c4466 ?_
      refine r_aload_n (pc := 14) (j := 0) C dX4_regionOf_14 rfl rfl ?_
      refine r_iload (pc := 15) (j := 4) C dX4_regionOf_15 rfl ?_
      refine r_iload_n (pc := 17) (j := 1) C dX4_regionOf_17 rfl rfl ?_
      refine r_cV1 (pc := 18) (k := p) (As := [.int (zi s4459.2), .int (zi a1)]) (st := []) C (m_X4_isOver (p := p) (a1 := s4459.2) (a2 := a1) hp h4460.2 ha1 rfl) cal_X4_isOver cl_X4 (gPl_k hp).1 (gPl_k hp).2.1 q_989 dX4_regionOf_18 rfl rfl (Nat.le_of_ble_eq_true rfl) (Nat.le_of_ble_eq_true rfl) (Nat.le_of_ble_eq_true rfl) (Nat.le_of_ble_eq_true rfl) (Nat.le_of_ble_eq_true rfl) (fun h4467 => ?_)
      refine r_bj ?_
      refine r_join (fun q4469 : Int => IR q4469) (fun q4469 => S) (fun q4469 => O) (fun q4469 => [(0, .ref (zad E p)), (1, .int (zi a1)), (2, .int (zi a2)), (3, .int (zi q4469)), (4, .int (zi s4459.2))]) 53 (fun q4469 => []) (fun q4469 h4470 => ?_) (fun k4471 k4472 => ?_)
      · refine r_iinc (j := 4) (L' := [(4, .int (zi (wr (s4459.2 + 1)))), (0, .ref (zad E p)), (1, .int (zi a1)), (2, .int (zi a2)), (3, .int (zi q4469))]) C dX4_regionOf_53 rfl (by decide) rfl ?_
        refine r_goto (tgt := 5) C dX4_regionOf_56 (by decide) ?_
        refine r_L (L' := [(0, .ref (zad E p)), (1, .int (zi a1)), (2, .int (zi a2)), (3, .int (zi q4469)), (4, .int (zi (wr (s4459.2 + 1))))]) [1, 2, 3, 4, 0] rfl ?_
        exact k4462 (q4469, wr (s4459.2 + 1)) ⟨h4470, (IR_wr _)⟩
      · refine r_cut (f_X4_isOver p s4459.2 a1 S = 0 ∨ 0 < f_X4_aheadOf p s4459.2 a1 a2 S) 53 35 [] (fun c4473 => ?_) (fun c4473 => ?_) (fun k4474 k4475 => ?_)
        · refine r_jt c4473 ?_
          exact k4472 s4459.1 h4460.1
        · refine r_jf c4473 ?_
          refine r_iload_n (pc := 35) (j := 3) C dX4_regionOf_35 rfl rfl ?_
          refine r_iconst (v := (-1)) C dX4_regionOf_36 (by decide) ?_
          refine r_cut (s4459.1 = (-1) ∨ ¬ f_X4_isHigher p s4459.2 s4459.1 S = 0) 50 53 [] (fun c4477 => ?_) (fun c4477 => ?_) (fun k4478 k4479 => ?_)
          · refine r_jt c4477 ?_
            refine r_iload (pc := 50) (j := 4) C dX4_regionOf_50 rfl ?_
            refine r_istore_n (L' := [(3, .int (zi s4459.2)), (0, .ref (zad E p)), (1, .int (zi a1)), (2, .int (zi a2)), (4, .int (zi s4459.2))]) C dX4_regionOf_52 rfl (by decide) rfl ?_
            refine r_L (L' := [(0, .ref (zad E p)), (1, .int (zi a1)), (2, .int (zi a2)), (3, .int (zi s4459.2)), (4, .int (zi s4459.2))]) [1, 2, 3, 0, 4] rfl ?_
            exact k4472 s4459.2 h4460.2
          · refine r_jf c4477 ?_
            exact k4472 s4459.1 h4460.1
          · refine r_icmp_eq (tgt := 50) C h4460.1 (IRd rfl) dX4_regionOf_37 (by decide) (fun c4480 => ?_) (fun c4480 => ?_)
            · exact k4478 (Or.inl c4480)
            · refine r_aload_n (pc := 40) (j := 0) C dX4_regionOf_40 rfl rfl ?_
              refine r_iload (pc := 41) (j := 4) C dX4_regionOf_41 rfl ?_
              refine r_iload_n (pc := 43) (j := 3) C dX4_regionOf_43 rfl rfl ?_
              refine r_cV1 (pc := 44) (k := p) (As := [.int (zi s4459.2), .int (zi s4459.1)]) (st := []) C (m_X4_isHigher (p := p) (a1 := s4459.2) (a2 := s4459.1) hp h4460.2 h4460.1 rfl) cal_X4_isHigher cl_X4 (gPl_k hp).1 (gPl_k hp).2.1 q_1515 dX4_regionOf_44 rfl rfl (Nat.le_of_ble_eq_true rfl) (Nat.le_of_ble_eq_true rfl) (Nat.le_of_ble_eq_true rfl) (Nat.le_of_ble_eq_true rfl) (Nat.le_of_ble_eq_true rfl) (fun h4476 => ?_)
              refine r_if_eq (tgt := 53) C h4476.ir dX4_regionOf_47 (by decide) (fun c4481 => ?_) (fun c4481 => ?_)
              · exact k4479 (fun w => w.elim c4480 (fun x => x c4481))
              · exact k4478 (Or.inr c4481)
        · refine r_if_eq (tgt := 53) C h4467.ir dX4_regionOf_21 (by decide) (fun c4482 => ?_) (fun c4482 => ?_)
          · exact k4474 (Or.inl c4482)
          · refine r_aload_n (pc := 24) (j := 0) C dX4_regionOf_24 rfl rfl ?_
            refine r_iload (pc := 25) (j := 4) C dX4_regionOf_25 rfl ?_
            refine r_iload_n (pc := 27) (j := 1) C dX4_regionOf_27 rfl rfl ?_
            refine r_iload_n (pc := 28) (j := 2) C dX4_regionOf_28 rfl rfl ?_
            refine r_cV1 (pc := 29) (k := p) (As := [.int (zi s4459.2), .int (zi a1), .int (zi a2)]) (st := []) C (m_X4_aheadOf (p := p) (a1 := s4459.2) (a2 := a1) (a3 := a2) hp h4460.2 ha1 ha2 rfl) cal_X4_aheadOf cl_X4 (gPl_k hp).1 (gPl_k hp).2.1 q_907 dX4_regionOf_29 rfl rfl (Nat.le_of_ble_eq_true rfl) (Nat.le_of_ble_eq_true rfl) (Nat.le_of_ble_eq_true rfl) (Nat.le_of_ble_eq_true rfl) (Nat.le_of_ble_eq_true rfl) (fun h4468 => ?_)
            refine r_if_gt (tgt := 53) C h4468 dX4_regionOf_32 (by decide) (fun c4483 => ?_) (fun c4483 => ?_)
            · exact k4474 (Or.inr c4483)
            · exact k4475 (fun w => w.elim c4482 c4483)
