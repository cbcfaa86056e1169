/-! m_store: the methods as functions, and their walks (written by program) -/
def f_X7_keepVersions (p : Nat) (a1 : Int) (S : Sst) : Sst :=
  jn (f_X6_keep (p + 1) a1 S) fun (q1508 : Sst) =>
  jn (f_X6_keep (p + 3) a1 q1508) fun (q1511 : Sst) =>
  jn (f_X6_keep (p + 5) a1 q1511) fun (q1514 : Sst) =>
  jn (f_X6_keep (p + 7) a1 q1514) fun (q1517 : Sst) =>
  jn (f_X6_keep (p + 9) a1 q1517) fun (q1520 : Sst) =>
  jn (f_X6_keep (p + 11) a1 q1520) fun (q1523 : Sst) =>
  q1523
set_option maxRecDepth 100000 in
set_option maxHeartbeats 4000000 in
theorem m_X7_keepVersions {l : Launch} {E : EwT} {n : Nat} {R : Srf} {S : Sst} {O : Smo} {p : Nat} (hp : gSt n R p) {a1 : Int} (ha1 : IR a1) {q : Sst} (hq : f_X7_keepVersions p a1 S = q) : MetG l E yX7_keepVersions cX7_keepVersions 2 none 1 21 0 0 n R S O [.ref (zad E p), .int (zi a1)] (True) none n R q O := by
  refine ofG (L0 := [(0, .ref (zad E p)), (1, .int (zi a1))]) hq (by decide +kernel) (Nat.le_of_ble_eq_true rfl) rfl (fun K _ C hQ => ?_)
  unfold f_X7_keepVersions
  refine r_aload_n (pc := 0) (j := 0) C dX7_keepVersions_0 rfl rfl ?_
  refine r_getR (j := 0) (r := (p + 1)) C cl_X7 (gSt_k hp).1 (gSt_k hp).2.1 (by decide) rfl (hp.2.2 (0, 0, 1) (by decide)) (by omega) q_507 dX7_keepVersions_1 ?_
  refine r_iload_n (pc := 4) (j := 1) C dX7_keepVersions_4 rfl rfl ?_
  refine r_jn (fun q1508 e1509 => ?_)
  refine r_cV0 (pc := 5) (k := (p + 1)) (As := [.int (zi a1)]) (st := []) C (m_X6_keep (p := (p + 1)) (a1 := a1) (gSt_w hp (i := 0) (by decide)) ha1 e1509) cal_X6_keep cl_X6 (gRw_k (gSt_w hp (i := 0) (by decide))).1 (gRw_k (gSt_w hp (i := 0) (by decide))).2.1 q_489 dX7_keepVersions_5 rfl rfl (Nat.le_of_ble_eq_true rfl) (Nat.le_of_ble_eq_true rfl) (Nat.le_of_ble_eq_true rfl) (Nat.le_of_ble_eq_true rfl) (Nat.le_of_ble_eq_true rfl) (fun h1507 => ?_)
  refine r_aload_n (pc := 8) (j := 0) C dX7_keepVersions_8 rfl rfl ?_
  refine r_getR (j := 1) (r := (p + 3)) C cl_X7 (gSt_k hp).1 (gSt_k hp).2.1 (by decide) rfl (hp.2.2 (0, 1, 3) (by decide)) (by omega) q_511 dX7_keepVersions_9 ?_
  refine r_iload_n (pc := 12) (j := 1) C dX7_keepVersions_12 rfl rfl ?_
  refine r_jn (fun q1511 e1512 => ?_)
  refine r_cV0 (pc := 13) (k := (p + 3)) (As := [.int (zi a1)]) (st := []) C (m_X6_keep (p := (p + 3)) (a1 := a1) (gSt_w hp (i := 1) (by decide)) ha1 e1512) cal_X6_keep cl_X6 (gRw_k (gSt_w hp (i := 1) (by decide))).1 (gRw_k (gSt_w hp (i := 1) (by decide))).2.1 q_489 dX7_keepVersions_13 rfl rfl (Nat.le_of_ble_eq_true rfl) (Nat.le_of_ble_eq_true rfl) (Nat.le_of_ble_eq_true rfl) (Nat.le_of_ble_eq_true rfl) (Nat.le_of_ble_eq_true rfl) (fun h1510 => ?_)
  refine r_aload_n (pc := 16) (j := 0) C dX7_keepVersions_16 rfl rfl ?_
  refine r_getR (j := 2) (r := (p + 5)) C cl_X7 (gSt_k hp).1 (gSt_k hp).2.1 (by decide) rfl (hp.2.2 (0, 2, 5) (by decide)) (by omega) q_515 dX7_keepVersions_17 ?_
  refine r_iload_n (pc := 20) (j := 1) C dX7_keepVersions_20 rfl rfl ?_
  refine r_jn (fun q1514 e1515 => ?_)
  refine r_cV0 (pc := 21) (k := (p + 5)) (As := [.int (zi a1)]) (st := []) C (m_X6_keep (p := (p + 5)) (a1 := a1) (gSt_w hp (i := 2) (by decide)) ha1 e1515) cal_X6_keep cl_X6 (gRw_k (gSt_w hp (i := 2) (by decide))).1 (gRw_k (gSt_w hp (i := 2) (by decide))).2.1 q_489 dX7_keepVersions_21 rfl rfl (Nat.le_of_ble_eq_true rfl) (Nat.le_of_ble_eq_true rfl) (Nat.le_of_ble_eq_true rfl) (Nat.le_of_ble_eq_true rfl) (Nat.le_of_ble_eq_true rfl) (fun h1513 => ?_)
  refine r_aload_n (pc := 24) (j := 0) C dX7_keepVersions_24 rfl rfl ?_
  refine r_getR (j := 3) (r := (p + 7)) C cl_X7 (gSt_k hp).1 (gSt_k hp).2.1 (by decide) rfl (hp.2.2 (0, 3, 7) (by decide)) (by omega) q_518 dX7_keepVersions_25 ?_
  refine r_iload_n (pc := 28) (j := 1) C dX7_keepVersions_28 rfl rfl ?_
  refine r_jn (fun q1517 e1518 => ?_)
  refine r_cV0 (pc := 29) (k := (p + 7)) (As := [.int (zi a1)]) (st := []) C (m_X6_keep (p := (p + 7)) (a1 := a1) (gSt_w hp (i := 3) (by decide)) ha1 e1518) cal_X6_keep cl_X6 (gRw_k (gSt_w hp (i := 3) (by decide))).1 (gRw_k (gSt_w hp (i := 3) (by decide))).2.1 q_489 dX7_keepVersions_29 rfl rfl (Nat.le_of_ble_eq_true rfl) (Nat.le_of_ble_eq_true rfl) (Nat.le_of_ble_eq_true rfl) (Nat.le_of_ble_eq_true rfl) (Nat.le_of_ble_eq_true rfl) (fun h1516 => ?_)
  refine r_aload_n (pc := 32) (j := 0) C dX7_keepVersions_32 rfl rfl ?_
  refine r_getR (j := 4) (r := (p + 9)) C cl_X7 (gSt_k hp).1 (gSt_k hp).2.1 (by decide) rfl (hp.2.2 (0, 4, 9) (by decide)) (by omega) q_521 dX7_keepVersions_33 ?_
  refine r_iload_n (pc := 36) (j := 1) C dX7_keepVersions_36 rfl rfl ?_
  refine r_jn (fun q1520 e1521 => ?_)
  refine r_cV0 (pc := 37) (k := (p + 9)) (As := [.int (zi a1)]) (st := []) C (m_X6_keep (p := (p + 9)) (a1 := a1) (gSt_w hp (i := 4) (by decide)) ha1 e1521) cal_X6_keep cl_X6 (gRw_k (gSt_w hp (i := 4) (by decide))).1 (gRw_k (gSt_w hp (i := 4) (by decide))).2.1 q_489 dX7_keepVersions_37 rfl rfl (Nat.le_of_ble_eq_true rfl) (Nat.le_of_ble_eq_true rfl) (Nat.le_of_ble_eq_true rfl) (Nat.le_of_ble_eq_true rfl) (Nat.le_of_ble_eq_true rfl) (fun h1519 => ?_)
  refine r_aload_n (pc := 40) (j := 0) C dX7_keepVersions_40 rfl rfl ?_
  refine r_getR (j := 5) (r := (p + 11)) C cl_X7 (gSt_k hp).1 (gSt_k hp).2.1 (by decide) rfl (hp.2.2 (0, 5, 11) (by decide)) (by omega) q_523 dX7_keepVersions_41 ?_
  refine r_iload_n (pc := 44) (j := 1) C dX7_keepVersions_44 rfl rfl ?_
  refine r_jn (fun q1523 e1524 => ?_)
  refine r_cV0 (pc := 45) (k := (p + 11)) (As := [.int (zi a1)]) (st := []) C (m_X6_keep (p := (p + 11)) (a1 := a1) (gSt_w hp (i := 5) (by decide)) ha1 e1524) cal_X6_keep cl_X6 (gRw_k (gSt_w hp (i := 5) (by decide))).1 (gRw_k (gSt_w hp (i := 5) (by decide))).2.1 q_489 dX7_keepVersions_45 rfl rfl (Nat.le_of_ble_eq_true rfl) (Nat.le_of_ble_eq_true rfl) (Nat.le_of_ble_eq_true rfl) (Nat.le_of_ble_eq_true rfl) (Nat.le_of_ble_eq_true rfl) (fun h1522 => ?_)
  exact r_return C hQ dX7_keepVersions_48 (fun e => by subst e; exact ⟨trivial, rfl, rfl, rfl, rfl, rfl⟩)

def f_X7_keepNodes (p : Nat) (a1 : Int) (S : Sst) : Sst :=
  jn (f_X6_keep (p + 13) a1 S) fun (q1526 : Sst) =>
  jn (f_X6_keep (p + 15) a1 q1526) fun (q1529 : Sst) =>
  jn (f_X6_keep (p + 17) a1 q1529) fun (q1532 : Sst) =>
  jn (f_X6_keep (p + 19) a1 q1532) fun (q1535 : Sst) =>
  jn (f_X6_keep (p + 21) a1 q1535) fun (q1538 : Sst) =>
  jn (f_X6_keep (p + 23) a1 q1538) fun (q1541 : Sst) =>
  jn (f_X6_keep (p + 25) (wr (a1 * 6)) q1541) fun (q1544 : Sst) =>
  jn (f_X6_keep (p + 27) (wr (a1 * 6)) q1544) fun (q1547 : Sst) =>
  jn (f_X6_keep (p + 29) (wr (a1 * 6)) q1547) fun (q1550 : Sst) =>
  q1550
set_option maxRecDepth 100000 in
set_option maxHeartbeats 4000000 in
theorem m_X7_keepNodes {l : Launch} {E : EwT} {n : Nat} {R : Srf} {S : Sst} {O : Smo} {p : Nat} (hp : gSt n R p) {a1 : Int} (ha1 : IR a1) {q : Sst} (hq : f_X7_keepNodes p a1 S = q) : MetG l E yX7_keepNodes cX7_keepNodes 2 none 1 21 0 0 n R S O [.ref (zad E p), .int (zi a1)] (True) none n R q O := by
  refine ofG (L0 := [(0, .ref (zad E p)), (1, .int (zi a1))]) hq (by decide +kernel) (Nat.le_of_ble_eq_true rfl) rfl (fun K _ C hQ => ?_)
  unfold f_X7_keepNodes
  refine r_aload_n (pc := 0) (j := 0) C dX7_keepNodes_0 rfl rfl ?_
  refine r_getR (j := 6) (r := (p + 13)) C cl_X7 (gSt_k hp).1 (gSt_k hp).2.1 (by decide) rfl (hp.2.2 (0, 6, 13) (by decide)) (by omega) q_525 dX7_keepNodes_1 ?_
  refine r_iload_n (pc := 4) (j := 1) C dX7_keepNodes_4 rfl rfl ?_
  refine r_jn (fun q1526 e1527 => ?_)
  refine r_cV0 (pc := 5) (k := (p + 13)) (As := [.int (zi a1)]) (st := []) C (m_X6_keep (p := (p + 13)) (a1 := a1) (gSt_w hp (i := 6) (by decide)) ha1 e1527) cal_X6_keep cl_X6 (gRw_k (gSt_w hp (i := 6) (by decide))).1 (gRw_k (gSt_w hp (i := 6) (by decide))).2.1 q_489 dX7_keepNodes_5 rfl rfl (Nat.le_of_ble_eq_true rfl) (Nat.le_of_ble_eq_true rfl) (Nat.le_of_ble_eq_true rfl) (Nat.le_of_ble_eq_true rfl) (Nat.le_of_ble_eq_true rfl) (fun h1525 => ?_)
  refine r_aload_n (pc := 8) (j := 0) C dX7_keepNodes_8 rfl rfl ?_
  refine r_getR (j := 7) (r := (p + 15)) C cl_X7 (gSt_k hp).1 (gSt_k hp).2.1 (by decide) rfl (hp.2.2 (0, 7, 15) (by decide)) (by omega) q_527 dX7_keepNodes_9 ?_
  refine r_iload_n (pc := 12) (j := 1) C dX7_keepNodes_12 rfl rfl ?_
  refine r_jn (fun q1529 e1530 => ?_)
  refine r_cV0 (pc := 13) (k := (p + 15)) (As := [.int (zi a1)]) (st := []) C (m_X6_keep (p := (p + 15)) (a1 := a1) (gSt_w hp (i := 7) (by decide)) ha1 e1530) cal_X6_keep cl_X6 (gRw_k (gSt_w hp (i := 7) (by decide))).1 (gRw_k (gSt_w hp (i := 7) (by decide))).2.1 q_489 dX7_keepNodes_13 rfl rfl (Nat.le_of_ble_eq_true rfl) (Nat.le_of_ble_eq_true rfl) (Nat.le_of_ble_eq_true rfl) (Nat.le_of_ble_eq_true rfl) (Nat.le_of_ble_eq_true rfl) (fun h1528 => ?_)
  refine r_aload_n (pc := 16) (j := 0) C dX7_keepNodes_16 rfl rfl ?_
  refine r_getR (j := 8) (r := (p + 17)) C cl_X7 (gSt_k hp).1 (gSt_k hp).2.1 (by decide) rfl (hp.2.2 (0, 8, 17) (by decide)) (by omega) q_529 dX7_keepNodes_17 ?_
  refine r_iload_n (pc := 20) (j := 1) C dX7_keepNodes_20 rfl rfl ?_
  refine r_jn (fun q1532 e1533 => ?_)
  refine r_cV0 (pc := 21) (k := (p + 17)) (As := [.int (zi a1)]) (st := []) C (m_X6_keep (p := (p + 17)) (a1 := a1) (gSt_w hp (i := 8) (by decide)) ha1 e1533) cal_X6_keep cl_X6 (gRw_k (gSt_w hp (i := 8) (by decide))).1 (gRw_k (gSt_w hp (i := 8) (by decide))).2.1 q_489 dX7_keepNodes_21 rfl rfl (Nat.le_of_ble_eq_true rfl) (Nat.le_of_ble_eq_true rfl) (Nat.le_of_ble_eq_true rfl) (Nat.le_of_ble_eq_true rfl) (Nat.le_of_ble_eq_true rfl) (fun h1531 => ?_)
  refine r_aload_n (pc := 24) (j := 0) C dX7_keepNodes_24 rfl rfl ?_
  refine r_getR (j := 9) (r := (p + 19)) C cl_X7 (gSt_k hp).1 (gSt_k hp).2.1 (by decide) rfl (hp.2.2 (0, 9, 19) (by decide)) (by omega) q_531 dX7_keepNodes_25 ?_
  refine r_iload_n (pc := 28) (j := 1) C dX7_keepNodes_28 rfl rfl ?_
  refine r_jn (fun q1535 e1536 => ?_)
  refine r_cV0 (pc := 29) (k := (p + 19)) (As := [.int (zi a1)]) (st := []) C (m_X6_keep (p := (p + 19)) (a1 := a1) (gSt_w hp (i := 9) (by decide)) ha1 e1536) cal_X6_keep cl_X6 (gRw_k (gSt_w hp (i := 9) (by decide))).1 (gRw_k (gSt_w hp (i := 9) (by decide))).2.1 q_489 dX7_keepNodes_29 rfl rfl (Nat.le_of_ble_eq_true rfl) (Nat.le_of_ble_eq_true rfl) (Nat.le_of_ble_eq_true rfl) (Nat.le_of_ble_eq_true rfl) (Nat.le_of_ble_eq_true rfl) (fun h1534 => ?_)
  refine r_aload_n (pc := 32) (j := 0) C dX7_keepNodes_32 rfl rfl ?_
  refine r_getR (j := 10) (r := (p + 21)) C cl_X7 (gSt_k hp).1 (gSt_k hp).2.1 (by decide) rfl (hp.2.2 (0, 10, 21) (by decide)) (by omega) q_533 dX7_keepNodes_33 ?_
  refine r_iload_n (pc := 36) (j := 1) C dX7_keepNodes_36 rfl rfl ?_
  refine r_jn (fun q1538 e1539 => ?_)
  refine r_cV0 (pc := 37) (k := (p + 21)) (As := [.int (zi a1)]) (st := []) C (m_X6_keep (p := (p + 21)) (a1 := a1) (gSt_w hp (i := 10) (by decide)) ha1 e1539) cal_X6_keep cl_X6 (gRw_k (gSt_w hp (i := 10) (by decide))).1 (gRw_k (gSt_w hp (i := 10) (by decide))).2.1 q_489 dX7_keepNodes_37 rfl rfl (Nat.le_of_ble_eq_true rfl) (Nat.le_of_ble_eq_true rfl) (Nat.le_of_ble_eq_true rfl) (Nat.le_of_ble_eq_true rfl) (Nat.le_of_ble_eq_true rfl) (fun h1537 => ?_)
  refine r_aload_n (pc := 40) (j := 0) C dX7_keepNodes_40 rfl rfl ?_
  refine r_getR (j := 11) (r := (p + 23)) C cl_X7 (gSt_k hp).1 (gSt_k hp).2.1 (by decide) rfl (hp.2.2 (0, 11, 23) (by decide)) (by omega) q_535 dX7_keepNodes_41 ?_
  refine r_iload_n (pc := 44) (j := 1) C dX7_keepNodes_44 rfl rfl ?_
  refine r_jn (fun q1541 e1542 => ?_)
  refine r_cV0 (pc := 45) (k := (p + 23)) (As := [.int (zi a1)]) (st := []) C (m_X6_keep (p := (p + 23)) (a1 := a1) (gSt_w hp (i := 11) (by decide)) ha1 e1542) cal_X6_keep cl_X6 (gRw_k (gSt_w hp (i := 11) (by decide))).1 (gRw_k (gSt_w hp (i := 11) (by decide))).2.1 q_489 dX7_keepNodes_45 rfl rfl (Nat.le_of_ble_eq_true rfl) (Nat.le_of_ble_eq_true rfl) (Nat.le_of_ble_eq_true rfl) (Nat.le_of_ble_eq_true rfl) (Nat.le_of_ble_eq_true rfl) (fun h1540 => ?_)
  refine r_aload_n (pc := 48) (j := 0) C dX7_keepNodes_48 rfl rfl ?_
  refine r_getR (j := 12) (r := (p + 25)) C cl_X7 (gSt_k hp).1 (gSt_k hp).2.1 (by decide) rfl (hp.2.2 (0, 12, 25) (by decide)) (by omega) q_536 dX7_keepNodes_49 ?_
  refine r_iload_n (pc := 52) (j := 1) C dX7_keepNodes_52 rfl rfl ?_
  refine r_bipush (v := 6) C dX7_keepNodes_53 (by decide) ?_
  refine r_imul C dX7_keepNodes_55 ?_
  refine r_jn (fun q1544 e1545 => ?_)
  refine r_cV0 (pc := 56) (k := (p + 25)) (As := [.int (zi (wr (a1 * 6)))]) (st := []) C (m_X6_keep (p := (p + 25)) (a1 := wr (a1 * 6)) (gSt_w hp (i := 12) (by decide)) (IR_wr _) e1545) cal_X6_keep cl_X6 (gRw_k (gSt_w hp (i := 12) (by decide))).1 (gRw_k (gSt_w hp (i := 12) (by decide))).2.1 q_489 dX7_keepNodes_56 rfl rfl (Nat.le_of_ble_eq_true rfl) (Nat.le_of_ble_eq_true rfl) (Nat.le_of_ble_eq_true rfl) (Nat.le_of_ble_eq_true rfl) (Nat.le_of_ble_eq_true rfl) (fun h1543 => ?_)
  refine r_aload_n (pc := 59) (j := 0) C dX7_keepNodes_59 rfl rfl ?_
  refine r_getR (j := 13) (r := (p + 27)) C cl_X7 (gSt_k hp).1 (gSt_k hp).2.1 (by decide) rfl (hp.2.2 (0, 13, 27) (by decide)) (by omega) q_538 dX7_keepNodes_60 ?_
  refine r_iload_n (pc := 63) (j := 1) C dX7_keepNodes_63 rfl rfl ?_
  refine r_bipush (v := 6) C dX7_keepNodes_64 (by decide) ?_
  refine r_imul C dX7_keepNodes_66 ?_
  refine r_jn (fun q1547 e1548 => ?_)
  refine r_cV0 (pc := 67) (k := (p + 27)) (As := [.int (zi (wr (a1 * 6)))]) (st := []) C (m_X6_keep (p := (p + 27)) (a1 := wr (a1 * 6)) (gSt_w hp (i := 13) (by decide)) (IR_wr _) e1548) cal_X6_keep cl_X6 (gRw_k (gSt_w hp (i := 13) (by decide))).1 (gRw_k (gSt_w hp (i := 13) (by decide))).2.1 q_489 dX7_keepNodes_67 rfl rfl (Nat.le_of_ble_eq_true rfl) (Nat.le_of_ble_eq_true rfl) (Nat.le_of_ble_eq_true rfl) (Nat.le_of_ble_eq_true rfl) (Nat.le_of_ble_eq_true rfl) (fun h1546 => ?_)
  refine r_aload_n (pc := 70) (j := 0) C dX7_keepNodes_70 rfl rfl ?_
  refine r_getR (j := 14) (r := (p + 29)) C cl_X7 (gSt_k hp).1 (gSt_k hp).2.1 (by decide) rfl (hp.2.2 (0, 14, 29) (by decide)) (by omega) q_540 dX7_keepNodes_71 ?_
  refine r_iload_n (pc := 74) (j := 1) C dX7_keepNodes_74 rfl rfl ?_
  refine r_bipush (v := 6) C dX7_keepNodes_75 (by decide) ?_
  refine r_imul C dX7_keepNodes_77 ?_
  refine r_jn (fun q1550 e1551 => ?_)
  refine r_cV0 (pc := 78) (k := (p + 29)) (As := [.int (zi (wr (a1 * 6)))]) (st := []) C (m_X6_keep (p := (p + 29)) (a1 := wr (a1 * 6)) (gSt_w hp (i := 14) (by decide)) (IR_wr _) e1551) cal_X6_keep cl_X6 (gRw_k (gSt_w hp (i := 14) (by decide))).1 (gRw_k (gSt_w hp (i := 14) (by decide))).2.1 q_489 dX7_keepNodes_78 rfl rfl (Nat.le_of_ble_eq_true rfl) (Nat.le_of_ble_eq_true rfl) (Nat.le_of_ble_eq_true rfl) (Nat.le_of_ble_eq_true rfl) (Nat.le_of_ble_eq_true rfl) (fun h1549 => ?_)
  exact r_return C hQ dX7_keepNodes_81 (fun e => by subst e; exact ⟨trivial, rfl, rfl, rfl, rfl, rfl⟩)

def f_X7_addVersion (p : Nat) (a1 : Int) (a2 : Int) (a3 : Int) (a4 : Int) (a5 : Int) (a6 : Int) (S : Sst) : Sst :=
  jn (f_X6_add (p + 1) a1 S) fun (q1553 : Sst) =>
  jn (f_X6_add (p + 3) a2 q1553) fun (q1556 : Sst) =>
  jn (f_X6_add (p + 5) a3 q1556) fun (q1559 : Sst) =>
  jn (f_X6_add (p + 7) a4 q1559) fun (q1562 : Sst) =>
  jn (f_X6_add (p + 9) a5 q1562) fun (q1565 : Sst) =>
  jn (f_X6_add (p + 11) a6 q1565) fun (q1568 : Sst) =>
  q1568
set_option maxRecDepth 100000 in
set_option maxHeartbeats 4000000 in
theorem m_X7_addVersion {l : Launch} {E : EwT} {n : Nat} {R : Srf} {S : Sst} {O : Smo} {p : Nat} (hp : gSt n R p) {a1 : Int} (ha1 : IR a1) {a2 : Int} (ha2 : IR a2) {a3 : Int} (ha3 : IR a3) {a4 : Int} (ha4 : IR a4) {a5 : Int} (ha5 : IR a5) {a6 : Int} (ha6 : IR a6) {q : Sst} (hq : f_X7_addVersion p a1 a2 a3 a4 a5 a6 S = q) : MetG l E yX7_addVersion cX7_addVersion 7 none 1 21 0 0 n R S O [.ref (zad E p), .int (zi a1), .int (zi a2), .int (zi a3), .int (zi a4), .int (zi a5), .int (zi a6)] (True) none n R q O := by
  refine ofG (L0 := [(0, .ref (zad E p)), (1, .int (zi a1)), (2, .int (zi a2)), (3, .int (zi a3)), (4, .int (zi a4)), (5, .int (zi a5)), (6, .int (zi a6))]) hq (by decide +kernel) (Nat.le_of_ble_eq_true rfl) rfl (fun K _ C hQ => ?_)
  unfold f_X7_addVersion
  refine r_aload_n (pc := 0) (j := 0) C dX7_addVersion_0 rfl rfl ?_
  refine r_getR (j := 0) (r := (p + 1)) C cl_X7 (gSt_k hp).1 (gSt_k hp).2.1 (by decide) rfl (hp.2.2 (0, 0, 1) (by decide)) (by omega) q_507 dX7_addVersion_1 ?_
  refine r_iload_n (pc := 4) (j := 1) C dX7_addVersion_4 rfl rfl ?_
  refine r_jn (fun q1553 e1554 => ?_)
  refine r_cV0 (pc := 5) (k := (p + 1)) (As := [.int (zi a1)]) (st := []) C (m_X6_add (p := (p + 1)) (a1 := a1) (gSt_w hp (i := 0) (by decide)) ha1 e1554) cal_X6_add cl_X6 (gRw_k (gSt_w hp (i := 0) (by decide))).1 (gRw_k (gSt_w hp (i := 0) (by decide))).2.1 q_506 dX7_addVersion_5 rfl rfl (Nat.le_of_ble_eq_true rfl) (Nat.le_of_ble_eq_true rfl) (Nat.le_of_ble_eq_true rfl) (Nat.le_of_ble_eq_true rfl) (Nat.le_of_ble_eq_true rfl) (fun h1552 => ?_)
  refine r_aload_n (pc := 8) (j := 0) C dX7_addVersion_8 rfl rfl ?_
  refine r_getR (j := 1) (r := (p + 3)) C cl_X7 (gSt_k hp).1 (gSt_k hp).2.1 (by decide) rfl (hp.2.2 (0, 1, 3) (by decide)) (by omega) q_511 dX7_addVersion_9 ?_
  refine r_iload_n (pc := 12) (j := 2) C dX7_addVersion_12 rfl rfl ?_
  refine r_jn (fun q1556 e1557 => ?_)
  refine r_cV0 (pc := 13) (k := (p + 3)) (As := [.int (zi a2)]) (st := []) C (m_X6_add (p := (p + 3)) (a1 := a2) (gSt_w hp (i := 1) (by decide)) ha2 e1557) cal_X6_add cl_X6 (gRw_k (gSt_w hp (i := 1) (by decide))).1 (gRw_k (gSt_w hp (i := 1) (by decide))).2.1 q_506 dX7_addVersion_13 rfl rfl (Nat.le_of_ble_eq_true rfl) (Nat.le_of_ble_eq_true rfl) (Nat.le_of_ble_eq_true rfl) (Nat.le_of_ble_eq_true rfl) (Nat.le_of_ble_eq_true rfl) (fun h1555 => ?_)
  refine r_aload_n (pc := 16) (j := 0) C dX7_addVersion_16 rfl rfl ?_
  refine r_getR (j := 2) (r := (p + 5)) C cl_X7 (gSt_k hp).1 (gSt_k hp).2.1 (by decide) rfl (hp.2.2 (0, 2, 5) (by decide)) (by omega) q_515 dX7_addVersion_17 ?_
  refine r_iload_n (pc := 20) (j := 3) C dX7_addVersion_20 rfl rfl ?_
  refine r_jn (fun q1559 e1560 => ?_)
  refine r_cV0 (pc := 21) (k := (p + 5)) (As := [.int (zi a3)]) (st := []) C (m_X6_add (p := (p + 5)) (a1 := a3) (gSt_w hp (i := 2) (by decide)) ha3 e1560) cal_X6_add cl_X6 (gRw_k (gSt_w hp (i := 2) (by decide))).1 (gRw_k (gSt_w hp (i := 2) (by decide))).2.1 q_506 dX7_addVersion_21 rfl rfl (Nat.le_of_ble_eq_true rfl) (Nat.le_of_ble_eq_true rfl) (Nat.le_of_ble_eq_true rfl) (Nat.le_of_ble_eq_true rfl) (Nat.le_of_ble_eq_true rfl) (fun h1558 => ?_)
  refine r_aload_n (pc := 24) (j := 0) C dX7_addVersion_24 rfl rfl ?_
  refine r_getR (j := 3) (r := (p + 7)) C cl_X7 (gSt_k hp).1 (gSt_k hp).2.1 (by decide) rfl (hp.2.2 (0, 3, 7) (by decide)) (by omega) q_518 dX7_addVersion_25 ?_
  refine r_iload (pc := 28) (j := 4) C dX7_addVersion_28 rfl ?_
  refine r_jn (fun q1562 e1563 => ?_)
  refine r_cV0 (pc := 30) (k := (p + 7)) (As := [.int (zi a4)]) (st := []) C (m_X6_add (p := (p + 7)) (a1 := a4) (gSt_w hp (i := 3) (by decide)) ha4 e1563) cal_X6_add cl_X6 (gRw_k (gSt_w hp (i := 3) (by decide))).1 (gRw_k (gSt_w hp (i := 3) (by decide))).2.1 q_506 dX7_addVersion_30 rfl rfl (Nat.le_of_ble_eq_true rfl) (Nat.le_of_ble_eq_true rfl) (Nat.le_of_ble_eq_true rfl) (Nat.le_of_ble_eq_true rfl) (Nat.le_of_ble_eq_true rfl) (fun h1561 => ?_)
  refine r_aload_n (pc := 33) (j := 0) C dX7_addVersion_33 rfl rfl ?_
  refine r_getR (j := 4) (r := (p + 9)) C cl_X7 (gSt_k hp).1 (gSt_k hp).2.1 (by decide) rfl (hp.2.2 (0, 4, 9) (by decide)) (by omega) q_521 dX7_addVersion_34 ?_
  refine r_iload (pc := 37) (j := 5) C dX7_addVersion_37 rfl ?_
  refine r_jn (fun q1565 e1566 => ?_)
  refine r_cV0 (pc := 39) (k := (p + 9)) (As := [.int (zi a5)]) (st := []) C (m_X6_add (p := (p + 9)) (a1 := a5) (gSt_w hp (i := 4) (by decide)) ha5 e1566) cal_X6_add cl_X6 (gRw_k (gSt_w hp (i := 4) (by decide))).1 (gRw_k (gSt_w hp (i := 4) (by decide))).2.1 q_506 dX7_addVersion_39 rfl rfl (Nat.le_of_ble_eq_true rfl) (Nat.le_of_ble_eq_true rfl) (Nat.le_of_ble_eq_true rfl) (Nat.le_of_ble_eq_true rfl) (Nat.le_of_ble_eq_true rfl) (fun h1564 => ?_)
  refine r_aload_n (pc := 42) (j := 0) C dX7_addVersion_42 rfl rfl ?_
  refine r_getR (j := 5) (r := (p + 11)) C cl_X7 (gSt_k hp).1 (gSt_k hp).2.1 (by decide) rfl (hp.2.2 (0, 5, 11) (by decide)) (by omega) q_523 dX7_addVersion_43 ?_
  refine r_iload (pc := 46) (j := 6) C dX7_addVersion_46 rfl ?_
  refine r_jn (fun q1568 e1569 => ?_)
  refine r_cV0 (pc := 48) (k := (p + 11)) (As := [.int (zi a6)]) (st := []) C (m_X6_add (p := (p + 11)) (a1 := a6) (gSt_w hp (i := 5) (by decide)) ha6 e1569) cal_X6_add cl_X6 (gRw_k (gSt_w hp (i := 5) (by decide))).1 (gRw_k (gSt_w hp (i := 5) (by decide))).2.1 q_506 dX7_addVersion_48 rfl rfl (Nat.le_of_ble_eq_true rfl) (Nat.le_of_ble_eq_true rfl) (Nat.le_of_ble_eq_true rfl) (Nat.le_of_ble_eq_true rfl) (Nat.le_of_ble_eq_true rfl) (fun h1567 => ?_)
  exact r_return C hQ dX7_addVersion_51 (fun e => by subst e; exact ⟨trivial, rfl, rfl, rfl, rfl, rfl⟩)

def f_X7_restart (p : Nat) (S : Sst) : Sst :=
  jn (f_X7_keepVersions p 0 S) fun (q1571 : Sst) =>
  jn (f_X7_keepNodes p 0 q1571) fun (q1574 : Sst) =>
  jn (f_X6_fill (p + 31) 8 (-1) q1574) fun (q1577 : Sst) =>
  jn (f_X7_addVersion p 0 0 0 0 (-1) 0 q1577) fun (q1580 : Sst) =>
  q1580
set_option maxRecDepth 100000 in
set_option maxHeartbeats 4000000 in
theorem m_X7_restart {l : Launch} {E : EwT} {n : Nat} {R : Srf} {S : Sst} {O : Smo} {p : Nat} (hp : gSt n R p) {q : Sst} (hq : f_X7_restart p S = q) : MetG l E yX7_restart cX7_restart 1 none 2 47 0 0 n R S O [.ref (zad E p)] (True) none n R q O := by
  refine ofG (L0 := [(0, .ref (zad E p))]) hq (by decide +kernel) (Nat.le_of_ble_eq_true rfl) rfl (fun K _ C hQ => ?_)
  unfold f_X7_restart
  refine r_aload_n (pc := 0) (j := 0) C dX7_restart_0 rfl rfl ?_
  refine r_iconst (v := 0) C dX7_restart_1 (by decide) ?_
  refine r_jn (fun q1571 e1572 => ?_)
  refine r_cV0 (pc := 2) (k := p) (As := [.int (zi 0)]) (st := []) C (m_X7_keepVersions (p := p) (a1 := 0) hp (IRd rfl) e1572) cal_X7_keepVersions cl_X7 (gSt_k hp).1 (gSt_k hp).2.1 q_485 dX7_restart_2 rfl rfl (Nat.le_of_ble_eq_true rfl) (Nat.le_of_ble_eq_true rfl) (Nat.le_of_ble_eq_true rfl) (Nat.le_of_ble_eq_true rfl) (Nat.le_of_ble_eq_true rfl) (fun h1570 => ?_)
  refine r_aload_n (pc := 5) (j := 0) C dX7_restart_5 rfl rfl ?_
  refine r_iconst (v := 0) C dX7_restart_6 (by decide) ?_
  refine r_jn (fun q1574 e1575 => ?_)
  refine r_cV0 (pc := 7) (k := p) (As := [.int (zi 0)]) (st := []) C (m_X7_keepNodes (p := p) (a1 := 0) hp (IRd rfl) e1575) cal_X7_keepNodes cl_X7 (gSt_k hp).1 (gSt_k hp).2.1 q_493 dX7_restart_7 rfl rfl (Nat.le_of_ble_eq_true rfl) (Nat.le_of_ble_eq_true rfl) (Nat.le_of_ble_eq_true rfl) (Nat.le_of_ble_eq_true rfl) (Nat.le_of_ble_eq_true rfl) (fun h1573 => ?_)
  refine r_aload_n (pc := 10) (j := 0) C dX7_restart_10 rfl rfl ?_
  refine r_getR (j := 15) (r := (p + 31)) C cl_X7 (gSt_k hp).1 (gSt_k hp).2.1 (by decide) rfl (hp.2.2 (0, 15, 31) (by decide)) (by omega) q_542 dX7_restart_11 ?_
  refine r_bipush (v := 8) C dX7_restart_14 (by decide) ?_
  refine r_iconst (v := (-1)) C dX7_restart_16 (by decide) ?_
  refine r_jn (fun q1577 e1578 => ?_)
  refine r_cV0 (pc := 17) (k := (p + 31)) (As := [.int (zi 8), .int (zi (-1))]) (st := []) C (m_X6_fill (p := (p + 31)) (a1 := 8) (a2 := (-1)) (gSt_w hp (i := 15) (by decide)) (IRd rfl) (IRd rfl) e1578) cal_X6_fill cl_X6 (gRw_k (gSt_w hp (i := 15) (by decide))).1 (gRw_k (gSt_w hp (i := 15) (by decide))).2.1 q_497 dX7_restart_17 rfl rfl (Nat.le_of_ble_eq_true rfl) (Nat.le_of_ble_eq_true rfl) (Nat.le_of_ble_eq_true rfl) (Nat.le_of_ble_eq_true rfl) (Nat.le_of_ble_eq_true rfl) (fun h1576 => ?_)
  refine r_aload_n (pc := 20) (j := 0) C dX7_restart_20 rfl rfl ?_
  refine r_iconst (v := 0) C dX7_restart_21 (by decide) ?_
  refine r_iconst (v := 0) C dX7_restart_22 (by decide) ?_
  refine r_iconst (v := 0) C dX7_restart_23 (by decide) ?_
  refine r_iconst (v := 0) C dX7_restart_24 (by decide) ?_
  refine r_iconst (v := (-1)) C dX7_restart_25 (by decide) ?_
  refine r_iconst (v := 0) C dX7_restart_26 (by decide) ?_
  refine r_jn (fun q1580 e1581 => ?_)
  refine r_cV0 (pc := 27) (k := p) (As := [.int (zi 0), .int (zi 0), .int (zi 0), .int (zi 0), .int (zi (-1)), .int (zi 0)]) (st := []) C (m_X7_addVersion (p := p) (a1 := 0) (a2 := 0) (a3 := 0) (a4 := 0) (a5 := (-1)) (a6 := 0) hp (IRd rfl) (IRd rfl) (IRd rfl) (IRd rfl) (IRd rfl) (IRd rfl) e1581) cal_X7_addVersion cl_X7 (gSt_k hp).1 (gSt_k hp).2.1 q_502 dX7_restart_27 rfl rfl (Nat.le_of_ble_eq_true rfl) (Nat.le_of_ble_eq_true rfl) (Nat.le_of_ble_eq_true rfl) (Nat.le_of_ble_eq_true rfl) (Nat.le_of_ble_eq_true rfl) (fun h1579 => ?_)
  exact r_return C hQ dX7_restart_30 (fun e => by subst e; exact ⟨trivial, rfl, rfl, rfl, rfl, rfl⟩)

def f_X7_newest (p : Nat) (S : Sst) : Int :=
  wr ((f_X6_size (p + 1) S) - 1)
set_option maxRecDepth 100000 in
set_option maxHeartbeats 4000000 in
theorem m_X7_newest {l : Launch} {E : EwT} {S : Sst} {O : Smo} {p : Nat} (hp : gSt n0 R0 p) {q : Int} (hq : f_X7_newest p S = q) : MetG l E yX7_newest cX7_newest 1 (some .int) 1 20 0 0 n0 R0 S O [.ref (zad E p)] (IR q) (some (.int (zi q))) n0 R0 S O := by
  refine ofG (L0 := [(0, .ref (zad E p))]) hq (by decide +kernel) (Nat.le_of_ble_eq_true rfl) rfl (fun K _ C hQ => ?_)
  unfold f_X7_newest
  refine r_aload_n (pc := 0) (j := 0) C dX7_newest_0 rfl rfl ?_
  refine r_getR (j := 0) (r := (p + 1)) C cl_X7 (gSt_k hp).1 (gSt_k hp).2.1 (by decide) rfl (hp.2.2 (0, 0, 1) (by decide)) (by omega) q_507 dX7_newest_1 ?_
  refine r_cV1 (pc := 4) (k := (p + 1)) (As := []) (st := []) C (m_X6_size (p := (p + 1)) (gSt_w hp (i := 0) (by decide)) rfl) cal_X6_size cl_X6 (gRw_k (gSt_w hp (i := 0) (by decide))).1 (gRw_k (gSt_w hp (i := 0) (by decide))).2.1 q_1040 dX7_newest_4 rfl rfl (Nat.le_of_ble_eq_true rfl) (Nat.le_of_ble_eq_true rfl) (Nat.le_of_ble_eq_true rfl) (Nat.le_of_ble_eq_true rfl) (Nat.le_of_ble_eq_true rfl) (fun h1629 => ?_)
  refine r_iconst (v := 1) C dX7_newest_7 (by decide) ?_
  refine r_isub C dX7_newest_8 ?_
  exact r_ireturn C hQ rfl dX7_newest_9 (fun e => by subst e; exact ⟨(IR_wr _), rfl, rfl, rfl, rfl, rfl⟩)

def f_X7_isIn (p : Nat) (a1 : Int) (a2 : Int) (S : Sst) : Int :=
  if ((a2 < 0 ∨ ¬ a2 < 8) ∨ zand (zshr (f_X6_at (p + 3) a1 S) a2) 1 = 0) then
    (0)
  else
    (1)
set_option maxRecDepth 100000 in
set_option maxHeartbeats 4000000 in
theorem m_X7_isIn {l : Launch} {E : EwT} {S : Sst} {O : Smo} {p : Nat} (hp : gSt n0 R0 p) {a1 : Int} (ha1 : IR a1) {a2 : Int} (ha2 : IR a2) {q : Int} (hq : f_X7_isIn p a1 a2 S = q) : MetG l E yX7_isIn cX7_isIn 3 (some .boolean) 1 21 0 0 n0 R0 S O [.ref (zad E p), .int (zi a1), .int (zi a2)] (BR q) (some (.int (zi q))) n0 R0 S O := by
  refine ofG (L0 := [(0, .ref (zad E p)), (1, .int (zi a1)), (2, .int (zi a2))]) hq (by decide +kernel) (Nat.le_of_ble_eq_true rfl) rfl (fun K _ C hQ => ?_)
  unfold f_X7_isIn
  refine r_iload_n (pc := 0) (j := 2) C dX7_isIn_0 rfl rfl ?_
  refine r_cut ((a2 < 0 ∨ ¬ a2 < 8) ∨ zand (zshr (f_X6_at (p + 3) a1 S) a2) 1 = 0) 29 25 [] (fun c1631 => ?_) (fun c1631 => ?_) (fun k1632 k1633 => ?_)
  · refine r_t c1631 ?_
    refine r_iconst (v := 0) C dX7_isIn_29 (by decide) ?_
    exact r_ireturn C hQ (nar_z (BRd rfl)) dX7_isIn_30 (fun e => by subst e; exact ⟨(BRd rfl), rfl, rfl, rfl, rfl, rfl⟩)
  · refine r_f c1631 ?_
    refine r_iconst (v := 1) C dX7_isIn_25 (by decide) ?_
    refine r_goto (tgt := 30) C dX7_isIn_26 (by decide) ?_
    exact r_ireturn C hQ (nar_z (BRd rfl)) dX7_isIn_30 (fun e => by subst e; exact ⟨(BRd rfl), rfl, rfl, rfl, rfl, rfl⟩)
  · refine r_if_lt (tgt := 29) C ha2 dX7_isIn_1 (by decide) (fun c1634 => ?_) (fun c1634 => ?_)
    · exact k1632 (Or.inl (Or.inl c1634))
    · refine r_iload_n (pc := 4) (j := 2) C dX7_isIn_4 rfl rfl ?_
      refine r_bipush (v := 8) C dX7_isIn_5 (by decide) ?_
      refine r_icmp_ge (tgt := 29) C ha2 (IRd rfl) dX7_isIn_7 (by decide) (fun c1635 => ?_) (fun c1635 => ?_)
      · exact k1632 (Or.inl (Or.inr c1635))
      · refine r_aload_n (pc := 10) (j := 0) C dX7_isIn_10 rfl rfl ?_
        refine r_getR (j := 1) (r := (p + 3)) C cl_X7 (gSt_k hp).1 (gSt_k hp).2.1 (by decide) rfl (hp.2.2 (0, 1, 3) (by decide)) (by omega) q_511 dX7_isIn_11 ?_
        refine r_iload_n (pc := 14) (j := 1) C dX7_isIn_14 rfl rfl ?_
        refine r_cV1 (pc := 15) (k := (p + 3)) (As := [.int (zi a1)]) (st := []) C (m_X6_at (p := (p + 3)) (a1 := a1) (gSt_w hp (i := 1) (by decide)) ha1 rfl) cal_X6_at cl_X6 (gRw_k (gSt_w hp (i := 1) (by decide))).1 (gRw_k (gSt_w hp (i := 1) (by decide))).2.1 q_1046 dX7_isIn_15 rfl rfl (Nat.le_of_ble_eq_true rfl) (Nat.le_of_ble_eq_true rfl) (Nat.le_of_ble_eq_true rfl) (Nat.le_of_ble_eq_true rfl) (Nat.le_of_ble_eq_true rfl) (fun h1630 => ?_)
        refine r_iload_n (pc := 18) (j := 2) C dX7_isIn_18 rfl rfl ?_
        refine r_ishr C dX7_isIn_19 ?_
        refine r_iconst (v := 1) C dX7_isIn_20 (by decide) ?_
        refine r_iand C dX7_isIn_21 ?_
        refine r_if_eq (tgt := 29) C (i32_IR _) dX7_isIn_22 (by decide) (fun c1636 => ?_) (fun c1636 => ?_)
        · exact k1632 (Or.inr c1636)
        · exact k1633 (fun w => w.elim (fun w => w.elim c1634 (fun x => x c1635)) c1636)

def f_X10_order (a1 : Int) (S : Sst) : Option (Sst) :=
  jn (f_X6_fill 60 (f_J6_bitCount_0f7a4 a1) (-1) S) fun (q1761 : Sst) =>
  Option.bind (lp (fun (s1763 : Int × Sst) =>
    if s1763.1 < 8 then
      (jn (
        if zand (zshr a1 s1763.1) 1 = 0 then
          (s1763.2)
        else
          (jn (f_X6_put 60 (f_J6_bitCount_0f7a4 (zand (f_X6_at 42 s1763.1 s1763.2) a1)) s1763.1 s1763.2) fun (q1778 : Sst) =>
          q1778)) fun (q1770 : Sst) =>
      some (Sum.inl (wr (s1763.1 + 1), q1770)))
    else
      (some (Sum.inr s1763.2))) FU (0, q1761)) fun (r1780 : Sst) =>
  some r1780
set_option maxRecDepth 100000 in
set_option maxHeartbeats 4000000 in
theorem m_X10_order {l : Launch} {E : EwT} {S : Sst} {O : Smo} {a1 : Int} (ha1 : IR a1) {q : Sst} (hq : f_X10_order a1 S = some q) : MetG l E yX10_order cX10_order 3 none 2 44 0 0 n0 R0 S O [.ref (zad E 59), .int (zi a1)] (True) none n0 R0 q O := by
  refine ofG (L0 := [(0, .ref (zad E 59)), (1, .int (zi a1))]) hq (by decide +kernel) (Nat.le_of_ble_eq_true rfl) rfl (fun K _ C hQ => ?_)
  unfold f_X10_order
  refine r_aload_n (pc := 0) (j := 0) C dX10_order_0 rfl rfl ?_
  refine r_getR (j := 0) (r := 60) C cl_X10 kd_59 ln_59 (by decide) rfl r0_59_0 (by decide) q_431 dX10_order_1 ?_
  refine r_iload_n (pc := 4) (j := 1) C dX10_order_4 rfl rfl ?_
  refine r_cS1 (pc := 5) (As := [.int (zi a1)]) (st := [.ref (zad E 60)]) C (m_J6_bitCount_0f7a4 (a0 := a1) ha1 rfl) cal_J6_bitCount_0f7a4 q_1107 dX10_order_5 rfl rfl (Nat.le_of_ble_eq_true rfl) (Nat.le_of_ble_eq_true rfl) (Nat.le_of_ble_eq_true rfl) (Nat.le_of_ble_eq_true rfl) (Nat.le_of_ble_eq_true rfl) (fun h1759 => ?_)
  refine r_iconst (v := (-1)) C dX10_order_8 (by decide) ?_
  refine r_jn (fun q1761 e1762 => ?_)
  refine r_cV0 (pc := 9) (k := 60) (As := [.int (zi (f_J6_bitCount_0f7a4 a1)), .int (zi (-1))]) (st := []) C (m_X6_fill (p := 60) (a1 := f_J6_bitCount_0f7a4 a1) (a2 := (-1)) gw_60 h1759 (IRd rfl) e1762) cal_X6_fill cl_X6 kd_60 ln_60 q_1113 dX10_order_9 rfl rfl (Nat.le_of_ble_eq_true rfl) (Nat.le_of_ble_eq_true rfl) (Nat.le_of_ble_eq_true rfl) (Nat.le_of_ble_eq_true rfl) (Nat.le_of_ble_eq_true rfl) (fun h1760 => ?_)
  refine r_iconst (v := 0) C dX10_order_12 (by decide) ?_
  refine r_istore_n (L' := [(2, .int (zi 0)), (0, .ref (zad E 59)), (1, .int (zi a1))]) C dX10_order_13 rfl (by decide) rfl ?_
  refine r_L (L' := [(0, .ref (zad E 59)), (1, .int (zi a1)), (2, .int (zi 0))]) [1, 2, 0] rfl ?_
  refine r_loop1 (fun s1763 : Int × Sst => IR s1763.1) (fun s1763 => s1763.2) (fun s1763 => O) (fun s1763 => [(0, .ref (zad E 59)), (1, .int (zi a1)), (2, .int (zi s1763.1))]) [] (fun r1780 : Sst => True) (fun r1780 => r1780) (fun r1780 => O) (fun r1780 => []) 58 (fun r1780 h1781 => ?_) (fun k1765 k1767 k1766 k1768 s1763 h1764 => ?_) (IRd rfl)
  · exact r_return C hQ dX10_order_58 (fun e => by cases e; exact ⟨trivial, rfl, rfl, rfl, rfl, rfl⟩)
  · refine r_iload_n (pc := 14) (j := 2) C dX10_order_14 rfl rfl ?_
    refine r_bipush (v := 8) C dX10_order_15 (by decide) ?_
    refine r_icmp_ge (tgt := 58) C h1764 (IRd rfl) dX10_order_17 (by decide) (fun c1769 => ?_) (fun c1769 => ?_)
    · refine r_bf c1769 ?_
      refine r_L (L' := []) [] rfl ?_
      exact k1768 s1763.2 trivial
    · refine r_bt c1769 ?_
      refine r_iload_n (pc := 20) (j := 1) C dX10_order_20 rfl rfl ?_
      refine r_iload_n (pc := 21) (j := 2) C dX10_order_21 rfl rfl ?_
      refine r_ishr C dX10_order_22 ?_
      refine r_iconst (v := 1) C dX10_order_23 (by decide) ?_
      refine r_iand C dX10_order_24 ?_
      refine r_bj ?_
      refine r_join (fun q1770 : Sst => True) (fun q1770 => q1770) (fun q1770 => O) (fun q1770 => [(0, .ref (zad E 59)), (1, .int (zi a1)), (2, .int (zi s1763.1))]) 52 (fun q1770 => []) (fun q1770 h1771 => ?_) (fun k1772 k1773 => ?_)
      · refine r_iinc (j := 2) (L' := [(2, .int (zi (wr (s1763.1 + 1)))), (0, .ref (zad E 59)), (1, .int (zi a1))]) C dX10_order_52 rfl (by decide) rfl ?_
        refine r_goto (tgt := 14) C dX10_order_55 (by decide) ?_
        refine r_L (L' := [(0, .ref (zad E 59)), (1, .int (zi a1)), (2, .int (zi (wr (s1763.1 + 1))))]) [1, 2, 0] rfl ?_
        exact k1766 (wr (s1763.1 + 1), q1770) (IR_wr _)
      · refine r_if_eq (tgt := 52) C (i32_IR _) dX10_order_25 (by decide) (fun c1774 => ?_) (fun c1774 => ?_)
        · refine r_jt c1774 ?_
          exact k1773 s1763.2 trivial
        · refine r_jf c1774 ?_
          refine r_aload_n (pc := 28) (j := 0) C dX10_order_28 rfl rfl ?_
          refine r_getR (j := 0) (r := 60) C cl_X10 kd_59 ln_59 (by decide) rfl r0_59_0 (by decide) q_431 dX10_order_29 ?_
          refine r_aload_n (pc := 32) (j := 0) C dX10_order_32 rfl rfl ?_
          refine r_getR (j := 7) (r := 29) C cl_X10 kd_59 ln_59 (by decide) rfl r0_59_7 (by decide) q_449 dX10_order_33 ?_
          refine r_getR (j := 6) (r := 42) C cl_X4 kd_29 ln_29 (by decide) rfl r0_29_6 (by decide) q_233 dX10_order_36 ?_
          refine r_iload_n (pc := 39) (j := 2) C dX10_order_39 rfl rfl ?_
          refine r_cV1 (pc := 40) (k := 42) (As := [.int (zi s1763.1)]) (st := [.ref (zad E 60)]) C (m_X6_at (p := 42) (a1 := s1763.1) gw_42 h1764 rfl) cal_X6_at cl_X6 kd_42 ln_42 q_1114 dX10_order_40 rfl rfl (Nat.le_of_ble_eq_true rfl) (Nat.le_of_ble_eq_true rfl) (Nat.le_of_ble_eq_true rfl) (Nat.le_of_ble_eq_true rfl) (Nat.le_of_ble_eq_true rfl) (fun h1775 => ?_)
          refine r_iload_n (pc := 43) (j := 1) C dX10_order_43 rfl rfl ?_
          refine r_iand C dX10_order_44 ?_
          refine r_cS1 (pc := 45) (As := [.int (zi (zand (f_X6_at 42 s1763.1 s1763.2) a1))]) (st := [.ref (zad E 60)]) C (m_J6_bitCount_0f7a4 (a0 := zand (f_X6_at 42 s1763.1 s1763.2) a1) (i32_IR _) rfl) cal_J6_bitCount_0f7a4 q_1107 dX10_order_45 rfl rfl (Nat.le_of_ble_eq_true rfl) (Nat.le_of_ble_eq_true rfl) (Nat.le_of_ble_eq_true rfl) (Nat.le_of_ble_eq_true rfl) (Nat.le_of_ble_eq_true rfl) (fun h1776 => ?_)
          refine r_iload_n (pc := 48) (j := 2) C dX10_order_48 rfl rfl ?_
          refine r_jj ?_
          refine r_jn (fun q1778 e1779 => ?_)
          refine r_cV0 (pc := 49) (k := 60) (As := [.int (zi (f_J6_bitCount_0f7a4 (zand (f_X6_at 42 s1763.1 s1763.2) a1))), .int (zi s1763.1)]) (st := []) C (m_X6_put (p := 60) (a1 := f_J6_bitCount_0f7a4 (zand (f_X6_at 42 s1763.1 s1763.2) a1)) (a2 := s1763.1) gw_60 h1776 h1764 e1779) cal_X6_put cl_X6 kd_60 ln_60 q_1115 dX10_order_49 rfl rfl (Nat.le_of_ble_eq_true rfl) (Nat.le_of_ble_eq_true rfl) (Nat.le_of_ble_eq_true rfl) (Nat.le_of_ble_eq_true rfl) (Nat.le_of_ble_eq_true rfl) (fun h1777 => ?_)
          exact k1773 q1778 trivial

def f_X10_isHeavier (a1 : Int) (a2 : Int) (S : Sst) : Int :=
  if a2 = (-1) then
    (0)
  else
    (jn (f_X6_at 44 a1 S) fun (v1784 : Int) =>
    jn (f_X6_at 44 a2 S) fun (v1787 : Int) =>
    jk (fun (q1789 : Unit) =>
      1) fun k1791 =>
    if v1787 < v1784 then
      (k1791 ())
    else
      (if (v1784 = v1787 ∧ a1 < a2) then
        (k1791 ())
      else
        (0)))
set_option maxRecDepth 100000 in
set_option maxHeartbeats 4000000 in
theorem m_X10_isHeavier {l : Launch} {E : EwT} {S : Sst} {O : Smo} {a1 : Int} (ha1 : IR a1) {a2 : Int} (ha2 : IR a2) {q : Int} (hq : f_X10_isHeavier a1 a2 S = q) : MetG l E yX10_isHeavier cX10_isHeavier 5 (some .boolean) 1 21 0 0 n0 R0 S O [.ref (zad E 59), .int (zi a1), .int (zi a2)] (BR q) (some (.int (zi q))) n0 R0 S O := by
  refine ofG (L0 := [(0, .ref (zad E 59)), (1, .int (zi a1)), (2, .int (zi a2))]) hq (by decide +kernel) (Nat.le_of_ble_eq_true rfl) rfl (fun K _ C hQ => ?_)
  unfold f_X10_isHeavier
  refine r_iload_n (pc := 0) (j := 2) C dX10_isHeavier_0 rfl rfl ?_
  refine r_iconst (v := (-1)) C dX10_isHeavier_1 (by decide) ?_
  refine r_icmp_ne (tgt := 7) C ha2 (IRd rfl) dX10_isHeavier_2 (by decide) (fun c1782 => ?_) (fun c1782 => ?_)
  · refine r_f c1782 ?_
    refine r_aload_n (pc := 7) (j := 0) C dX10_isHeavier_7 rfl rfl ?_
    refine r_getR (j := 7) (r := 29) C cl_X10 kd_59 ln_59 (by decide) rfl r0_59_7 (by decide) q_449 dX10_isHeavier_8 ?_
    refine r_getR (j := 7) (r := 44) C cl_X4 kd_29 ln_29 (by decide) rfl r0_29_7 (by decide) q_235 dX10_isHeavier_11 ?_
    refine r_iload_n (pc := 14) (j := 1) C dX10_isHeavier_14 rfl rfl ?_
    refine r_cV1 (pc := 15) (k := 44) (As := [.int (zi a1)]) (st := []) C (m_X6_at (p := 44) (a1 := a1) gw_44 ha1 rfl) cal_X6_at cl_X6 kd_44 ln_44 q_1114 dX10_isHeavier_15 rfl rfl (Nat.le_of_ble_eq_true rfl) (Nat.le_of_ble_eq_true rfl) (Nat.le_of_ble_eq_true rfl) (Nat.le_of_ble_eq_true rfl) (Nat.le_of_ble_eq_true rfl) (fun h1783 => ?_)
    refine r_jv h1783 (fun v1784 h1785 => ?_)
    refine r_istore_n (L' := [(3, .int (zi v1784)), (0, .ref (zad E 59)), (1, .int (zi a1)), (2, .int (zi a2))]) C dX10_isHeavier_18 rfl (by decide) rfl ?_
    refine r_aload_n (pc := 19) (j := 1) C dX10_isHeavier_19 rfl rfl ?_
    refine r_getR (j := 7) (r := 29) C cl_X10 kd_59 ln_59 (by decide) rfl r0_59_7 (by decide) q_449 dX10_isHeavier_20 ?_
    refine r_getR (j := 7) (r := 44) C cl_X4 kd_29 ln_29 (by decide) rfl r0_29_7 (by decide) q_235 dX10_isHeavier_23 ?_
    refine r_iload_n (pc := 26) (j := 3) C dX10_isHeavier_26 rfl rfl ?_
    refine r_cV1 (pc := 27) (k := 44) (As := [.int (zi a2)]) (st := []) C (m_X6_at (p := 44) (a1 := a2) gw_44 ha2 rfl) cal_X6_at cl_X6 kd_44 ln_44 q_1114 dX10_isHeavier_27 rfl rfl (Nat.le_of_ble_eq_true rfl) (Nat.le_of_ble_eq_true rfl) (Nat.le_of_ble_eq_true rfl) (Nat.le_of_ble_eq_true rfl) (Nat.le_of_ble_eq_true rfl) (fun h1786 => ?_)
    refine r_jv h1786 (fun v1787 h1788 => ?_)
    refine r_istore (L' := [(4, .int (zi v1787)), (3, .int (zi v1784)), (0, .ref (zad E 59)), (1, .int (zi a1)), (2, .int (zi a2))]) C dX10_isHeavier_30 (by decide) rfl ?_
    refine r_iload_n (pc := 32) (j := 1) C dX10_isHeavier_32 rfl rfl ?_
    refine r_iload (pc := 33) (j := 0) C dX10_isHeavier_33 rfl ?_
    refine r_jk (fun q1789 : Unit => True) (fun q1789 => S) (fun q1789 => O) (fun q1789 => []) 49 (fun q1789 => []) (fun q1789 h1790 => ?_) (fun k1791 k1792 => ?_)
    · refine r_iconst (v := 1) C dX10_isHeavier_49 (by decide) ?_
      refine r_goto (tgt := 54) C dX10_isHeavier_50 (by decide) ?_
      exact r_ireturn C hQ (nar_z (BRd rfl)) dX10_isHeavier_54 (fun e => by subst e; exact ⟨(BRd rfl), rfl, rfl, rfl, rfl, rfl⟩)
    · refine r_icmp_gt (tgt := 49) C h1785 h1788 dX10_isHeavier_35 (by decide) (fun c1793 => ?_) (fun c1793 => ?_)
      · refine r_t c1793 ?_
        refine r_L (L' := []) [] rfl ?_
        exact k1792 () trivial
      · refine r_f c1793 ?_
        refine r_iload_n (pc := 38) (j := 1) C dX10_isHeavier_38 rfl rfl ?_
        refine r_iload (pc := 39) (j := 0) C dX10_isHeavier_39 rfl ?_
        refine r_cut (v1784 = v1787 ∧ a1 < a2) 49 53 [] (fun c1794 => ?_) (fun c1794 => ?_) (fun k1795 k1796 => ?_)
        · refine r_t c1794 ?_
          refine r_L (L' := []) [] rfl ?_
          exact k1792 () trivial
        · refine r_f c1794 ?_
          refine r_iconst (v := 0) C dX10_isHeavier_53 (by decide) ?_
          exact r_ireturn C hQ (nar_z (BRd rfl)) dX10_isHeavier_54 (fun e => by subst e; exact ⟨(BRd rfl), rfl, rfl, rfl, rfl, rfl⟩)
        · refine r_icmp_ne (tgt := 53) C h1785 h1788 dX10_isHeavier_41 (by decide) (fun c1797 => ?_) (fun c1797 => ?_)
          · exact k1796 (fun w => c1797 w.1)
          · refine r_iload_n (pc := 44) (j := 3) C dX10_isHeavier_44 rfl rfl ?_
            refine r_iload_n (pc := 45) (j := 4) C dX10_isHeavier_45 rfl rfl ?_
            refine r_icmp_ge (tgt := 53) C ha1 ha2 dX10_isHeavier_46 (by decide) (fun c1798 => ?_) (fun c1798 => ?_)
            · exact k1796 (fun w => c1798 w.2)
            · exact k1795 ⟨c1797, c1798⟩
  · refine r_t c1782 ?_
    refine r_iconst (v := 0) C dX10_isHeavier_5 (by decide) ?_
    exact r_ireturn C hQ (nar_z (BRd rfl)) dX10_isHeavier_6 (fun e => by subst e; exact ⟨(BRd rfl), rfl, rfl, rfl, rfl, rfl⟩)

def f_X10_join (S : Sst) : Option (Sst) :=
  jn (f_X6_fill 62 8 (-1) S) fun (q1884 : Sst) =>
  jn (f_X6_fill 64 8 (-1) q1884) fun (q1887 : Sst) =>
  jn (f_X6_clear 70 q1887) fun (q1890 : Sst) =>
  Option.bind (lp (fun (s1892 : Int × Sst) =>
    if s1892.1 < f_X6_size 60 s1892.2 then
      (jn (f_X6_at 60 s1892.1 s1892.2) fun (v1901 : Int) =>
      Option.bind (lp (fun (s1903 : Int × Int × Sst) =>
        if (s1903.2.1 < 8 ∧ ¬ f_X10_isHeavier v1901 (f_X6_last 70 s1903.2.2) s1903.2.2 = 0) then
          (jn (f_X6_takeLast 70 s1903.2.2) fun (q1915 : Int × Sst) =>
          some (Sum.inl (q1915.1, wr (s1903.2.1 + 1), q1915.2)))
        else
          (some (Sum.inr (s1903.1, s1903.2.2)))) FU ((-1), 0, s1892.2)) fun (r1919 : Int × Sst) =>
      jn (f_X6_put 62 v1901 r1919.1 r1919.2) fun (q1922 : Sst) =>
      jn (f_X6_put 64 (f_X6_last 70 q1922) v1901 q1922) fun (q1926 : Sst) =>
      jn (f_X6_add 70 v1901 q1926) fun (q1929 : Sst) =>
      some (Sum.inl (wr (s1892.1 + 1), q1929)))
    else
      (some (Sum.inr s1892.2))) FU (0, q1890)) fun (r1931 : Sst) =>
  jn (upS r1931 59 5 (f_X6_at 70 0 r1931)) fun (S1934 : Sst) =>
  some S1934
set_option maxRecDepth 100000 in
set_option maxHeartbeats 4000000 in
theorem m_X10_join {l : Launch} {E : EwT} {S : Sst} {O : Smo}  {q : Sst} (hq : f_X10_join S = some q) : MetG l E yX10_join cX10_join 5 none 2 45 0 0 n0 R0 S O [.ref (zad E 59)] (True) none n0 R0 q O := by
  refine ofG (L0 := [(0, .ref (zad E 59))]) hq (by decide +kernel) (Nat.le_of_ble_eq_true rfl) rfl (fun K _ C hQ => ?_)
  unfold f_X10_join
  refine r_aload_n (pc := 0) (j := 0) C dX10_join_0 rfl rfl ?_
  refine r_getR (j := 1) (r := 62) C cl_X10 kd_59 ln_59 (by decide) rfl r0_59_1 (by decide) q_434 dX10_join_1 ?_
  refine r_bipush (v := 8) C dX10_join_4 (by decide) ?_
  refine r_iconst (v := (-1)) C dX10_join_6 (by decide) ?_
  refine r_jn (fun q1884 e1885 => ?_)
  refine r_cV0 (pc := 7) (k := 62) (As := [.int (zi 8), .int (zi (-1))]) (st := []) C (m_X6_fill (p := 62) (a1 := 8) (a2 := (-1)) gw_62 (IRd rfl) (IRd rfl) e1885) cal_X6_fill cl_X6 kd_62 ln_62 q_1113 dX10_join_7 rfl rfl (Nat.le_of_ble_eq_true rfl) (Nat.le_of_ble_eq_true rfl) (Nat.le_of_ble_eq_true rfl) (Nat.le_of_ble_eq_true rfl) (Nat.le_of_ble_eq_true rfl) (fun h1883 => ?_)
  refine r_aload_n (pc := 10) (j := 0) C dX10_join_10 rfl rfl ?_
  refine r_getR (j := 2) (r := 64) C cl_X10 kd_59 ln_59 (by decide) rfl r0_59_2 (by decide) q_437 dX10_join_11 ?_
  refine r_bipush (v := 8) C dX10_join_14 (by decide) ?_
  refine r_iconst (v := (-1)) C dX10_join_16 (by decide) ?_
  refine r_jn (fun q1887 e1888 => ?_)
  refine r_cV0 (pc := 17) (k := 64) (As := [.int (zi 8), .int (zi (-1))]) (st := []) C (m_X6_fill (p := 64) (a1 := 8) (a2 := (-1)) gw_64 (IRd rfl) (IRd rfl) e1888) cal_X6_fill cl_X6 kd_64 ln_64 q_1113 dX10_join_17 rfl rfl (Nat.le_of_ble_eq_true rfl) (Nat.le_of_ble_eq_true rfl) (Nat.le_of_ble_eq_true rfl) (Nat.le_of_ble_eq_true rfl) (Nat.le_of_ble_eq_true rfl) (fun h1886 => ?_)
  refine r_aload_n (pc := 20) (j := 0) C dX10_join_20 rfl rfl ?_
  refine r_getR (j := 8) (r := 70) C cl_X10 kd_59 ln_59 (by decide) rfl r0_59_8 (by decide) q_450 dX10_join_21 ?_
  refine r_jn (fun q1890 e1891 => ?_)
  refine r_cV0 (pc := 24) (k := 70) (As := []) (st := []) C (m_X6_clear (p := 70) gw_70 e1891) cal_X6_clear cl_X6 kd_70 ln_70 q_1123 dX10_join_24 rfl rfl (Nat.le_of_ble_eq_true rfl) (Nat.le_of_ble_eq_true rfl) (Nat.le_of_ble_eq_true rfl) (Nat.le_of_ble_eq_true rfl) (Nat.le_of_ble_eq_true rfl) (fun h1889 => ?_)
  refine r_iconst (v := 0) C dX10_join_27 (by decide) ?_
  refine r_istore_n (L' := [(1, .int (zi 0)), (0, .ref (zad E 59))]) C dX10_join_28 rfl (by decide) rfl ?_
  refine r_L (L' := [(0, .ref (zad E 59)), (1, .int (zi 0))]) [1, 0] rfl ?_
  refine r_loop1 (fun s1892 : Int × Sst => IR s1892.1) (fun s1892 => s1892.2) (fun s1892 => O) (fun s1892 => [(0, .ref (zad E 59)), (1, .int (zi s1892.1))]) [] (fun r1931 : Sst => True) (fun r1931 => r1931) (fun r1931 => O) (fun r1931 => [(0, .ref (zad E 59))]) 128 (fun r1931 h1932 => ?_) (fun k1894 k1896 k1895 k1897 s1892 h1893 => ?_) (IRd rfl)
  · refine r_aload_n (pc := 128) (j := 0) C dX10_join_128 rfl rfl ?_
    refine r_aload_n (pc := 129) (j := 0) C dX10_join_129 rfl rfl ?_
    refine r_getR (j := 8) (r := 70) C cl_X10 kd_59 ln_59 (by decide) rfl r0_59_8 (by decide) q_450 dX10_join_130 ?_
    refine r_iconst (v := 0) C dX10_join_133 (by decide) ?_
    refine r_cV1 (pc := 134) (k := 70) (As := [.int (zi 0)]) (st := [.ref (zad E 59)]) C (m_X6_at (p := 70) (a1 := 0) gw_70 (IRd rfl) rfl) cal_X6_at cl_X6 kd_70 ln_70 q_1114 dX10_join_134 rfl rfl (Nat.le_of_ble_eq_true rfl) (Nat.le_of_ble_eq_true rfl) (Nat.le_of_ble_eq_true rfl) (Nat.le_of_ble_eq_true rfl) (Nat.le_of_ble_eq_true rfl) (fun h1933 => ?_)
    refine r_putS C cl_X10 kd_59 ln_59 lc_59 (by decide) (by decide) rfl rfl rfl h1933 q_444 dX10_join_137 (fun S1934 => ?_)
    exact r_return C hQ dX10_join_140 (fun e => by cases e; exact ⟨trivial, rfl, rfl, rfl, rfl, rfl⟩)
  · refine r_iload_n (pc := 29) (j := 1) C dX10_join_29 rfl rfl ?_
    refine r_aload_n (pc := 30) (j := 0) C dX10_join_30 rfl rfl ?_
    refine r_getR (j := 0) (r := 60) C cl_X10 kd_59 ln_59 (by decide) rfl r0_59_0 (by decide) q_431 dX10_join_31 ?_
    refine r_cV1 (pc := 34) (k := 60) (As := []) (st := [.int (zi s1892.1)]) C (m_X6_size (p := 60) gw_60 rfl) cal_X6_size cl_X6 kd_60 ln_60 q_1124 dX10_join_34 rfl rfl (Nat.le_of_ble_eq_true rfl) (Nat.le_of_ble_eq_true rfl) (Nat.le_of_ble_eq_true rfl) (Nat.le_of_ble_eq_true rfl) (Nat.le_of_ble_eq_true rfl) (fun h1898 => ?_)
    refine r_icmp_ge (tgt := 128) C h1893 h1898 dX10_join_37 (by decide) (fun c1899 => ?_) (fun c1899 => ?_)
    · refine r_bf c1899 ?_
      refine r_L (L' := [(0, .ref (zad E 59))]) [0] rfl ?_
      exact k1897 s1892.2 trivial
    · refine r_bt c1899 ?_
      refine r_aload_n (pc := 40) (j := 0) C dX10_join_40 rfl rfl ?_
      refine r_getR (j := 0) (r := 60) C cl_X10 kd_59 ln_59 (by decide) rfl r0_59_0 (by decide) q_431 dX10_join_41 ?_
      refine r_iload_n (pc := 44) (j := 1) C dX10_join_44 rfl rfl ?_
      refine r_cV1 (pc := 45) (k := 60) (As := [.int (zi s1892.1)]) (st := []) C (m_X6_at (p := 60) (a1 := s1892.1) gw_60 h1893 rfl) cal_X6_at cl_X6 kd_60 ln_60 q_1114 dX10_join_45 rfl rfl (Nat.le_of_ble_eq_true rfl) (Nat.le_of_ble_eq_true rfl) (Nat.le_of_ble_eq_true rfl) (Nat.le_of_ble_eq_true rfl) (Nat.le_of_ble_eq_true rfl) (fun h1900 => ?_)
      refine r_bj ?_
      refine r_jv h1900 (fun v1901 h1902 => ?_)
      refine r_istore_n (L' := [(2, .int (zi v1901)), (0, .ref (zad E 59)), (1, .int (zi s1892.1))]) C dX10_join_48 rfl (by decide) rfl ?_
      refine r_iconst (v := (-1)) C dX10_join_49 (by decide) ?_
      refine r_istore_n (L' := [(3, .int (zi (-1))), (2, .int (zi v1901)), (0, .ref (zad E 59)), (1, .int (zi s1892.1))]) C dX10_join_50 rfl (by decide) rfl ?_
      refine r_iconst (v := 0) C dX10_join_51 (by decide) ?_
      refine r_istore (L' := [(4, .int (zi 0)), (3, .int (zi (-1))), (2, .int (zi v1901)), (0, .ref (zad E 59)), (1, .int (zi s1892.1))]) C dX10_join_52 (by decide) rfl ?_
      refine r_L (L' := [(0, .ref (zad E 59)), (1, .int (zi s1892.1)), (2, .int (zi v1901)), (3, .int (zi (-1))), (4, .int (zi 0))]) [3, 4, 2, 1, 0] rfl ?_
      refine r_bb ?_
      refine r_loop1 (fun s1903 : Int × Int × Sst => IR s1903.1 ∧ IR s1903.2.1) (fun s1903 => s1903.2.2) (fun s1903 => O) (fun s1903 => [(0, .ref (zad E 59)), (1, .int (zi s1892.1)), (2, .int (zi v1901)), (3, .int (zi s1903.1)), (4, .int (zi s1903.2.1))]) [] (fun r1919 : Int × Sst => IR r1919.1) (fun r1919 => r1919.2) (fun r1919 => O) (fun r1919 => [(0, .ref (zad E 59)), (1, .int (zi s1892.1)), (2, .int (zi v1901)), (3, .int (zi r1919.1))]) 90 (fun r1919 h1920 => ?_) (fun k1905 k1907 k1906 k1908 s1903 h1904 => ?_) ⟨(IRd rfl), (IRd rfl)⟩
      · refine r_aload_n (pc := 90) (j := 0) C dX10_join_90 rfl rfl ?_
        refine r_getR (j := 1) (r := 62) C cl_X10 kd_59 ln_59 (by decide) rfl r0_59_1 (by decide) q_434 dX10_join_91 ?_
        refine r_iload_n (pc := 94) (j := 2) C dX10_join_94 rfl rfl ?_
        refine r_iload_n (pc := 95) (j := 3) C dX10_join_95 rfl rfl ?_
        refine r_bj ?_
        refine r_jn (fun q1922 e1923 => ?_)
        refine r_cV0 (pc := 96) (k := 62) (As := [.int (zi v1901), .int (zi r1919.1)]) (st := []) C (m_X6_put (p := 62) (a1 := v1901) (a2 := r1919.1) gw_62 h1902 h1920 e1923) cal_X6_put cl_X6 kd_62 ln_62 q_1115 dX10_join_96 rfl rfl (Nat.le_of_ble_eq_true rfl) (Nat.le_of_ble_eq_true rfl) (Nat.le_of_ble_eq_true rfl) (Nat.le_of_ble_eq_true rfl) (Nat.le_of_ble_eq_true rfl) (fun h1921 => ?_)
        refine r_aload_n (pc := 99) (j := 0) C dX10_join_99 rfl rfl ?_
        refine r_getR (j := 2) (r := 64) C cl_X10 kd_59 ln_59 (by decide) rfl r0_59_2 (by decide) q_437 dX10_join_100 ?_
        refine r_aload_n (pc := 103) (j := 0) C dX10_join_103 rfl rfl ?_
        refine r_getR (j := 8) (r := 70) C cl_X10 kd_59 ln_59 (by decide) rfl r0_59_8 (by decide) q_450 dX10_join_104 ?_
        refine r_cV1 (pc := 107) (k := 70) (As := []) (st := [.ref (zad E 64)]) C (m_X6_last (p := 70) gw_70 rfl) cal_X6_last cl_X6 kd_70 ln_70 q_1125 dX10_join_107 rfl rfl (Nat.le_of_ble_eq_true rfl) (Nat.le_of_ble_eq_true rfl) (Nat.le_of_ble_eq_true rfl) (Nat.le_of_ble_eq_true rfl) (Nat.le_of_ble_eq_true rfl) (fun h1924 => ?_)
        refine r_iload_n (pc := 110) (j := 2) C dX10_join_110 rfl rfl ?_
        refine r_bj ?_
        refine r_jn (fun q1926 e1927 => ?_)
        refine r_cV0 (pc := 111) (k := 64) (As := [.int (zi (f_X6_last 70 q1922)), .int (zi v1901)]) (st := []) C (m_X6_put (p := 64) (a1 := f_X6_last 70 q1922) (a2 := v1901) gw_64 h1924 h1902 e1927) cal_X6_put cl_X6 kd_64 ln_64 q_1115 dX10_join_111 rfl rfl (Nat.le_of_ble_eq_true rfl) (Nat.le_of_ble_eq_true rfl) (Nat.le_of_ble_eq_true rfl) (Nat.le_of_ble_eq_true rfl) (Nat.le_of_ble_eq_true rfl) (fun h1925 => ?_)
        refine r_aload_n (pc := 114) (j := 0) C dX10_join_114 rfl rfl ?_
        refine r_getR (j := 8) (r := 70) C cl_X10 kd_59 ln_59 (by decide) rfl r0_59_8 (by decide) q_450 dX10_join_115 ?_
        refine r_iload_n (pc := 118) (j := 2) C dX10_join_118 rfl rfl ?_
        refine r_bj ?_
        refine r_jn (fun q1929 e1930 => ?_)
        refine r_cV0 (pc := 119) (k := 70) (As := [.int (zi v1901)]) (st := []) C (m_X6_add (p := 70) (a1 := v1901) gw_70 h1902 e1930) cal_X6_add cl_X6 kd_70 ln_70 q_1131 dX10_join_119 rfl rfl (Nat.le_of_ble_eq_true rfl) (Nat.le_of_ble_eq_true rfl) (Nat.le_of_ble_eq_true rfl) (Nat.le_of_ble_eq_true rfl) (Nat.le_of_ble_eq_true rfl) (fun h1928 => ?_)
        refine r_iinc (j := 1) (L' := [(1, .int (zi (wr (s1892.1 + 1)))), (0, .ref (zad E 59)), (2, .int (zi v1901)), (3, .int (zi r1919.1))]) C dX10_join_122 rfl (by decide) rfl ?_
        refine r_goto (tgt := 29) C dX10_join_125 (by decide) ?_
        refine r_L (L' := [(0, .ref (zad E 59)), (1, .int (zi (wr (s1892.1 + 1))))]) [1, 0] rfl ?_
        exact k1895 (wr (s1892.1 + 1), q1929) (IR_wr _)
      · refine r_iload (pc := 54) (j := 4) C dX10_join_54 rfl ?_
        refine r_bipush (v := 8) C dX10_join_56 (by decide) ?_
        refine r_cut (s1903.2.1 < 8 ∧ ¬ f_X10_isHeavier v1901 (f_X6_last 70 s1903.2.2) s1903.2.2 = 0) 76 90 [] (fun c1911 => ?_) (fun c1911 => ?_) (fun k1912 k1913 => ?_)
        · refine r_bt c1911 ?_
          refine r_aload_n (pc := 76) (j := 0) C dX10_join_76 rfl rfl ?_
          refine r_getR (j := 8) (r := 70) C cl_X10 kd_59 ln_59 (by decide) rfl r0_59_8 (by decide) q_450 dX10_join_77 ?_
          refine r_bj ?_
          refine r_jn (fun q1915 e1916 => ?_)
          refine r_cV1 (pc := 80) (k := 70) (As := []) (st := []) C (m_X6_takeLast (p := 70) gw_70 e1916) cal_X6_takeLast cl_X6 kd_70 ln_70 q_1130 dX10_join_80 rfl rfl (Nat.le_of_ble_eq_true rfl) (Nat.le_of_ble_eq_true rfl) (Nat.le_of_ble_eq_true rfl) (Nat.le_of_ble_eq_true rfl) (Nat.le_of_ble_eq_true rfl) (fun h1914 => ?_)
          refine r_istore_n (L' := [(3, .int (zi q1915.1)), (0, .ref (zad E 59)), (1, .int (zi s1892.1)), (2, .int (zi v1901)), (4, .int (zi s1903.2.1))]) C dX10_join_83 rfl (by decide) rfl ?_
          refine r_iinc (j := 4) (L' := [(4, .int (zi (wr (s1903.2.1 + 1)))), (3, .int (zi q1915.1)), (0, .ref (zad E 59)), (1, .int (zi s1892.1)), (2, .int (zi v1901))]) C dX10_join_84 rfl (by decide) rfl ?_
          refine r_goto (tgt := 54) C dX10_join_87 (by decide) ?_
          refine r_L (L' := [(0, .ref (zad E 59)), (1, .int (zi s1892.1)), (2, .int (zi v1901)), (3, .int (zi q1915.1)), (4, .int (zi (wr (s1903.2.1 + 1))))]) [2, 3, 4, 1, 0] rfl ?_
          exact k1906 (q1915.1, wr (s1903.2.1 + 1), q1915.2) ⟨h1914, (IR_wr _)⟩
        · refine r_bf c1911 ?_
          refine r_L (L' := [(0, .ref (zad E 59)), (1, .int (zi s1892.1)), (2, .int (zi v1901)), (3, .int (zi s1903.1))]) [0, 1, 2, 3] rfl ?_
          exact k1908 (s1903.1, s1903.2.2) h1904.1
        · refine r_icmp_ge (tgt := 90) C h1904.2 (IRd rfl) dX10_join_58 (by decide) (fun c1917 => ?_) (fun c1917 => ?_)
          · exact k1913 (fun w => c1917 w.1)
          · refine r_aload_n (pc := 61) (j := 0) C dX10_join_61 rfl rfl ?_
            refine r_iload_n (pc := 62) (j := 2) C dX10_join_62 rfl rfl ?_
            refine r_aload_n (pc := 63) (j := 0) C dX10_join_63 rfl rfl ?_
            refine r_getR (j := 8) (r := 70) C cl_X10 kd_59 ln_59 (by decide) rfl r0_59_8 (by decide) q_450 dX10_join_64 ?_
            refine r_cV1 (pc := 67) (k := 70) (As := []) (st := [.int (zi v1901), .ref (zad E 59)]) C (m_X6_last (p := 70) gw_70 rfl) cal_X6_last cl_X6 kd_70 ln_70 q_1125 dX10_join_67 rfl rfl (Nat.le_of_ble_eq_true rfl) (Nat.le_of_ble_eq_true rfl) (Nat.le_of_ble_eq_true rfl) (Nat.le_of_ble_eq_true rfl) (Nat.le_of_ble_eq_true rfl) (fun h1909 => ?_)
            refine r_cV1 (pc := 70) (k := 59) (As := [.int (zi v1901), .int (zi (f_X6_last 70 s1903.2.2))]) (st := []) C (m_X10_isHeavier (a1 := v1901) (a2 := f_X6_last 70 s1903.2.2) h1902 h1909 rfl) cal_X10_isHeavier cl_X10 kd_59 ln_59 q_1126 dX10_join_70 rfl rfl (Nat.le_of_ble_eq_true rfl) (Nat.le_of_ble_eq_true rfl) (Nat.le_of_ble_eq_true rfl) (Nat.le_of_ble_eq_true rfl) (Nat.le_of_ble_eq_true rfl) (fun h1910 => ?_)
            refine r_if_eq (tgt := 90) C h1910.ir dX10_join_73 (by decide) (fun c1918 => ?_) (fun c1918 => ?_)
            · exact k1913 (fun w => w.2 c1918)
            · exact k1912 ⟨c1917, c1918⟩

def f_X10_list (o1 : Nat) (o2 : Nat) (o3 : Nat) (S : Sst) : Option (Sst) :=
  jn (f_X6_clear o1 S) fun (q1972 : Sst) =>
  jn (f_X6_clear 70 q1972) fun (q1975 : Sst) =>
  jn (f_X6_addUnlessNone 70 (q1975.2 59 5) q1975) fun (q1979 : Sst) =>
  Option.bind (lp (fun (s1981 : Int × Sst) =>
    if (s1981.1 < 8 ∧ 0 < f_X6_size 70 s1981.2) then
      (jn (f_X6_takeLast 70 s1981.2) fun (q1992 : Int × Sst) =>
      jn (f_X6_add o1 q1992.1 q1992.2) fun (q1995 : Sst) =>
      jn (f_X6_addUnlessNone 70 (f_X6_at o2 q1992.1 q1995) q1995) fun (q1999 : Sst) =>
      jn (f_X6_addUnlessNone 70 (f_X6_at o3 q1992.1 q1999) q1999) fun (q2003 : Sst) =>
      some (Sum.inl (wr (s1981.1 + 1), q2003)))
    else
      (some (Sum.inr s1981.2))) FU (0, q1979)) fun (r2007 : Sst) =>
  some r2007
set_option maxRecDepth 100000 in
set_option maxHeartbeats 4000000 in
theorem m_X10_list {l : Launch} {E : EwT} {S : Sst} {O : Smo} {o1 : Nat} (ho1 : gRw n0 R0 o1) {o2 : Nat} (ho2 : gRw n0 R0 o2) {o3 : Nat} (ho3 : gRw n0 R0 o3) {q : Sst} (hq : f_X10_list o1 o2 o3 S = some q) : MetG l E yX10_list cX10_list 6 none 2 42 0 0 n0 R0 S O [.ref (zad E 59), .ref (zad E o1), .ref (zad E o2), .ref (zad E o3)] (True) none n0 R0 q O := by
  refine ofG (L0 := [(0, .ref (zad E 59)), (1, .ref (zad E o1)), (2, .ref (zad E o2)), (3, .ref (zad E o3))]) hq (by decide +kernel) (Nat.le_of_ble_eq_true rfl) rfl (fun K _ C hQ => ?_)
  unfold f_X10_list
  refine r_aload_n (pc := 0) (j := 1) C dX10_list_0 rfl rfl ?_
  refine r_jn (fun q1972 e1973 => ?_)
  refine r_cV0 (pc := 1) (k := o1) (As := []) (st := []) C (m_X6_clear (p := o1) ho1 e1973) cal_X6_clear cl_X6 (gRw_k ho1).1 (gRw_k ho1).2.1 q_1123 dX10_list_1 rfl rfl (Nat.le_of_ble_eq_true rfl) (Nat.le_of_ble_eq_true rfl) (Nat.le_of_ble_eq_true rfl) (Nat.le_of_ble_eq_true rfl) (Nat.le_of_ble_eq_true rfl) (fun h1971 => ?_)
  refine r_aload_n (pc := 4) (j := 0) C dX10_list_4 rfl rfl ?_
  refine r_getR (j := 8) (r := 70) C cl_X10 kd_59 ln_59 (by decide) rfl r0_59_8 (by decide) q_450 dX10_list_5 ?_
  refine r_jn (fun q1975 e1976 => ?_)
  refine r_cV0 (pc := 8) (k := 70) (As := []) (st := []) C (m_X6_clear (p := 70) gw_70 e1976) cal_X6_clear cl_X6 kd_70 ln_70 q_1123 dX10_list_8 rfl rfl (Nat.le_of_ble_eq_true rfl) (Nat.le_of_ble_eq_true rfl) (Nat.le_of_ble_eq_true rfl) (Nat.le_of_ble_eq_true rfl) (Nat.le_of_ble_eq_true rfl) (fun h1974 => ?_)
  refine r_aload_n (pc := 11) (j := 0) C dX10_list_11 rfl rfl ?_
  refine r_getR (j := 8) (r := 70) C cl_X10 kd_59 ln_59 (by decide) rfl r0_59_8 (by decide) q_450 dX10_list_12 ?_
  refine r_aload_n (pc := 15) (j := 0) C dX10_list_15 rfl rfl ?_
  refine r_getS (j := 5) C cl_X10 kd_59 ln_59 lc_59 (by decide) (by decide) rfl q_444 dX10_list_16 (fun h1977 => ?_)
  refine r_jn (fun q1979 e1980 => ?_)
  refine r_cV0 (pc := 19) (k := 70) (As := [.int (zi (q1975.2 59 5))]) (st := []) C (m_X6_addUnlessNone (p := 70) (a1 := q1975.2 59 5) gw_70 h1977 e1980) cal_X6_addUnlessNone cl_X6 kd_70 ln_70 q_1136 dX10_list_19 rfl rfl (Nat.le_of_ble_eq_true rfl) (Nat.le_of_ble_eq_true rfl) (Nat.le_of_ble_eq_true rfl) (Nat.le_of_ble_eq_true rfl) (Nat.le_of_ble_eq_true rfl) (fun h1978 => ?_)
  refine r_iconst (v := 0) C dX10_list_22 (by decide) ?_
  refine r_istore (L' := [(4, .int (zi 0)), (0, .ref (zad E 59)), (1, .ref (zad E o1)), (2, .ref (zad E o2)), (3, .ref (zad E o3))]) C dX10_list_23 (by decide) rfl ?_
  refine r_L (L' := [(0, .ref (zad E 59)), (1, .ref (zad E o1)), (2, .ref (zad E o2)), (3, .ref (zad E o3)), (4, .int (zi 0))]) [1, 2, 3, 4, 0] rfl ?_
  refine r_loop1 (fun s1981 : Int × Sst => IR s1981.1) (fun s1981 => s1981.2) (fun s1981 => O) (fun s1981 => [(0, .ref (zad E 59)), (1, .ref (zad E o1)), (2, .ref (zad E o2)), (3, .ref (zad E o3)), (4, .int (zi s1981.1))]) [] (fun r2007 : Sst => True) (fun r2007 => r2007) (fun r2007 => O) (fun r2007 => []) 89 (fun r2007 h2008 => ?_) (fun k1983 k1985 k1984 k1986 s1981 h1982 => ?_) (IRd rfl)
  · exact r_return C hQ dX10_list_89 (fun e => by cases e; exact ⟨trivial, rfl, rfl, rfl, rfl, rfl⟩)
  · refine r_iload (pc := 25) (j := 4) C dX10_list_25 rfl ?_
    refine r_bipush (v := 8) C dX10_list_27 (by decide) ?_
    refine r_cut (s1981.1 < 8 ∧ 0 < f_X6_size 70 s1981.2) 42 89 [] (fun c1988 => ?_) (fun c1988 => ?_) (fun k1989 k1990 => ?_)
    · refine r_bt c1988 ?_
      refine r_aload_n (pc := 42) (j := 0) C dX10_list_42 rfl rfl ?_
      refine r_getR (j := 8) (r := 70) C cl_X10 kd_59 ln_59 (by decide) rfl r0_59_8 (by decide) q_450 dX10_list_43 ?_
      refine r_bj ?_
      refine r_jn (fun q1992 e1993 => ?_)
      refine r_cV1 (pc := 46) (k := 70) (As := []) (st := []) C (m_X6_takeLast (p := 70) gw_70 e1993) cal_X6_takeLast cl_X6 kd_70 ln_70 q_1130 dX10_list_46 rfl rfl (Nat.le_of_ble_eq_true rfl) (Nat.le_of_ble_eq_true rfl) (Nat.le_of_ble_eq_true rfl) (Nat.le_of_ble_eq_true rfl) (Nat.le_of_ble_eq_true rfl) (fun h1991 => ?_)
      refine r_istore (L' := [(5, .int (zi q1992.1)), (0, .ref (zad E 59)), (1, .ref (zad E o1)), (2, .ref (zad E o2)), (3, .ref (zad E o3)), (4, .int (zi s1981.1))]) C dX10_list_49 (by decide) rfl ?_
      refine r_aload_n (pc := 51) (j := 2) C dX10_list_51 rfl rfl ?_
      refine r_iload (pc := 52) (j := 0) C dX10_list_52 rfl ?_
      refine r_bj ?_
      refine r_jn (fun q1995 e1996 => ?_)
      refine r_cV0 (pc := 54) (k := o1) (As := [.int (zi q1992.1)]) (st := []) C (m_X6_add (p := o1) (a1 := q1992.1) ho1 h1991 e1996) cal_X6_add cl_X6 (gRw_k ho1).1 (gRw_k ho1).2.1 q_1131 dX10_list_54 rfl rfl (Nat.le_of_ble_eq_true rfl) (Nat.le_of_ble_eq_true rfl) (Nat.le_of_ble_eq_true rfl) (Nat.le_of_ble_eq_true rfl) (Nat.le_of_ble_eq_true rfl) (fun h1994 => ?_)
      refine r_aload_n (pc := 57) (j := 1) C dX10_list_57 rfl rfl ?_
      refine r_getR (j := 8) (r := 70) C cl_X10 kd_59 ln_59 (by decide) rfl r0_59_8 (by decide) q_450 dX10_list_58 ?_
      refine r_aload_n (pc := 61) (j := 3) C dX10_list_61 rfl rfl ?_
      refine r_iload (pc := 62) (j := 0) C dX10_list_62 rfl ?_
      refine r_cV1 (pc := 64) (k := o2) (As := [.int (zi q1992.1)]) (st := [.ref (zad E 70)]) C (m_X6_at (p := o2) (a1 := q1992.1) ho2 h1991 rfl) cal_X6_at cl_X6 (gRw_k ho2).1 (gRw_k ho2).2.1 q_1114 dX10_list_64 rfl rfl (Nat.le_of_ble_eq_true rfl) (Nat.le_of_ble_eq_true rfl) (Nat.le_of_ble_eq_true rfl) (Nat.le_of_ble_eq_true rfl) (Nat.le_of_ble_eq_true rfl) (fun h1997 => ?_)
      refine r_bj ?_
      refine r_jn (fun q1999 e2000 => ?_)
      refine r_cV0 (pc := 67) (k := 70) (As := [.int (zi (f_X6_at o2 q1992.1 q1995))]) (st := []) C (m_X6_addUnlessNone (p := 70) (a1 := f_X6_at o2 q1992.1 q1995) gw_70 h1997 e2000) cal_X6_addUnlessNone cl_X6 kd_70 ln_70 q_1136 dX10_list_67 rfl rfl (Nat.le_of_ble_eq_true rfl) (Nat.le_of_ble_eq_true rfl) (Nat.le_of_ble_eq_true rfl) (Nat.le_of_ble_eq_true rfl) (Nat.le_of_ble_eq_true rfl) (fun h1998 => ?_)
      refine r_aload_n (pc := 70) (j := 1) C dX10_list_70 rfl rfl ?_
      refine r_getR (j := 8) (r := 70) C cl_X10 kd_59 ln_59 (by decide) rfl r0_59_8 (by decide) q_450 dX10_list_71 ?_
      refine r_aload_n (pc := 74) (j := 4) C dX10_list_74 rfl rfl ?_
      refine r_iload (pc := 75) (j := 0) C dX10_list_75 rfl ?_
      refine r_cV1 (pc := 77) (k := o3) (As := [.int (zi q1992.1)]) (st := [.ref (zad E 70)]) C (m_X6_at (p := o3) (a1 := q1992.1) ho3 h1991 rfl) cal_X6_at cl_X6 (gRw_k ho3).1 (gRw_k ho3).2.1 q_1114 dX10_list_77 rfl rfl (Nat.le_of_ble_eq_true rfl) (Nat.le_of_ble_eq_true rfl) (Nat.le_of_ble_eq_true rfl) (Nat.le_of_ble_eq_true rfl) (Nat.le_of_ble_eq_true rfl) (fun h2001 => ?_)
      refine r_bj ?_
      refine r_jn (fun q2003 e2004 => ?_)
      refine r_cV0 (pc := 80) (k := 70) (As := [.int (zi (f_X6_at o3 q1992.1 q1999))]) (st := []) C (m_X6_addUnlessNone (p := 70) (a1 := f_X6_at o3 q1992.1 q1999) gw_70 h2001 e2004) cal_X6_addUnlessNone cl_X6 kd_70 ln_70 q_1136 dX10_list_80 rfl rfl (Nat.le_of_ble_eq_true rfl) (Nat.le_of_ble_eq_true rfl) (Nat.le_of_ble_eq_true rfl) (Nat.le_of_ble_eq_true rfl) (Nat.le_of_ble_eq_true rfl) (fun h2002 => ?_)
      refine r_iinc (j := 5) (L' := [(4, .int (zi (wr (s1981.1 + 1)))), (5, .int (zi q1992.1)), (0, .ref (zad E 59)), (1, .ref (zad E o1)), (2, .ref (zad E o2)), (3, .ref (zad E o3))]) C dX10_list_83 rfl (by decide) rfl ?_
      refine r_goto (tgt := 25) C dX10_list_86 (by decide) ?_
      refine r_L (L' := [(0, .ref (zad E 59)), (1, .ref (zad E o1)), (2, .ref (zad E o2)), (3, .ref (zad E o3)), (4, .int (zi (wr (s1981.1 + 1))))]) [2, 3, 4, 5, 0] rfl ?_
      exact k1984 (wr (s1981.1 + 1), q2003) (IR_wr _)
    · refine r_bf c1988 ?_
      refine r_L (L' := []) [] rfl ?_
      exact k1986 s1981.2 trivial
    · refine r_icmp_ge (tgt := 89) C h1982 (IRd rfl) dX10_list_29 (by decide) (fun c2005 => ?_) (fun c2005 => ?_)
      · exact k1990 (fun w => c2005 w.1)
      · refine r_aload_n (pc := 32) (j := 0) C dX10_list_32 rfl rfl ?_
        refine r_getR (j := 8) (r := 70) C cl_X10 kd_59 ln_59 (by decide) rfl r0_59_8 (by decide) q_450 dX10_list_33 ?_
        refine r_cV1 (pc := 36) (k := 70) (As := []) (st := []) C (m_X6_size (p := 70) gw_70 rfl) cal_X6_size cl_X6 kd_70 ln_70 q_1124 dX10_list_36 rfl rfl (Nat.le_of_ble_eq_true rfl) (Nat.le_of_ble_eq_true rfl) (Nat.le_of_ble_eq_true rfl) (Nat.le_of_ble_eq_true rfl) (Nat.le_of_ble_eq_true rfl) (fun h1987 => ?_)
        refine r_if_le (tgt := 89) C h1987 dX10_list_39 (by decide) (fun c2006 => ?_) (fun c2006 => ?_)
        · exact k1990 (fun w => c2006 w.2)
        · exact k1989 ⟨c2005, c2006⟩

def f_X10_measureHeights (S : Sst) : Option (Sst) :=
  jn (f_X6_fill 72 8 0 S) fun (q2010 : Sst) =>
  jn (upS q2010 59 6 0) fun (S2012 : Sst) =>
  jn (wr ((f_X6_size 68 S2012) - 1)) fun (v2014 : Int) =>
  Option.bind (lp (fun (s2016 : Int × Sst) =>
    if s2016.1 < 0 then
      (some (Sum.inr s2016.2))
    else
      (jn (f_X6_at 68 s2016.1 s2016.2) fun (v2024 : Int) =>
      jn (f_J9_max_7cf53 (f_X6_at 72 (f_X6_at 62 v2024 s2016.2) s2016.2) (f_X6_at 72 (f_X6_at 64 v2024 s2016.2) s2016.2)) fun (v2031 : Int) =>
      jn (f_X6_put 72 v2024 (wr ((f_J9_max_7cf53 v2031 0) + 1)) s2016.2) fun (q2035 : Sst) =>
      jn (upS q2035 59 6 (wr ((f_J9_max_7cf53 v2031 0) + 1))) fun (S2038 : Sst) =>
      some (Sum.inl (wr (s2016.1 + (-1)), S2038)))) FU (v2014, S2012)) fun (r2039 : Sst) =>
  some r2039
set_option maxRecDepth 100000 in
set_option maxHeartbeats 4000000 in
theorem m_X10_measureHeights {l : Launch} {E : EwT} {S : Sst} {O : Smo}  {q : Sst} (hq : f_X10_measureHeights S = some q) : MetG l E yX10_measureHeights cX10_measureHeights 4 none 2 44 0 0 n0 R0 S O [.ref (zad E 59)] (True) none n0 R0 q O := by
  refine ofG (L0 := [(0, .ref (zad E 59))]) hq (by decide +kernel) (Nat.le_of_ble_eq_true rfl) rfl (fun K _ C hQ => ?_)
  unfold f_X10_measureHeights
  refine r_aload_n (pc := 0) (j := 0) C dX10_measureHeights_0 rfl rfl ?_
  refine r_getR (j := 9) (r := 72) C cl_X10 kd_59 ln_59 (by decide) rfl r0_59_9 (by decide) q_451 dX10_measureHeights_1 ?_
  refine r_bipush (v := 8) C dX10_measureHeights_4 (by decide) ?_
  refine r_iconst (v := 0) C dX10_measureHeights_6 (by decide) ?_
  refine r_jn (fun q2010 e2011 => ?_)
  refine r_cV0 (pc := 7) (k := 72) (As := [.int (zi 8), .int (zi 0)]) (st := []) C (m_X6_fill (p := 72) (a1 := 8) (a2 := 0) gw_72 (IRd rfl) (IRd rfl) e2011) cal_X6_fill cl_X6 kd_72 ln_72 q_1113 dX10_measureHeights_7 rfl rfl (Nat.le_of_ble_eq_true rfl) (Nat.le_of_ble_eq_true rfl) (Nat.le_of_ble_eq_true rfl) (Nat.le_of_ble_eq_true rfl) (Nat.le_of_ble_eq_true rfl) (fun h2009 => ?_)
  refine r_aload_n (pc := 10) (j := 0) C dX10_measureHeights_10 rfl rfl ?_
  refine r_iconst (v := 0) C dX10_measureHeights_11 (by decide) ?_
  refine r_putS C cl_X10 kd_59 ln_59 lc_59 (by decide) (by decide) rfl rfl rfl (IRd rfl) q_447 dX10_measureHeights_12 (fun S2012 => ?_)
  refine r_aload_n (pc := 15) (j := 0) C dX10_measureHeights_15 rfl rfl ?_
  refine r_getR (j := 4) (r := 68) C cl_X10 kd_59 ln_59 (by decide) rfl r0_59_4 (by decide) q_442 dX10_measureHeights_16 ?_
  refine r_cV1 (pc := 19) (k := 68) (As := []) (st := []) C (m_X6_size (p := 68) gw_68 rfl) cal_X6_size cl_X6 kd_68 ln_68 q_1124 dX10_measureHeights_19 rfl rfl (Nat.le_of_ble_eq_true rfl) (Nat.le_of_ble_eq_true rfl) (Nat.le_of_ble_eq_true rfl) (Nat.le_of_ble_eq_true rfl) (Nat.le_of_ble_eq_true rfl) (fun h2013 => ?_)
  refine r_iconst (v := 1) C dX10_measureHeights_22 (by decide) ?_
  refine r_isub C dX10_measureHeights_23 ?_
  refine r_jv (IR_wr _) (fun v2014 h2015 => ?_)
  refine r_istore_n (L' := [(1, .int (zi v2014)), (0, .ref (zad E 59))]) C dX10_measureHeights_24 rfl (by decide) rfl ?_
  refine r_L (L' := [(0, .ref (zad E 59)), (1, .int (zi v2014))]) [1, 0] rfl ?_
  refine r_loop1 (fun s2016 : Int × Sst => IR s2016.1) (fun s2016 => s2016.2) (fun s2016 => O) (fun s2016 => [(0, .ref (zad E 59)), (1, .int (zi s2016.1))]) [] (fun r2039 : Sst => True) (fun r2039 => r2039) (fun r2039 => O) (fun r2039 => []) 104 (fun r2039 h2040 => ?_) (fun k2018 k2020 k2019 k2021 s2016 h2017 => ?_) h2015
  · exact r_return C hQ dX10_measureHeights_104 (fun e => by cases e; exact ⟨trivial, rfl, rfl, rfl, rfl, rfl⟩)
  · refine r_iload_n (pc := 25) (j := 1) C dX10_measureHeights_25 rfl rfl ?_
    refine r_if_lt (tgt := 104) C h2017 dX10_measureHeights_26 (by decide) (fun c2022 => ?_) (fun c2022 => ?_)
    · refine r_bt c2022 ?_
      refine r_L (L' := []) [] rfl ?_
      exact k2021 s2016.2 trivial
    · refine r_bf c2022 ?_
      refine r_aload_n (pc := 29) (j := 0) C dX10_measureHeights_29 rfl rfl ?_
      refine r_getR (j := 4) (r := 68) C cl_X10 kd_59 ln_59 (by decide) rfl r0_59_4 (by decide) q_442 dX10_measureHeights_30 ?_
      refine r_iload_n (pc := 33) (j := 1) C dX10_measureHeights_33 rfl rfl ?_
      refine r_cV1 (pc := 34) (k := 68) (As := [.int (zi s2016.1)]) (st := []) C (m_X6_at (p := 68) (a1 := s2016.1) gw_68 h2017 rfl) cal_X6_at cl_X6 kd_68 ln_68 q_1114 dX10_measureHeights_34 rfl rfl (Nat.le_of_ble_eq_true rfl) (Nat.le_of_ble_eq_true rfl) (Nat.le_of_ble_eq_true rfl) (Nat.le_of_ble_eq_true rfl) (Nat.le_of_ble_eq_true rfl) (fun h2023 => ?_)
      refine r_bj ?_
      refine r_jv h2023 (fun v2024 h2025 => ?_)
      refine r_istore_n (L' := [(2, .int (zi v2024)), (0, .ref (zad E 59)), (1, .int (zi s2016.1))]) C dX10_measureHeights_37 rfl (by decide) rfl ?_
      refine r_aload_n (pc := 38) (j := 1) C dX10_measureHeights_38 rfl rfl ?_
      refine r_getR (j := 9) (r := 72) C cl_X10 kd_59 ln_59 (by decide) rfl r0_59_9 (by decide) q_451 dX10_measureHeights_39 ?_
      refine r_aload_n (pc := 42) (j := 1) C dX10_measureHeights_42 rfl rfl ?_
      refine r_getR (j := 1) (r := 62) C cl_X10 kd_59 ln_59 (by decide) rfl r0_59_1 (by decide) q_434 dX10_measureHeights_43 ?_
      refine r_iload_n (pc := 46) (j := 0) C dX10_measureHeights_46 rfl rfl ?_
      refine r_cV1 (pc := 47) (k := 62) (As := [.int (zi v2024)]) (st := [.ref (zad E 72)]) C (m_X6_at (p := 62) (a1 := v2024) gw_62 h2025 rfl) cal_X6_at cl_X6 kd_62 ln_62 q_1114 dX10_measureHeights_47 rfl rfl (Nat.le_of_ble_eq_true rfl) (Nat.le_of_ble_eq_true rfl) (Nat.le_of_ble_eq_true rfl) (Nat.le_of_ble_eq_true rfl) (Nat.le_of_ble_eq_true rfl) (fun h2026 => ?_)
      refine r_cV1 (pc := 50) (k := 72) (As := [.int (zi (f_X6_at 62 v2024 s2016.2))]) (st := []) C (m_X6_at (p := 72) (a1 := f_X6_at 62 v2024 s2016.2) gw_72 h2026 rfl) cal_X6_at cl_X6 kd_72 ln_72 q_1114 dX10_measureHeights_50 rfl rfl (Nat.le_of_ble_eq_true rfl) (Nat.le_of_ble_eq_true rfl) (Nat.le_of_ble_eq_true rfl) (Nat.le_of_ble_eq_true rfl) (Nat.le_of_ble_eq_true rfl) (fun h2027 => ?_)
      refine r_aload_n (pc := 53) (j := 1) C dX10_measureHeights_53 rfl rfl ?_
      refine r_getR (j := 9) (r := 72) C cl_X10 kd_59 ln_59 (by decide) rfl r0_59_9 (by decide) q_451 dX10_measureHeights_54 ?_
      refine r_aload_n (pc := 57) (j := 1) C dX10_measureHeights_57 rfl rfl ?_
      refine r_getR (j := 2) (r := 64) C cl_X10 kd_59 ln_59 (by decide) rfl r0_59_2 (by decide) q_437 dX10_measureHeights_58 ?_
      refine r_iload_n (pc := 61) (j := 0) C dX10_measureHeights_61 rfl rfl ?_
      refine r_cV1 (pc := 62) (k := 64) (As := [.int (zi v2024)]) (st := [.ref (zad E 72), .int (zi (f_X6_at 72 (f_X6_at 62 v2024 s2016.2) s2016.2))]) C (m_X6_at (p := 64) (a1 := v2024) gw_64 h2025 rfl) cal_X6_at cl_X6 kd_64 ln_64 q_1114 dX10_measureHeights_62 rfl rfl (Nat.le_of_ble_eq_true rfl) (Nat.le_of_ble_eq_true rfl) (Nat.le_of_ble_eq_true rfl) (Nat.le_of_ble_eq_true rfl) (Nat.le_of_ble_eq_true rfl) (fun h2028 => ?_)
      refine r_cV1 (pc := 65) (k := 72) (As := [.int (zi (f_X6_at 64 v2024 s2016.2))]) (st := [.int (zi (f_X6_at 72 (f_X6_at 62 v2024 s2016.2) s2016.2))]) C (m_X6_at (p := 72) (a1 := f_X6_at 64 v2024 s2016.2) gw_72 h2028 rfl) cal_X6_at cl_X6 kd_72 ln_72 q_1114 dX10_measureHeights_65 rfl rfl (Nat.le_of_ble_eq_true rfl) (Nat.le_of_ble_eq_true rfl) (Nat.le_of_ble_eq_true rfl) (Nat.le_of_ble_eq_true rfl) (Nat.le_of_ble_eq_true rfl) (fun h2029 => ?_)
      refine r_cS1 (pc := 68) (As := [.int (zi (f_X6_at 72 (f_X6_at 62 v2024 s2016.2) s2016.2)), .int (zi (f_X6_at 72 (f_X6_at 64 v2024 s2016.2) s2016.2))]) (st := []) C (m_J9_max_7cf53 (a0 := f_X6_at 72 (f_X6_at 62 v2024 s2016.2) s2016.2) (a1 := f_X6_at 72 (f_X6_at 64 v2024 s2016.2) s2016.2) h2027 h2029 rfl) cal_J9_max_7cf53 q_1144 dX10_measureHeights_68 rfl rfl (Nat.le_of_ble_eq_true rfl) (Nat.le_of_ble_eq_true rfl) (Nat.le_of_ble_eq_true rfl) (Nat.le_of_ble_eq_true rfl) (Nat.le_of_ble_eq_true rfl) (fun h2030 => ?_)
      refine r_bj ?_
      refine r_jv h2030 (fun v2031 h2032 => ?_)
      refine r_istore_n (L' := [(3, .int (zi v2031)), (2, .int (zi v2024)), (0, .ref (zad E 59)), (1, .int (zi s2016.1))]) C dX10_measureHeights_71 rfl (by decide) rfl ?_
      refine r_aload_n (pc := 72) (j := 2) C dX10_measureHeights_72 rfl rfl ?_
      refine r_getR (j := 9) (r := 72) C cl_X10 kd_59 ln_59 (by decide) rfl r0_59_9 (by decide) q_451 dX10_measureHeights_73 ?_
      refine r_iload_n (pc := 76) (j := 1) C dX10_measureHeights_76 rfl rfl ?_
      refine r_iload_n (pc := 77) (j := 0) C dX10_measureHeights_77 rfl rfl ?_
      refine r_iconst (v := 0) C dX10_measureHeights_78 (by decide) ?_
      refine r_cS1 (pc := 79) (As := [.int (zi v2031), .int (zi 0)]) (st := [.int (zi v2024), .ref (zad E 72)]) C (m_J9_max_7cf53 (a0 := v2031) (a1 := 0) h2032 (IRd rfl) rfl) cal_J9_max_7cf53 q_1144 dX10_measureHeights_79 rfl rfl (Nat.le_of_ble_eq_true rfl) (Nat.le_of_ble_eq_true rfl) (Nat.le_of_ble_eq_true rfl) (Nat.le_of_ble_eq_true rfl) (Nat.le_of_ble_eq_true rfl) (fun h2033 => ?_)
      refine r_iconst (v := 1) C dX10_measureHeights_82 (by decide) ?_
      refine r_iadd C dX10_measureHeights_83 ?_
      refine r_bj ?_
      refine r_jn (fun q2035 e2036 => ?_)
      refine r_cV0 (pc := 84) (k := 72) (As := [.int (zi v2024), .int (zi (wr ((f_J9_max_7cf53 v2031 0) + 1)))]) (st := []) C (m_X6_put (p := 72) (a1 := v2024) (a2 := wr ((f_J9_max_7cf53 v2031 0) + 1)) gw_72 h2025 (IR_wr _) e2036) cal_X6_put cl_X6 kd_72 ln_72 q_1115 dX10_measureHeights_84 rfl rfl (Nat.le_of_ble_eq_true rfl) (Nat.le_of_ble_eq_true rfl) (Nat.le_of_ble_eq_true rfl) (Nat.le_of_ble_eq_true rfl) (Nat.le_of_ble_eq_true rfl) (fun h2034 => ?_)
      refine r_aload_n (pc := 87) (j := 2) C dX10_measureHeights_87 rfl rfl ?_
      refine r_iload_n (pc := 88) (j := 0) C dX10_measureHeights_88 rfl rfl ?_
      refine r_iconst (v := 0) C dX10_measureHeights_89 (by decide) ?_
      refine r_cS1 (pc := 90) (As := [.int (zi v2031), .int (zi 0)]) (st := [.ref (zad E 59)]) C (m_J9_max_7cf53 (a0 := v2031) (a1 := 0) h2032 (IRd rfl) rfl) cal_J9_max_7cf53 q_1144 dX10_measureHeights_90 rfl rfl (Nat.le_of_ble_eq_true rfl) (Nat.le_of_ble_eq_true rfl) (Nat.le_of_ble_eq_true rfl) (Nat.le_of_ble_eq_true rfl) (Nat.le_of_ble_eq_true rfl) (fun h2037 => ?_)
      refine r_iconst (v := 1) C dX10_measureHeights_93 (by decide) ?_
      refine r_iadd C dX10_measureHeights_94 ?_
      refine r_bj ?_
      refine r_putS C cl_X10 kd_59 ln_59 lc_59 (by decide) (by decide) rfl rfl rfl (IR_wr _) q_447 dX10_measureHeights_95 (fun S2038 => ?_)
      refine r_iinc (j := 3) (L' := [(1, .int (zi (wr (s2016.1 + (-1))))), (3, .int (zi v2031)), (2, .int (zi v2024)), (0, .ref (zad E 59))]) C dX10_measureHeights_98 rfl (by decide) rfl ?_
      refine r_goto (tgt := 25) C dX10_measureHeights_101 (by decide) ?_
      refine r_L (L' := [(0, .ref (zad E 59)), (1, .int (zi (wr (s2016.1 + (-1)))))]) [3, 0] rfl ?_
      exact k2019 (wr (s2016.1 + (-1)), S2038) (IR_wr _)

def f_X10_build (a1 : Int) (S : Sst) : Option (Sst) :=
  Option.bind (f_X10_order a1 S) fun (q2042 : Sst) =>
  Option.bind (f_X10_join q2042) fun (q2045 : Sst) =>
  Option.bind (f_X10_list 66 64 62 q2045) fun (q2048 : Sst) =>
  Option.bind (f_X10_list 68 62 64 q2048) fun (q2051 : Sst) =>
  Option.bind (f_X10_measureHeights q2051) fun (q2054 : Sst) =>
  some q2054
set_option maxRecDepth 100000 in
set_option maxHeartbeats 4000000 in
theorem m_X10_build {l : Launch} {E : EwT} {S : Sst} {O : Smo} {a1 : Int} (ha1 : IR a1) {q : Sst} (hq : f_X10_build a1 S = some q) : MetG l E yX10_build cX10_build 2 none 3 69 0 0 n0 R0 S O [.ref (zad E 59), .int (zi a1)] (True) none n0 R0 q O := by
  refine ofG (L0 := [(0, .ref (zad E 59)), (1, .int (zi a1))]) hq (by decide +kernel) (Nat.le_of_ble_eq_true rfl) rfl (fun K _ C hQ => ?_)
  unfold f_X10_build
  refine r_aload_n (pc := 0) (j := 0) C dX10_build_0 rfl rfl ?_
  refine r_iload_n (pc := 1) (j := 1) C dX10_build_1 rfl rfl ?_
  refine r_bd (fun q2042 e2043 => ?_)
  refine r_cV0 (pc := 2) (k := 59) (As := [.int (zi a1)]) (st := []) C (m_X10_order (a1 := a1) ha1 e2043) cal_X10_order cl_X10 kd_59 ln_59 q_1103 dX10_build_2 rfl rfl (Nat.le_of_ble_eq_true rfl) (Nat.le_of_ble_eq_true rfl) (Nat.le_of_ble_eq_true rfl) (Nat.le_of_ble_eq_true rfl) (Nat.le_of_ble_eq_true rfl) (fun h2041 => ?_)
  refine r_aload_n (pc := 5) (j := 0) C dX10_build_5 rfl rfl ?_
  refine r_bd (fun q2045 e2046 => ?_)
  refine r_cV0 (pc := 6) (k := 59) (As := []) (st := []) C (m_X10_join  e2046) cal_X10_join cl_X10 kd_59 ln_59 q_1119 dX10_build_6 rfl rfl (Nat.le_of_ble_eq_true rfl) (Nat.le_of_ble_eq_true rfl) (Nat.le_of_ble_eq_true rfl) (Nat.le_of_ble_eq_true rfl) (Nat.le_of_ble_eq_true rfl) (fun h2044 => ?_)
  refine r_aload_n (pc := 9) (j := 0) C dX10_build_9 rfl rfl ?_
  refine r_aload_n (pc := 10) (j := 0) C dX10_build_10 rfl rfl ?_
  refine r_getR (j := 3) (r := 66) C cl_X10 kd_59 ln_59 (by decide) rfl r0_59_3 (by decide) q_440 dX10_build_11 ?_
  refine r_aload_n (pc := 14) (j := 0) C dX10_build_14 rfl rfl ?_
  refine r_getR (j := 2) (r := 64) C cl_X10 kd_59 ln_59 (by decide) rfl r0_59_2 (by decide) q_437 dX10_build_15 ?_
  refine r_aload_n (pc := 18) (j := 0) C dX10_build_18 rfl rfl ?_
  refine r_getR (j := 1) (r := 62) C cl_X10 kd_59 ln_59 (by decide) rfl r0_59_1 (by decide) q_434 dX10_build_19 ?_
  refine r_bd (fun q2048 e2049 => ?_)
  refine r_cV0 (pc := 22) (k := 59) (As := [.ref (zad E 66), .ref (zad E 64), .ref (zad E 62)]) (st := []) C (m_X10_list (o1 := 66) (o2 := 64) (o3 := 62) gw_66 gw_64 gw_62 e2049) cal_X10_list cl_X10 kd_59 ln_59 q_1132 dX10_build_22 rfl rfl (Nat.le_of_ble_eq_true rfl) (Nat.le_of_ble_eq_true rfl) (Nat.le_of_ble_eq_true rfl) (Nat.le_of_ble_eq_true rfl) (Nat.le_of_ble_eq_true rfl) (fun h2047 => ?_)
  refine r_aload_n (pc := 25) (j := 0) C dX10_build_25 rfl rfl ?_
  refine r_aload_n (pc := 26) (j := 0) C dX10_build_26 rfl rfl ?_
  refine r_getR (j := 4) (r := 68) C cl_X10 kd_59 ln_59 (by decide) rfl r0_59_4 (by decide) q_442 dX10_build_27 ?_
  refine r_aload_n (pc := 30) (j := 0) C dX10_build_30 rfl rfl ?_
  refine r_getR (j := 1) (r := 62) C cl_X10 kd_59 ln_59 (by decide) rfl r0_59_1 (by decide) q_434 dX10_build_31 ?_
  refine r_aload_n (pc := 34) (j := 0) C dX10_build_34 rfl rfl ?_
  refine r_getR (j := 2) (r := 64) C cl_X10 kd_59 ln_59 (by decide) rfl r0_59_2 (by decide) q_437 dX10_build_35 ?_
  refine r_bd (fun q2051 e2052 => ?_)
  refine r_cV0 (pc := 38) (k := 59) (As := [.ref (zad E 68), .ref (zad E 62), .ref (zad E 64)]) (st := []) C (m_X10_list (o1 := 68) (o2 := 62) (o3 := 64) gw_68 gw_62 gw_64 e2052) cal_X10_list cl_X10 kd_59 ln_59 q_1132 dX10_build_38 rfl rfl (Nat.le_of_ble_eq_true rfl) (Nat.le_of_ble_eq_true rfl) (Nat.le_of_ble_eq_true rfl) (Nat.le_of_ble_eq_true rfl) (Nat.le_of_ble_eq_true rfl) (fun h2050 => ?_)
  refine r_aload_n (pc := 41) (j := 0) C dX10_build_41 rfl rfl ?_
  refine r_bd (fun q2054 e2055 => ?_)
  refine r_cV0 (pc := 42) (k := 59) (As := []) (st := []) C (m_X10_measureHeights  e2055) cal_X10_measureHeights cl_X10 kd_59 ln_59 q_1140 dX10_build_42 rfl rfl (Nat.le_of_ble_eq_true rfl) (Nat.le_of_ble_eq_true rfl) (Nat.le_of_ble_eq_true rfl) (Nat.le_of_ble_eq_true rfl) (Nat.le_of_ble_eq_true rfl) (fun h2053 => ?_)
  exact r_return C hQ dX10_build_45 (fun e => by cases e; exact ⟨trivial, rfl, rfl, rfl, rfl, rfl⟩)

def f_X7_make (p : Nat) (a1 : Int) (a2 : Int) (a3 : Int) (a4 : Int) (S : Sst) : Option (Sst) :=
  jn (f_X6_put (p + 31) a1 (f_X6_size (p + 13) S) S) fun (q2097 : Sst) =>
  jn (f_X6_add (p + 13) a1 q2097) fun (q2100 : Sst) =>
  jn (f_X6_add (p + 15) (wr ((f_X7_newest p q2100) + 1)) q2100) fun (q2104 : Sst) =>
  jn (f_X6_add (p + 17) a2 q2104) fun (q2107 : Sst) =>
  jn (f_X6_add (p + 19) a3 q2107) fun (q2110 : Sst) =>
  jn (f_X6_add (p + 21) 0 q2110) fun (q2113 : Sst) =>
  jn (f_X6_add (p + 23) a4 q2113) fun (q2116 : Sst) =>
  Option.bind (lp (fun (s2118 : Int × Sst) =>
    if s2118.1 < 6 then
      (jn (f_X6_add (p + 25) (-1) s2118.2) fun (q2126 : Sst) =>
      jn (f_X6_add (p + 27) (-1) q2126) fun (q2129 : Sst) =>
      jn (f_X6_add (p + 29) (-1) q2129) fun (q2132 : Sst) =>
      some (Sum.inl (wr (s2118.1 + 1), q2132)))
    else
      (some (Sum.inr s2118.2))) FU (0, q2116)) fun (r2134 : Sst) =>
  some r2134
set_option maxRecDepth 100000 in
set_option maxHeartbeats 4000000 in
theorem m_X7_make {l : Launch} {E : EwT} {S : Sst} {O : Smo} {p : Nat} (hp : gSt n0 R0 p) {a1 : Int} (ha1 : IR a1) {a2 : Int} (ha2 : IR a2) {a3 : Int} (ha3 : IR a3) {a4 : Int} (ha4 : IR a4) {q : Sst} (hq : f_X7_make p a1 a2 a3 a4 S = some q) : MetG l E yX7_make cX7_make 6 none 2 40 0 0 n0 R0 S O [.ref (zad E p), .int (zi a1), .int (zi a2), .int (zi a3), .int (zi a4)] (True) none n0 R0 q O := by
  refine ofG (L0 := [(0, .ref (zad E p)), (1, .int (zi a1)), (2, .int (zi a2)), (3, .int (zi a3)), (4, .int (zi a4))]) hq (by decide +kernel) (Nat.le_of_ble_eq_true rfl) rfl (fun K _ C hQ => ?_)
  unfold f_X7_make
  refine r_aload_n (pc := 0) (j := 0) C dX7_make_0 rfl rfl ?_
  refine r_getR (j := 15) (r := (p + 31)) C cl_X7 (gSt_k hp).1 (gSt_k hp).2.1 (by decide) rfl (hp.2.2 (0, 15, 31) (by decide)) (by omega) q_542 dX7_make_1 ?_
  refine r_iload_n (pc := 4) (j := 1) C dX7_make_4 rfl rfl ?_
  refine r_aload_n (pc := 5) (j := 0) C dX7_make_5 rfl rfl ?_
  refine r_getR (j := 6) (r := (p + 13)) C cl_X7 (gSt_k hp).1 (gSt_k hp).2.1 (by decide) rfl (hp.2.2 (0, 6, 13) (by decide)) (by omega) q_525 dX7_make_6 ?_
  refine r_cV1 (pc := 9) (k := (p + 13)) (As := []) (st := [.int (zi a1), .ref (zad E (p + 31))]) C (m_X6_size (p := (p + 13)) (gSt_w hp (i := 6) (by decide)) rfl) cal_X6_size cl_X6 (gRw_k (gSt_w hp (i := 6) (by decide))).1 (gRw_k (gSt_w hp (i := 6) (by decide))).2.1 q_1040 dX7_make_9 rfl rfl (Nat.le_of_ble_eq_true rfl) (Nat.le_of_ble_eq_true rfl) (Nat.le_of_ble_eq_true rfl) (Nat.le_of_ble_eq_true rfl) (Nat.le_of_ble_eq_true rfl) (fun h2095 => ?_)
  refine r_jn (fun q2097 e2098 => ?_)
  refine r_cV0 (pc := 12) (k := (p + 31)) (As := [.int (zi a1), .int (zi (f_X6_size (p + 13) S))]) (st := []) C (m_X6_put (p := (p + 31)) (a1 := a1) (a2 := f_X6_size (p + 13) S) (gSt_w hp (i := 15) (by decide)) ha1 h2095 e2098) cal_X6_put cl_X6 (gRw_k (gSt_w hp (i := 15) (by decide))).1 (gRw_k (gSt_w hp (i := 15) (by decide))).2.1 q_1159 dX7_make_12 rfl rfl (Nat.le_of_ble_eq_true rfl) (Nat.le_of_ble_eq_true rfl) (Nat.le_of_ble_eq_true rfl) (Nat.le_of_ble_eq_true rfl) (Nat.le_of_ble_eq_true rfl) (fun h2096 => ?_)
  refine r_aload_n (pc := 15) (j := 0) C dX7_make_15 rfl rfl ?_
  refine r_getR (j := 6) (r := (p + 13)) C cl_X7 (gSt_k hp).1 (gSt_k hp).2.1 (by decide) rfl (hp.2.2 (0, 6, 13) (by decide)) (by omega) q_525 dX7_make_16 ?_
  refine r_iload_n (pc := 19) (j := 1) C dX7_make_19 rfl rfl ?_
  refine r_jn (fun q2100 e2101 => ?_)
  refine r_cV0 (pc := 20) (k := (p + 13)) (As := [.int (zi a1)]) (st := []) C (m_X6_add (p := (p + 13)) (a1 := a1) (gSt_w hp (i := 6) (by decide)) ha1 e2101) cal_X6_add cl_X6 (gRw_k (gSt_w hp (i := 6) (by decide))).1 (gRw_k (gSt_w hp (i := 6) (by decide))).2.1 q_506 dX7_make_20 rfl rfl (Nat.le_of_ble_eq_true rfl) (Nat.le_of_ble_eq_true rfl) (Nat.le_of_ble_eq_true rfl) (Nat.le_of_ble_eq_true rfl) (Nat.le_of_ble_eq_true rfl) (fun h2099 => ?_)
  refine r_aload_n (pc := 23) (j := 0) C dX7_make_23 rfl rfl ?_
  refine r_getR (j := 7) (r := (p + 15)) C cl_X7 (gSt_k hp).1 (gSt_k hp).2.1 (by decide) rfl (hp.2.2 (0, 7, 15) (by decide)) (by omega) q_527 dX7_make_24 ?_
  refine r_aload_n (pc := 27) (j := 0) C dX7_make_27 rfl rfl ?_
  refine r_cV1 (pc := 28) (k := p) (As := []) (st := [.ref (zad E (p + 15))]) C (m_X7_newest (p := p) hp rfl) cal_X7_newest cl_X7 (gSt_k hp).1 (gSt_k hp).2.1 q_1153 dX7_make_28 rfl rfl (Nat.le_of_ble_eq_true rfl) (Nat.le_of_ble_eq_true rfl) (Nat.le_of_ble_eq_true rfl) (Nat.le_of_ble_eq_true rfl) (Nat.le_of_ble_eq_true rfl) (fun h2102 => ?_)
  refine r_iconst (v := 1) C dX7_make_31 (by decide) ?_
  refine r_iadd C dX7_make_32 ?_
  refine r_jn (fun q2104 e2105 => ?_)
  refine r_cV0 (pc := 33) (k := (p + 15)) (As := [.int (zi (wr ((f_X7_newest p q2100) + 1)))]) (st := []) C (m_X6_add (p := (p + 15)) (a1 := wr ((f_X7_newest p q2100) + 1)) (gSt_w hp (i := 7) (by decide)) (IR_wr _) e2105) cal_X6_add cl_X6 (gRw_k (gSt_w hp (i := 7) (by decide))).1 (gRw_k (gSt_w hp (i := 7) (by decide))).2.1 q_506 dX7_make_33 rfl rfl (Nat.le_of_ble_eq_true rfl) (Nat.le_of_ble_eq_true rfl) (Nat.le_of_ble_eq_true rfl) (Nat.le_of_ble_eq_true rfl) (Nat.le_of_ble_eq_true rfl) (fun h2103 => ?_)
  refine r_aload_n (pc := 36) (j := 0) C dX7_make_36 rfl rfl ?_
  refine r_getR (j := 8) (r := (p + 17)) C cl_X7 (gSt_k hp).1 (gSt_k hp).2.1 (by decide) rfl (hp.2.2 (0, 8, 17) (by decide)) (by omega) q_529 dX7_make_37 ?_
  refine r_iload_n (pc := 40) (j := 2) C dX7_make_40 rfl rfl ?_
  refine r_jn (fun q2107 e2108 => ?_)
  refine r_cV0 (pc := 41) (k := (p + 17)) (As := [.int (zi a2)]) (st := []) C (m_X6_add (p := (p + 17)) (a1 := a2) (gSt_w hp (i := 8) (by decide)) ha2 e2108) cal_X6_add cl_X6 (gRw_k (gSt_w hp (i := 8) (by decide))).1 (gRw_k (gSt_w hp (i := 8) (by decide))).2.1 q_506 dX7_make_41 rfl rfl (Nat.le_of_ble_eq_true rfl) (Nat.le_of_ble_eq_true rfl) (Nat.le_of_ble_eq_true rfl) (Nat.le_of_ble_eq_true rfl) (Nat.le_of_ble_eq_true rfl) (fun h2106 => ?_)
  refine r_aload_n (pc := 44) (j := 0) C dX7_make_44 rfl rfl ?_
  refine r_getR (j := 9) (r := (p + 19)) C cl_X7 (gSt_k hp).1 (gSt_k hp).2.1 (by decide) rfl (hp.2.2 (0, 9, 19) (by decide)) (by omega) q_531 dX7_make_45 ?_
  refine r_iload_n (pc := 48) (j := 3) C dX7_make_48 rfl rfl ?_
  refine r_jn (fun q2110 e2111 => ?_)
  refine r_cV0 (pc := 49) (k := (p + 19)) (As := [.int (zi a3)]) (st := []) C (m_X6_add (p := (p + 19)) (a1 := a3) (gSt_w hp (i := 9) (by decide)) ha3 e2111) cal_X6_add cl_X6 (gRw_k (gSt_w hp (i := 9) (by decide))).1 (gRw_k (gSt_w hp (i := 9) (by decide))).2.1 q_506 dX7_make_49 rfl rfl (Nat.le_of_ble_eq_true rfl) (Nat.le_of_ble_eq_true rfl) (Nat.le_of_ble_eq_true rfl) (Nat.le_of_ble_eq_true rfl) (Nat.le_of_ble_eq_true rfl) (fun h2109 => ?_)
  refine r_aload_n (pc := 52) (j := 0) C dX7_make_52 rfl rfl ?_
  refine r_getR (j := 10) (r := (p + 21)) C cl_X7 (gSt_k hp).1 (gSt_k hp).2.1 (by decide) rfl (hp.2.2 (0, 10, 21) (by decide)) (by omega) q_533 dX7_make_53 ?_
  refine r_iconst (v := 0) C dX7_make_56 (by decide) ?_
  refine r_jn (fun q2113 e2114 => ?_)
  refine r_cV0 (pc := 57) (k := (p + 21)) (As := [.int (zi 0)]) (st := []) C (m_X6_add (p := (p + 21)) (a1 := 0) (gSt_w hp (i := 10) (by decide)) (IRd rfl) e2114) cal_X6_add cl_X6 (gRw_k (gSt_w hp (i := 10) (by decide))).1 (gRw_k (gSt_w hp (i := 10) (by decide))).2.1 q_506 dX7_make_57 rfl rfl (Nat.le_of_ble_eq_true rfl) (Nat.le_of_ble_eq_true rfl) (Nat.le_of_ble_eq_true rfl) (Nat.le_of_ble_eq_true rfl) (Nat.le_of_ble_eq_true rfl) (fun h2112 => ?_)
  refine r_aload_n (pc := 60) (j := 0) C dX7_make_60 rfl rfl ?_
  refine r_getR (j := 11) (r := (p + 23)) C cl_X7 (gSt_k hp).1 (gSt_k hp).2.1 (by decide) rfl (hp.2.2 (0, 11, 23) (by decide)) (by omega) q_535 dX7_make_61 ?_
  refine r_iload (pc := 64) (j := 4) C dX7_make_64 rfl ?_
  refine r_jn (fun q2116 e2117 => ?_)
  refine r_cV0 (pc := 66) (k := (p + 23)) (As := [.int (zi a4)]) (st := []) C (m_X6_add (p := (p + 23)) (a1 := a4) (gSt_w hp (i := 11) (by decide)) ha4 e2117) cal_X6_add cl_X6 (gRw_k (gSt_w hp (i := 11) (by decide))).1 (gRw_k (gSt_w hp (i := 11) (by decide))).2.1 q_506 dX7_make_66 rfl rfl (Nat.le_of_ble_eq_true rfl) (Nat.le_of_ble_eq_true rfl) (Nat.le_of_ble_eq_true rfl) (Nat.le_of_ble_eq_true rfl) (Nat.le_of_ble_eq_true rfl) (fun h2115 => ?_)
  refine r_iconst (v := 0) C dX7_make_69 (by decide) ?_
  refine r_istore (L' := [(5, .int (zi 0)), (0, .ref (zad E p)), (1, .int (zi a1)), (2, .int (zi a2)), (3, .int (zi a3)), (4, .int (zi a4))]) C dX7_make_70 (by decide) rfl ?_
  refine r_L (L' := [(0, .ref (zad E p)), (5, .int (zi 0))]) [1, 0] rfl ?_
  refine r_loop1 (fun s2118 : Int × Sst => IR s2118.1) (fun s2118 => s2118.2) (fun s2118 => O) (fun s2118 => [(0, .ref (zad E p)), (5, .int (zi s2118.1))]) [] (fun r2134 : Sst => True) (fun r2134 => r2134) (fun r2134 => O) (fun r2134 => []) 109 (fun r2134 h2135 => ?_) (fun k2120 k2122 k2121 k2123 s2118 h2119 => ?_) (IRd rfl)
  · exact r_return C hQ dX7_make_109 (fun e => by cases e; exact ⟨trivial, rfl, rfl, rfl, rfl, rfl⟩)
  · refine r_iload (pc := 72) (j := 1) C dX7_make_72 rfl ?_
    refine r_bipush (v := 6) C dX7_make_74 (by decide) ?_
    refine r_icmp_ge (tgt := 109) C h2119 (IRd rfl) dX7_make_76 (by decide) (fun c2124 => ?_) (fun c2124 => ?_)
    · refine r_bf c2124 ?_
      refine r_L (L' := []) [] rfl ?_
      exact k2123 s2118.2 trivial
    · refine r_bt c2124 ?_
      refine r_aload_n (pc := 79) (j := 0) C dX7_make_79 rfl rfl ?_
      refine r_getR (j := 12) (r := (p + 25)) C cl_X7 (gSt_k hp).1 (gSt_k hp).2.1 (by decide) rfl (hp.2.2 (0, 12, 25) (by decide)) (by omega) q_536 dX7_make_80 ?_
      refine r_iconst (v := (-1)) C dX7_make_83 (by decide) ?_
      refine r_bj ?_
      refine r_jn (fun q2126 e2127 => ?_)
      refine r_cV0 (pc := 84) (k := (p + 25)) (As := [.int (zi (-1))]) (st := []) C (m_X6_add (p := (p + 25)) (a1 := (-1)) (gSt_w hp (i := 12) (by decide)) (IRd rfl) e2127) cal_X6_add cl_X6 (gRw_k (gSt_w hp (i := 12) (by decide))).1 (gRw_k (gSt_w hp (i := 12) (by decide))).2.1 q_506 dX7_make_84 rfl rfl (Nat.le_of_ble_eq_true rfl) (Nat.le_of_ble_eq_true rfl) (Nat.le_of_ble_eq_true rfl) (Nat.le_of_ble_eq_true rfl) (Nat.le_of_ble_eq_true rfl) (fun h2125 => ?_)
      refine r_aload_n (pc := 87) (j := 0) C dX7_make_87 rfl rfl ?_
      refine r_getR (j := 13) (r := (p + 27)) C cl_X7 (gSt_k hp).1 (gSt_k hp).2.1 (by decide) rfl (hp.2.2 (0, 13, 27) (by decide)) (by omega) q_538 dX7_make_88 ?_
      refine r_iconst (v := (-1)) C dX7_make_91 (by decide) ?_
      refine r_bj ?_
      refine r_jn (fun q2129 e2130 => ?_)
      refine r_cV0 (pc := 92) (k := (p + 27)) (As := [.int (zi (-1))]) (st := []) C (m_X6_add (p := (p + 27)) (a1 := (-1)) (gSt_w hp (i := 13) (by decide)) (IRd rfl) e2130) cal_X6_add cl_X6 (gRw_k (gSt_w hp (i := 13) (by decide))).1 (gRw_k (gSt_w hp (i := 13) (by decide))).2.1 q_506 dX7_make_92 rfl rfl (Nat.le_of_ble_eq_true rfl) (Nat.le_of_ble_eq_true rfl) (Nat.le_of_ble_eq_true rfl) (Nat.le_of_ble_eq_true rfl) (Nat.le_of_ble_eq_true rfl) (fun h2128 => ?_)
      refine r_aload_n (pc := 95) (j := 0) C dX7_make_95 rfl rfl ?_
      refine r_getR (j := 14) (r := (p + 29)) C cl_X7 (gSt_k hp).1 (gSt_k hp).2.1 (by decide) rfl (hp.2.2 (0, 14, 29) (by decide)) (by omega) q_540 dX7_make_96 ?_
      refine r_iconst (v := (-1)) C dX7_make_99 (by decide) ?_
      refine r_bj ?_
      refine r_jn (fun q2132 e2133 => ?_)
      refine r_cV0 (pc := 100) (k := (p + 29)) (As := [.int (zi (-1))]) (st := []) C (m_X6_add (p := (p + 29)) (a1 := (-1)) (gSt_w hp (i := 14) (by decide)) (IRd rfl) e2133) cal_X6_add cl_X6 (gRw_k (gSt_w hp (i := 14) (by decide))).1 (gRw_k (gSt_w hp (i := 14) (by decide))).2.1 q_506 dX7_make_100 rfl rfl (Nat.le_of_ble_eq_true rfl) (Nat.le_of_ble_eq_true rfl) (Nat.le_of_ble_eq_true rfl) (Nat.le_of_ble_eq_true rfl) (Nat.le_of_ble_eq_true rfl) (fun h2131 => ?_)
      refine r_iinc (j := 1) (L' := [(5, .int (zi (wr (s2118.1 + 1)))), (0, .ref (zad E p))]) C dX7_make_103 rfl (by decide) rfl ?_
      refine r_goto (tgt := 72) C dX7_make_106 (by decide) ?_
      refine r_L (L' := [(0, .ref (zad E p)), (5, .int (zi (wr (s2118.1 + 1))))]) [1, 0] rfl ?_
      exact k2121 (wr (s2118.1 + 1), q2132) (IR_wr _)

def f_X7_childOf (p : Nat) (a1 : Int) (a2 : Int) (a3 : Int) (S : Sst) : Option (Int) :=
  jn (wr ((f_X6_at (p + 21) a1 S) - 1)) fun (v2137 : Int) =>
  Option.bind (lp (fun (s2139 : Int) =>
    if s2139 < 0 then
      (some (Sum.inr (Sum.inr ())))
    else
      (jn (wr ((wr (a1 * 6)) + s2139)) fun (v2148 : Int) =>
      if (f_X6_at (p + 27) v2148 S = a2 ∧ ¬ a3 < f_X6_at (p + 25) v2148 S) then
        (some (Sum.inr (Sum.inl v2148)))
      else
        (some (Sum.inl (wr (s2139 + (-1))))))) FU v2137) fun z2165 => Sum.elim (fun (r2157 : Int) =>
    some (f_X6_at (p + 29) r2157 S)) (fun (r2159 : Unit) =>
    if a2 = 0 then
      (some (f_X6_at (p + 17) a1 S))
    else
      (some (f_X6_at (p + 19) a1 S))) z2165
set_option maxRecDepth 100000 in
set_option maxHeartbeats 4000000 in
theorem m_X7_childOf {l : Launch} {E : EwT} {S : Sst} {O : Smo} {p : Nat} (hp : gSt n0 R0 p) {a1 : Int} (ha1 : IR a1) {a2 : Int} (ha2 : IR a2) {a3 : Int} (ha3 : IR a3) {q : Int} (hq : f_X7_childOf p a1 a2 a3 S = some q) : MetG l E yX7_childOf cX7_childOf 6 (some .int) 1 21 0 0 n0 R0 S O [.ref (zad E p), .int (zi a1), .int (zi a2), .int (zi a3)] (IR q) (some (.int (zi q))) n0 R0 S O := by
  refine ofG (L0 := [(0, .ref (zad E p)), (1, .int (zi a1)), (2, .int (zi a2)), (3, .int (zi a3))]) hq (by decide +kernel) (Nat.le_of_ble_eq_true rfl) rfl (fun K _ C hQ => ?_)
  unfold f_X7_childOf
  refine r_aload_n (pc := 0) (j := 0) C dX7_childOf_0 rfl rfl ?_
  refine r_getR (j := 10) (r := (p + 21)) C cl_X7 (gSt_k hp).1 (gSt_k hp).2.1 (by decide) rfl (hp.2.2 (0, 10, 21) (by decide)) (by omega) q_533 dX7_childOf_1 ?_
  refine r_iload_n (pc := 4) (j := 1) C dX7_childOf_4 rfl rfl ?_
  refine r_cV1 (pc := 5) (k := (p + 21)) (As := [.int (zi a1)]) (st := []) C (m_X6_at (p := (p + 21)) (a1 := a1) (gSt_w hp (i := 10) (by decide)) ha1 rfl) cal_X6_at cl_X6 (gRw_k (gSt_w hp (i := 10) (by decide))).1 (gRw_k (gSt_w hp (i := 10) (by decide))).2.1 q_1046 dX7_childOf_5 rfl rfl (Nat.le_of_ble_eq_true rfl) (Nat.le_of_ble_eq_true rfl) (Nat.le_of_ble_eq_true rfl) (Nat.le_of_ble_eq_true rfl) (Nat.le_of_ble_eq_true rfl) (fun h2136 => ?_)
  refine r_iconst (v := 1) C dX7_childOf_8 (by decide) ?_
  refine r_isub C dX7_childOf_9 ?_
  refine r_jv (IR_wr _) (fun v2137 h2138 => ?_)
  refine r_istore (L' := [(4, .int (zi v2137)), (0, .ref (zad E p)), (1, .int (zi a1)), (2, .int (zi a2)), (3, .int (zi a3))]) C dX7_childOf_10 (by decide) rfl ?_
  refine r_L (L' := [(0, .ref (zad E p)), (1, .int (zi a1)), (2, .int (zi a2)), (3, .int (zi a3)), (4, .int (zi v2137))]) [1, 2, 3, 4, 0] rfl ?_
  refine r_loop2 (fun s2139 : Int => IR s2139) (fun s2139 => S) (fun s2139 => O) (fun s2139 => [(0, .ref (zad E p)), (1, .int (zi a1)), (2, .int (zi a2)), (3, .int (zi a3)), (4, .int (zi s2139))]) [] (fun r2157 : Int => IR r2157) (fun r2157 => S) (fun r2157 => O) (fun r2157 => [(0, .ref (zad E p)), (5, .int (zi r2157))]) 52 (fun r2157 h2158 => ?_) (fun r2159 : Unit => True) (fun r2159 => S) (fun r2159 => O) (fun r2159 => [(0, .ref (zad E p)), (1, .int (zi a1)), (2, .int (zi a2))]) 68 (fun r2159 h2160 => ?_) (fun k2141 k2143 k2145 k2142 k2144 k2146 s2139 h2140 => ?_) h2138
  · refine r_aload_n (pc := 52) (j := 0) C dX7_childOf_52 rfl rfl ?_
    refine r_getR (j := 14) (r := (p + 29)) C cl_X7 (gSt_k hp).1 (gSt_k hp).2.1 (by decide) rfl (hp.2.2 (0, 14, 29) (by decide)) (by omega) q_540 dX7_childOf_53 ?_
    refine r_iload (pc := 56) (j := 1) C dX7_childOf_56 rfl ?_
    refine r_cV1 (pc := 58) (k := (p + 29)) (As := [.int (zi r2157)]) (st := []) C (m_X6_at (p := (p + 29)) (a1 := r2157) (gSt_w hp (i := 14) (by decide)) h2158 rfl) cal_X6_at cl_X6 (gRw_k (gSt_w hp (i := 14) (by decide))).1 (gRw_k (gSt_w hp (i := 14) (by decide))).2.1 q_1046 dX7_childOf_58 rfl rfl (Nat.le_of_ble_eq_true rfl) (Nat.le_of_ble_eq_true rfl) (Nat.le_of_ble_eq_true rfl) (Nat.le_of_ble_eq_true rfl) (Nat.le_of_ble_eq_true rfl) (fun h2161 => ?_)
    exact r_ireturn C hQ rfl dX7_childOf_61 (fun e => by cases e; exact ⟨h2161, rfl, rfl, rfl, rfl, rfl⟩)
  · refine r_iload_n (pc := 68) (j := 2) C dX7_childOf_68 rfl rfl ?_
    refine r_if_ne (tgt := 83) C ha2 dX7_childOf_69 (by decide) (fun c2162 => ?_) (fun c2162 => ?_)
    · refine r_f c2162 ?_
      refine r_aload_n (pc := 83) (j := 0) C dX7_childOf_83 rfl rfl ?_
      refine r_getR (j := 9) (r := (p + 19)) C cl_X7 (gSt_k hp).1 (gSt_k hp).2.1 (by decide) rfl (hp.2.2 (0, 9, 19) (by decide)) (by omega) q_531 dX7_childOf_84 ?_
      refine r_iload_n (pc := 87) (j := 1) C dX7_childOf_87 rfl rfl ?_
      refine r_cV1 (pc := 88) (k := (p + 19)) (As := [.int (zi a1)]) (st := []) C (m_X6_at (p := (p + 19)) (a1 := a1) (gSt_w hp (i := 9) (by decide)) ha1 rfl) cal_X6_at cl_X6 (gRw_k (gSt_w hp (i := 9) (by decide))).1 (gRw_k (gSt_w hp (i := 9) (by decide))).2.1 q_1046 dX7_childOf_88 rfl rfl (Nat.le_of_ble_eq_true rfl) (Nat.le_of_ble_eq_true rfl) (Nat.le_of_ble_eq_true rfl) (Nat.le_of_ble_eq_true rfl) (Nat.le_of_ble_eq_true rfl) (fun h2164 => ?_)
      exact r_ireturn C hQ rfl dX7_childOf_91 (fun e => by cases e; exact ⟨h2164, rfl, rfl, rfl, rfl, rfl⟩)
    · refine r_t c2162 ?_
      refine r_aload_n (pc := 72) (j := 0) C dX7_childOf_72 rfl rfl ?_
      refine r_getR (j := 8) (r := (p + 17)) C cl_X7 (gSt_k hp).1 (gSt_k hp).2.1 (by decide) rfl (hp.2.2 (0, 8, 17) (by decide)) (by omega) q_529 dX7_childOf_73 ?_
      refine r_iload_n (pc := 76) (j := 1) C dX7_childOf_76 rfl rfl ?_
      refine r_cV1 (pc := 77) (k := (p + 17)) (As := [.int (zi a1)]) (st := []) C (m_X6_at (p := (p + 17)) (a1 := a1) (gSt_w hp (i := 8) (by decide)) ha1 rfl) cal_X6_at cl_X6 (gRw_k (gSt_w hp (i := 8) (by decide))).1 (gRw_k (gSt_w hp (i := 8) (by decide))).2.1 q_1046 dX7_childOf_77 rfl rfl (Nat.le_of_ble_eq_true rfl) (Nat.le_of_ble_eq_true rfl) (Nat.le_of_ble_eq_true rfl) (Nat.le_of_ble_eq_true rfl) (Nat.le_of_ble_eq_true rfl) (fun h2163 => ?_)
      refine r_goto (tgt := 91) C dX7_childOf_80 (by decide) ?_
      exact r_ireturn C hQ rfl dX7_childOf_91 (fun e => by cases e; exact ⟨h2163, rfl, rfl, rfl, rfl, rfl⟩)
  · refine r_iload (pc := 12) (j := 4) C dX7_childOf_12 rfl ?_
    refine r_if_lt (tgt := 68) C h2140 dX7_childOf_14 (by decide) (fun c2147 => ?_) (fun c2147 => ?_)
    · refine r_bt c2147 ?_
      refine r_L (L' := [(0, .ref (zad E p)), (1, .int (zi a1)), (2, .int (zi a2))]) [0, 1, 2] rfl ?_
      exact k2146 () trivial
    · refine r_bf c2147 ?_
      refine r_iload_n (pc := 17) (j := 1) C dX7_childOf_17 rfl rfl ?_
      refine r_bipush (v := 6) C dX7_childOf_18 (by decide) ?_
      refine r_imul C dX7_childOf_20 ?_
      refine r_iload (pc := 21) (j := 4) C dX7_childOf_21 rfl ?_
      refine r_iadd C dX7_childOf_23 ?_
      refine r_bj ?_
      refine r_jv (IR_wr _) (fun v2148 h2149 => ?_)
      refine r_istore (L' := [(5, .int (zi v2148)), (0, .ref (zad E p)), (1, .int (zi a1)), (2, .int (zi a2)), (3, .int (zi a3)), (4, .int (zi s2139))]) C dX7_childOf_24 (by decide) rfl ?_
      refine r_aload_n (pc := 26) (j := 1) C dX7_childOf_26 rfl rfl ?_
      refine r_getR (j := 13) (r := (p + 27)) C cl_X7 (gSt_k hp).1 (gSt_k hp).2.1 (by decide) rfl (hp.2.2 (0, 13, 27) (by decide)) (by omega) q_538 dX7_childOf_27 ?_
      refine r_iload (pc := 30) (j := 0) C dX7_childOf_30 rfl ?_
      refine r_cV1 (pc := 32) (k := (p + 27)) (As := [.int (zi v2148)]) (st := []) C (m_X6_at (p := (p + 27)) (a1 := v2148) (gSt_w hp (i := 13) (by decide)) h2149 rfl) cal_X6_at cl_X6 (gRw_k (gSt_w hp (i := 13) (by decide))).1 (gRw_k (gSt_w hp (i := 13) (by decide))).2.1 q_1046 dX7_childOf_32 rfl rfl (Nat.le_of_ble_eq_true rfl) (Nat.le_of_ble_eq_true rfl) (Nat.le_of_ble_eq_true rfl) (Nat.le_of_ble_eq_true rfl) (Nat.le_of_ble_eq_true rfl) (fun h2150 => ?_)
      refine r_iload_n (pc := 35) (j := 3) C dX7_childOf_35 rfl rfl ?_
      refine r_cut (f_X6_at (p + 27) v2148 S = a2 ∧ ¬ a3 < f_X6_at (p + 25) v2148 S) 52 62 [] (fun c2152 => ?_) (fun c2152 => ?_) (fun k2153 k2154 => ?_)
      · refine r_bt c2152 ?_
        refine r_L (L' := [(0, .ref (zad E p)), (5, .int (zi v2148))]) [1, 0] rfl ?_
        exact k2144 v2148 h2149
      · refine r_bf c2152 ?_
        refine r_iinc (j := 5) (L' := [(4, .int (zi (wr (s2139 + (-1))))), (5, .int (zi v2148)), (0, .ref (zad E p)), (1, .int (zi a1)), (2, .int (zi a2)), (3, .int (zi a3))]) C dX7_childOf_62 rfl (by decide) rfl ?_
        refine r_goto (tgt := 12) C dX7_childOf_65 (by decide) ?_
        refine r_L (L' := [(0, .ref (zad E p)), (1, .int (zi a1)), (2, .int (zi a2)), (3, .int (zi a3)), (4, .int (zi (wr (s2139 + (-1)))))]) [2, 3, 4, 5, 0] rfl ?_
        exact k2142 (wr (s2139 + (-1))) (IR_wr _)
      · refine r_icmp_ne (tgt := 62) C h2150 ha2 dX7_childOf_36 (by decide) (fun c2155 => ?_) (fun c2155 => ?_)
        · exact k2154 (fun w => c2155 w.1)
        · refine r_aload_n (pc := 39) (j := 1) C dX7_childOf_39 rfl rfl ?_
          refine r_getR (j := 12) (r := (p + 25)) C cl_X7 (gSt_k hp).1 (gSt_k hp).2.1 (by decide) rfl (hp.2.2 (0, 12, 25) (by decide)) (by omega) q_536 dX7_childOf_40 ?_
          refine r_iload (pc := 43) (j := 0) C dX7_childOf_43 rfl ?_
          refine r_cV1 (pc := 45) (k := (p + 25)) (As := [.int (zi v2148)]) (st := []) C (m_X6_at (p := (p + 25)) (a1 := v2148) (gSt_w hp (i := 12) (by decide)) h2149 rfl) cal_X6_at cl_X6 (gRw_k (gSt_w hp (i := 12) (by decide))).1 (gRw_k (gSt_w hp (i := 12) (by decide))).2.1 q_1046 dX7_childOf_45 rfl rfl (Nat.le_of_ble_eq_true rfl) (Nat.le_of_ble_eq_true rfl) (Nat.le_of_ble_eq_true rfl) (Nat.le_of_ble_eq_true rfl) (Nat.le_of_ble_eq_true rfl) (fun h2151 => ?_)
          refine r_iload_n (pc := 48) (j := 4) C dX7_childOf_48 rfl rfl ?_
          refine r_icmp_gt (tgt := 62) C h2151 ha3 dX7_childOf_49 (by decide) (fun c2156 => ?_) (fun c2156 => ?_)
          · exact k2154 (fun w => w.2 c2156)
          · exact k2153 ⟨c2155, c2156⟩

def f_X7_write (p : Nat) (a1 : Int) (a2 : Int) (a3 : Int) (S : Sst) : Sst :=
  jn (wr ((wr (a1 * 6)) + (f_X6_at (p + 21) a1 S))) fun (v2167 : Int) =>
  jn (f_X6_put (p + 25) v2167 (wr ((f_X7_newest p S) + 1)) S) fun (q2171 : Sst) =>
  jn (f_X6_put (p + 27) v2167 a2 q2171) fun (q2174 : Sst) =>
  jn (f_X6_put (p + 29) v2167 a3 q2174) fun (q2177 : Sst) =>
  jn (f_X6_put (p + 21) a1 (wr ((f_X6_at (p + 21) a1 q2177) + 1)) q2177) fun (q2181 : Sst) =>
  q2181
set_option maxRecDepth 100000 in
set_option maxHeartbeats 4000000 in
theorem m_X7_write {l : Launch} {E : EwT} {S : Sst} {O : Smo} {p : Nat} (hp : gSt n0 R0 p) {a1 : Int} (ha1 : IR a1) {a2 : Int} (ha2 : IR a2) {a3 : Int} (ha3 : IR a3) {q : Sst} (hq : f_X7_write p a1 a2 a3 S = q) : MetG l E yX7_write cX7_write 5 none 2 40 0 0 n0 R0 S O [.ref (zad E p), .int (zi a1), .int (zi a2), .int (zi a3)] (True) none n0 R0 q O := by
  refine ofG (L0 := [(0, .ref (zad E p)), (1, .int (zi a1)), (2, .int (zi a2)), (3, .int (zi a3))]) hq (by decide +kernel) (Nat.le_of_ble_eq_true rfl) rfl (fun K _ C hQ => ?_)
  unfold f_X7_write
  refine r_iload_n (pc := 0) (j := 1) C dX7_write_0 rfl rfl ?_
  refine r_bipush (v := 6) C dX7_write_1 (by decide) ?_
  refine r_imul C dX7_write_3 ?_
  refine r_aload_n (pc := 4) (j := 0) C dX7_write_4 rfl rfl ?_
  refine r_getR (j := 10) (r := (p + 21)) C cl_X7 (gSt_k hp).1 (gSt_k hp).2.1 (by decide) rfl (hp.2.2 (0, 10, 21) (by decide)) (by omega) q_533 dX7_write_5 ?_
  refine r_iload_n (pc := 8) (j := 1) C dX7_write_8 rfl rfl ?_
  refine r_cV1 (pc := 9) (k := (p + 21)) (As := [.int (zi a1)]) (st := [.int (zi (wr (a1 * 6)))]) C (m_X6_at (p := (p + 21)) (a1 := a1) (gSt_w hp (i := 10) (by decide)) ha1 rfl) cal_X6_at cl_X6 (gRw_k (gSt_w hp (i := 10) (by decide))).1 (gRw_k (gSt_w hp (i := 10) (by decide))).2.1 q_1046 dX7_write_9 rfl rfl (Nat.le_of_ble_eq_true rfl) (Nat.le_of_ble_eq_true rfl) (Nat.le_of_ble_eq_true rfl) (Nat.le_of_ble_eq_true rfl) (Nat.le_of_ble_eq_true rfl) (fun h2166 => ?_)
  refine r_iadd C dX7_write_12 ?_
  refine r_jv (IR_wr _) (fun v2167 h2168 => ?_)
  refine r_istore (L' := [(4, .int (zi v2167)), (0, .ref (zad E p)), (1, .int (zi a1)), (2, .int (zi a2)), (3, .int (zi a3))]) C dX7_write_13 (by decide) rfl ?_
  refine r_aload_n (pc := 15) (j := 1) C dX7_write_15 rfl rfl ?_
  refine r_getR (j := 12) (r := (p + 25)) C cl_X7 (gSt_k hp).1 (gSt_k hp).2.1 (by decide) rfl (hp.2.2 (0, 12, 25) (by decide)) (by omega) q_536 dX7_write_16 ?_
  refine r_iload (pc := 19) (j := 0) C dX7_write_19 rfl ?_
  refine r_aload_n (pc := 21) (j := 1) C dX7_write_21 rfl rfl ?_
  refine r_cV1 (pc := 22) (k := p) (As := []) (st := [.int (zi v2167), .ref (zad E (p + 25))]) C (m_X7_newest (p := p) hp rfl) cal_X7_newest cl_X7 (gSt_k hp).1 (gSt_k hp).2.1 q_1153 dX7_write_22 rfl rfl (Nat.le_of_ble_eq_true rfl) (Nat.le_of_ble_eq_true rfl) (Nat.le_of_ble_eq_true rfl) (Nat.le_of_ble_eq_true rfl) (Nat.le_of_ble_eq_true rfl) (fun h2169 => ?_)
  refine r_iconst (v := 1) C dX7_write_25 (by decide) ?_
  refine r_iadd C dX7_write_26 ?_
  refine r_jn (fun q2171 e2172 => ?_)
  refine r_cV0 (pc := 27) (k := (p + 25)) (As := [.int (zi v2167), .int (zi (wr ((f_X7_newest p S) + 1)))]) (st := []) C (m_X6_put (p := (p + 25)) (a1 := v2167) (a2 := wr ((f_X7_newest p S) + 1)) (gSt_w hp (i := 12) (by decide)) h2168 (IR_wr _) e2172) cal_X6_put cl_X6 (gRw_k (gSt_w hp (i := 12) (by decide))).1 (gRw_k (gSt_w hp (i := 12) (by decide))).2.1 q_1159 dX7_write_27 rfl rfl (Nat.le_of_ble_eq_true rfl) (Nat.le_of_ble_eq_true rfl) (Nat.le_of_ble_eq_true rfl) (Nat.le_of_ble_eq_true rfl) (Nat.le_of_ble_eq_true rfl) (fun h2170 => ?_)
  refine r_aload_n (pc := 30) (j := 1) C dX7_write_30 rfl rfl ?_
  refine r_getR (j := 13) (r := (p + 27)) C cl_X7 (gSt_k hp).1 (gSt_k hp).2.1 (by decide) rfl (hp.2.2 (0, 13, 27) (by decide)) (by omega) q_538 dX7_write_31 ?_
  refine r_iload (pc := 34) (j := 0) C dX7_write_34 rfl ?_
  refine r_iload_n (pc := 36) (j := 3) C dX7_write_36 rfl rfl ?_
  refine r_jn (fun q2174 e2175 => ?_)
  refine r_cV0 (pc := 37) (k := (p + 27)) (As := [.int (zi v2167), .int (zi a2)]) (st := []) C (m_X6_put (p := (p + 27)) (a1 := v2167) (a2 := a2) (gSt_w hp (i := 13) (by decide)) h2168 ha2 e2175) cal_X6_put cl_X6 (gRw_k (gSt_w hp (i := 13) (by decide))).1 (gRw_k (gSt_w hp (i := 13) (by decide))).2.1 q_1159 dX7_write_37 rfl rfl (Nat.le_of_ble_eq_true rfl) (Nat.le_of_ble_eq_true rfl) (Nat.le_of_ble_eq_true rfl) (Nat.le_of_ble_eq_true rfl) (Nat.le_of_ble_eq_true rfl) (fun h2173 => ?_)
  refine r_aload_n (pc := 40) (j := 1) C dX7_write_40 rfl rfl ?_
  refine r_getR (j := 14) (r := (p + 29)) C cl_X7 (gSt_k hp).1 (gSt_k hp).2.1 (by decide) rfl (hp.2.2 (0, 14, 29) (by decide)) (by omega) q_540 dX7_write_41 ?_
  refine r_iload (pc := 44) (j := 0) C dX7_write_44 rfl ?_
  refine r_iload_n (pc := 46) (j := 4) C dX7_write_46 rfl rfl ?_
  refine r_jn (fun q2177 e2178 => ?_)
  refine r_cV0 (pc := 47) (k := (p + 29)) (As := [.int (zi v2167), .int (zi a3)]) (st := []) C (m_X6_put (p := (p + 29)) (a1 := v2167) (a2 := a3) (gSt_w hp (i := 14) (by decide)) h2168 ha3 e2178) cal_X6_put cl_X6 (gRw_k (gSt_w hp (i := 14) (by decide))).1 (gRw_k (gSt_w hp (i := 14) (by decide))).2.1 q_1159 dX7_write_47 rfl rfl (Nat.le_of_ble_eq_true rfl) (Nat.le_of_ble_eq_true rfl) (Nat.le_of_ble_eq_true rfl) (Nat.le_of_ble_eq_true rfl) (Nat.le_of_ble_eq_true rfl) (fun h2176 => ?_)
  refine r_aload_n (pc := 50) (j := 1) C dX7_write_50 rfl rfl ?_
  refine r_getR (j := 10) (r := (p + 21)) C cl_X7 (gSt_k hp).1 (gSt_k hp).2.1 (by decide) rfl (hp.2.2 (0, 10, 21) (by decide)) (by omega) q_533 dX7_write_51 ?_
  refine r_iload_n (pc := 54) (j := 2) C dX7_write_54 rfl rfl ?_
  refine r_aload_n (pc := 55) (j := 1) C dX7_write_55 rfl rfl ?_
  refine r_getR (j := 10) (r := (p + 21)) C cl_X7 (gSt_k hp).1 (gSt_k hp).2.1 (by decide) rfl (hp.2.2 (0, 10, 21) (by decide)) (by omega) q_533 dX7_write_56 ?_
  refine r_iload_n (pc := 59) (j := 2) C dX7_write_59 rfl rfl ?_
  refine r_cV1 (pc := 60) (k := (p + 21)) (As := [.int (zi a1)]) (st := [.int (zi a1), .ref (zad E (p + 21))]) C (m_X6_at (p := (p + 21)) (a1 := a1) (gSt_w hp (i := 10) (by decide)) ha1 rfl) cal_X6_at cl_X6 (gRw_k (gSt_w hp (i := 10) (by decide))).1 (gRw_k (gSt_w hp (i := 10) (by decide))).2.1 q_1046 dX7_write_60 rfl rfl (Nat.le_of_ble_eq_true rfl) (Nat.le_of_ble_eq_true rfl) (Nat.le_of_ble_eq_true rfl) (Nat.le_of_ble_eq_true rfl) (Nat.le_of_ble_eq_true rfl) (fun h2179 => ?_)
  refine r_iconst (v := 1) C dX7_write_63 (by decide) ?_
  refine r_iadd C dX7_write_64 ?_
  refine r_jn (fun q2181 e2182 => ?_)
  refine r_cV0 (pc := 65) (k := (p + 21)) (As := [.int (zi a1), .int (zi (wr ((f_X6_at (p + 21) a1 q2177) + 1)))]) (st := []) C (m_X6_put (p := (p + 21)) (a1 := a1) (a2 := wr ((f_X6_at (p + 21) a1 q2177) + 1)) (gSt_w hp (i := 10) (by decide)) ha1 (IR_wr _) e2182) cal_X6_put cl_X6 (gRw_k (gSt_w hp (i := 10) (by decide))).1 (gRw_k (gSt_w hp (i := 10) (by decide))).2.1 q_1159 dX7_write_65 rfl rfl (Nat.le_of_ble_eq_true rfl) (Nat.le_of_ble_eq_true rfl) (Nat.le_of_ble_eq_true rfl) (Nat.le_of_ble_eq_true rfl) (Nat.le_of_ble_eq_true rfl) (fun h2180 => ?_)
  exact r_return C hQ dX7_write_68 (fun e => by subst e; exact ⟨trivial, rfl, rfl, rfl, rfl, rfl⟩)

def f_X7_adapt (p : Nat) (a1 : Int) (a2 : Int) (a3 : Int) (a4 : Int) (S : Sst) : Option (Int × Sst) :=
  jn (f_X7_newest p S) fun (v2184 : Int) =>
  if f_X7_isIn p v2184 a1 S = 0 then
    (Option.bind (f_X7_make p a1 a2 a3 0 S) fun (q2189 : Sst) =>
    some (1, q2189))
  else
    (jn (f_X6_at (p + 31) a1 S) fun (v2192 : Int) =>
    Option.bind (f_X7_childOf p v2192 0 v2184 S) fun (q2195 : Int) =>
    jn (
      if q2195 = a2 then
        (0)
      else
        (1)) fun (q2197 : Int) =>
    Option.bind (f_X7_childOf p v2192 1 v2184 S) fun (q2203 : Int) =>
    jn (
      if q2203 = a3 then
        (0)
      else
        (1)) fun (q2205 : Int) =>
    jn (
      if q2197 = 0 then
        (0)
      else
        (1)) fun (q2210 : Int) =>
    jn (
      if q2205 = 0 then
        (0)
      else
        (1)) fun (q2215 : Int) =>
    jn (wr (q2210 + q2215)) fun (v2220 : Int) =>
    if (0 < v2220 ∧ a4 < wr ((f_X6_at (p + 21) v2192 S) + v2220)) then
      (Option.bind (f_X7_make p a1 a2 a3 1 S) fun (q2227 : Sst) =>
      some (1, q2227))
    else
      (jn (
        if q2197 = 0 then
          (S)
        else
          (jn (f_X7_write p v2192 0 a2 S) fun (q2235 : Sst) =>
          q2235)) fun (q2229 : Sst) =>
      jn (
        if q2205 = 0 then
          (q2229)
        else
          (jn (f_X7_write p v2192 1 a3 q2229) fun (q2243 : Sst) =>
          q2243)) fun (q2237 : Sst) =>
      some (v2220, q2237)))
set_option maxRecDepth 100000 in
set_option maxHeartbeats 4000000 in
theorem m_X7_adapt {l : Launch} {E : EwT} {S : Sst} {O : Smo} {p : Nat} (hp : gSt n0 R0 p) {a1 : Int} (ha1 : IR a1) {a2 : Int} (ha2 : IR a2) {a3 : Int} (ha3 : IR a3) {a4 : Int} (ha4 : IR a4) {q : Int × Sst} (hq : f_X7_adapt p a1 a2 a3 a4 S = some q) : MetG l E yX7_adapt cX7_adapt 10 (some .int) 3 65 0 0 n0 R0 S O [.ref (zad E p), .int (zi a1), .int (zi a2), .int (zi a3), .int (zi a4)] (IR q.1) (some (.int (zi q.1))) n0 R0 q.2 O := by
  refine ofG (L0 := [(0, .ref (zad E p)), (1, .int (zi a1)), (2, .int (zi a2)), (3, .int (zi a3)), (4, .int (zi a4))]) hq (by decide +kernel) (Nat.le_of_ble_eq_true rfl) rfl (fun K _ C hQ => ?_)
  unfold f_X7_adapt
  refine r_aload_n (pc := 0) (j := 0) C dX7_adapt_0 rfl rfl ?_
  refine r_cV1 (pc := 1) (k := p) (As := []) (st := []) C (m_X7_newest (p := p) hp rfl) cal_X7_newest cl_X7 (gSt_k hp).1 (gSt_k hp).2.1 q_1153 dX7_adapt_1 rfl rfl (Nat.le_of_ble_eq_true rfl) (Nat.le_of_ble_eq_true rfl) (Nat.le_of_ble_eq_true rfl) (Nat.le_of_ble_eq_true rfl) (Nat.le_of_ble_eq_true rfl) (fun h2183 => ?_)
  refine r_jv h2183 (fun v2184 h2185 => ?_)
  refine r_istore (L' := [(5, .int (zi v2184)), (0, .ref (zad E p)), (1, .int (zi a1)), (2, .int (zi a2)), (3, .int (zi a3)), (4, .int (zi a4))]) C dX7_adapt_4 (by decide) rfl ?_
  refine r_aload_n (pc := 6) (j := 1) C dX7_adapt_6 rfl rfl ?_
  refine r_iload (pc := 7) (j := 0) C dX7_adapt_7 rfl ?_
  refine r_iload_n (pc := 9) (j := 2) C dX7_adapt_9 rfl rfl ?_
  refine r_cV1 (pc := 10) (k := p) (As := [.int (zi v2184), .int (zi a1)]) (st := []) C (m_X7_isIn (p := p) (a1 := v2184) (a2 := a1) hp h2185 ha1 rfl) cal_X7_isIn cl_X7 (gSt_k hp).1 (gSt_k hp).2.1 q_1154 dX7_adapt_10 rfl rfl (Nat.le_of_ble_eq_true rfl) (Nat.le_of_ble_eq_true rfl) (Nat.le_of_ble_eq_true rfl) (Nat.le_of_ble_eq_true rfl) (Nat.le_of_ble_eq_true rfl) (fun h2186 => ?_)
  refine r_if_ne (tgt := 26) C h2186.ir dX7_adapt_13 (by decide) (fun c2187 => ?_) (fun c2187 => ?_)
  · refine r_f c2187 ?_
    refine r_aload_n (pc := 26) (j := 1) C dX7_adapt_26 rfl rfl ?_
    refine r_getR (j := 15) (r := (p + 31)) C cl_X7 (gSt_k hp).1 (gSt_k hp).2.1 (by decide) rfl (hp.2.2 (0, 15, 31) (by decide)) (by omega) q_542 dX7_adapt_27 ?_
    refine r_iload_n (pc := 30) (j := 2) C dX7_adapt_30 rfl rfl ?_
    refine r_cV1 (pc := 31) (k := (p + 31)) (As := [.int (zi a1)]) (st := []) C (m_X6_at (p := (p + 31)) (a1 := a1) (gSt_w hp (i := 15) (by decide)) ha1 rfl) cal_X6_at cl_X6 (gRw_k (gSt_w hp (i := 15) (by decide))).1 (gRw_k (gSt_w hp (i := 15) (by decide))).2.1 q_1046 dX7_adapt_31 rfl rfl (Nat.le_of_ble_eq_true rfl) (Nat.le_of_ble_eq_true rfl) (Nat.le_of_ble_eq_true rfl) (Nat.le_of_ble_eq_true rfl) (Nat.le_of_ble_eq_true rfl) (fun h2191 => ?_)
    refine r_jv h2191 (fun v2192 h2193 => ?_)
    refine r_istore (L' := [(6, .int (zi v2192)), (5, .int (zi v2184)), (0, .ref (zad E p)), (1, .int (zi a1)), (2, .int (zi a2)), (3, .int (zi a3)), (4, .int (zi a4))]) C dX7_adapt_34 (by decide) rfl ?_
    refine r_aload_n (pc := 36) (j := 2) C dX7_adapt_36 rfl rfl ?_
    refine r_iload (pc := 37) (j := 0) C dX7_adapt_37 rfl ?_
    refine r_iconst (v := 0) C dX7_adapt_39 (by decide) ?_
    refine r_iload (pc := 40) (j := 1) C dX7_adapt_40 rfl ?_
    refine r_bd (fun q2195 e2196 => ?_)
    refine r_cV1 (pc := 42) (k := p) (As := [.int (zi v2192), .int (zi 0), .int (zi v2184)]) (st := []) C (m_X7_childOf (p := p) (a1 := v2192) (a2 := 0) (a3 := v2184) hp h2193 (IRd rfl) h2185 e2196) cal_X7_childOf cl_X7 (gSt_k hp).1 (gSt_k hp).2.1 q_1160 dX7_adapt_42 rfl rfl (Nat.le_of_ble_eq_true rfl) (Nat.le_of_ble_eq_true rfl) (Nat.le_of_ble_eq_true rfl) (Nat.le_of_ble_eq_true rfl) (Nat.le_of_ble_eq_true rfl) (fun h2194 => ?_)
    refine r_iload_n (pc := 45) (j := 4) C dX7_adapt_45 rfl rfl ?_
    refine r_join (fun q2197 : Int => BR q2197) (fun q2197 => S) (fun q2197 => O) (fun q2197 => [(0, .ref (zad E p)), (1, .int (zi a1)), (2, .int (zi a2)), (3, .int (zi a3)), (4, .int (zi a4)), (5, .int (zi v2184)), (6, .int (zi v2192))]) 54 (fun q2197 => [.int (zi q2197)]) (fun q2197 h2198 => ?_) (fun k2199 k2200 => ?_)
    · refine r_istore (L' := [(7, .int (zi q2197)), (0, .ref (zad E p)), (1, .int (zi a1)), (2, .int (zi a2)), (3, .int (zi a3)), (4, .int (zi a4)), (5, .int (zi v2184)), (6, .int (zi v2192))]) C dX7_adapt_54 (by decide) rfl ?_
      refine r_aload_n (pc := 56) (j := 1) C dX7_adapt_56 rfl rfl ?_
      refine r_iload (pc := 57) (j := 7) C dX7_adapt_57 rfl ?_
      refine r_iconst (v := 1) C dX7_adapt_59 (by decide) ?_
      refine r_iload (pc := 60) (j := 6) C dX7_adapt_60 rfl ?_
      refine r_bd (fun q2203 e2204 => ?_)
      refine r_cV1 (pc := 62) (k := p) (As := [.int (zi v2192), .int (zi 1), .int (zi v2184)]) (st := []) C (m_X7_childOf (p := p) (a1 := v2192) (a2 := 1) (a3 := v2184) hp h2193 (IRd rfl) h2185 e2204) cal_X7_childOf cl_X7 (gSt_k hp).1 (gSt_k hp).2.1 q_1160 dX7_adapt_62 rfl rfl (Nat.le_of_ble_eq_true rfl) (Nat.le_of_ble_eq_true rfl) (Nat.le_of_ble_eq_true rfl) (Nat.le_of_ble_eq_true rfl) (Nat.le_of_ble_eq_true rfl) (fun h2202 => ?_)
      refine r_iload_n (pc := 65) (j := 4) C dX7_adapt_65 rfl rfl ?_
      refine r_join (fun q2205 : Int => BR q2205) (fun q2205 => S) (fun q2205 => O) (fun q2205 => [(0, .ref (zad E p)), (1, .int (zi a1)), (2, .int (zi a2)), (3, .int (zi a3)), (4, .int (zi a4)), (6, .int (zi v2192)), (7, .int (zi q2197))]) 74 (fun q2205 => [.int (zi q2205)]) (fun q2205 h2206 => ?_) (fun k2207 k2208 => ?_)
      · refine r_istore (L' := [(8, .int (zi q2205)), (0, .ref (zad E p)), (1, .int (zi a1)), (2, .int (zi a2)), (3, .int (zi a3)), (4, .int (zi a4)), (6, .int (zi v2192)), (7, .int (zi q2197))]) C dX7_adapt_74 (by decide) rfl ?_
        refine r_iload (pc := 76) (j := 7) C dX7_adapt_76 rfl ?_
        refine r_join (fun q2210 : Int => BR q2210) (fun q2210 => S) (fun q2210 => O) (fun q2210 => [(0, .ref (zad E p)), (1, .int (zi a1)), (2, .int (zi a2)), (3, .int (zi a3)), (4, .int (zi a4)), (6, .int (zi v2192)), (7, .int (zi q2197)), (8, .int (zi q2205))]) 86 (fun q2210 => [.int (zi q2210)]) (fun q2210 h2211 => ?_) (fun k2212 k2213 => ?_)
        · refine r_iload (pc := 86) (j := 7) C dX7_adapt_86 rfl ?_
          refine r_join (fun q2215 : Int => BR q2215) (fun q2215 => S) (fun q2215 => O) (fun q2215 => [(0, .ref (zad E p)), (1, .int (zi a1)), (2, .int (zi a2)), (3, .int (zi a3)), (4, .int (zi a4)), (6, .int (zi v2192)), (7, .int (zi q2197)), (8, .int (zi q2205))]) 96 (fun q2215 => [.int (zi q2215), .int (zi q2210)]) (fun q2215 h2216 => ?_) (fun k2217 k2218 => ?_)
          · refine r_iadd C dX7_adapt_96 ?_
            refine r_jv (IR_wr _) (fun v2220 h2221 => ?_)
            refine r_istore (L' := [(9, .int (zi v2220)), (0, .ref (zad E p)), (1, .int (zi a1)), (2, .int (zi a2)), (3, .int (zi a3)), (4, .int (zi a4)), (6, .int (zi v2192)), (7, .int (zi q2197)), (8, .int (zi q2205))]) C dX7_adapt_97 (by decide) rfl ?_
            refine r_iload (pc := 99) (j := 0) C dX7_adapt_99 rfl ?_
            refine r_cut (0 < v2220 ∧ a4 < wr ((f_X6_at (p + 21) v2192 S) + v2220)) 121 131 [] (fun c2223 => ?_) (fun c2223 => ?_) (fun k2224 k2225 => ?_)
            · refine r_t c2223 ?_
              refine r_aload_n (pc := 121) (j := 1) C dX7_adapt_121 rfl rfl ?_
              refine r_iload_n (pc := 122) (j := 2) C dX7_adapt_122 rfl rfl ?_
              refine r_iload_n (pc := 123) (j := 3) C dX7_adapt_123 rfl rfl ?_
              refine r_iload_n (pc := 124) (j := 4) C dX7_adapt_124 rfl rfl ?_
              refine r_iconst (v := 1) C dX7_adapt_125 (by decide) ?_
              refine r_bd (fun q2227 e2228 => ?_)
              refine r_cV0 (pc := 126) (k := p) (As := [.int (zi a1), .int (zi a2), .int (zi a3), .int (zi 1)]) (st := []) C (m_X7_make (p := p) (a1 := a1) (a2 := a2) (a3 := a3) (a4 := 1) hp ha1 ha2 ha3 (IRd rfl) e2228) cal_X7_make cl_X7 (gSt_k hp).1 (gSt_k hp).2.1 q_1155 dX7_adapt_126 rfl rfl (Nat.le_of_ble_eq_true rfl) (Nat.le_of_ble_eq_true rfl) (Nat.le_of_ble_eq_true rfl) (Nat.le_of_ble_eq_true rfl) (Nat.le_of_ble_eq_true rfl) (fun h2226 => ?_)
              refine r_iconst (v := 1) C dX7_adapt_129 (by decide) ?_
              exact r_ireturn C hQ rfl dX7_adapt_130 (fun e => by cases e; exact ⟨(IRd rfl), rfl, rfl, rfl, rfl, rfl⟩)
            · refine r_f c2223 ?_
              refine r_iload (pc := 131) (j := 7) C dX7_adapt_131 rfl ?_
              refine r_join (fun q2229 : Sst => True) (fun q2229 => q2229) (fun q2229 => O) (fun q2229 => [(0, .ref (zad E p)), (3, .int (zi a3)), (6, .int (zi v2192)), (8, .int (zi q2205)), (9, .int (zi v2220))]) 144 (fun q2229 => []) (fun q2229 h2230 => ?_) (fun k2231 k2232 => ?_)
              · refine r_iload (pc := 144) (j := 3) C dX7_adapt_144 rfl ?_
                refine r_join (fun q2237 : Sst => True) (fun q2237 => q2237) (fun q2237 => O) (fun q2237 => [(9, .int (zi v2220))]) 157 (fun q2237 => []) (fun q2237 h2238 => ?_) (fun k2239 k2240 => ?_)
                · refine r_iload (pc := 157) (j := 0) C dX7_adapt_157 rfl ?_
                  exact r_ireturn C hQ rfl dX7_adapt_159 (fun e => by cases e; exact ⟨h2221, rfl, rfl, rfl, rfl, rfl⟩)
                · refine r_if_eq (tgt := 157) C h2206.ir dX7_adapt_146 (by decide) (fun c2241 => ?_) (fun c2241 => ?_)
                  · refine r_jt c2241 ?_
                    refine r_L (L' := [(9, .int (zi v2220))]) [4] rfl ?_
                    exact k2240 q2229 trivial
                  · refine r_jf c2241 ?_
                    refine r_aload_n (pc := 149) (j := 0) C dX7_adapt_149 rfl rfl ?_
                    refine r_iload (pc := 150) (j := 2) C dX7_adapt_150 rfl ?_
                    refine r_iconst (v := 1) C dX7_adapt_152 (by decide) ?_
                    refine r_iload_n (pc := 153) (j := 1) C dX7_adapt_153 rfl rfl ?_
                    refine r_jj ?_
                    refine r_jn (fun q2243 e2244 => ?_)
                    refine r_cV0 (pc := 154) (k := p) (As := [.int (zi v2192), .int (zi 1), .int (zi a3)]) (st := []) C (m_X7_write (p := p) (a1 := v2192) (a2 := 1) (a3 := a3) hp h2193 (IRd rfl) ha3 e2244) cal_X7_write cl_X7 (gSt_k hp).1 (gSt_k hp).2.1 q_1164 dX7_adapt_154 rfl rfl (Nat.le_of_ble_eq_true rfl) (Nat.le_of_ble_eq_true rfl) (Nat.le_of_ble_eq_true rfl) (Nat.le_of_ble_eq_true rfl) (Nat.le_of_ble_eq_true rfl) (fun h2242 => ?_)
                    refine r_L (L' := [(9, .int (zi v2220))]) [4] rfl ?_
                    exact k2240 q2243 trivial
              · refine r_if_eq (tgt := 144) C h2198.ir dX7_adapt_133 (by decide) (fun c2233 => ?_) (fun c2233 => ?_)
                · refine r_jt c2233 ?_
                  refine r_L (L' := [(0, .ref (zad E p)), (3, .int (zi a3)), (6, .int (zi v2192)), (8, .int (zi q2205)), (9, .int (zi v2220))]) [1, 4, 6, 8, 0] rfl ?_
                  exact k2232 S trivial
                · refine r_jf c2233 ?_
                  refine r_aload_n (pc := 136) (j := 1) C dX7_adapt_136 rfl rfl ?_
                  refine r_iload (pc := 137) (j := 6) C dX7_adapt_137 rfl ?_
                  refine r_iconst (v := 0) C dX7_adapt_139 (by decide) ?_
                  refine r_iload_n (pc := 140) (j := 3) C dX7_adapt_140 rfl rfl ?_
                  refine r_jj ?_
                  refine r_jn (fun q2235 e2236 => ?_)
                  refine r_cV0 (pc := 141) (k := p) (As := [.int (zi v2192), .int (zi 0), .int (zi a2)]) (st := []) C (m_X7_write (p := p) (a1 := v2192) (a2 := 0) (a3 := a2) hp h2193 (IRd rfl) ha2 e2236) cal_X7_write cl_X7 (gSt_k hp).1 (gSt_k hp).2.1 q_1164 dX7_adapt_141 rfl rfl (Nat.le_of_ble_eq_true rfl) (Nat.le_of_ble_eq_true rfl) (Nat.le_of_ble_eq_true rfl) (Nat.le_of_ble_eq_true rfl) (Nat.le_of_ble_eq_true rfl) (fun h2234 => ?_)
                  refine r_L (L' := [(0, .ref (zad E p)), (3, .int (zi a3)), (6, .int (zi v2192)), (8, .int (zi q2205)), (9, .int (zi v2220))]) [1, 4, 6, 8, 0] rfl ?_
                  exact k2232 q2235 trivial
            · refine r_if_le (tgt := 131) C h2221 dX7_adapt_101 (by decide) (fun c2245 => ?_) (fun c2245 => ?_)
              · exact k2225 (fun w => c2245 w.1)
              · refine r_aload_n (pc := 104) (j := 1) C dX7_adapt_104 rfl rfl ?_
                refine r_getR (j := 10) (r := (p + 21)) C cl_X7 (gSt_k hp).1 (gSt_k hp).2.1 (by decide) rfl (hp.2.2 (0, 10, 21) (by decide)) (by omega) q_533 dX7_adapt_105 ?_
                refine r_iload (pc := 108) (j := 6) C dX7_adapt_108 rfl ?_
                refine r_cV1 (pc := 110) (k := (p + 21)) (As := [.int (zi v2192)]) (st := []) C (m_X6_at (p := (p + 21)) (a1 := v2192) (gSt_w hp (i := 10) (by decide)) h2193 rfl) cal_X6_at cl_X6 (gRw_k (gSt_w hp (i := 10) (by decide))).1 (gRw_k (gSt_w hp (i := 10) (by decide))).2.1 q_1046 dX7_adapt_110 rfl rfl (Nat.le_of_ble_eq_true rfl) (Nat.le_of_ble_eq_true rfl) (Nat.le_of_ble_eq_true rfl) (Nat.le_of_ble_eq_true rfl) (Nat.le_of_ble_eq_true rfl) (fun h2222 => ?_)
                refine r_iload (pc := 113) (j := 0) C dX7_adapt_113 rfl ?_
                refine r_iadd C dX7_adapt_115 ?_
                refine r_iload (pc := 116) (j := 5) C dX7_adapt_116 rfl ?_
                refine r_icmp_le (tgt := 131) C (IR_wr _) ha4 dX7_adapt_118 (by decide) (fun c2246 => ?_) (fun c2246 => ?_)
                · exact k2225 (fun w => c2246 w.2)
                · exact k2224 ⟨c2245, c2246⟩
          · refine r_if_eq (tgt := 95) C h2206.ir dX7_adapt_88 (by decide) (fun c2219 => ?_) (fun c2219 => ?_)
            · refine r_jt c2219 ?_
              refine r_iconst (v := 0) C dX7_adapt_95 (by decide) ?_
              exact k2218 0 (BRd rfl)
            · refine r_jf c2219 ?_
              refine r_iconst (v := 1) C dX7_adapt_91 (by decide) ?_
              refine r_goto (tgt := 96) C dX7_adapt_92 (by decide) ?_
              exact k2218 1 (BRd rfl)
        · refine r_if_eq (tgt := 85) C h2198.ir dX7_adapt_78 (by decide) (fun c2214 => ?_) (fun c2214 => ?_)
          · refine r_jt c2214 ?_
            refine r_iconst (v := 0) C dX7_adapt_85 (by decide) ?_
            refine r_L (L' := [(0, .ref (zad E p)), (1, .int (zi a1)), (2, .int (zi a2)), (3, .int (zi a3)), (4, .int (zi a4)), (6, .int (zi v2192)), (7, .int (zi q2197)), (8, .int (zi q2205))]) [1, 2, 3, 4, 5, 6, 7, 0] rfl ?_
            exact k2213 0 (BRd rfl)
          · refine r_jf c2214 ?_
            refine r_iconst (v := 1) C dX7_adapt_81 (by decide) ?_
            refine r_goto (tgt := 86) C dX7_adapt_82 (by decide) ?_
            refine r_L (L' := [(0, .ref (zad E p)), (1, .int (zi a1)), (2, .int (zi a2)), (3, .int (zi a3)), (4, .int (zi a4)), (6, .int (zi v2192)), (7, .int (zi q2197)), (8, .int (zi q2205))]) [1, 2, 3, 4, 5, 6, 7, 0] rfl ?_
            exact k2213 1 (BRd rfl)
      · refine r_icmp_eq (tgt := 73) C h2202 ha3 dX7_adapt_66 (by decide) (fun c2209 => ?_) (fun c2209 => ?_)
        · refine r_jt c2209 ?_
          refine r_iconst (v := 0) C dX7_adapt_73 (by decide) ?_
          refine r_L (L' := [(0, .ref (zad E p)), (1, .int (zi a1)), (2, .int (zi a2)), (3, .int (zi a3)), (4, .int (zi a4)), (6, .int (zi v2192)), (7, .int (zi q2197))]) [1, 2, 3, 4, 5, 7, 0] rfl ?_
          exact k2208 0 (BRd rfl)
        · refine r_jf c2209 ?_
          refine r_iconst (v := 1) C dX7_adapt_69 (by decide) ?_
          refine r_goto (tgt := 74) C dX7_adapt_70 (by decide) ?_
          refine r_L (L' := [(0, .ref (zad E p)), (1, .int (zi a1)), (2, .int (zi a2)), (3, .int (zi a3)), (4, .int (zi a4)), (6, .int (zi v2192)), (7, .int (zi q2197))]) [1, 2, 3, 4, 5, 7, 0] rfl ?_
          exact k2208 1 (BRd rfl)
    · refine r_icmp_eq (tgt := 53) C h2194 ha2 dX7_adapt_46 (by decide) (fun c2201 => ?_) (fun c2201 => ?_)
      · refine r_jt c2201 ?_
        refine r_iconst (v := 0) C dX7_adapt_53 (by decide) ?_
        refine r_L (L' := [(0, .ref (zad E p)), (1, .int (zi a1)), (2, .int (zi a2)), (3, .int (zi a3)), (4, .int (zi a4)), (5, .int (zi v2184)), (6, .int (zi v2192))]) [2, 3, 4, 5, 6, 1, 0] rfl ?_
        exact k2200 0 (BRd rfl)
      · refine r_jf c2201 ?_
        refine r_iconst (v := 1) C dX7_adapt_49 (by decide) ?_
        refine r_goto (tgt := 54) C dX7_adapt_50 (by decide) ?_
        refine r_L (L' := [(0, .ref (zad E p)), (1, .int (zi a1)), (2, .int (zi a2)), (3, .int (zi a3)), (4, .int (zi a4)), (5, .int (zi v2184)), (6, .int (zi v2192))]) [2, 3, 4, 5, 6, 1, 0] rfl ?_
        exact k2200 1 (BRd rfl)
  · refine r_t c2187 ?_
    refine r_aload_n (pc := 16) (j := 1) C dX7_adapt_16 rfl rfl ?_
    refine r_iload_n (pc := 17) (j := 2) C dX7_adapt_17 rfl rfl ?_
    refine r_iload_n (pc := 18) (j := 3) C dX7_adapt_18 rfl rfl ?_
    refine r_iload_n (pc := 19) (j := 4) C dX7_adapt_19 rfl rfl ?_
    refine r_iconst (v := 0) C dX7_adapt_20 (by decide) ?_
    refine r_bd (fun q2189 e2190 => ?_)
    refine r_cV0 (pc := 21) (k := p) (As := [.int (zi a1), .int (zi a2), .int (zi a3), .int (zi 0)]) (st := []) C (m_X7_make (p := p) (a1 := a1) (a2 := a2) (a3 := a3) (a4 := 0) hp ha1 ha2 ha3 (IRd rfl) e2190) cal_X7_make cl_X7 (gSt_k hp).1 (gSt_k hp).2.1 q_1155 dX7_adapt_21 rfl rfl (Nat.le_of_ble_eq_true rfl) (Nat.le_of_ble_eq_true rfl) (Nat.le_of_ble_eq_true rfl) (Nat.le_of_ble_eq_true rfl) (Nat.le_of_ble_eq_true rfl) (fun h2188 => ?_)
    refine r_iconst (v := 1) C dX7_adapt_24 (by decide) ?_
    exact r_ireturn C hQ rfl dX7_adapt_25 (fun e => by cases e; exact ⟨(IRd rfl), rfl, rfl, rfl, rfl, rfl⟩)

def f_X7_grow (p : Nat) (a2 : Int) (a3 : Int) (a4 : Int) (a5 : Int) (a6 : Int) (S : Sst) : Option (Sst) :=
  jn (wr ((f_X6_size 68 S) - 1)) fun (v2324 : Int) =>
  Option.bind (lp (fun (s2326 : Int × Int × Sst) =>
    if s2326.2.1 < 0 then
      (some (Sum.inr (s2326.1, s2326.2.2)))
    else
      (jn (f_X6_at 68 s2326.2.1 s2326.2.2) fun (v2334 : Int) =>
      jn (f_X6_at (p + 31) (f_X6_at 62 v2334 s2326.2.2) s2326.2.2) fun (v2338 : Int) =>
      jn (f_X6_at (p + 31) (f_X6_at 64 v2334 s2326.2.2) s2326.2.2) fun (v2342 : Int) =>
      Option.bind (f_X7_adapt p v2334 v2338 v2342 a6 s2326.2.2) fun (q2345 : Int × Sst) =>
      jn (wr (s2326.1 + q2345.1)) fun (v2347 : Int) =>
      some (Sum.inl (v2347, wr (s2326.2.1 + (-1)), q2345.2)))) FU (0, v2324, S)) fun (r2349 : Int × Sst) =>
  jn (f_X7_addVersion p a2 a3 a4 a5 (f_X6_at (p + 31) (r2349.2.2 59 5) r2349.2) r2349.1 r2349.2) fun (q2354 : Sst) =>
  Option.bind (lp (fun (s2356 : Int × Sst) =>
    if s2356.1 < 8 then
      (jn (
        if f_X7_isIn p (f_X7_newest p s2356.2) s2356.1 s2356.2 = 0 then
          (jn (f_X6_put (p + 31) s2356.1 (-1) s2356.2) fun (q2371 : Sst) =>
          q2371)
        else
          (s2356.2)) fun (q2365 : Sst) =>
      some (Sum.inl (wr (s2356.1 + 1), q2365)))
    else
      (some (Sum.inr s2356.2))) FU (0, q2354)) fun (r2373 : Sst) =>
  some r2373
set_option maxRecDepth 100000 in
set_option maxHeartbeats 4000000 in
theorem m_X7_grow {l : Launch} {E : EwT} {S : Sst} {O : Smo} {p : Nat} (hp : gSt n0 R0 p) {a2 : Int} (ha2 : IR a2) {a3 : Int} (ha3 : IR a3) {a4 : Int} (ha4 : IR a4) {a5 : Int} (ha5 : IR a5) {a6 : Int} (ha6 : IR a6) {q : Sst} (hq : f_X7_grow p a2 a3 a4 a5 a6 S = some q) : MetG l E yX7_grow cX7_grow 12 none 4 94 0 0 n0 R0 S O [.ref (zad E p), .ref (zad E 59), .int (zi a2), .int (zi a3), .int (zi a4), .int (zi a5), .int (zi a6)] (True) none n0 R0 q O := by
  refine ofG (L0 := [(0, .ref (zad E p)), (1, .ref (zad E 59)), (2, .int (zi a2)), (3, .int (zi a3)), (4, .int (zi a4)), (5, .int (zi a5)), (6, .int (zi a6))]) hq (by decide +kernel) (Nat.le_of_ble_eq_true rfl) rfl (fun K _ C hQ => ?_)
  unfold f_X7_grow
  refine r_iconst (v := 0) C dX7_grow_0 (by decide) ?_
  refine r_istore (L' := [(7, .int (zi 0)), (0, .ref (zad E p)), (1, .ref (zad E 59)), (2, .int (zi a2)), (3, .int (zi a3)), (4, .int (zi a4)), (5, .int (zi a5)), (6, .int (zi a6))]) C dX7_grow_1 (by decide) rfl ?_
  refine r_aload_n (pc := 3) (j := 2) C dX7_grow_3 rfl rfl ?_
  refine r_getR (j := 4) (r := 68) C cl_X10 kd_59 ln_59 (by decide) rfl r0_59_4 (by decide) q_443 dX7_grow_4 ?_
  refine r_cV1 (pc := 7) (k := 68) (As := []) (st := []) C (m_X6_size (p := 68) gw_68 rfl) cal_X6_size cl_X6 kd_68 ln_68 q_1040 dX7_grow_7 rfl rfl (Nat.le_of_ble_eq_true rfl) (Nat.le_of_ble_eq_true rfl) (Nat.le_of_ble_eq_true rfl) (Nat.le_of_ble_eq_true rfl) (Nat.le_of_ble_eq_true rfl) (fun h2323 => ?_)
  refine r_iconst (v := 1) C dX7_grow_10 (by decide) ?_
  refine r_isub C dX7_grow_11 ?_
  refine r_jv (IR_wr _) (fun v2324 h2325 => ?_)
  refine r_istore (L' := [(8, .int (zi v2324)), (7, .int (zi 0)), (0, .ref (zad E p)), (1, .ref (zad E 59)), (2, .int (zi a2)), (3, .int (zi a3)), (4, .int (zi a4)), (5, .int (zi a5)), (6, .int (zi a6))]) C dX7_grow_12 (by decide) rfl ?_
  refine r_L (L' := [(0, .ref (zad E p)), (1, .ref (zad E 59)), (2, .int (zi a2)), (3, .int (zi a3)), (4, .int (zi a4)), (5, .int (zi a5)), (6, .int (zi a6)), (7, .int (zi 0)), (8, .int (zi v2324))]) [2, 3, 4, 5, 6, 7, 8, 1, 0] rfl ?_
  refine r_loop1 (fun s2326 : Int × Int × Sst => IR s2326.1 ∧ IR s2326.2.1) (fun s2326 => s2326.2.2) (fun s2326 => O) (fun s2326 => [(0, .ref (zad E p)), (1, .ref (zad E 59)), (2, .int (zi a2)), (3, .int (zi a3)), (4, .int (zi a4)), (5, .int (zi a5)), (6, .int (zi a6)), (7, .int (zi s2326.1)), (8, .int (zi s2326.2.1))]) [] (fun r2349 : Int × Sst => IR r2349.1) (fun r2349 => r2349.2) (fun r2349 => O) (fun r2349 => [(0, .ref (zad E p)), (1, .ref (zad E 59)), (2, .int (zi a2)), (3, .int (zi a3)), (4, .int (zi a4)), (5, .int (zi a5)), (7, .int (zi r2349.1))]) 89 (fun r2349 h2350 => ?_) (fun k2328 k2330 k2329 k2331 s2326 h2327 => ?_) ⟨(IRd rfl), h2325⟩
  · refine r_aload_n (pc := 89) (j := 0) C dX7_grow_89 rfl rfl ?_
    refine r_iload_n (pc := 90) (j := 2) C dX7_grow_90 rfl rfl ?_
    refine r_iload_n (pc := 91) (j := 3) C dX7_grow_91 rfl rfl ?_
    refine r_iload (pc := 92) (j := 4) C dX7_grow_92 rfl ?_
    refine r_iload (pc := 94) (j := 5) C dX7_grow_94 rfl ?_
    refine r_aload_n (pc := 96) (j := 0) C dX7_grow_96 rfl rfl ?_
    refine r_getR (j := 15) (r := (p + 31)) C cl_X7 (gSt_k hp).1 (gSt_k hp).2.1 (by decide) rfl (hp.2.2 (0, 15, 31) (by decide)) (by omega) q_542 dX7_grow_97 ?_
    refine r_aload_n (pc := 100) (j := 1) C dX7_grow_100 rfl rfl ?_
    refine r_getS (j := 5) C cl_X10 kd_59 ln_59 lc_59 (by decide) (by decide) rfl q_445 dX7_grow_101 (fun h2351 => ?_)
    refine r_cV1 (pc := 104) (k := (p + 31)) (As := [.int (zi (r2349.2.2 59 5))]) (st := [.int (zi a5), .int (zi a4), .int (zi a3), .int (zi a2), .ref (zad E p)]) C (m_X6_at (p := (p + 31)) (a1 := r2349.2.2 59 5) (gSt_w hp (i := 15) (by decide)) h2351 rfl) cal_X6_at cl_X6 (gRw_k (gSt_w hp (i := 15) (by decide))).1 (gRw_k (gSt_w hp (i := 15) (by decide))).2.1 q_1046 dX7_grow_104 rfl rfl (Nat.le_of_ble_eq_true rfl) (Nat.le_of_ble_eq_true rfl) (Nat.le_of_ble_eq_true rfl) (Nat.le_of_ble_eq_true rfl) (Nat.le_of_ble_eq_true rfl) (fun h2352 => ?_)
    refine r_iload (pc := 107) (j := 6) C dX7_grow_107 rfl ?_
    refine r_jn (fun q2354 e2355 => ?_)
    refine r_cV0 (pc := 109) (k := p) (As := [.int (zi a2), .int (zi a3), .int (zi a4), .int (zi a5), .int (zi (f_X6_at (p + 31) (r2349.2.2 59 5) r2349.2)), .int (zi r2349.1)]) (st := []) C (m_X7_addVersion (p := p) (a1 := a2) (a2 := a3) (a3 := a4) (a4 := a5) (a5 := f_X6_at (p + 31) (r2349.2.2 59 5) r2349.2) (a6 := r2349.1) hp ha2 ha3 ha4 ha5 h2352 h2350 e2355) cal_X7_addVersion cl_X7 (gSt_k hp).1 (gSt_k hp).2.1 q_502 dX7_grow_109 rfl rfl (Nat.le_of_ble_eq_true rfl) (Nat.le_of_ble_eq_true rfl) (Nat.le_of_ble_eq_true rfl) (Nat.le_of_ble_eq_true rfl) (Nat.le_of_ble_eq_true rfl) (fun h2353 => ?_)
    refine r_iconst (v := 0) C dX7_grow_112 (by decide) ?_
    refine r_istore (L' := [(8, .int (zi 0)), (0, .ref (zad E p)), (1, .ref (zad E 59)), (2, .int (zi a2)), (3, .int (zi a3)), (4, .int (zi a4)), (5, .int (zi a5)), (7, .int (zi r2349.1))]) C dX7_grow_113 (by decide) rfl ?_
    refine r_L (L' := [(0, .ref (zad E p)), (8, .int (zi 0))]) [1, 0] rfl ?_
    refine r_loop1 (fun s2356 : Int × Sst => IR s2356.1) (fun s2356 => s2356.2) (fun s2356 => O) (fun s2356 => [(0, .ref (zad E p)), (8, .int (zi s2356.1))]) [] (fun r2373 : Sst => True) (fun r2373 => r2373) (fun r2373 => O) (fun r2373 => []) 151 (fun r2373 h2374 => ?_) (fun k2358 k2360 k2359 k2361 s2356 h2357 => ?_) (IRd rfl)
    · exact r_return C hQ dX7_grow_151 (fun e => by cases e; exact ⟨trivial, rfl, rfl, rfl, rfl, rfl⟩)
    · refine r_iload (pc := 115) (j := 1) C dX7_grow_115 rfl ?_
      refine r_bipush (v := 8) C dX7_grow_117 (by decide) ?_
      refine r_icmp_ge (tgt := 151) C h2357 (IRd rfl) dX7_grow_119 (by decide) (fun c2362 => ?_) (fun c2362 => ?_)
      · refine r_bf c2362 ?_
        refine r_L (L' := []) [] rfl ?_
        exact k2361 s2356.2 trivial
      · refine r_bt c2362 ?_
        refine r_aload_n (pc := 122) (j := 0) C dX7_grow_122 rfl rfl ?_
        refine r_aload_n (pc := 123) (j := 0) C dX7_grow_123 rfl rfl ?_
        refine r_cV1 (pc := 124) (k := p) (As := []) (st := [.ref (zad E p)]) C (m_X7_newest (p := p) hp rfl) cal_X7_newest cl_X7 (gSt_k hp).1 (gSt_k hp).2.1 q_1153 dX7_grow_124 rfl rfl (Nat.le_of_ble_eq_true rfl) (Nat.le_of_ble_eq_true rfl) (Nat.le_of_ble_eq_true rfl) (Nat.le_of_ble_eq_true rfl) (Nat.le_of_ble_eq_true rfl) (fun h2363 => ?_)
        refine r_iload (pc := 127) (j := 1) C dX7_grow_127 rfl ?_
        refine r_cV1 (pc := 129) (k := p) (As := [.int (zi (f_X7_newest p s2356.2)), .int (zi s2356.1)]) (st := []) C (m_X7_isIn (p := p) (a1 := f_X7_newest p s2356.2) (a2 := s2356.1) hp h2363 h2357 rfl) cal_X7_isIn cl_X7 (gSt_k hp).1 (gSt_k hp).2.1 q_1154 dX7_grow_129 rfl rfl (Nat.le_of_ble_eq_true rfl) (Nat.le_of_ble_eq_true rfl) (Nat.le_of_ble_eq_true rfl) (Nat.le_of_ble_eq_true rfl) (Nat.le_of_ble_eq_true rfl) (fun h2364 => ?_)
        refine r_bj ?_
        refine r_join (fun q2365 : Sst => True) (fun q2365 => q2365) (fun q2365 => O) (fun q2365 => [(0, .ref (zad E p)), (8, .int (zi s2356.1))]) 145 (fun q2365 => []) (fun q2365 h2366 => ?_) (fun k2367 k2368 => ?_)
        · refine r_iinc (j := 1) (L' := [(8, .int (zi (wr (s2356.1 + 1)))), (0, .ref (zad E p))]) C dX7_grow_145 rfl (by decide) rfl ?_
          refine r_goto (tgt := 115) C dX7_grow_148 (by decide) ?_
          refine r_L (L' := [(0, .ref (zad E p)), (8, .int (zi (wr (s2356.1 + 1))))]) [1, 0] rfl ?_
          exact k2359 (wr (s2356.1 + 1), q2365) (IR_wr _)
        · refine r_if_ne (tgt := 145) C h2364.ir dX7_grow_132 (by decide) (fun c2369 => ?_) (fun c2369 => ?_)
          · refine r_jf c2369 ?_
            exact k2368 s2356.2 trivial
          · refine r_jt c2369 ?_
            refine r_aload_n (pc := 135) (j := 0) C dX7_grow_135 rfl rfl ?_
            refine r_getR (j := 15) (r := (p + 31)) C cl_X7 (gSt_k hp).1 (gSt_k hp).2.1 (by decide) rfl (hp.2.2 (0, 15, 31) (by decide)) (by omega) q_542 dX7_grow_136 ?_
            refine r_iload (pc := 139) (j := 1) C dX7_grow_139 rfl ?_
            refine r_iconst (v := (-1)) C dX7_grow_141 (by decide) ?_
            refine r_jj ?_
            refine r_jn (fun q2371 e2372 => ?_)
            refine r_cV0 (pc := 142) (k := (p + 31)) (As := [.int (zi s2356.1), .int (zi (-1))]) (st := []) C (m_X6_put (p := (p + 31)) (a1 := s2356.1) (a2 := (-1)) (gSt_w hp (i := 15) (by decide)) h2357 (IRd rfl) e2372) cal_X6_put cl_X6 (gRw_k (gSt_w hp (i := 15) (by decide))).1 (gRw_k (gSt_w hp (i := 15) (by decide))).2.1 q_1159 dX7_grow_142 rfl rfl (Nat.le_of_ble_eq_true rfl) (Nat.le_of_ble_eq_true rfl) (Nat.le_of_ble_eq_true rfl) (Nat.le_of_ble_eq_true rfl) (Nat.le_of_ble_eq_true rfl) (fun h2370 => ?_)
            exact k2368 q2371 trivial
  · refine r_iload (pc := 14) (j := 8) C dX7_grow_14 rfl ?_
    refine r_if_lt (tgt := 89) C h2327.2 dX7_grow_16 (by decide) (fun c2332 => ?_) (fun c2332 => ?_)
    · refine r_bt c2332 ?_
      refine r_L (L' := [(0, .ref (zad E p)), (1, .ref (zad E 59)), (2, .int (zi a2)), (3, .int (zi a3)), (4, .int (zi a4)), (5, .int (zi a5)), (7, .int (zi s2326.1))]) [0, 1, 2, 3, 4, 5, 7] rfl ?_
      exact k2331 (s2326.1, s2326.2.2) h2327.1
    · refine r_bf c2332 ?_
      refine r_aload_n (pc := 19) (j := 1) C dX7_grow_19 rfl rfl ?_
      refine r_getR (j := 4) (r := 68) C cl_X10 kd_59 ln_59 (by decide) rfl r0_59_4 (by decide) q_443 dX7_grow_20 ?_
      refine r_iload (pc := 23) (j := 8) C dX7_grow_23 rfl ?_
      refine r_cV1 (pc := 25) (k := 68) (As := [.int (zi s2326.2.1)]) (st := []) C (m_X6_at (p := 68) (a1 := s2326.2.1) gw_68 h2327.2 rfl) cal_X6_at cl_X6 kd_68 ln_68 q_1046 dX7_grow_25 rfl rfl (Nat.le_of_ble_eq_true rfl) (Nat.le_of_ble_eq_true rfl) (Nat.le_of_ble_eq_true rfl) (Nat.le_of_ble_eq_true rfl) (Nat.le_of_ble_eq_true rfl) (fun h2333 => ?_)
      refine r_bj ?_
      refine r_jv h2333 (fun v2334 h2335 => ?_)
      refine r_istore (L' := [(9, .int (zi v2334)), (0, .ref (zad E p)), (1, .ref (zad E 59)), (2, .int (zi a2)), (3, .int (zi a3)), (4, .int (zi a4)), (5, .int (zi a5)), (6, .int (zi a6)), (7, .int (zi s2326.1)), (8, .int (zi s2326.2.1))]) C dX7_grow_28 (by decide) rfl ?_
      refine r_aload_n (pc := 30) (j := 1) C dX7_grow_30 rfl rfl ?_
      refine r_getR (j := 15) (r := (p + 31)) C cl_X7 (gSt_k hp).1 (gSt_k hp).2.1 (by decide) rfl (hp.2.2 (0, 15, 31) (by decide)) (by omega) q_542 dX7_grow_31 ?_
      refine r_aload_n (pc := 34) (j := 2) C dX7_grow_34 rfl rfl ?_
      refine r_getR (j := 1) (r := 62) C cl_X10 kd_59 ln_59 (by decide) rfl r0_59_1 (by decide) q_435 dX7_grow_35 ?_
      refine r_iload (pc := 38) (j := 0) C dX7_grow_38 rfl ?_
      refine r_cV1 (pc := 40) (k := 62) (As := [.int (zi v2334)]) (st := [.ref (zad E (p + 31))]) C (m_X6_at (p := 62) (a1 := v2334) gw_62 h2335 rfl) cal_X6_at cl_X6 kd_62 ln_62 q_1046 dX7_grow_40 rfl rfl (Nat.le_of_ble_eq_true rfl) (Nat.le_of_ble_eq_true rfl) (Nat.le_of_ble_eq_true rfl) (Nat.le_of_ble_eq_true rfl) (Nat.le_of_ble_eq_true rfl) (fun h2336 => ?_)
      refine r_cV1 (pc := 43) (k := (p + 31)) (As := [.int (zi (f_X6_at 62 v2334 s2326.2.2))]) (st := []) C (m_X6_at (p := (p + 31)) (a1 := f_X6_at 62 v2334 s2326.2.2) (gSt_w hp (i := 15) (by decide)) h2336 rfl) cal_X6_at cl_X6 (gRw_k (gSt_w hp (i := 15) (by decide))).1 (gRw_k (gSt_w hp (i := 15) (by decide))).2.1 q_1046 dX7_grow_43 rfl rfl (Nat.le_of_ble_eq_true rfl) (Nat.le_of_ble_eq_true rfl) (Nat.le_of_ble_eq_true rfl) (Nat.le_of_ble_eq_true rfl) (Nat.le_of_ble_eq_true rfl) (fun h2337 => ?_)
      refine r_bj ?_
      refine r_jv h2337 (fun v2338 h2339 => ?_)
      refine r_istore (L' := [(10, .int (zi v2338)), (9, .int (zi v2334)), (0, .ref (zad E p)), (1, .ref (zad E 59)), (2, .int (zi a2)), (3, .int (zi a3)), (4, .int (zi a4)), (5, .int (zi a5)), (6, .int (zi a6)), (7, .int (zi s2326.1)), (8, .int (zi s2326.2.1))]) C dX7_grow_46 (by decide) rfl ?_
      refine r_aload_n (pc := 48) (j := 2) C dX7_grow_48 rfl rfl ?_
      refine r_getR (j := 15) (r := (p + 31)) C cl_X7 (gSt_k hp).1 (gSt_k hp).2.1 (by decide) rfl (hp.2.2 (0, 15, 31) (by decide)) (by omega) q_542 dX7_grow_49 ?_
      refine r_aload_n (pc := 52) (j := 3) C dX7_grow_52 rfl rfl ?_
      refine r_getR (j := 2) (r := 64) C cl_X10 kd_59 ln_59 (by decide) rfl r0_59_2 (by decide) q_438 dX7_grow_53 ?_
      refine r_iload (pc := 56) (j := 1) C dX7_grow_56 rfl ?_
      refine r_cV1 (pc := 58) (k := 64) (As := [.int (zi v2334)]) (st := [.ref (zad E (p + 31))]) C (m_X6_at (p := 64) (a1 := v2334) gw_64 h2335 rfl) cal_X6_at cl_X6 kd_64 ln_64 q_1046 dX7_grow_58 rfl rfl (Nat.le_of_ble_eq_true rfl) (Nat.le_of_ble_eq_true rfl) (Nat.le_of_ble_eq_true rfl) (Nat.le_of_ble_eq_true rfl) (Nat.le_of_ble_eq_true rfl) (fun h2340 => ?_)
      refine r_cV1 (pc := 61) (k := (p + 31)) (As := [.int (zi (f_X6_at 64 v2334 s2326.2.2))]) (st := []) C (m_X6_at (p := (p + 31)) (a1 := f_X6_at 64 v2334 s2326.2.2) (gSt_w hp (i := 15) (by decide)) h2340 rfl) cal_X6_at cl_X6 (gRw_k (gSt_w hp (i := 15) (by decide))).1 (gRw_k (gSt_w hp (i := 15) (by decide))).2.1 q_1046 dX7_grow_61 rfl rfl (Nat.le_of_ble_eq_true rfl) (Nat.le_of_ble_eq_true rfl) (Nat.le_of_ble_eq_true rfl) (Nat.le_of_ble_eq_true rfl) (Nat.le_of_ble_eq_true rfl) (fun h2341 => ?_)
      refine r_bj ?_
      refine r_jv h2341 (fun v2342 h2343 => ?_)
      refine r_istore (L' := [(11, .int (zi v2342)), (10, .int (zi v2338)), (9, .int (zi v2334)), (0, .ref (zad E p)), (1, .ref (zad E 59)), (2, .int (zi a2)), (3, .int (zi a3)), (4, .int (zi a4)), (5, .int (zi a5)), (6, .int (zi a6)), (7, .int (zi s2326.1)), (8, .int (zi s2326.2.1))]) C dX7_grow_64 (by decide) rfl ?_
      refine r_iload (pc := 66) (j := 10) C dX7_grow_66 rfl ?_
      refine r_aload_n (pc := 68) (j := 3) C dX7_grow_68 rfl rfl ?_
      refine r_iload (pc := 69) (j := 2) C dX7_grow_69 rfl ?_
      refine r_iload (pc := 71) (j := 1) C dX7_grow_71 rfl ?_
      refine r_iload (pc := 73) (j := 0) C dX7_grow_73 rfl ?_
      refine r_iload (pc := 75) (j := 9) C dX7_grow_75 rfl ?_
      refine r_bb ?_
      refine r_bd (fun q2345 e2346 => ?_)
      refine r_cV1 (pc := 77) (k := p) (As := [.int (zi v2334), .int (zi v2338), .int (zi v2342), .int (zi a6)]) (st := [.int (zi s2326.1)]) C (m_X7_adapt (p := p) (a1 := v2334) (a2 := v2338) (a3 := v2342) (a4 := a6) hp h2335 h2339 h2343 ha6 e2346) cal_X7_adapt cl_X7 (gSt_k hp).1 (gSt_k hp).2.1 q_1149 dX7_grow_77 rfl rfl (Nat.le_of_ble_eq_true rfl) (Nat.le_of_ble_eq_true rfl) (Nat.le_of_ble_eq_true rfl) (Nat.le_of_ble_eq_true rfl) (Nat.le_of_ble_eq_true rfl) (fun h2344 => ?_)
      refine r_iadd C dX7_grow_80 ?_
      refine r_bj ?_
      refine r_jv (IR_wr _) (fun v2347 h2348 => ?_)
      refine r_istore (L' := [(7, .int (zi v2347)), (11, .int (zi v2342)), (10, .int (zi v2338)), (9, .int (zi v2334)), (0, .ref (zad E p)), (1, .ref (zad E 59)), (2, .int (zi a2)), (3, .int (zi a3)), (4, .int (zi a4)), (5, .int (zi a5)), (6, .int (zi a6)), (8, .int (zi s2326.2.1))]) C dX7_grow_81 (by decide) rfl ?_
      refine r_iinc (j := 11) (L' := [(8, .int (zi (wr (s2326.2.1 + (-1))))), (7, .int (zi v2347)), (11, .int (zi v2342)), (10, .int (zi v2338)), (9, .int (zi v2334)), (0, .ref (zad E p)), (1, .ref (zad E 59)), (2, .int (zi a2)), (3, .int (zi a3)), (4, .int (zi a4)), (5, .int (zi a5)), (6, .int (zi a6))]) C dX7_grow_83 rfl (by decide) rfl ?_
      refine r_goto (tgt := 14) C dX7_grow_86 (by decide) ?_
      refine r_L (L' := [(0, .ref (zad E p)), (1, .ref (zad E 59)), (2, .int (zi a2)), (3, .int (zi a3)), (4, .int (zi a4)), (5, .int (zi a5)), (6, .int (zi a6)), (7, .int (zi v2347)), (8, .int (zi (wr (s2326.2.1 + (-1)))))]) [5, 6, 7, 8, 9, 10, 11, 1, 0] rfl ?_
      exact k2329 (v2347, wr (s2326.2.1 + (-1)), q2345.2) ⟨h2348, (IR_wr _)⟩

def f_X7_usedAhead (p : Nat) (a1 : Int) (a2 : Int) (S : Sst) : Option (Int) :=
  Option.bind (lp (fun (s2503 : Int) =>
    if (s2503 < f_X6_at (p + 21) a1 S ∧ f_X6_at (p + 25) (wr ((wr (a1 * 6)) + s2503)) S < a2) then
      (some (Sum.inl (wr (s2503 + 1))))
    else
      (some (Sum.inr s2503))) FU 0) fun (r2516 : Int) =>
  some r2516
set_option maxRecDepth 100000 in
set_option maxHeartbeats 4000000 in
theorem m_X7_usedAhead {l : Launch} {E : EwT} {S : Sst} {O : Smo} {p : Nat} (hp : gSt n0 R0 p) {a1 : Int} (ha1 : IR a1) {a2 : Int} (ha2 : IR a2) {q : Int} (hq : f_X7_usedAhead p a1 a2 S = some q) : MetG l E yX7_usedAhead cX7_usedAhead 4 (some .int) 1 21 0 0 n0 R0 S O [.ref (zad E p), .int (zi a1), .int (zi a2)] (IR q) (some (.int (zi q))) n0 R0 S O := by
  refine ofG (L0 := [(0, .ref (zad E p)), (1, .int (zi a1)), (2, .int (zi a2))]) hq (by decide +kernel) (Nat.le_of_ble_eq_true rfl) rfl (fun K _ C hQ => ?_)
  unfold f_X7_usedAhead
  refine r_iconst (v := 0) C dX7_usedAhead_0 (by decide) ?_
  refine r_istore_n (L' := [(3, .int (zi 0)), (0, .ref (zad E p)), (1, .int (zi a1)), (2, .int (zi a2))]) C dX7_usedAhead_1 rfl (by decide) rfl ?_
  refine r_L (L' := [(0, .ref (zad E p)), (1, .int (zi a1)), (2, .int (zi a2)), (3, .int (zi 0))]) [1, 2, 3, 0] rfl ?_
  refine r_loop1 (fun s2503 : Int => IR s2503) (fun s2503 => S) (fun s2503 => O) (fun s2503 => [(0, .ref (zad E p)), (1, .int (zi a1)), (2, .int (zi a2)), (3, .int (zi s2503))]) [] (fun r2516 : Int => IR r2516) (fun r2516 => S) (fun r2516 => O) (fun r2516 => [(3, .int (zi r2516))]) 37 (fun r2516 h2517 => ?_) (fun k2505 k2507 k2506 k2508 s2503 h2504 => ?_) (IRd rfl)
  · refine r_iload_n (pc := 37) (j := 0) C dX7_usedAhead_37 rfl rfl ?_
    exact r_ireturn C hQ rfl dX7_usedAhead_38 (fun e => by cases e; exact ⟨h2517, rfl, rfl, rfl, rfl, rfl⟩)
  · refine r_iload_n (pc := 2) (j := 3) C dX7_usedAhead_2 rfl rfl ?_
    refine r_aload_n (pc := 3) (j := 0) C dX7_usedAhead_3 rfl rfl ?_
    refine r_getR (j := 10) (r := (p + 21)) C cl_X7 (gSt_k hp).1 (gSt_k hp).2.1 (by decide) rfl (hp.2.2 (0, 10, 21) (by decide)) (by omega) q_533 dX7_usedAhead_4 ?_
    refine r_iload_n (pc := 7) (j := 1) C dX7_usedAhead_7 rfl rfl ?_
    refine r_cV1 (pc := 8) (k := (p + 21)) (As := [.int (zi a1)]) (st := [.int (zi s2503)]) C (m_X6_at (p := (p + 21)) (a1 := a1) (gSt_w hp (i := 10) (by decide)) ha1 rfl) cal_X6_at cl_X6 (gRw_k (gSt_w hp (i := 10) (by decide))).1 (gRw_k (gSt_w hp (i := 10) (by decide))).2.1 q_1046 dX7_usedAhead_8 rfl rfl (Nat.le_of_ble_eq_true rfl) (Nat.le_of_ble_eq_true rfl) (Nat.le_of_ble_eq_true rfl) (Nat.le_of_ble_eq_true rfl) (Nat.le_of_ble_eq_true rfl) (fun h2509 => ?_)
    refine r_cut (s2503 < f_X6_at (p + 21) a1 S ∧ f_X6_at (p + 25) (wr ((wr (a1 * 6)) + s2503)) S < a2) 31 37 [] (fun c2511 => ?_) (fun c2511 => ?_) (fun k2512 k2513 => ?_)
    · refine r_bt c2511 ?_
      refine r_iinc (j := 3) (L' := [(3, .int (zi (wr (s2503 + 1)))), (0, .ref (zad E p)), (1, .int (zi a1)), (2, .int (zi a2))]) C dX7_usedAhead_31 rfl (by decide) rfl ?_
      refine r_goto (tgt := 2) C dX7_usedAhead_34 (by decide) ?_
      refine r_L (L' := [(0, .ref (zad E p)), (1, .int (zi a1)), (2, .int (zi a2)), (3, .int (zi (wr (s2503 + 1))))]) [1, 2, 3, 0] rfl ?_
      exact k2506 (wr (s2503 + 1)) (IR_wr _)
    · refine r_bf c2511 ?_
      refine r_L (L' := [(3, .int (zi s2503))]) [3] rfl ?_
      exact k2508 s2503 h2504
    · refine r_icmp_ge (tgt := 37) C h2504 h2509 dX7_usedAhead_11 (by decide) (fun c2514 => ?_) (fun c2514 => ?_)
      · exact k2513 (fun w => c2514 w.1)
      · refine r_aload_n (pc := 14) (j := 0) C dX7_usedAhead_14 rfl rfl ?_
        refine r_getR (j := 12) (r := (p + 25)) C cl_X7 (gSt_k hp).1 (gSt_k hp).2.1 (by decide) rfl (hp.2.2 (0, 12, 25) (by decide)) (by omega) q_536 dX7_usedAhead_15 ?_
        refine r_iload_n (pc := 18) (j := 1) C dX7_usedAhead_18 rfl rfl ?_
        refine r_bipush (v := 6) C dX7_usedAhead_19 (by decide) ?_
        refine r_imul C dX7_usedAhead_21 ?_
        refine r_iload_n (pc := 22) (j := 3) C dX7_usedAhead_22 rfl rfl ?_
        refine r_iadd C dX7_usedAhead_23 ?_
        refine r_cV1 (pc := 24) (k := (p + 25)) (As := [.int (zi (wr ((wr (a1 * 6)) + s2503)))]) (st := []) C (m_X6_at (p := (p + 25)) (a1 := wr ((wr (a1 * 6)) + s2503)) (gSt_w hp (i := 12) (by decide)) (IR_wr _) rfl) cal_X6_at cl_X6 (gRw_k (gSt_w hp (i := 12) (by decide))).1 (gRw_k (gSt_w hp (i := 12) (by decide))).2.1 q_1046 dX7_usedAhead_24 rfl rfl (Nat.le_of_ble_eq_true rfl) (Nat.le_of_ble_eq_true rfl) (Nat.le_of_ble_eq_true rfl) (Nat.le_of_ble_eq_true rfl) (Nat.le_of_ble_eq_true rfl) (fun h2510 => ?_)
        refine r_iload_n (pc := 27) (j := 2) C dX7_usedAhead_27 rfl rfl ?_
        refine r_icmp_ge (tgt := 37) C h2510 ha2 dX7_usedAhead_28 (by decide) (fun c2515 => ?_) (fun c2515 => ?_)
        · exact k2513 (fun w => c2515 w.2)
        · exact k2512 ⟨c2514, c2515⟩

def f_X7_holderOf (p : Nat) (a1 : Int) (a2 : Int) (S : Sst) : Option (Int) :=
  if f_X7_isIn p a2 a1 S = 0 then
    (some (-1))
  else
    (jn (wr ((f_X6_size (p + 13) S) - 1)) fun (v2521 : Int) =>
    Option.bind (lp (fun (s2523 : Int) =>
      if s2523 < 0 then
        (some (Sum.inr (Sum.inr ())))
      else
        (if (f_X6_at (p + 13) s2523 S = a1 ∧ ¬ a2 < f_X6_at (p + 15) s2523 S) then
          (some (Sum.inr (Sum.inl s2523)))
        else
          (some (Sum.inl (wr (s2523 + (-1))))))) FU v2521) fun z2543 => Sum.elim (fun (r2539 : Int) =>
      some r2539) (fun (r2541 : Unit) =>
      some (-1)) z2543)
set_option maxRecDepth 100000 in
set_option maxHeartbeats 4000000 in
theorem m_X7_holderOf {l : Launch} {E : EwT} {S : Sst} {O : Smo} {p : Nat} (hp : gSt n0 R0 p) {a1 : Int} (ha1 : IR a1) {a2 : Int} (ha2 : IR a2) {q : Int} (hq : f_X7_holderOf p a1 a2 S = some q) : MetG l E yX7_holderOf cX7_holderOf 4 (some .int) 2 43 0 0 n0 R0 S O [.ref (zad E p), .int (zi a1), .int (zi a2)] (IR q) (some (.int (zi q))) n0 R0 S O := by
  refine ofG (L0 := [(0, .ref (zad E p)), (1, .int (zi a1)), (2, .int (zi a2))]) hq (by decide +kernel) (Nat.le_of_ble_eq_true rfl) rfl (fun K _ C hQ => ?_)
  unfold f_X7_holderOf
  refine r_aload_n (pc := 0) (j := 0) C dX7_holderOf_0 rfl rfl ?_
  refine r_iload_n (pc := 1) (j := 2) C dX7_holderOf_1 rfl rfl ?_
  refine r_iload_n (pc := 2) (j := 1) C dX7_holderOf_2 rfl rfl ?_
  refine r_cV1 (pc := 3) (k := p) (As := [.int (zi a2), .int (zi a1)]) (st := []) C (m_X7_isIn (p := p) (a1 := a2) (a2 := a1) hp ha2 ha1 rfl) cal_X7_isIn cl_X7 (gSt_k hp).1 (gSt_k hp).2.1 q_1154 dX7_holderOf_3 rfl rfl (Nat.le_of_ble_eq_true rfl) (Nat.le_of_ble_eq_true rfl) (Nat.le_of_ble_eq_true rfl) (Nat.le_of_ble_eq_true rfl) (Nat.le_of_ble_eq_true rfl) (fun h2518 => ?_)
  refine r_if_ne (tgt := 11) C h2518.ir dX7_holderOf_6 (by decide) (fun c2519 => ?_) (fun c2519 => ?_)
  · refine r_f c2519 ?_
    refine r_aload_n (pc := 11) (j := 0) C dX7_holderOf_11 rfl rfl ?_
    refine r_getR (j := 6) (r := (p + 13)) C cl_X7 (gSt_k hp).1 (gSt_k hp).2.1 (by decide) rfl (hp.2.2 (0, 6, 13) (by decide)) (by omega) q_525 dX7_holderOf_12 ?_
    refine r_cV1 (pc := 15) (k := (p + 13)) (As := []) (st := []) C (m_X6_size (p := (p + 13)) (gSt_w hp (i := 6) (by decide)) rfl) cal_X6_size cl_X6 (gRw_k (gSt_w hp (i := 6) (by decide))).1 (gRw_k (gSt_w hp (i := 6) (by decide))).2.1 q_1040 dX7_holderOf_15 rfl rfl (Nat.le_of_ble_eq_true rfl) (Nat.le_of_ble_eq_true rfl) (Nat.le_of_ble_eq_true rfl) (Nat.le_of_ble_eq_true rfl) (Nat.le_of_ble_eq_true rfl) (fun h2520 => ?_)
    refine r_iconst (v := 1) C dX7_holderOf_18 (by decide) ?_
    refine r_isub C dX7_holderOf_19 ?_
    refine r_jv (IR_wr _) (fun v2521 h2522 => ?_)
    refine r_istore_n (L' := [(3, .int (zi v2521)), (0, .ref (zad E p)), (1, .int (zi a1)), (2, .int (zi a2))]) C dX7_holderOf_20 rfl (by decide) rfl ?_
    refine r_L (L' := [(0, .ref (zad E p)), (1, .int (zi a1)), (2, .int (zi a2)), (3, .int (zi v2521))]) [1, 2, 3, 0] rfl ?_
    refine r_loop2 (fun s2523 : Int => IR s2523) (fun s2523 => S) (fun s2523 => O) (fun s2523 => [(0, .ref (zad E p)), (1, .int (zi a1)), (2, .int (zi a2)), (3, .int (zi s2523))]) [] (fun r2539 : Int => IR r2539) (fun r2539 => S) (fun r2539 => O) (fun r2539 => [(3, .int (zi r2539))]) 49 (fun r2539 h2540 => ?_) (fun r2541 : Unit => True) (fun r2541 => S) (fun r2541 => O) (fun r2541 => []) 57 (fun r2541 h2542 => ?_) (fun k2525 k2527 k2529 k2526 k2528 k2530 s2523 h2524 => ?_) h2522
    · refine r_iload_n (pc := 49) (j := 0) C dX7_holderOf_49 rfl rfl ?_
      exact r_ireturn C hQ rfl dX7_holderOf_50 (fun e => by cases e; exact ⟨h2540, rfl, rfl, rfl, rfl, rfl⟩)
    · refine r_iconst (v := (-1)) C dX7_holderOf_57 (by decide) ?_
      exact r_ireturn C hQ rfl dX7_holderOf_58 (fun e => by cases e; exact ⟨(IRd rfl), rfl, rfl, rfl, rfl, rfl⟩)
    · refine r_iload_n (pc := 21) (j := 3) C dX7_holderOf_21 rfl rfl ?_
      refine r_if_lt (tgt := 57) C h2524 dX7_holderOf_22 (by decide) (fun c2531 => ?_) (fun c2531 => ?_)
      · refine r_bt c2531 ?_
        refine r_L (L' := []) [] rfl ?_
        exact k2530 () trivial
      · refine r_bf c2531 ?_
        refine r_aload_n (pc := 25) (j := 0) C dX7_holderOf_25 rfl rfl ?_
        refine r_getR (j := 6) (r := (p + 13)) C cl_X7 (gSt_k hp).1 (gSt_k hp).2.1 (by decide) rfl (hp.2.2 (0, 6, 13) (by decide)) (by omega) q_525 dX7_holderOf_26 ?_
        refine r_iload_n (pc := 29) (j := 3) C dX7_holderOf_29 rfl rfl ?_
        refine r_cV1 (pc := 30) (k := (p + 13)) (As := [.int (zi s2523)]) (st := []) C (m_X6_at (p := (p + 13)) (a1 := s2523) (gSt_w hp (i := 6) (by decide)) h2524 rfl) cal_X6_at cl_X6 (gRw_k (gSt_w hp (i := 6) (by decide))).1 (gRw_k (gSt_w hp (i := 6) (by decide))).2.1 q_1046 dX7_holderOf_30 rfl rfl (Nat.le_of_ble_eq_true rfl) (Nat.le_of_ble_eq_true rfl) (Nat.le_of_ble_eq_true rfl) (Nat.le_of_ble_eq_true rfl) (Nat.le_of_ble_eq_true rfl) (fun h2532 => ?_)
        refine r_iload_n (pc := 33) (j := 1) C dX7_holderOf_33 rfl rfl ?_
        refine r_cut (f_X6_at (p + 13) s2523 S = a1 ∧ ¬ a2 < f_X6_at (p + 15) s2523 S) 49 51 [] (fun c2534 => ?_) (fun c2534 => ?_) (fun k2535 k2536 => ?_)
        · refine r_bt c2534 ?_
          refine r_L (L' := [(3, .int (zi s2523))]) [3] rfl ?_
          exact k2528 s2523 h2524
        · refine r_bf c2534 ?_
          refine r_iinc (j := 3) (L' := [(3, .int (zi (wr (s2523 + (-1))))), (0, .ref (zad E p)), (1, .int (zi a1)), (2, .int (zi a2))]) C dX7_holderOf_51 rfl (by decide) rfl ?_
          refine r_goto (tgt := 21) C dX7_holderOf_54 (by decide) ?_
          refine r_L (L' := [(0, .ref (zad E p)), (1, .int (zi a1)), (2, .int (zi a2)), (3, .int (zi (wr (s2523 + (-1)))))]) [1, 2, 3, 0] rfl ?_
          exact k2526 (wr (s2523 + (-1))) (IR_wr _)
        · refine r_icmp_ne (tgt := 51) C h2532 ha1 dX7_holderOf_34 (by decide) (fun c2537 => ?_) (fun c2537 => ?_)
          · exact k2536 (fun w => c2537 w.1)
          · refine r_aload_n (pc := 37) (j := 0) C dX7_holderOf_37 rfl rfl ?_
            refine r_getR (j := 7) (r := (p + 15)) C cl_X7 (gSt_k hp).1 (gSt_k hp).2.1 (by decide) rfl (hp.2.2 (0, 7, 15) (by decide)) (by omega) q_527 dX7_holderOf_38 ?_
            refine r_iload_n (pc := 41) (j := 3) C dX7_holderOf_41 rfl rfl ?_
            refine r_cV1 (pc := 42) (k := (p + 15)) (As := [.int (zi s2523)]) (st := []) C (m_X6_at (p := (p + 15)) (a1 := s2523) (gSt_w hp (i := 7) (by decide)) h2524 rfl) cal_X6_at cl_X6 (gRw_k (gSt_w hp (i := 7) (by decide))).1 (gRw_k (gSt_w hp (i := 7) (by decide))).2.1 q_1046 dX7_holderOf_42 rfl rfl (Nat.le_of_ble_eq_true rfl) (Nat.le_of_ble_eq_true rfl) (Nat.le_of_ble_eq_true rfl) (Nat.le_of_ble_eq_true rfl) (Nat.le_of_ble_eq_true rfl) (fun h2533 => ?_)
            refine r_iload_n (pc := 45) (j := 2) C dX7_holderOf_45 rfl rfl ?_
            refine r_icmp_gt (tgt := 51) C h2533 ha2 dX7_holderOf_46 (by decide) (fun c2538 => ?_) (fun c2538 => ?_)
            · exact k2536 (fun w => w.2 c2538)
            · exact k2535 ⟨c2537, c2538⟩
  · refine r_t c2519 ?_
    refine r_iconst (v := (-1)) C dX7_holderOf_9 (by decide) ?_
    exact r_ireturn C hQ rfl dX7_holderOf_10 (fun e => by cases e; exact ⟨(IRd rfl), rfl, rfl, rfl, rfl, rfl⟩)

def f_X7_shrink (p : Nat) (S : Sst) : Option (Sst) :=
  jn (f_X7_newest p S) fun (v2650 : Int) =>
  if v2650 < 1 then
    (some S)
  else
    (Option.bind (lp (fun (s2653 : Int) =>
      if (s2653 < f_X6_size (p + 15) S ∧ f_X6_at (p + 15) s2653 S < v2650) then
        (some (Sum.inl (wr (s2653 + 1))))
      else
        (some (Sum.inr s2653))) FU 0) fun (r2666 : Int) =>
    jn (f_X7_keepNodes p r2666 S) fun (q2669 : Sst) =>
    Option.bind (lp (fun (s2671 : Int × Sst) =>
      if s2671.1 < r2666 then
        (Option.bind (f_X7_usedAhead p s2671.1 v2650 s2671.2) fun (q2679 : Int) =>
        jn (f_X6_put (p + 21) s2671.1 q2679 s2671.2) fun (q2682 : Sst) =>
        some (Sum.inl (wr (s2671.1 + 1), q2682)))
      else
        (some (Sum.inr s2671.2))) FU (0, q2669)) fun (r2684 : Sst) =>
    jn (f_X7_keepVersions p v2650 r2684) fun (q2687 : Sst) =>
    Option.bind (lp (fun (s2689 : Int × Sst) =>
      if s2689.1 < 8 then
        (Option.bind (f_X7_holderOf p s2689.1 (wr (v2650 - 1)) s2689.2) fun (q2697 : Int) =>
        jn (f_X6_put (p + 31) s2689.1 q2697 s2689.2) fun (q2700 : Sst) =>
        some (Sum.inl (wr (s2689.1 + 1), q2700)))
      else
        (some (Sum.inr s2689.2))) FU (0, q2687)) fun (r2702 : Sst) =>
    some r2702)
set_option maxRecDepth 100000 in
set_option maxHeartbeats 4000000 in
theorem m_X7_shrink {l : Launch} {E : EwT} {S : Sst} {O : Smo} {p : Nat} (hp : gSt n0 R0 p) {q : Sst} (hq : f_X7_shrink p S = some q) : MetG l E yX7_shrink cX7_shrink 4 none 3 66 0 0 n0 R0 S O [.ref (zad E p)] (True) none n0 R0 q O := by
  refine ofG (L0 := [(0, .ref (zad E p))]) hq (by decide +kernel) (Nat.le_of_ble_eq_true rfl) rfl (fun K _ C hQ => ?_)
  unfold f_X7_shrink
  refine r_aload_n (pc := 0) (j := 0) C dX7_shrink_0 rfl rfl ?_
  refine r_cV1 (pc := 1) (k := p) (As := []) (st := []) C (m_X7_newest (p := p) hp rfl) cal_X7_newest cl_X7 (gSt_k hp).1 (gSt_k hp).2.1 q_1153 dX7_shrink_1 rfl rfl (Nat.le_of_ble_eq_true rfl) (Nat.le_of_ble_eq_true rfl) (Nat.le_of_ble_eq_true rfl) (Nat.le_of_ble_eq_true rfl) (Nat.le_of_ble_eq_true rfl) (fun h2649 => ?_)
  refine r_jv h2649 (fun v2650 h2651 => ?_)
  refine r_istore_n (L' := [(1, .int (zi v2650)), (0, .ref (zad E p))]) C dX7_shrink_4 rfl (by decide) rfl ?_
  refine r_iload_n (pc := 5) (j := 0) C dX7_shrink_5 rfl rfl ?_
  refine r_iconst (v := 1) C dX7_shrink_6 (by decide) ?_
  refine r_icmp_ge (tgt := 11) C h2651 (IRd rfl) dX7_shrink_7 (by decide) (fun c2652 => ?_) (fun c2652 => ?_)
  · refine r_f c2652 ?_
    refine r_iconst (v := 0) C dX7_shrink_11 (by decide) ?_
    refine r_istore_n (L' := [(2, .int (zi 0)), (1, .int (zi v2650)), (0, .ref (zad E p))]) C dX7_shrink_12 rfl (by decide) rfl ?_
    refine r_L (L' := [(0, .ref (zad E p)), (1, .int (zi v2650)), (2, .int (zi 0))]) [2, 1, 0] rfl ?_
    refine r_loop1 (fun s2653 : Int => IR s2653) (fun s2653 => S) (fun s2653 => O) (fun s2653 => [(0, .ref (zad E p)), (1, .int (zi v2650)), (2, .int (zi s2653))]) [] (fun r2666 : Int => IR r2666) (fun r2666 => S) (fun r2666 => O) (fun r2666 => [(0, .ref (zad E p)), (1, .int (zi v2650)), (2, .int (zi r2666))]) 42 (fun r2666 h2667 => ?_) (fun k2655 k2657 k2656 k2658 s2653 h2654 => ?_) (IRd rfl)
    · refine r_aload_n (pc := 42) (j := 0) C dX7_shrink_42 rfl rfl ?_
      refine r_iload_n (pc := 43) (j := 2) C dX7_shrink_43 rfl rfl ?_
      refine r_jn (fun q2669 e2670 => ?_)
      refine r_cV0 (pc := 44) (k := p) (As := [.int (zi r2666)]) (st := []) C (m_X7_keepNodes (p := p) (a1 := r2666) hp h2667 e2670) cal_X7_keepNodes cl_X7 (gSt_k hp).1 (gSt_k hp).2.1 q_493 dX7_shrink_44 rfl rfl (Nat.le_of_ble_eq_true rfl) (Nat.le_of_ble_eq_true rfl) (Nat.le_of_ble_eq_true rfl) (Nat.le_of_ble_eq_true rfl) (Nat.le_of_ble_eq_true rfl) (fun h2668 => ?_)
      refine r_iconst (v := 0) C dX7_shrink_47 (by decide) ?_
      refine r_istore_n (L' := [(3, .int (zi 0)), (0, .ref (zad E p)), (1, .int (zi v2650)), (2, .int (zi r2666))]) C dX7_shrink_48 rfl (by decide) rfl ?_
      refine r_L (L' := [(0, .ref (zad E p)), (1, .int (zi v2650)), (2, .int (zi r2666)), (3, .int (zi 0))]) [1, 2, 3, 0] rfl ?_
      refine r_loop1 (fun s2671 : Int × Sst => IR s2671.1) (fun s2671 => s2671.2) (fun s2671 => O) (fun s2671 => [(0, .ref (zad E p)), (1, .int (zi v2650)), (2, .int (zi r2666)), (3, .int (zi s2671.1))]) [] (fun r2684 : Sst => True) (fun r2684 => r2684) (fun r2684 => O) (fun r2684 => [(0, .ref (zad E p)), (1, .int (zi v2650))]) 74 (fun r2684 h2685 => ?_) (fun k2673 k2675 k2674 k2676 s2671 h2672 => ?_) (IRd rfl)
      · refine r_aload_n (pc := 74) (j := 0) C dX7_shrink_74 rfl rfl ?_
        refine r_iload_n (pc := 75) (j := 1) C dX7_shrink_75 rfl rfl ?_
        refine r_jn (fun q2687 e2688 => ?_)
        refine r_cV0 (pc := 76) (k := p) (As := [.int (zi v2650)]) (st := []) C (m_X7_keepVersions (p := p) (a1 := v2650) hp h2651 e2688) cal_X7_keepVersions cl_X7 (gSt_k hp).1 (gSt_k hp).2.1 q_485 dX7_shrink_76 rfl rfl (Nat.le_of_ble_eq_true rfl) (Nat.le_of_ble_eq_true rfl) (Nat.le_of_ble_eq_true rfl) (Nat.le_of_ble_eq_true rfl) (Nat.le_of_ble_eq_true rfl) (fun h2686 => ?_)
        refine r_iconst (v := 0) C dX7_shrink_79 (by decide) ?_
        refine r_istore_n (L' := [(3, .int (zi 0)), (0, .ref (zad E p)), (1, .int (zi v2650))]) C dX7_shrink_80 rfl (by decide) rfl ?_
        refine r_L (L' := [(0, .ref (zad E p)), (1, .int (zi v2650)), (3, .int (zi 0))]) [1, 2, 0] rfl ?_
        refine r_loop1 (fun s2689 : Int × Sst => IR s2689.1) (fun s2689 => s2689.2) (fun s2689 => O) (fun s2689 => [(0, .ref (zad E p)), (1, .int (zi v2650)), (3, .int (zi s2689.1))]) [] (fun r2702 : Sst => True) (fun r2702 => r2702) (fun r2702 => O) (fun r2702 => []) 109 (fun r2702 h2703 => ?_) (fun k2691 k2693 k2692 k2694 s2689 h2690 => ?_) (IRd rfl)
        · exact r_return C hQ dX7_shrink_109 (fun e => by cases e; exact ⟨trivial, rfl, rfl, rfl, rfl, rfl⟩)
        · refine r_iload_n (pc := 81) (j := 2) C dX7_shrink_81 rfl rfl ?_
          refine r_bipush (v := 8) C dX7_shrink_82 (by decide) ?_
          refine r_icmp_ge (tgt := 109) C h2690 (IRd rfl) dX7_shrink_84 (by decide) (fun c2695 => ?_) (fun c2695 => ?_)
          · refine r_bf c2695 ?_
            refine r_L (L' := []) [] rfl ?_
            exact k2694 s2689.2 trivial
          · refine r_bt c2695 ?_
            refine r_aload_n (pc := 87) (j := 0) C dX7_shrink_87 rfl rfl ?_
            refine r_getR (j := 15) (r := (p + 31)) C cl_X7 (gSt_k hp).1 (gSt_k hp).2.1 (by decide) rfl (hp.2.2 (0, 15, 31) (by decide)) (by omega) q_542 dX7_shrink_88 ?_
            refine r_iload_n (pc := 91) (j := 2) C dX7_shrink_91 rfl rfl ?_
            refine r_aload_n (pc := 92) (j := 0) C dX7_shrink_92 rfl rfl ?_
            refine r_iload_n (pc := 93) (j := 2) C dX7_shrink_93 rfl rfl ?_
            refine r_iload_n (pc := 94) (j := 1) C dX7_shrink_94 rfl rfl ?_
            refine r_iconst (v := 1) C dX7_shrink_95 (by decide) ?_
            refine r_isub C dX7_shrink_96 ?_
            refine r_bb ?_
            refine r_bd (fun q2697 e2698 => ?_)
            refine r_cV1 (pc := 97) (k := p) (As := [.int (zi s2689.1), .int (zi (wr (v2650 - 1)))]) (st := [.int (zi s2689.1), .ref (zad E (p + 31))]) C (m_X7_holderOf (p := p) (a1 := s2689.1) (a2 := wr (v2650 - 1)) hp h2690 (IR_wr _) e2698) cal_X7_holderOf cl_X7 (gSt_k hp).1 (gSt_k hp).2.1 q_1208 dX7_shrink_97 rfl rfl (Nat.le_of_ble_eq_true rfl) (Nat.le_of_ble_eq_true rfl) (Nat.le_of_ble_eq_true rfl) (Nat.le_of_ble_eq_true rfl) (Nat.le_of_ble_eq_true rfl) (fun h2696 => ?_)
            refine r_bj ?_
            refine r_jn (fun q2700 e2701 => ?_)
            refine r_cV0 (pc := 100) (k := (p + 31)) (As := [.int (zi s2689.1), .int (zi q2697)]) (st := []) C (m_X6_put (p := (p + 31)) (a1 := s2689.1) (a2 := q2697) (gSt_w hp (i := 15) (by decide)) h2690 h2696 e2701) cal_X6_put cl_X6 (gRw_k (gSt_w hp (i := 15) (by decide))).1 (gRw_k (gSt_w hp (i := 15) (by decide))).2.1 q_1159 dX7_shrink_100 rfl rfl (Nat.le_of_ble_eq_true rfl) (Nat.le_of_ble_eq_true rfl) (Nat.le_of_ble_eq_true rfl) (Nat.le_of_ble_eq_true rfl) (Nat.le_of_ble_eq_true rfl) (fun h2699 => ?_)
            refine r_iinc (j := 2) (L' := [(3, .int (zi (wr (s2689.1 + 1)))), (0, .ref (zad E p)), (1, .int (zi v2650))]) C dX7_shrink_103 rfl (by decide) rfl ?_
            refine r_goto (tgt := 81) C dX7_shrink_106 (by decide) ?_
            refine r_L (L' := [(0, .ref (zad E p)), (1, .int (zi v2650)), (3, .int (zi (wr (s2689.1 + 1))))]) [1, 2, 0] rfl ?_
            exact k2692 (wr (s2689.1 + 1), q2700) (IR_wr _)
      · refine r_iload_n (pc := 49) (j := 3) C dX7_shrink_49 rfl rfl ?_
        refine r_iload_n (pc := 50) (j := 2) C dX7_shrink_50 rfl rfl ?_
        refine r_icmp_ge (tgt := 74) C h2672 h2667 dX7_shrink_51 (by decide) (fun c2677 => ?_) (fun c2677 => ?_)
        · refine r_bf c2677 ?_
          refine r_L (L' := [(0, .ref (zad E p)), (1, .int (zi v2650))]) [0, 1] rfl ?_
          exact k2676 s2671.2 trivial
        · refine r_bt c2677 ?_
          refine r_aload_n (pc := 54) (j := 0) C dX7_shrink_54 rfl rfl ?_
          refine r_getR (j := 10) (r := (p + 21)) C cl_X7 (gSt_k hp).1 (gSt_k hp).2.1 (by decide) rfl (hp.2.2 (0, 10, 21) (by decide)) (by omega) q_533 dX7_shrink_55 ?_
          refine r_iload_n (pc := 58) (j := 3) C dX7_shrink_58 rfl rfl ?_
          refine r_aload_n (pc := 59) (j := 0) C dX7_shrink_59 rfl rfl ?_
          refine r_iload_n (pc := 60) (j := 3) C dX7_shrink_60 rfl rfl ?_
          refine r_iload_n (pc := 61) (j := 1) C dX7_shrink_61 rfl rfl ?_
          refine r_bb ?_
          refine r_bd (fun q2679 e2680 => ?_)
          refine r_cV1 (pc := 62) (k := p) (As := [.int (zi s2671.1), .int (zi v2650)]) (st := [.int (zi s2671.1), .ref (zad E (p + 21))]) C (m_X7_usedAhead (p := p) (a1 := s2671.1) (a2 := v2650) hp h2672 h2651 e2680) cal_X7_usedAhead cl_X7 (gSt_k hp).1 (gSt_k hp).2.1 q_1204 dX7_shrink_62 rfl rfl (Nat.le_of_ble_eq_true rfl) (Nat.le_of_ble_eq_true rfl) (Nat.le_of_ble_eq_true rfl) (Nat.le_of_ble_eq_true rfl) (Nat.le_of_ble_eq_true rfl) (fun h2678 => ?_)
          refine r_bj ?_
          refine r_jn (fun q2682 e2683 => ?_)
          refine r_cV0 (pc := 65) (k := (p + 21)) (As := [.int (zi s2671.1), .int (zi q2679)]) (st := []) C (m_X6_put (p := (p + 21)) (a1 := s2671.1) (a2 := q2679) (gSt_w hp (i := 10) (by decide)) h2672 h2678 e2683) cal_X6_put cl_X6 (gRw_k (gSt_w hp (i := 10) (by decide))).1 (gRw_k (gSt_w hp (i := 10) (by decide))).2.1 q_1159 dX7_shrink_65 rfl rfl (Nat.le_of_ble_eq_true rfl) (Nat.le_of_ble_eq_true rfl) (Nat.le_of_ble_eq_true rfl) (Nat.le_of_ble_eq_true rfl) (Nat.le_of_ble_eq_true rfl) (fun h2681 => ?_)
          refine r_iinc (j := 3) (L' := [(3, .int (zi (wr (s2671.1 + 1)))), (0, .ref (zad E p)), (1, .int (zi v2650)), (2, .int (zi r2666))]) C dX7_shrink_68 rfl (by decide) rfl ?_
          refine r_goto (tgt := 49) C dX7_shrink_71 (by decide) ?_
          refine r_L (L' := [(0, .ref (zad E p)), (1, .int (zi v2650)), (2, .int (zi r2666)), (3, .int (zi (wr (s2671.1 + 1))))]) [1, 2, 3, 0] rfl ?_
          exact k2674 (wr (s2671.1 + 1), q2682) (IR_wr _)
    · refine r_iload_n (pc := 13) (j := 2) C dX7_shrink_13 rfl rfl ?_
      refine r_aload_n (pc := 14) (j := 0) C dX7_shrink_14 rfl rfl ?_
      refine r_getR (j := 7) (r := (p + 15)) C cl_X7 (gSt_k hp).1 (gSt_k hp).2.1 (by decide) rfl (hp.2.2 (0, 7, 15) (by decide)) (by omega) q_527 dX7_shrink_15 ?_
      refine r_cV1 (pc := 18) (k := (p + 15)) (As := []) (st := [.int (zi s2653)]) C (m_X6_size (p := (p + 15)) (gSt_w hp (i := 7) (by decide)) rfl) cal_X6_size cl_X6 (gRw_k (gSt_w hp (i := 7) (by decide))).1 (gRw_k (gSt_w hp (i := 7) (by decide))).2.1 q_1040 dX7_shrink_18 rfl rfl (Nat.le_of_ble_eq_true rfl) (Nat.le_of_ble_eq_true rfl) (Nat.le_of_ble_eq_true rfl) (Nat.le_of_ble_eq_true rfl) (Nat.le_of_ble_eq_true rfl) (fun h2659 => ?_)
      refine r_cut (s2653 < f_X6_size (p + 15) S ∧ f_X6_at (p + 15) s2653 S < v2650) 36 42 [] (fun c2661 => ?_) (fun c2661 => ?_) (fun k2662 k2663 => ?_)
      · refine r_bt c2661 ?_
        refine r_iinc (j := 2) (L' := [(2, .int (zi (wr (s2653 + 1)))), (0, .ref (zad E p)), (1, .int (zi v2650))]) C dX7_shrink_36 rfl (by decide) rfl ?_
        refine r_goto (tgt := 13) C dX7_shrink_39 (by decide) ?_
        refine r_L (L' := [(0, .ref (zad E p)), (1, .int (zi v2650)), (2, .int (zi (wr (s2653 + 1))))]) [1, 2, 0] rfl ?_
        exact k2656 (wr (s2653 + 1)) (IR_wr _)
      · refine r_bf c2661 ?_
        exact k2658 s2653 h2654
      · refine r_icmp_ge (tgt := 42) C h2654 h2659 dX7_shrink_21 (by decide) (fun c2664 => ?_) (fun c2664 => ?_)
        · exact k2663 (fun w => c2664 w.1)
        · refine r_aload_n (pc := 24) (j := 0) C dX7_shrink_24 rfl rfl ?_
          refine r_getR (j := 7) (r := (p + 15)) C cl_X7 (gSt_k hp).1 (gSt_k hp).2.1 (by decide) rfl (hp.2.2 (0, 7, 15) (by decide)) (by omega) q_527 dX7_shrink_25 ?_
          refine r_iload_n (pc := 28) (j := 2) C dX7_shrink_28 rfl rfl ?_
          refine r_cV1 (pc := 29) (k := (p + 15)) (As := [.int (zi s2653)]) (st := []) C (m_X6_at (p := (p + 15)) (a1 := s2653) (gSt_w hp (i := 7) (by decide)) h2654 rfl) cal_X6_at cl_X6 (gRw_k (gSt_w hp (i := 7) (by decide))).1 (gRw_k (gSt_w hp (i := 7) (by decide))).2.1 q_1046 dX7_shrink_29 rfl rfl (Nat.le_of_ble_eq_true rfl) (Nat.le_of_ble_eq_true rfl) (Nat.le_of_ble_eq_true rfl) (Nat.le_of_ble_eq_true rfl) (Nat.le_of_ble_eq_true rfl) (fun h2660 => ?_)
          refine r_iload_n (pc := 32) (j := 1) C dX7_shrink_32 rfl rfl ?_
          refine r_icmp_ge (tgt := 42) C h2660 h2651 dX7_shrink_33 (by decide) (fun c2665 => ?_) (fun c2665 => ?_)
          · exact k2663 (fun w => c2665 w.2)
          · exact k2662 ⟨c2664, c2665⟩
  · refine r_t c2652 ?_
    exact r_return C hQ dX7_shrink_10 (fun e => by cases e; exact ⟨trivial, rfl, rfl, rfl, rfl, rfl⟩)

def f_X7_takeFrom (p : Nat) (o1 : Nat) (S : Sst) : Sst :=
  jn (f_X6_takeFrom (p + 1) (o1 + 1) S) fun (q2728 : Sst) =>
  jn (f_X6_takeFrom (p + 3) (o1 + 3) q2728) fun (q2731 : Sst) =>
  jn (f_X6_takeFrom (p + 5) (o1 + 5) q2731) fun (q2734 : Sst) =>
  jn (f_X6_takeFrom (p + 7) (o1 + 7) q2734) fun (q2737 : Sst) =>
  jn (f_X6_takeFrom (p + 9) (o1 + 9) q2737) fun (q2740 : Sst) =>
  jn (f_X6_takeFrom (p + 11) (o1 + 11) q2740) fun (q2743 : Sst) =>
  jn (f_X6_takeFrom (p + 13) (o1 + 13) q2743) fun (q2746 : Sst) =>
  jn (f_X6_takeFrom (p + 15) (o1 + 15) q2746) fun (q2749 : Sst) =>
  jn (f_X6_takeFrom (p + 17) (o1 + 17) q2749) fun (q2752 : Sst) =>
  jn (f_X6_takeFrom (p + 19) (o1 + 19) q2752) fun (q2755 : Sst) =>
  jn (f_X6_takeFrom (p + 21) (o1 + 21) q2755) fun (q2758 : Sst) =>
  jn (f_X6_takeFrom (p + 23) (o1 + 23) q2758) fun (q2761 : Sst) =>
  jn (f_X6_takeFrom (p + 25) (o1 + 25) q2761) fun (q2764 : Sst) =>
  jn (f_X6_takeFrom (p + 27) (o1 + 27) q2764) fun (q2767 : Sst) =>
  jn (f_X6_takeFrom (p + 29) (o1 + 29) q2767) fun (q2770 : Sst) =>
  jn (f_X6_takeFrom (p + 31) (o1 + 31) q2770) fun (q2773 : Sst) =>
  q2773
set_option maxRecDepth 100000 in
set_option maxHeartbeats 4000000 in
theorem m_X7_takeFrom {l : Launch} {E : EwT} {S : Sst} {O : Smo} {p : Nat} (hp : gSt n0 R0 p) {o1 : Nat} (ho1 : gSt n0 R0 o1) {q : Sst} (hq : f_X7_takeFrom p o1 S = q) : MetG l E yX7_takeFrom cX7_takeFrom 2 none 2 43 0 0 n0 R0 S O [.ref (zad E p), .ref (zad E o1)] (True) none n0 R0 q O := by
  refine ofG (L0 := [(0, .ref (zad E p)), (1, .ref (zad E o1))]) hq (by decide +kernel) (Nat.le_of_ble_eq_true rfl) rfl (fun K _ C hQ => ?_)
  unfold f_X7_takeFrom
  refine r_aload_n (pc := 0) (j := 0) C dX7_takeFrom_0 rfl rfl ?_
  refine r_getR (j := 0) (r := (p + 1)) C cl_X7 (gSt_k hp).1 (gSt_k hp).2.1 (by decide) rfl (hp.2.2 (0, 0, 1) (by decide)) (by omega) q_507 dX7_takeFrom_1 ?_
  refine r_aload_n (pc := 4) (j := 1) C dX7_takeFrom_4 rfl rfl ?_
  refine r_getR (j := 0) (r := (o1 + 1)) C cl_X7 (gSt_k ho1).1 (gSt_k ho1).2.1 (by decide) rfl (ho1.2.2 (0, 0, 1) (by decide)) (by omega) q_507 dX7_takeFrom_5 ?_
  refine r_jn (fun q2728 e2729 => ?_)
  refine r_cV0 (pc := 8) (k := (p + 1)) (As := [.ref (zad E (o1 + 1))]) (st := []) C (m_X6_takeFrom (p := (p + 1)) (o1 := (o1 + 1)) (gSt_w hp (i := 0) (by decide)) (gSt_w ho1 (i := 0) (by decide)) e2729) cal_X6_takeFrom cl_X6 (gRw_k (gSt_w hp (i := 0) (by decide))).1 (gRw_k (gSt_w hp (i := 0) (by decide))).2.1 q_1232 dX7_takeFrom_8 rfl rfl (Nat.le_of_ble_eq_true rfl) (Nat.le_of_ble_eq_true rfl) (Nat.le_of_ble_eq_true rfl) (Nat.le_of_ble_eq_true rfl) (Nat.le_of_ble_eq_true rfl) (fun h2727 => ?_)
  refine r_aload_n (pc := 11) (j := 0) C dX7_takeFrom_11 rfl rfl ?_
  refine r_getR (j := 1) (r := (p + 3)) C cl_X7 (gSt_k hp).1 (gSt_k hp).2.1 (by decide) rfl (hp.2.2 (0, 1, 3) (by decide)) (by omega) q_511 dX7_takeFrom_12 ?_
  refine r_aload_n (pc := 15) (j := 1) C dX7_takeFrom_15 rfl rfl ?_
  refine r_getR (j := 1) (r := (o1 + 3)) C cl_X7 (gSt_k ho1).1 (gSt_k ho1).2.1 (by decide) rfl (ho1.2.2 (0, 1, 3) (by decide)) (by omega) q_511 dX7_takeFrom_16 ?_
  refine r_jn (fun q2731 e2732 => ?_)
  refine r_cV0 (pc := 19) (k := (p + 3)) (As := [.ref (zad E (o1 + 3))]) (st := []) C (m_X6_takeFrom (p := (p + 3)) (o1 := (o1 + 3)) (gSt_w hp (i := 1) (by decide)) (gSt_w ho1 (i := 1) (by decide)) e2732) cal_X6_takeFrom cl_X6 (gRw_k (gSt_w hp (i := 1) (by decide))).1 (gRw_k (gSt_w hp (i := 1) (by decide))).2.1 q_1232 dX7_takeFrom_19 rfl rfl (Nat.le_of_ble_eq_true rfl) (Nat.le_of_ble_eq_true rfl) (Nat.le_of_ble_eq_true rfl) (Nat.le_of_ble_eq_true rfl) (Nat.le_of_ble_eq_true rfl) (fun h2730 => ?_)
  refine r_aload_n (pc := 22) (j := 0) C dX7_takeFrom_22 rfl rfl ?_
  refine r_getR (j := 2) (r := (p + 5)) C cl_X7 (gSt_k hp).1 (gSt_k hp).2.1 (by decide) rfl (hp.2.2 (0, 2, 5) (by decide)) (by omega) q_515 dX7_takeFrom_23 ?_
  refine r_aload_n (pc := 26) (j := 1) C dX7_takeFrom_26 rfl rfl ?_
  refine r_getR (j := 2) (r := (o1 + 5)) C cl_X7 (gSt_k ho1).1 (gSt_k ho1).2.1 (by decide) rfl (ho1.2.2 (0, 2, 5) (by decide)) (by omega) q_515 dX7_takeFrom_27 ?_
  refine r_jn (fun q2734 e2735 => ?_)
  refine r_cV0 (pc := 30) (k := (p + 5)) (As := [.ref (zad E (o1 + 5))]) (st := []) C (m_X6_takeFrom (p := (p + 5)) (o1 := (o1 + 5)) (gSt_w hp (i := 2) (by decide)) (gSt_w ho1 (i := 2) (by decide)) e2735) cal_X6_takeFrom cl_X6 (gRw_k (gSt_w hp (i := 2) (by decide))).1 (gRw_k (gSt_w hp (i := 2) (by decide))).2.1 q_1232 dX7_takeFrom_30 rfl rfl (Nat.le_of_ble_eq_true rfl) (Nat.le_of_ble_eq_true rfl) (Nat.le_of_ble_eq_true rfl) (Nat.le_of_ble_eq_true rfl) (Nat.le_of_ble_eq_true rfl) (fun h2733 => ?_)
  refine r_aload_n (pc := 33) (j := 0) C dX7_takeFrom_33 rfl rfl ?_
  refine r_getR (j := 3) (r := (p + 7)) C cl_X7 (gSt_k hp).1 (gSt_k hp).2.1 (by decide) rfl (hp.2.2 (0, 3, 7) (by decide)) (by omega) q_518 dX7_takeFrom_34 ?_
  refine r_aload_n (pc := 37) (j := 1) C dX7_takeFrom_37 rfl rfl ?_
  refine r_getR (j := 3) (r := (o1 + 7)) C cl_X7 (gSt_k ho1).1 (gSt_k ho1).2.1 (by decide) rfl (ho1.2.2 (0, 3, 7) (by decide)) (by omega) q_518 dX7_takeFrom_38 ?_
  refine r_jn (fun q2737 e2738 => ?_)
  refine r_cV0 (pc := 41) (k := (p + 7)) (As := [.ref (zad E (o1 + 7))]) (st := []) C (m_X6_takeFrom (p := (p + 7)) (o1 := (o1 + 7)) (gSt_w hp (i := 3) (by decide)) (gSt_w ho1 (i := 3) (by decide)) e2738) cal_X6_takeFrom cl_X6 (gRw_k (gSt_w hp (i := 3) (by decide))).1 (gRw_k (gSt_w hp (i := 3) (by decide))).2.1 q_1232 dX7_takeFrom_41 rfl rfl (Nat.le_of_ble_eq_true rfl) (Nat.le_of_ble_eq_true rfl) (Nat.le_of_ble_eq_true rfl) (Nat.le_of_ble_eq_true rfl) (Nat.le_of_ble_eq_true rfl) (fun h2736 => ?_)
  refine r_aload_n (pc := 44) (j := 0) C dX7_takeFrom_44 rfl rfl ?_
  refine r_getR (j := 4) (r := (p + 9)) C cl_X7 (gSt_k hp).1 (gSt_k hp).2.1 (by decide) rfl (hp.2.2 (0, 4, 9) (by decide)) (by omega) q_521 dX7_takeFrom_45 ?_
  refine r_aload_n (pc := 48) (j := 1) C dX7_takeFrom_48 rfl rfl ?_
  refine r_getR (j := 4) (r := (o1 + 9)) C cl_X7 (gSt_k ho1).1 (gSt_k ho1).2.1 (by decide) rfl (ho1.2.2 (0, 4, 9) (by decide)) (by omega) q_521 dX7_takeFrom_49 ?_
  refine r_jn (fun q2740 e2741 => ?_)
  refine r_cV0 (pc := 52) (k := (p + 9)) (As := [.ref (zad E (o1 + 9))]) (st := []) C (m_X6_takeFrom (p := (p + 9)) (o1 := (o1 + 9)) (gSt_w hp (i := 4) (by decide)) (gSt_w ho1 (i := 4) (by decide)) e2741) cal_X6_takeFrom cl_X6 (gRw_k (gSt_w hp (i := 4) (by decide))).1 (gRw_k (gSt_w hp (i := 4) (by decide))).2.1 q_1232 dX7_takeFrom_52 rfl rfl (Nat.le_of_ble_eq_true rfl) (Nat.le_of_ble_eq_true rfl) (Nat.le_of_ble_eq_true rfl) (Nat.le_of_ble_eq_true rfl) (Nat.le_of_ble_eq_true rfl) (fun h2739 => ?_)
  refine r_aload_n (pc := 55) (j := 0) C dX7_takeFrom_55 rfl rfl ?_
  refine r_getR (j := 5) (r := (p + 11)) C cl_X7 (gSt_k hp).1 (gSt_k hp).2.1 (by decide) rfl (hp.2.2 (0, 5, 11) (by decide)) (by omega) q_523 dX7_takeFrom_56 ?_
  refine r_aload_n (pc := 59) (j := 1) C dX7_takeFrom_59 rfl rfl ?_
  refine r_getR (j := 5) (r := (o1 + 11)) C cl_X7 (gSt_k ho1).1 (gSt_k ho1).2.1 (by decide) rfl (ho1.2.2 (0, 5, 11) (by decide)) (by omega) q_523 dX7_takeFrom_60 ?_
  refine r_jn (fun q2743 e2744 => ?_)
  refine r_cV0 (pc := 63) (k := (p + 11)) (As := [.ref (zad E (o1 + 11))]) (st := []) C (m_X6_takeFrom (p := (p + 11)) (o1 := (o1 + 11)) (gSt_w hp (i := 5) (by decide)) (gSt_w ho1 (i := 5) (by decide)) e2744) cal_X6_takeFrom cl_X6 (gRw_k (gSt_w hp (i := 5) (by decide))).1 (gRw_k (gSt_w hp (i := 5) (by decide))).2.1 q_1232 dX7_takeFrom_63 rfl rfl (Nat.le_of_ble_eq_true rfl) (Nat.le_of_ble_eq_true rfl) (Nat.le_of_ble_eq_true rfl) (Nat.le_of_ble_eq_true rfl) (Nat.le_of_ble_eq_true rfl) (fun h2742 => ?_)
  refine r_aload_n (pc := 66) (j := 0) C dX7_takeFrom_66 rfl rfl ?_
  refine r_getR (j := 6) (r := (p + 13)) C cl_X7 (gSt_k hp).1 (gSt_k hp).2.1 (by decide) rfl (hp.2.2 (0, 6, 13) (by decide)) (by omega) q_525 dX7_takeFrom_67 ?_
  refine r_aload_n (pc := 70) (j := 1) C dX7_takeFrom_70 rfl rfl ?_
  refine r_getR (j := 6) (r := (o1 + 13)) C cl_X7 (gSt_k ho1).1 (gSt_k ho1).2.1 (by decide) rfl (ho1.2.2 (0, 6, 13) (by decide)) (by omega) q_525 dX7_takeFrom_71 ?_
  refine r_jn (fun q2746 e2747 => ?_)
  refine r_cV0 (pc := 74) (k := (p + 13)) (As := [.ref (zad E (o1 + 13))]) (st := []) C (m_X6_takeFrom (p := (p + 13)) (o1 := (o1 + 13)) (gSt_w hp (i := 6) (by decide)) (gSt_w ho1 (i := 6) (by decide)) e2747) cal_X6_takeFrom cl_X6 (gRw_k (gSt_w hp (i := 6) (by decide))).1 (gRw_k (gSt_w hp (i := 6) (by decide))).2.1 q_1232 dX7_takeFrom_74 rfl rfl (Nat.le_of_ble_eq_true rfl) (Nat.le_of_ble_eq_true rfl) (Nat.le_of_ble_eq_true rfl) (Nat.le_of_ble_eq_true rfl) (Nat.le_of_ble_eq_true rfl) (fun h2745 => ?_)
  refine r_aload_n (pc := 77) (j := 0) C dX7_takeFrom_77 rfl rfl ?_
  refine r_getR (j := 7) (r := (p + 15)) C cl_X7 (gSt_k hp).1 (gSt_k hp).2.1 (by decide) rfl (hp.2.2 (0, 7, 15) (by decide)) (by omega) q_527 dX7_takeFrom_78 ?_
  refine r_aload_n (pc := 81) (j := 1) C dX7_takeFrom_81 rfl rfl ?_
  refine r_getR (j := 7) (r := (o1 + 15)) C cl_X7 (gSt_k ho1).1 (gSt_k ho1).2.1 (by decide) rfl (ho1.2.2 (0, 7, 15) (by decide)) (by omega) q_527 dX7_takeFrom_82 ?_
  refine r_jn (fun q2749 e2750 => ?_)
  refine r_cV0 (pc := 85) (k := (p + 15)) (As := [.ref (zad E (o1 + 15))]) (st := []) C (m_X6_takeFrom (p := (p + 15)) (o1 := (o1 + 15)) (gSt_w hp (i := 7) (by decide)) (gSt_w ho1 (i := 7) (by decide)) e2750) cal_X6_takeFrom cl_X6 (gRw_k (gSt_w hp (i := 7) (by decide))).1 (gRw_k (gSt_w hp (i := 7) (by decide))).2.1 q_1232 dX7_takeFrom_85 rfl rfl (Nat.le_of_ble_eq_true rfl) (Nat.le_of_ble_eq_true rfl) (Nat.le_of_ble_eq_true rfl) (Nat.le_of_ble_eq_true rfl) (Nat.le_of_ble_eq_true rfl) (fun h2748 => ?_)
  refine r_aload_n (pc := 88) (j := 0) C dX7_takeFrom_88 rfl rfl ?_
  refine r_getR (j := 8) (r := (p + 17)) C cl_X7 (gSt_k hp).1 (gSt_k hp).2.1 (by decide) rfl (hp.2.2 (0, 8, 17) (by decide)) (by omega) q_529 dX7_takeFrom_89 ?_
  refine r_aload_n (pc := 92) (j := 1) C dX7_takeFrom_92 rfl rfl ?_
  refine r_getR (j := 8) (r := (o1 + 17)) C cl_X7 (gSt_k ho1).1 (gSt_k ho1).2.1 (by decide) rfl (ho1.2.2 (0, 8, 17) (by decide)) (by omega) q_529 dX7_takeFrom_93 ?_
  refine r_jn (fun q2752 e2753 => ?_)
  refine r_cV0 (pc := 96) (k := (p + 17)) (As := [.ref (zad E (o1 + 17))]) (st := []) C (m_X6_takeFrom (p := (p + 17)) (o1 := (o1 + 17)) (gSt_w hp (i := 8) (by decide)) (gSt_w ho1 (i := 8) (by decide)) e2753) cal_X6_takeFrom cl_X6 (gRw_k (gSt_w hp (i := 8) (by decide))).1 (gRw_k (gSt_w hp (i := 8) (by decide))).2.1 q_1232 dX7_takeFrom_96 rfl rfl (Nat.le_of_ble_eq_true rfl) (Nat.le_of_ble_eq_true rfl) (Nat.le_of_ble_eq_true rfl) (Nat.le_of_ble_eq_true rfl) (Nat.le_of_ble_eq_true rfl) (fun h2751 => ?_)
  refine r_aload_n (pc := 99) (j := 0) C dX7_takeFrom_99 rfl rfl ?_
  refine r_getR (j := 9) (r := (p + 19)) C cl_X7 (gSt_k hp).1 (gSt_k hp).2.1 (by decide) rfl (hp.2.2 (0, 9, 19) (by decide)) (by omega) q_531 dX7_takeFrom_100 ?_
  refine r_aload_n (pc := 103) (j := 1) C dX7_takeFrom_103 rfl rfl ?_
  refine r_getR (j := 9) (r := (o1 + 19)) C cl_X7 (gSt_k ho1).1 (gSt_k ho1).2.1 (by decide) rfl (ho1.2.2 (0, 9, 19) (by decide)) (by omega) q_531 dX7_takeFrom_104 ?_
  refine r_jn (fun q2755 e2756 => ?_)
  refine r_cV0 (pc := 107) (k := (p + 19)) (As := [.ref (zad E (o1 + 19))]) (st := []) C (m_X6_takeFrom (p := (p + 19)) (o1 := (o1 + 19)) (gSt_w hp (i := 9) (by decide)) (gSt_w ho1 (i := 9) (by decide)) e2756) cal_X6_takeFrom cl_X6 (gRw_k (gSt_w hp (i := 9) (by decide))).1 (gRw_k (gSt_w hp (i := 9) (by decide))).2.1 q_1232 dX7_takeFrom_107 rfl rfl (Nat.le_of_ble_eq_true rfl) (Nat.le_of_ble_eq_true rfl) (Nat.le_of_ble_eq_true rfl) (Nat.le_of_ble_eq_true rfl) (Nat.le_of_ble_eq_true rfl) (fun h2754 => ?_)
  refine r_aload_n (pc := 110) (j := 0) C dX7_takeFrom_110 rfl rfl ?_
  refine r_getR (j := 10) (r := (p + 21)) C cl_X7 (gSt_k hp).1 (gSt_k hp).2.1 (by decide) rfl (hp.2.2 (0, 10, 21) (by decide)) (by omega) q_533 dX7_takeFrom_111 ?_
  refine r_aload_n (pc := 114) (j := 1) C dX7_takeFrom_114 rfl rfl ?_
  refine r_getR (j := 10) (r := (o1 + 21)) C cl_X7 (gSt_k ho1).1 (gSt_k ho1).2.1 (by decide) rfl (ho1.2.2 (0, 10, 21) (by decide)) (by omega) q_533 dX7_takeFrom_115 ?_
  refine r_jn (fun q2758 e2759 => ?_)
  refine r_cV0 (pc := 118) (k := (p + 21)) (As := [.ref (zad E (o1 + 21))]) (st := []) C (m_X6_takeFrom (p := (p + 21)) (o1 := (o1 + 21)) (gSt_w hp (i := 10) (by decide)) (gSt_w ho1 (i := 10) (by decide)) e2759) cal_X6_takeFrom cl_X6 (gRw_k (gSt_w hp (i := 10) (by decide))).1 (gRw_k (gSt_w hp (i := 10) (by decide))).2.1 q_1232 dX7_takeFrom_118 rfl rfl (Nat.le_of_ble_eq_true rfl) (Nat.le_of_ble_eq_true rfl) (Nat.le_of_ble_eq_true rfl) (Nat.le_of_ble_eq_true rfl) (Nat.le_of_ble_eq_true rfl) (fun h2757 => ?_)
  refine r_aload_n (pc := 121) (j := 0) C dX7_takeFrom_121 rfl rfl ?_
  refine r_getR (j := 11) (r := (p + 23)) C cl_X7 (gSt_k hp).1 (gSt_k hp).2.1 (by decide) rfl (hp.2.2 (0, 11, 23) (by decide)) (by omega) q_535 dX7_takeFrom_122 ?_
  refine r_aload_n (pc := 125) (j := 1) C dX7_takeFrom_125 rfl rfl ?_
  refine r_getR (j := 11) (r := (o1 + 23)) C cl_X7 (gSt_k ho1).1 (gSt_k ho1).2.1 (by decide) rfl (ho1.2.2 (0, 11, 23) (by decide)) (by omega) q_535 dX7_takeFrom_126 ?_
  refine r_jn (fun q2761 e2762 => ?_)
  refine r_cV0 (pc := 129) (k := (p + 23)) (As := [.ref (zad E (o1 + 23))]) (st := []) C (m_X6_takeFrom (p := (p + 23)) (o1 := (o1 + 23)) (gSt_w hp (i := 11) (by decide)) (gSt_w ho1 (i := 11) (by decide)) e2762) cal_X6_takeFrom cl_X6 (gRw_k (gSt_w hp (i := 11) (by decide))).1 (gRw_k (gSt_w hp (i := 11) (by decide))).2.1 q_1232 dX7_takeFrom_129 rfl rfl (Nat.le_of_ble_eq_true rfl) (Nat.le_of_ble_eq_true rfl) (Nat.le_of_ble_eq_true rfl) (Nat.le_of_ble_eq_true rfl) (Nat.le_of_ble_eq_true rfl) (fun h2760 => ?_)
  refine r_aload_n (pc := 132) (j := 0) C dX7_takeFrom_132 rfl rfl ?_
  refine r_getR (j := 12) (r := (p + 25)) C cl_X7 (gSt_k hp).1 (gSt_k hp).2.1 (by decide) rfl (hp.2.2 (0, 12, 25) (by decide)) (by omega) q_536 dX7_takeFrom_133 ?_
  refine r_aload_n (pc := 136) (j := 1) C dX7_takeFrom_136 rfl rfl ?_
  refine r_getR (j := 12) (r := (o1 + 25)) C cl_X7 (gSt_k ho1).1 (gSt_k ho1).2.1 (by decide) rfl (ho1.2.2 (0, 12, 25) (by decide)) (by omega) q_536 dX7_takeFrom_137 ?_
  refine r_jn (fun q2764 e2765 => ?_)
  refine r_cV0 (pc := 140) (k := (p + 25)) (As := [.ref (zad E (o1 + 25))]) (st := []) C (m_X6_takeFrom (p := (p + 25)) (o1 := (o1 + 25)) (gSt_w hp (i := 12) (by decide)) (gSt_w ho1 (i := 12) (by decide)) e2765) cal_X6_takeFrom cl_X6 (gRw_k (gSt_w hp (i := 12) (by decide))).1 (gRw_k (gSt_w hp (i := 12) (by decide))).2.1 q_1232 dX7_takeFrom_140 rfl rfl (Nat.le_of_ble_eq_true rfl) (Nat.le_of_ble_eq_true rfl) (Nat.le_of_ble_eq_true rfl) (Nat.le_of_ble_eq_true rfl) (Nat.le_of_ble_eq_true rfl) (fun h2763 => ?_)
  refine r_aload_n (pc := 143) (j := 0) C dX7_takeFrom_143 rfl rfl ?_
  refine r_getR (j := 13) (r := (p + 27)) C cl_X7 (gSt_k hp).1 (gSt_k hp).2.1 (by decide) rfl (hp.2.2 (0, 13, 27) (by decide)) (by omega) q_538 dX7_takeFrom_144 ?_
  refine r_aload_n (pc := 147) (j := 1) C dX7_takeFrom_147 rfl rfl ?_
  refine r_getR (j := 13) (r := (o1 + 27)) C cl_X7 (gSt_k ho1).1 (gSt_k ho1).2.1 (by decide) rfl (ho1.2.2 (0, 13, 27) (by decide)) (by omega) q_538 dX7_takeFrom_148 ?_
  refine r_jn (fun q2767 e2768 => ?_)
  refine r_cV0 (pc := 151) (k := (p + 27)) (As := [.ref (zad E (o1 + 27))]) (st := []) C (m_X6_takeFrom (p := (p + 27)) (o1 := (o1 + 27)) (gSt_w hp (i := 13) (by decide)) (gSt_w ho1 (i := 13) (by decide)) e2768) cal_X6_takeFrom cl_X6 (gRw_k (gSt_w hp (i := 13) (by decide))).1 (gRw_k (gSt_w hp (i := 13) (by decide))).2.1 q_1232 dX7_takeFrom_151 rfl rfl (Nat.le_of_ble_eq_true rfl) (Nat.le_of_ble_eq_true rfl) (Nat.le_of_ble_eq_true rfl) (Nat.le_of_ble_eq_true rfl) (Nat.le_of_ble_eq_true rfl) (fun h2766 => ?_)
  refine r_aload_n (pc := 154) (j := 0) C dX7_takeFrom_154 rfl rfl ?_
  refine r_getR (j := 14) (r := (p + 29)) C cl_X7 (gSt_k hp).1 (gSt_k hp).2.1 (by decide) rfl (hp.2.2 (0, 14, 29) (by decide)) (by omega) q_540 dX7_takeFrom_155 ?_
  refine r_aload_n (pc := 158) (j := 1) C dX7_takeFrom_158 rfl rfl ?_
  refine r_getR (j := 14) (r := (o1 + 29)) C cl_X7 (gSt_k ho1).1 (gSt_k ho1).2.1 (by decide) rfl (ho1.2.2 (0, 14, 29) (by decide)) (by omega) q_540 dX7_takeFrom_159 ?_
  refine r_jn (fun q2770 e2771 => ?_)
  refine r_cV0 (pc := 162) (k := (p + 29)) (As := [.ref (zad E (o1 + 29))]) (st := []) C (m_X6_takeFrom (p := (p + 29)) (o1 := (o1 + 29)) (gSt_w hp (i := 14) (by decide)) (gSt_w ho1 (i := 14) (by decide)) e2771) cal_X6_takeFrom cl_X6 (gRw_k (gSt_w hp (i := 14) (by decide))).1 (gRw_k (gSt_w hp (i := 14) (by decide))).2.1 q_1232 dX7_takeFrom_162 rfl rfl (Nat.le_of_ble_eq_true rfl) (Nat.le_of_ble_eq_true rfl) (Nat.le_of_ble_eq_true rfl) (Nat.le_of_ble_eq_true rfl) (Nat.le_of_ble_eq_true rfl) (fun h2769 => ?_)
  refine r_aload_n (pc := 165) (j := 0) C dX7_takeFrom_165 rfl rfl ?_
  refine r_getR (j := 15) (r := (p + 31)) C cl_X7 (gSt_k hp).1 (gSt_k hp).2.1 (by decide) rfl (hp.2.2 (0, 15, 31) (by decide)) (by omega) q_542 dX7_takeFrom_166 ?_
  refine r_aload_n (pc := 169) (j := 1) C dX7_takeFrom_169 rfl rfl ?_
  refine r_getR (j := 15) (r := (o1 + 31)) C cl_X7 (gSt_k ho1).1 (gSt_k ho1).2.1 (by decide) rfl (ho1.2.2 (0, 15, 31) (by decide)) (by omega) q_542 dX7_takeFrom_170 ?_
  refine r_jn (fun q2773 e2774 => ?_)
  refine r_cV0 (pc := 173) (k := (p + 31)) (As := [.ref (zad E (o1 + 31))]) (st := []) C (m_X6_takeFrom (p := (p + 31)) (o1 := (o1 + 31)) (gSt_w hp (i := 15) (by decide)) (gSt_w ho1 (i := 15) (by decide)) e2774) cal_X6_takeFrom cl_X6 (gRw_k (gSt_w hp (i := 15) (by decide))).1 (gRw_k (gSt_w hp (i := 15) (by decide))).2.1 q_1232 dX7_takeFrom_173 rfl rfl (Nat.le_of_ble_eq_true rfl) (Nat.le_of_ble_eq_true rfl) (Nat.le_of_ble_eq_true rfl) (Nat.le_of_ble_eq_true rfl) (Nat.le_of_ble_eq_true rfl) (fun h2772 => ?_)
  exact r_return C hQ dX7_takeFrom_176 (fun e => by subst e; exact ⟨trivial, rfl, rfl, rfl, rfl, rfl⟩)

def f_X7_hasStamp (p : Nat) (a1 : Int) (S : Sst) : Int :=
  if (a1 < 0 ∨ ¬ a1 < f_X6_size (p + 1) S) then
    (0)
  else
    (1)
set_option maxRecDepth 100000 in
set_option maxHeartbeats 4000000 in
theorem m_X7_hasStamp {l : Launch} {E : EwT} {S : Sst} {O : Smo} {p : Nat} (hp : gSt n0 R0 p) {a1 : Int} (ha1 : IR a1) {q : Int} (hq : f_X7_hasStamp p a1 S = q) : MetG l E yX7_hasStamp cX7_hasStamp 2 (some .boolean) 1 20 0 0 n0 R0 S O [.ref (zad E p), .int (zi a1)] (BR q) (some (.int (zi q))) n0 R0 S O := by
  refine ofG (L0 := [(0, .ref (zad E p)), (1, .int (zi a1))]) hq (by decide +kernel) (Nat.le_of_ble_eq_true rfl) rfl (fun K _ C hQ => ?_)
  unfold f_X7_hasStamp
  refine r_iload_n (pc := 0) (j := 1) C dX7_hasStamp_0 rfl rfl ?_
  refine r_cut (a1 < 0 ∨ ¬ a1 < f_X6_size (p + 1) S) 19 15 [] (fun c2802 => ?_) (fun c2802 => ?_) (fun k2803 k2804 => ?_)
  · refine r_t c2802 ?_
    refine r_iconst (v := 0) C dX7_hasStamp_19 (by decide) ?_
    exact r_ireturn C hQ (nar_z (BRd rfl)) dX7_hasStamp_20 (fun e => by subst e; exact ⟨(BRd rfl), rfl, rfl, rfl, rfl, rfl⟩)
  · refine r_f c2802 ?_
    refine r_iconst (v := 1) C dX7_hasStamp_15 (by decide) ?_
    refine r_goto (tgt := 20) C dX7_hasStamp_16 (by decide) ?_
    exact r_ireturn C hQ (nar_z (BRd rfl)) dX7_hasStamp_20 (fun e => by subst e; exact ⟨(BRd rfl), rfl, rfl, rfl, rfl, rfl⟩)
  · refine r_if_lt (tgt := 19) C ha1 dX7_hasStamp_1 (by decide) (fun c2805 => ?_) (fun c2805 => ?_)
    · exact k2803 (Or.inl c2805)
    · refine r_iload_n (pc := 4) (j := 1) C dX7_hasStamp_4 rfl rfl ?_
      refine r_aload_n (pc := 5) (j := 0) C dX7_hasStamp_5 rfl rfl ?_
      refine r_getR (j := 0) (r := (p + 1)) C cl_X7 (gSt_k hp).1 (gSt_k hp).2.1 (by decide) rfl (hp.2.2 (0, 0, 1) (by decide)) (by omega) q_507 dX7_hasStamp_6 ?_
      refine r_cV1 (pc := 9) (k := (p + 1)) (As := []) (st := [.int (zi a1)]) C (m_X6_size (p := (p + 1)) (gSt_w hp (i := 0) (by decide)) rfl) cal_X6_size cl_X6 (gRw_k (gSt_w hp (i := 0) (by decide))).1 (gRw_k (gSt_w hp (i := 0) (by decide))).2.1 q_1040 dX7_hasStamp_9 rfl rfl (Nat.le_of_ble_eq_true rfl) (Nat.le_of_ble_eq_true rfl) (Nat.le_of_ble_eq_true rfl) (Nat.le_of_ble_eq_true rfl) (Nat.le_of_ble_eq_true rfl) (fun h2801 => ?_)
      refine r_icmp_ge (tgt := 19) C ha1 h2801 dX7_hasStamp_12 (by decide) (fun c2806 => ?_) (fun c2806 => ?_)
      · exact k2803 (Or.inr c2806)
      · exact k2804 (fun w => w.elim c2805 (fun x => x c2806))

def f_X7_hasNode (p : Nat) (a1 : Int) (S : Sst) : Int :=
  if (a1 < 0 ∨ ¬ a1 < f_X6_size (p + 13) S) then
    (0)
  else
    (1)
set_option maxRecDepth 100000 in
set_option maxHeartbeats 4000000 in
theorem m_X7_hasNode {l : Launch} {E : EwT} {S : Sst} {O : Smo} {p : Nat} (hp : gSt n0 R0 p) {a1 : Int} (ha1 : IR a1) {q : Int} (hq : f_X7_hasNode p a1 S = q) : MetG l E yX7_hasNode cX7_hasNode 2 (some .boolean) 1 20 0 0 n0 R0 S O [.ref (zad E p), .int (zi a1)] (BR q) (some (.int (zi q))) n0 R0 S O := by
  refine ofG (L0 := [(0, .ref (zad E p)), (1, .int (zi a1))]) hq (by decide +kernel) (Nat.le_of_ble_eq_true rfl) rfl (fun K _ C hQ => ?_)
  unfold f_X7_hasNode
  refine r_iload_n (pc := 0) (j := 1) C dX7_hasNode_0 rfl rfl ?_
  refine r_cut (a1 < 0 ∨ ¬ a1 < f_X6_size (p + 13) S) 19 15 [] (fun c2827 => ?_) (fun c2827 => ?_) (fun k2828 k2829 => ?_)
  · refine r_t c2827 ?_
    refine r_iconst (v := 0) C dX7_hasNode_19 (by decide) ?_
    exact r_ireturn C hQ (nar_z (BRd rfl)) dX7_hasNode_20 (fun e => by subst e; exact ⟨(BRd rfl), rfl, rfl, rfl, rfl, rfl⟩)
  · refine r_f c2827 ?_
    refine r_iconst (v := 1) C dX7_hasNode_15 (by decide) ?_
    refine r_goto (tgt := 20) C dX7_hasNode_16 (by decide) ?_
    exact r_ireturn C hQ (nar_z (BRd rfl)) dX7_hasNode_20 (fun e => by subst e; exact ⟨(BRd rfl), rfl, rfl, rfl, rfl, rfl⟩)
  · refine r_if_lt (tgt := 19) C ha1 dX7_hasNode_1 (by decide) (fun c2830 => ?_) (fun c2830 => ?_)
    · exact k2828 (Or.inl c2830)
    · refine r_iload_n (pc := 4) (j := 1) C dX7_hasNode_4 rfl rfl ?_
      refine r_aload_n (pc := 5) (j := 0) C dX7_hasNode_5 rfl rfl ?_
      refine r_getR (j := 6) (r := (p + 13)) C cl_X7 (gSt_k hp).1 (gSt_k hp).2.1 (by decide) rfl (hp.2.2 (0, 6, 13) (by decide)) (by omega) q_525 dX7_hasNode_6 ?_
      refine r_cV1 (pc := 9) (k := (p + 13)) (As := []) (st := [.int (zi a1)]) C (m_X6_size (p := (p + 13)) (gSt_w hp (i := 6) (by decide)) rfl) cal_X6_size cl_X6 (gRw_k (gSt_w hp (i := 6) (by decide))).1 (gRw_k (gSt_w hp (i := 6) (by decide))).2.1 q_1040 dX7_hasNode_9 rfl rfl (Nat.le_of_ble_eq_true rfl) (Nat.le_of_ble_eq_true rfl) (Nat.le_of_ble_eq_true rfl) (Nat.le_of_ble_eq_true rfl) (Nat.le_of_ble_eq_true rfl) (fun h2826 => ?_)
      refine r_icmp_ge (tgt := 19) C ha1 h2826 dX7_hasNode_12 (by decide) (fun c2831 => ?_) (fun c2831 => ?_)
      · exact k2828 (Or.inr c2831)
      · exact k2829 (fun w => w.elim c2830 (fun x => x c2831))

def f_X7_parentOf (p : Nat) (a1 : Int) (S : Sst) : Option (Int) :=
  jn (f_X7_newest p S) fun (v2861 : Int) =>
  Option.bind (lp (fun (s2863 : Int) =>
    if s2863 < 8 then
      (jn (f_X6_at (p + 31) s2863 S) fun (v2873 : Int) =>
      jk (fun (q2875 : Unit) =>
        some (Sum.inl (wr (s2863 + 1)))) fun k2877 =>
      if v2873 = (-1) then
        (k2877 ())
      else
        (Option.bind (f_X7_childOf p v2873 0 v2861 S) fun (q2881 : Int) =>
        if q2881 = a1 then
          (some (Sum.inr (Sum.inl v2873)))
        else
          (Option.bind (f_X7_childOf p v2873 1 v2861 S) fun (q2885 : Int) =>
          if q2885 = a1 then
            (some (Sum.inr (Sum.inl v2873)))
          else
            (k2877 ()))))
    else
      (some (Sum.inr (Sum.inr ())))) FU 0) fun z2892 => Sum.elim (fun (r2888 : Int) =>
    some r2888) (fun (r2890 : Unit) =>
    some (-1)) z2892
set_option maxRecDepth 100000 in
set_option maxHeartbeats 4000000 in
theorem m_X7_parentOf {l : Launch} {E : EwT} {S : Sst} {O : Smo} {p : Nat} (hp : gSt n0 R0 p) {a1 : Int} (ha1 : IR a1) {q : Int} (hq : f_X7_parentOf p a1 S = some q) : MetG l E yX7_parentOf cX7_parentOf 5 (some .int) 2 46 0 0 n0 R0 S O [.ref (zad E p), .int (zi a1)] (IR q) (some (.int (zi q))) n0 R0 S O := by
  refine ofG (L0 := [(0, .ref (zad E p)), (1, .int (zi a1))]) hq (by decide +kernel) (Nat.le_of_ble_eq_true rfl) rfl (fun K _ C hQ => ?_)
  unfold f_X7_parentOf
  refine r_aload_n (pc := 0) (j := 0) C dX7_parentOf_0 rfl rfl ?_
  refine r_cV1 (pc := 1) (k := p) (As := []) (st := []) C (m_X7_newest (p := p) hp rfl) cal_X7_newest cl_X7 (gSt_k hp).1 (gSt_k hp).2.1 q_1153 dX7_parentOf_1 rfl rfl (Nat.le_of_ble_eq_true rfl) (Nat.le_of_ble_eq_true rfl) (Nat.le_of_ble_eq_true rfl) (Nat.le_of_ble_eq_true rfl) (Nat.le_of_ble_eq_true rfl) (fun h2860 => ?_)
  refine r_jv h2860 (fun v2861 h2862 => ?_)
  refine r_istore_n (L' := [(2, .int (zi v2861)), (0, .ref (zad E p)), (1, .int (zi a1))]) C dX7_parentOf_4 rfl (by decide) rfl ?_
  refine r_iconst (v := 0) C dX7_parentOf_5 (by decide) ?_
  refine r_istore_n (L' := [(3, .int (zi 0)), (2, .int (zi v2861)), (0, .ref (zad E p)), (1, .int (zi a1))]) C dX7_parentOf_6 rfl (by decide) rfl ?_
  refine r_L (L' := [(0, .ref (zad E p)), (1, .int (zi a1)), (2, .int (zi v2861)), (3, .int (zi 0))]) [2, 3, 1, 0] rfl ?_
  refine r_loop2 (fun s2863 : Int => IR s2863) (fun s2863 => S) (fun s2863 => O) (fun s2863 => [(0, .ref (zad E p)), (1, .int (zi a1)), (2, .int (zi v2861)), (3, .int (zi s2863))]) [] (fun r2888 : Int => IR r2888) (fun r2888 => S) (fun r2888 => O) (fun r2888 => [(4, .int (zi r2888))]) 53 (fun r2888 h2889 => ?_) (fun r2890 : Unit => True) (fun r2890 => S) (fun r2890 => O) (fun r2890 => []) 62 (fun r2890 h2891 => ?_) (fun k2865 k2867 k2869 k2866 k2868 k2870 s2863 h2864 => ?_) (IRd rfl)
  · refine r_iload (pc := 53) (j := 0) C dX7_parentOf_53 rfl ?_
    exact r_ireturn C hQ rfl dX7_parentOf_55 (fun e => by cases e; exact ⟨h2889, rfl, rfl, rfl, rfl, rfl⟩)
  · refine r_iconst (v := (-1)) C dX7_parentOf_62 (by decide) ?_
    exact r_ireturn C hQ rfl dX7_parentOf_63 (fun e => by cases e; exact ⟨(IRd rfl), rfl, rfl, rfl, rfl, rfl⟩)
  · refine r_iload_n (pc := 7) (j := 3) C dX7_parentOf_7 rfl rfl ?_
    refine r_bipush (v := 8) C dX7_parentOf_8 (by decide) ?_
    refine r_icmp_ge (tgt := 62) C h2864 (IRd rfl) dX7_parentOf_10 (by decide) (fun c2871 => ?_) (fun c2871 => ?_)
    · refine r_bf c2871 ?_
      refine r_L (L' := []) [] rfl ?_
      exact k2870 () trivial
    · refine r_bt c2871 ?_
      refine r_aload_n (pc := 13) (j := 0) C dX7_parentOf_13 rfl rfl ?_
      refine r_getR (j := 15) (r := (p + 31)) C cl_X7 (gSt_k hp).1 (gSt_k hp).2.1 (by decide) rfl (hp.2.2 (0, 15, 31) (by decide)) (by omega) q_542 dX7_parentOf_14 ?_
      refine r_iload_n (pc := 17) (j := 3) C dX7_parentOf_17 rfl rfl ?_
      refine r_cV1 (pc := 18) (k := (p + 31)) (As := [.int (zi s2863)]) (st := []) C (m_X6_at (p := (p + 31)) (a1 := s2863) (gSt_w hp (i := 15) (by decide)) h2864 rfl) cal_X6_at cl_X6 (gRw_k (gSt_w hp (i := 15) (by decide))).1 (gRw_k (gSt_w hp (i := 15) (by decide))).2.1 q_1046 dX7_parentOf_18 rfl rfl (Nat.le_of_ble_eq_true rfl) (Nat.le_of_ble_eq_true rfl) (Nat.le_of_ble_eq_true rfl) (Nat.le_of_ble_eq_true rfl) (Nat.le_of_ble_eq_true rfl) (fun h2872 => ?_)
      refine r_bj ?_
      refine r_jv h2872 (fun v2873 h2874 => ?_)
      refine r_istore (L' := [(4, .int (zi v2873)), (0, .ref (zad E p)), (1, .int (zi a1)), (2, .int (zi v2861)), (3, .int (zi s2863))]) C dX7_parentOf_21 (by decide) rfl ?_
      refine r_iload (pc := 23) (j := 0) C dX7_parentOf_23 rfl ?_
      refine r_iconst (v := (-1)) C dX7_parentOf_25 (by decide) ?_
      refine r_jkb (fun q2875 : Unit => True) (fun q2875 => S) (fun q2875 => O) (fun q2875 => [(0, .ref (zad E p)), (1, .int (zi a1)), (2, .int (zi v2861)), (3, .int (zi s2863))]) 56 (fun q2875 => []) (fun q2875 h2876 => ?_) (fun k2877 k2878 => ?_)
      · refine r_iinc (j := 3) (L' := [(3, .int (zi (wr (s2863 + 1)))), (0, .ref (zad E p)), (1, .int (zi a1)), (2, .int (zi v2861))]) C dX7_parentOf_56 rfl (by decide) rfl ?_
        refine r_goto (tgt := 7) C dX7_parentOf_59 (by decide) ?_
        refine r_L (L' := [(0, .ref (zad E p)), (1, .int (zi a1)), (2, .int (zi v2861)), (3, .int (zi (wr (s2863 + 1))))]) [1, 2, 3, 0] rfl ?_
        exact k2866 (wr (s2863 + 1)) (IR_wr _)
      · refine r_icmp_eq (tgt := 56) C h2874 (IRd rfl) dX7_parentOf_26 (by decide) (fun c2879 => ?_) (fun c2879 => ?_)
        · refine r_bt c2879 ?_
          refine r_L (L' := [(0, .ref (zad E p)), (1, .int (zi a1)), (2, .int (zi v2861)), (3, .int (zi s2863))]) [1, 2, 3, 4] rfl ?_
          exact k2878 () trivial
        · refine r_bf c2879 ?_
          refine r_aload_n (pc := 29) (j := 1) C dX7_parentOf_29 rfl rfl ?_
          refine r_iload (pc := 30) (j := 0) C dX7_parentOf_30 rfl ?_
          refine r_iconst (v := 0) C dX7_parentOf_32 (by decide) ?_
          refine r_iload_n (pc := 33) (j := 3) C dX7_parentOf_33 rfl rfl ?_
          refine r_bb ?_
          refine r_bd (fun q2881 e2882 => ?_)
          refine r_cV1 (pc := 34) (k := p) (As := [.int (zi v2873), .int (zi 0), .int (zi v2861)]) (st := []) C (m_X7_childOf (p := p) (a1 := v2873) (a2 := 0) (a3 := v2861) hp h2874 (IRd rfl) h2862 e2882) cal_X7_childOf cl_X7 (gSt_k hp).1 (gSt_k hp).2.1 q_1160 dX7_parentOf_34 rfl rfl (Nat.le_of_ble_eq_true rfl) (Nat.le_of_ble_eq_true rfl) (Nat.le_of_ble_eq_true rfl) (Nat.le_of_ble_eq_true rfl) (Nat.le_of_ble_eq_true rfl) (fun h2880 => ?_)
          refine r_iload_n (pc := 37) (j := 2) C dX7_parentOf_37 rfl rfl ?_
          refine r_icmp_eq (tgt := 53) C h2880 ha1 dX7_parentOf_38 (by decide) (fun c2883 => ?_) (fun c2883 => ?_)
          · refine r_bt c2883 ?_
            refine r_L (L' := [(4, .int (zi v2873))]) [0] rfl ?_
            exact k2868 v2873 h2874
          · refine r_bf c2883 ?_
            refine r_aload_n (pc := 41) (j := 1) C dX7_parentOf_41 rfl rfl ?_
            refine r_iload (pc := 42) (j := 0) C dX7_parentOf_42 rfl ?_
            refine r_iconst (v := 1) C dX7_parentOf_44 (by decide) ?_
            refine r_iload_n (pc := 45) (j := 3) C dX7_parentOf_45 rfl rfl ?_
            refine r_bb ?_
            refine r_bd (fun q2885 e2886 => ?_)
            refine r_cV1 (pc := 46) (k := p) (As := [.int (zi v2873), .int (zi 1), .int (zi v2861)]) (st := []) C (m_X7_childOf (p := p) (a1 := v2873) (a2 := 1) (a3 := v2861) hp h2874 (IRd rfl) h2862 e2886) cal_X7_childOf cl_X7 (gSt_k hp).1 (gSt_k hp).2.1 q_1160 dX7_parentOf_46 rfl rfl (Nat.le_of_ble_eq_true rfl) (Nat.le_of_ble_eq_true rfl) (Nat.le_of_ble_eq_true rfl) (Nat.le_of_ble_eq_true rfl) (Nat.le_of_ble_eq_true rfl) (fun h2884 => ?_)
            refine r_iload_n (pc := 49) (j := 2) C dX7_parentOf_49 rfl rfl ?_
            refine r_icmp_ne (tgt := 56) C h2884 ha1 dX7_parentOf_50 (by decide) (fun c2887 => ?_) (fun c2887 => ?_)
            · refine r_bf c2887 ?_
              refine r_L (L' := [(0, .ref (zad E p)), (1, .int (zi a1)), (2, .int (zi v2861)), (3, .int (zi s2863))]) [1, 2, 3, 4] rfl ?_
              exact k2878 () trivial
            · refine r_bt c2887 ?_
              refine r_L (L' := [(4, .int (zi v2873))]) [0] rfl ?_
              exact k2868 v2873 h2874

def f_X7_isThere (p : Nat) (a1 : Int) (S : Sst) : Int :=
  if (f_X7_hasNode p a1 S = 0 ∨ ¬ f_X6_at (p + 31) (f_X6_at (p + 13) a1 S) S = a1) then
    (0)
  else
    (1)
set_option maxRecDepth 100000 in
set_option maxHeartbeats 4000000 in
theorem m_X7_isThere {l : Launch} {E : EwT} {S : Sst} {O : Smo} {p : Nat} (hp : gSt n0 R0 p) {a1 : Int} (ha1 : IR a1) {q : Int} (hq : f_X7_isThere p a1 S = q) : MetG l E yX7_isThere cX7_isThere 2 (some .boolean) 2 41 0 0 n0 R0 S O [.ref (zad E p), .int (zi a1)] (BR q) (some (.int (zi q))) n0 R0 S O := by
  refine ofG (L0 := [(0, .ref (zad E p)), (1, .int (zi a1))]) hq (by decide +kernel) (Nat.le_of_ble_eq_true rfl) rfl (fun K _ C hQ => ?_)
  unfold f_X7_isThere
  refine r_aload_n (pc := 0) (j := 0) C dX7_isThere_0 rfl rfl ?_
  refine r_iload_n (pc := 1) (j := 1) C dX7_isThere_1 rfl rfl ?_
  refine r_cV1 (pc := 2) (k := p) (As := [.int (zi a1)]) (st := []) C (m_X7_hasNode (p := p) (a1 := a1) hp ha1 rfl) cal_X7_hasNode cl_X7 (gSt_k hp).1 (gSt_k hp).2.1 q_1266 dX7_isThere_2 rfl rfl (Nat.le_of_ble_eq_true rfl) (Nat.le_of_ble_eq_true rfl) (Nat.le_of_ble_eq_true rfl) (Nat.le_of_ble_eq_true rfl) (Nat.le_of_ble_eq_true rfl) (fun h2893 => ?_)
  refine r_cut (f_X7_hasNode p a1 S = 0 ∨ ¬ f_X6_at (p + 31) (f_X6_at (p + 13) a1 S) S = a1) 31 27 [] (fun c2896 => ?_) (fun c2896 => ?_) (fun k2897 k2898 => ?_)
  · refine r_t c2896 ?_
    refine r_iconst (v := 0) C dX7_isThere_31 (by decide) ?_
    exact r_ireturn C hQ (nar_z (BRd rfl)) dX7_isThere_32 (fun e => by subst e; exact ⟨(BRd rfl), rfl, rfl, rfl, rfl, rfl⟩)
  · refine r_f c2896 ?_
    refine r_iconst (v := 1) C dX7_isThere_27 (by decide) ?_
    refine r_goto (tgt := 32) C dX7_isThere_28 (by decide) ?_
    exact r_ireturn C hQ (nar_z (BRd rfl)) dX7_isThere_32 (fun e => by subst e; exact ⟨(BRd rfl), rfl, rfl, rfl, rfl, rfl⟩)
  · refine r_if_eq (tgt := 31) C h2893.ir dX7_isThere_5 (by decide) (fun c2899 => ?_) (fun c2899 => ?_)
    · exact k2897 (Or.inl c2899)
    · refine r_aload_n (pc := 8) (j := 0) C dX7_isThere_8 rfl rfl ?_
      refine r_getR (j := 15) (r := (p + 31)) C cl_X7 (gSt_k hp).1 (gSt_k hp).2.1 (by decide) rfl (hp.2.2 (0, 15, 31) (by decide)) (by omega) q_542 dX7_isThere_9 ?_
      refine r_aload_n (pc := 12) (j := 0) C dX7_isThere_12 rfl rfl ?_
      refine r_getR (j := 6) (r := (p + 13)) C cl_X7 (gSt_k hp).1 (gSt_k hp).2.1 (by decide) rfl (hp.2.2 (0, 6, 13) (by decide)) (by omega) q_525 dX7_isThere_13 ?_
      refine r_iload_n (pc := 16) (j := 1) C dX7_isThere_16 rfl rfl ?_
      refine r_cV1 (pc := 17) (k := (p + 13)) (As := [.int (zi a1)]) (st := [.ref (zad E (p + 31))]) C (m_X6_at (p := (p + 13)) (a1 := a1) (gSt_w hp (i := 6) (by decide)) ha1 rfl) cal_X6_at cl_X6 (gRw_k (gSt_w hp (i := 6) (by decide))).1 (gRw_k (gSt_w hp (i := 6) (by decide))).2.1 q_1046 dX7_isThere_17 rfl rfl (Nat.le_of_ble_eq_true rfl) (Nat.le_of_ble_eq_true rfl) (Nat.le_of_ble_eq_true rfl) (Nat.le_of_ble_eq_true rfl) (Nat.le_of_ble_eq_true rfl) (fun h2894 => ?_)
      refine r_cV1 (pc := 20) (k := (p + 31)) (As := [.int (zi (f_X6_at (p + 13) a1 S))]) (st := []) C (m_X6_at (p := (p + 31)) (a1 := f_X6_at (p + 13) a1 S) (gSt_w hp (i := 15) (by decide)) h2894 rfl) cal_X6_at cl_X6 (gRw_k (gSt_w hp (i := 15) (by decide))).1 (gRw_k (gSt_w hp (i := 15) (by decide))).2.1 q_1046 dX7_isThere_20 rfl rfl (Nat.le_of_ble_eq_true rfl) (Nat.le_of_ble_eq_true rfl) (Nat.le_of_ble_eq_true rfl) (Nat.le_of_ble_eq_true rfl) (Nat.le_of_ble_eq_true rfl) (fun h2895 => ?_)
      refine r_iload_n (pc := 23) (j := 1) C dX7_isThere_23 rfl rfl ?_
      refine r_icmp_ne (tgt := 31) C h2895 ha1 dX7_isThere_24 (by decide) (fun c2900 => ?_) (fun c2900 => ?_)
      · exact k2897 (Or.inr c2900)
      · exact k2898 (fun w => w.elim c2899 (fun x => x c2900))

def f_X7_slotsWritten (p : Nat) (S : Sst) : Option (Int) :=
  Option.bind (lp (fun (s3344 : Int × Int) =>
    if s3344.2 < f_X6_size (p + 21) S then
      (jn (wr (s3344.1 + (f_X6_at (p + 21) s3344.2 S))) fun (v3353 : Int) =>
      some (Sum.inl (v3353, wr (s3344.2 + 1))))
    else
      (some (Sum.inr s3344.1))) FU (0, 0)) fun (r3355 : Int) =>
  some r3355
set_option maxRecDepth 100000 in
set_option maxHeartbeats 4000000 in
theorem m_X7_slotsWritten {l : Launch} {E : EwT} {S : Sst} {O : Smo} {p : Nat} (hp : gSt n0 R0 p) {q : Int} (hq : f_X7_slotsWritten p S = some q) : MetG l E yX7_slotsWritten cX7_slotsWritten 3 (some .int) 1 21 0 0 n0 R0 S O [.ref (zad E p)] (IR q) (some (.int (zi q))) n0 R0 S O := by
  refine ofG (L0 := [(0, .ref (zad E p))]) hq (by decide +kernel) (Nat.le_of_ble_eq_true rfl) rfl (fun K _ C hQ => ?_)
  unfold f_X7_slotsWritten
  refine r_iconst (v := 0) C dX7_slotsWritten_0 (by decide) ?_
  refine r_istore_n (L' := [(1, .int (zi 0)), (0, .ref (zad E p))]) C dX7_slotsWritten_1 rfl (by decide) rfl ?_
  refine r_iconst (v := 0) C dX7_slotsWritten_2 (by decide) ?_
  refine r_istore_n (L' := [(2, .int (zi 0)), (1, .int (zi 0)), (0, .ref (zad E p))]) C dX7_slotsWritten_3 rfl (by decide) rfl ?_
  refine r_L (L' := [(0, .ref (zad E p)), (1, .int (zi 0)), (2, .int (zi 0))]) [2, 1, 0] rfl ?_
  refine r_loop1 (fun s3344 : Int × Int => IR s3344.1 ∧ IR s3344.2) (fun s3344 => S) (fun s3344 => O) (fun s3344 => [(0, .ref (zad E p)), (1, .int (zi s3344.1)), (2, .int (zi s3344.2))]) [] (fun r3355 : Int => IR r3355) (fun r3355 => S) (fun r3355 => O) (fun r3355 => [(1, .int (zi r3355))]) 32 (fun r3355 h3356 => ?_) (fun k3346 k3348 k3347 k3349 s3344 h3345 => ?_) ⟨(IRd rfl), (IRd rfl)⟩
  · refine r_iload_n (pc := 32) (j := 0) C dX7_slotsWritten_32 rfl rfl ?_
    exact r_ireturn C hQ rfl dX7_slotsWritten_33 (fun e => by cases e; exact ⟨h3356, rfl, rfl, rfl, rfl, rfl⟩)
  · refine r_iload_n (pc := 4) (j := 2) C dX7_slotsWritten_4 rfl rfl ?_
    refine r_aload_n (pc := 5) (j := 0) C dX7_slotsWritten_5 rfl rfl ?_
    refine r_getR (j := 10) (r := (p + 21)) C cl_X7 (gSt_k hp).1 (gSt_k hp).2.1 (by decide) rfl (hp.2.2 (0, 10, 21) (by decide)) (by omega) q_533 dX7_slotsWritten_6 ?_
    refine r_cV1 (pc := 9) (k := (p + 21)) (As := []) (st := [.int (zi s3344.2)]) C (m_X6_size (p := (p + 21)) (gSt_w hp (i := 10) (by decide)) rfl) cal_X6_size cl_X6 (gRw_k (gSt_w hp (i := 10) (by decide))).1 (gRw_k (gSt_w hp (i := 10) (by decide))).2.1 q_1040 dX7_slotsWritten_9 rfl rfl (Nat.le_of_ble_eq_true rfl) (Nat.le_of_ble_eq_true rfl) (Nat.le_of_ble_eq_true rfl) (Nat.le_of_ble_eq_true rfl) (Nat.le_of_ble_eq_true rfl) (fun h3350 => ?_)
    refine r_icmp_ge (tgt := 32) C h3345.2 h3350 dX7_slotsWritten_12 (by decide) (fun c3351 => ?_) (fun c3351 => ?_)
    · refine r_bf c3351 ?_
      refine r_L (L' := [(1, .int (zi s3344.1))]) [1] rfl ?_
      exact k3349 s3344.1 h3345.1
    · refine r_bt c3351 ?_
      refine r_iload_n (pc := 15) (j := 1) C dX7_slotsWritten_15 rfl rfl ?_
      refine r_aload_n (pc := 16) (j := 0) C dX7_slotsWritten_16 rfl rfl ?_
      refine r_getR (j := 10) (r := (p + 21)) C cl_X7 (gSt_k hp).1 (gSt_k hp).2.1 (by decide) rfl (hp.2.2 (0, 10, 21) (by decide)) (by omega) q_533 dX7_slotsWritten_17 ?_
      refine r_iload_n (pc := 20) (j := 2) C dX7_slotsWritten_20 rfl rfl ?_
      refine r_cV1 (pc := 21) (k := (p + 21)) (As := [.int (zi s3344.2)]) (st := [.int (zi s3344.1)]) C (m_X6_at (p := (p + 21)) (a1 := s3344.2) (gSt_w hp (i := 10) (by decide)) h3345.2 rfl) cal_X6_at cl_X6 (gRw_k (gSt_w hp (i := 10) (by decide))).1 (gRw_k (gSt_w hp (i := 10) (by decide))).2.1 q_1046 dX7_slotsWritten_21 rfl rfl (Nat.le_of_ble_eq_true rfl) (Nat.le_of_ble_eq_true rfl) (Nat.le_of_ble_eq_true rfl) (Nat.le_of_ble_eq_true rfl) (Nat.le_of_ble_eq_true rfl) (fun h3352 => ?_)
      refine r_iadd C dX7_slotsWritten_24 ?_
      refine r_bj ?_
      refine r_jv (IR_wr _) (fun v3353 h3354 => ?_)
      refine r_istore_n (L' := [(1, .int (zi v3353)), (0, .ref (zad E p)), (2, .int (zi s3344.2))]) C dX7_slotsWritten_25 rfl (by decide) rfl ?_
      refine r_iinc (j := 2) (L' := [(2, .int (zi (wr (s3344.2 + 1)))), (1, .int (zi v3353)), (0, .ref (zad E p))]) C dX7_slotsWritten_26 rfl (by decide) rfl ?_
      refine r_goto (tgt := 4) C dX7_slotsWritten_29 (by decide) ?_
      refine r_L (L' := [(0, .ref (zad E p)), (1, .int (zi v3353)), (2, .int (zi (wr (s3344.2 + 1))))]) [2, 1, 0] rfl ?_
      exact k3347 (v3353, wr (s3344.2 + 1)) ⟨h3354, (IR_wr _)⟩

def f_X7_copiesOf (p : Nat) (a1 : Int) (S : Sst) : Option (Int) :=
  Option.bind (lp (fun (s3381 : Int × Int) =>
    if s3381.2 < f_X6_size (p + 13) S then
      (jn (
        if (a1 = (-1) ∨ f_X6_at (p + 13) s3381.2 S = a1) then
          (jn (wr (s3381.1 + (f_X6_at (p + 23) s3381.2 S))) fun (v3398 : Int) =>
          v3398)
        else
          (s3381.1)) fun (q3390 : Int) =>
      some (Sum.inl (q3390, wr (s3381.2 + 1))))
    else
      (some (Sum.inr s3381.1))) FU (0, 0)) fun (r3402 : Int) =>
  some r3402
set_option maxRecDepth 100000 in
set_option maxHeartbeats 4000000 in
theorem m_X7_copiesOf {l : Launch} {E : EwT} {S : Sst} {O : Smo} {p : Nat} (hp : gSt n0 R0 p) {a1 : Int} (ha1 : IR a1) {q : Int} (hq : f_X7_copiesOf p a1 S = some q) : MetG l E yX7_copiesOf cX7_copiesOf 4 (some .int) 1 21 0 0 n0 R0 S O [.ref (zad E p), .int (zi a1)] (IR q) (some (.int (zi q))) n0 R0 S O := by
  refine ofG (L0 := [(0, .ref (zad E p)), (1, .int (zi a1))]) hq (by decide +kernel) (Nat.le_of_ble_eq_true rfl) rfl (fun K _ C hQ => ?_)
  unfold f_X7_copiesOf
  refine r_iconst (v := 0) C dX7_copiesOf_0 (by decide) ?_
  refine r_istore_n (L' := [(2, .int (zi 0)), (0, .ref (zad E p)), (1, .int (zi a1))]) C dX7_copiesOf_1 rfl (by decide) rfl ?_
  refine r_iconst (v := 0) C dX7_copiesOf_2 (by decide) ?_
  refine r_istore_n (L' := [(3, .int (zi 0)), (2, .int (zi 0)), (0, .ref (zad E p)), (1, .int (zi a1))]) C dX7_copiesOf_3 rfl (by decide) rfl ?_
  refine r_L (L' := [(0, .ref (zad E p)), (1, .int (zi a1)), (2, .int (zi 0)), (3, .int (zi 0))]) [2, 3, 1, 0] rfl ?_
  refine r_loop1 (fun s3381 : Int × Int => IR s3381.1 ∧ IR s3381.2) (fun s3381 => S) (fun s3381 => O) (fun s3381 => [(0, .ref (zad E p)), (1, .int (zi a1)), (2, .int (zi s3381.1)), (3, .int (zi s3381.2))]) [] (fun r3402 : Int => IR r3402) (fun r3402 => S) (fun r3402 => O) (fun r3402 => [(2, .int (zi r3402))]) 49 (fun r3402 h3403 => ?_) (fun k3383 k3385 k3384 k3386 s3381 h3382 => ?_) ⟨(IRd rfl), (IRd rfl)⟩
  · refine r_iload_n (pc := 49) (j := 0) C dX7_copiesOf_49 rfl rfl ?_
    exact r_ireturn C hQ rfl dX7_copiesOf_50 (fun e => by cases e; exact ⟨h3403, rfl, rfl, rfl, rfl, rfl⟩)
  · refine r_iload_n (pc := 4) (j := 3) C dX7_copiesOf_4 rfl rfl ?_
    refine r_aload_n (pc := 5) (j := 0) C dX7_copiesOf_5 rfl rfl ?_
    refine r_getR (j := 6) (r := (p + 13)) C cl_X7 (gSt_k hp).1 (gSt_k hp).2.1 (by decide) rfl (hp.2.2 (0, 6, 13) (by decide)) (by omega) q_525 dX7_copiesOf_6 ?_
    refine r_cV1 (pc := 9) (k := (p + 13)) (As := []) (st := [.int (zi s3381.2)]) C (m_X6_size (p := (p + 13)) (gSt_w hp (i := 6) (by decide)) rfl) cal_X6_size cl_X6 (gRw_k (gSt_w hp (i := 6) (by decide))).1 (gRw_k (gSt_w hp (i := 6) (by decide))).2.1 q_1040 dX7_copiesOf_9 rfl rfl (Nat.le_of_ble_eq_true rfl) (Nat.le_of_ble_eq_true rfl) (Nat.le_of_ble_eq_true rfl) (Nat.le_of_ble_eq_true rfl) (Nat.le_of_ble_eq_true rfl) (fun h3387 => ?_)
    refine r_icmp_ge (tgt := 49) C h3382.2 h3387 dX7_copiesOf_12 (by decide) (fun c3388 => ?_) (fun c3388 => ?_)
    · refine r_bf c3388 ?_
      refine r_L (L' := [(2, .int (zi s3381.1))]) [2] rfl ?_
      exact k3386 s3381.1 h3382.1
    · refine r_bt c3388 ?_
      refine r_iload_n (pc := 15) (j := 1) C dX7_copiesOf_15 rfl rfl ?_
      refine r_iconst (v := (-1)) C dX7_copiesOf_16 (by decide) ?_
      refine r_bj ?_
      refine r_join (fun q3390 : Int => IR q3390) (fun q3390 => S) (fun q3390 => O) (fun q3390 => [(0, .ref (zad E p)), (1, .int (zi a1)), (2, .int (zi q3390)), (3, .int (zi s3381.2))]) 43 (fun q3390 => []) (fun q3390 h3391 => ?_) (fun k3392 k3393 => ?_)
      · refine r_iinc (j := 3) (L' := [(3, .int (zi (wr (s3381.2 + 1)))), (0, .ref (zad E p)), (1, .int (zi a1)), (2, .int (zi q3390))]) C dX7_copiesOf_43 rfl (by decide) rfl ?_
        refine r_goto (tgt := 4) C dX7_copiesOf_46 (by decide) ?_
        refine r_L (L' := [(0, .ref (zad E p)), (1, .int (zi a1)), (2, .int (zi q3390)), (3, .int (zi (wr (s3381.2 + 1))))]) [1, 2, 3, 0] rfl ?_
        exact k3384 (q3390, wr (s3381.2 + 1)) ⟨h3391, (IR_wr _)⟩
      · refine r_cut (a1 = (-1) ∨ f_X6_at (p + 13) s3381.2 S = a1) 32 43 [] (fun c3394 => ?_) (fun c3394 => ?_) (fun k3395 k3396 => ?_)
        · refine r_jt c3394 ?_
          refine r_iload_n (pc := 32) (j := 2) C dX7_copiesOf_32 rfl rfl ?_
          refine r_aload_n (pc := 33) (j := 0) C dX7_copiesOf_33 rfl rfl ?_
          refine r_getR (j := 11) (r := (p + 23)) C cl_X7 (gSt_k hp).1 (gSt_k hp).2.1 (by decide) rfl (hp.2.2 (0, 11, 23) (by decide)) (by omega) q_535 dX7_copiesOf_34 ?_
          refine r_iload_n (pc := 37) (j := 3) C dX7_copiesOf_37 rfl rfl ?_
          refine r_cV1 (pc := 38) (k := (p + 23)) (As := [.int (zi s3381.2)]) (st := [.int (zi s3381.1)]) C (m_X6_at (p := (p + 23)) (a1 := s3381.2) (gSt_w hp (i := 11) (by decide)) h3382.2 rfl) cal_X6_at cl_X6 (gRw_k (gSt_w hp (i := 11) (by decide))).1 (gRw_k (gSt_w hp (i := 11) (by decide))).2.1 q_1046 dX7_copiesOf_38 rfl rfl (Nat.le_of_ble_eq_true rfl) (Nat.le_of_ble_eq_true rfl) (Nat.le_of_ble_eq_true rfl) (Nat.le_of_ble_eq_true rfl) (Nat.le_of_ble_eq_true rfl) (fun h3397 => ?_)
          refine r_iadd C dX7_copiesOf_41 ?_
          refine r_jj ?_
          refine r_jv (IR_wr _) (fun v3398 h3399 => ?_)
          refine r_istore_n (L' := [(2, .int (zi v3398)), (0, .ref (zad E p)), (1, .int (zi a1)), (3, .int (zi s3381.2))]) C dX7_copiesOf_42 rfl (by decide) rfl ?_
          refine r_L (L' := [(0, .ref (zad E p)), (1, .int (zi a1)), (2, .int (zi v3398)), (3, .int (zi s3381.2))]) [1, 2, 0, 3] rfl ?_
          exact k3393 v3398 h3399
        · refine r_jf c3394 ?_
          exact k3393 s3381.1 h3382.1
        · refine r_icmp_eq (tgt := 32) C ha1 (IRd rfl) dX7_copiesOf_17 (by decide) (fun c3400 => ?_) (fun c3400 => ?_)
          · exact k3395 (Or.inl c3400)
          · refine r_aload_n (pc := 20) (j := 0) C dX7_copiesOf_20 rfl rfl ?_
            refine r_getR (j := 6) (r := (p + 13)) C cl_X7 (gSt_k hp).1 (gSt_k hp).2.1 (by decide) rfl (hp.2.2 (0, 6, 13) (by decide)) (by omega) q_525 dX7_copiesOf_21 ?_
            refine r_iload_n (pc := 24) (j := 3) C dX7_copiesOf_24 rfl rfl ?_
            refine r_cV1 (pc := 25) (k := (p + 13)) (As := [.int (zi s3381.2)]) (st := []) C (m_X6_at (p := (p + 13)) (a1 := s3381.2) (gSt_w hp (i := 6) (by decide)) h3382.2 rfl) cal_X6_at cl_X6 (gRw_k (gSt_w hp (i := 6) (by decide))).1 (gRw_k (gSt_w hp (i := 6) (by decide))).2.1 q_1046 dX7_copiesOf_25 rfl rfl (Nat.le_of_ble_eq_true rfl) (Nat.le_of_ble_eq_true rfl) (Nat.le_of_ble_eq_true rfl) (Nat.le_of_ble_eq_true rfl) (Nat.le_of_ble_eq_true rfl) (fun h3389 => ?_)
            refine r_iload_n (pc := 28) (j := 1) C dX7_copiesOf_28 rfl rfl ?_
            refine r_icmp_ne (tgt := 43) C h3389 ha1 dX7_copiesOf_29 (by decide) (fun c3401 => ?_) (fun c3401 => ?_)
            · exact k3396 (fun w => w.elim c3400 c3401)
            · exact k3395 (Or.inr c3401)
