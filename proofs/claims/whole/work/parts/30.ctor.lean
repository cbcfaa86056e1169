/-! constructors: the graph grows; references are put in a known order -/
def SQ : List (Nat × Nat) := [(1, 0), (0, 0), (3, 0), (0, 1), (6, 0), (5, 0), (8, 0), (5, 1), (10, 0), (5, 2), (12, 0), (5, 3), (14, 0), (5, 4), (16, 0), (5, 5), (18, 0), (5, 6), (20, 0), (5, 7), (22, 0), (5, 8), (25, 0), (24, 1), (27, 0), (24, 2), (5, 9), (0, 2), (30, 0), (29, 0), (32, 0), (29, 1), (34, 0), (29, 2), (36, 0), (29, 3), (38, 0), (29, 4), (40, 0), (29, 5), (42, 0), (29, 6), (44, 0), (29, 7), (46, 0), (29, 8), (49, 0), (48, 1), (51, 0), (48, 2), (29, 9), (0, 3), (53, 4), (53, 5), (0, 4), (55, 0), (55, 1), (56, 0), (57, 0), (56, 1), (55, 2), (0, 5), (59, 7), (60, 0), (59, 0), (62, 0), (59, 1), (64, 0), (59, 2), (66, 0), (59, 3), (68, 0), (59, 4), (70, 0), (59, 8), (72, 0), (59, 9), (0, 6), (75, 0), (74, 0), (77, 0), (74, 1), (79, 0), (74, 2), (81, 0), (74, 3), (83, 0), (74, 4), (85, 0), (74, 5), (87, 0), (74, 6), (89, 0), (74, 7), (91, 0), (74, 8), (93, 0), (74, 9), (95, 0), (74, 10), (97, 0), (74, 11), (99, 0), (74, 12), (101, 0), (74, 13), (103, 0), (74, 14), (105, 0), (74, 15), (0, 7), (108, 0), (107, 0), (110, 0), (107, 1), (112, 0), (107, 2), (114, 0), (107, 3), (116, 0), (107, 4), (118, 0), (107, 5), (120, 0), (107, 6), (122, 0), (107, 7), (124, 0), (107, 8), (126, 0), (107, 9), (128, 0), (107, 10), (130, 0), (107, 11), (132, 0), (107, 12), (134, 0), (107, 13), (136, 0), (107, 14), (138, 0), (107, 15), (0, 8), (141, 0), (140, 0), (143, 0), (140, 1), (145, 0), (140, 2), (147, 0), (140, 3), (149, 0), (140, 4), (151, 0), (140, 5), (153, 0), (140, 6), (155, 0), (140, 7), (157, 0), (140, 8), (159, 0), (140, 9), (161, 0), (140, 10), (163, 0), (140, 11), (165, 0), (140, 12), (167, 0), (140, 13), (169, 0), (140, 14), (171, 0), (140, 15), (0, 9), (174, 0), (173, 0), (176, 0), (173, 1), (178, 0), (173, 2), (180, 0), (173, 3), (182, 0), (173, 4), (184, 0), (173, 5), (186, 0), (173, 6), (188, 0), (173, 7), (190, 0), (173, 8), (192, 0), (173, 9), (194, 0), (173, 10), (196, 0), (173, 11), (198, 0), (173, 12), (200, 0), (173, 13), (202, 0), (173, 14), (204, 0), (173, 15), (0, 10), (207, 0), (206, 0), (209, 0), (206, 1), (211, 0), (206, 2), (213, 0), (206, 3), (215, 0), (206, 4), (217, 0), (206, 5), (219, 0), (206, 6), (221, 0), (206, 7), (223, 0), (206, 8), (225, 0), (206, 9), (227, 0), (206, 10), (229, 0), (206, 11), (231, 0), (206, 12), (233, 0), (206, 13), (235, 0), (206, 14), (237, 0), (206, 15), (0, 11), (239, 2), (239, 3), (239, 4), (240, 0), (239, 0), (0, 12), (242, 5), (242, 6), (242, 7), (243, 0), (242, 0), (245, 0), (242, 8), (247, 0), (242, 9), (0, 13), (249, 3), (250, 0), (249, 0), (252, 0), (249, 7), (254, 0), (249, 1), (256, 0), (249, 4), (258, 0), (249, 5), (260, 0), (249, 6), (0, 14), (262, 0), (262, 10), (262, 11), (262, 12), (262, 13), (262, 14), (262, 15), (262, 25), (262, 26), (262, 27), (262, 28), (262, 29), (262, 30), (262, 31), (262, 32), (262, 33), (262, 34), (262, 35), (262, 44), (262, 46), (262, 50), (262, 51), (262, 52), (262, 53), (262, 54), (262, 55), (262, 56), (262, 57), (262, 60), (262, 61), (262, 63), (262, 64), (262, 65), (262, 66), (262, 68), (262, 69), (262, 70), (262, 71), (262, 72), (262, 75), (262, 76), (262, 77), (262, 78), (262, 79)]
def RT (m : Nat) : Srf := fun k j => if (k, j) ∈ SQ.take m then R0 k j else 0
theorem RT_put {m k j r : Nat} (h : SQ[m]? = some (k, j)) (hr : R0 k j = r) : up2n (RT m) k j r = RT (m + 1) := by
  funext a b
  have ht : SQ.take (m + 1) = SQ.take m ++ [(k, j)] := by
    obtain ⟨hm, he⟩ := List.getElem?_eq_some_iff.mp h
    rw [List.take_succ_eq_append_getElem hm, he]
  unfold up2n RT
  rw [ht]
  by_cases e : a = k ∧ b = j
  · obtain ⟨rfl, rfl⟩ := e
    simp [hr]
  · have e2 : ¬ ((a, b) = (k, j)) := fun q => e (by cases q; exact ⟨rfl, rfl⟩)
    rw [if_neg e]
    simp [e]
theorem R0_out {k j : Nat} (h : R0 k j ≠ 0) : k < 307 ∧ j < 100 := by
  unfold R0 at h
  have hl : R0l.length = 307 := by decide +kernel
  have hj : ∀ x ∈ R0l, x.length ≤ 100 := by decide +kernel
  simp only [List.getD_eq_getElem?_getD] at h
  cases hk : R0l[k]? with
  | none => rw [hk] at h; simp at h
  | some x =>
    rw [hk] at h
    have hk2 := (List.getElem?_eq_some_iff.mp hk).1
    refine ⟨by omega, ?_⟩
    have h3 := hj x (List.mem_of_getElem? hk)
    cases hx : x[j]? with
    | none => simp [hx] at h
    | some v =>
      have := (List.getElem?_eq_some_iff.mp hx).1
      omega
theorem RT_all : RT SQ.length = R0 := by
  funext k j
  unfold RT
  rw [List.take_length]
  by_cases h : R0 k j = 0
  · rw [h]; split <;> rfl
  · obtain ⟨h1, h2⟩ := R0_out h
    have key : ((List.range 307).all fun k => (List.range 100).all fun j => R0 k j == 0 || SQ.contains (k, j)) = true := by decide +kernel
    have k2 := List.all_eq_true.mp (List.all_eq_true.mp key k (List.mem_range.mpr h1)) j (List.mem_range.mpr h2)
    rw [if_pos (by
      rcases Bool.or_eq_true _ _ ▸ k2 with e | e
      · exact absurd (by simpa using e) h
      · simpa using e)]
section CTOR
variable {γ : Type} {E : EwT} {K : KxT} {bf : γ} {n : Nat} {R : Srf} {S : Sst} {O : Smo} {cs sl : Nat} {L : List (Nat × Value)} {pc : Nat} {st : List Value} {t : γ}
variable {y : MethodName} {cc : ByteArray} {nL f lo fc fs : Nat} {rm : Room} {ret : Option FieldType} {ci : Nat} {Cn : String} {T : u_T} {N : Nat} {ty : Nat → FieldType} {k j idx m : Nat}
theorem r_putRT {r : Nat} {cn : String} (C : Cx E K y cc nL rm ret) (hC : ClsOK ci Cn T N ty) (hk : Kd k = ci) (hn : k < n) (hj : j < N) (hf : fkd ci j = 2) (hfin : (T j).2.2.2 = true ∧ y.name = "<init>" ∧ Cn = y.cls) (h0 : r ≠ 0) (hty : ty j = .object cn ∨ ∃ ft, ty j = .array ft) (hm : SQ[m]? = some (k, j)) (hr : R0 k j = r) (q : Cond.fieldLink y.cls idx Cn (T j).2.1 (T j).2.2.1 ∈ TB) (d : decode cc pc = .ok (.putfield idx, 3))
    (g : GG E K bf n (RT (m + 1)) S O cs sl L (pc + 3) st t) : GG E K bf n (RT m) S O cs sl L pc (.ref (zad E r) :: .ref (zad E k) :: st) t :=
  r_putR C hC hk hn hj hf hfin h0 hty q d (by rw [RT_put hm hr]; exact g)
theorem r_newiN {n : Nat} {z : Int} (hN : Ln n = N) (C : Cx E K y cc nL (rmk f lo fc fs) ret) (hk : Kd n = 100 ∨ Kd n = 101) (hz : z = (N : Int)) (q : Cond.arrayClass .int ∈ TB) (d : decode cc pc = .ok (.newarray .int, 2)) (hb : N ≤ 100000) (h3 : cs + 1 ≤ fc) (h4 : sl + N ≤ fs)
    (g : GG E K bf (n + 1) R S O (cs + 1) (sl + N) L (pc + 2) (.ref (zad E n) :: st) t) : GG E K bf n R S O cs sl L pc (.int (zi z) :: st) t := by
  subst hN
  exact r_newi C hk hz q d hb h3 h4 g
theorem r_newlN {n : Nat} {z : Int} (hN : Ln n = N) (C : Cx E K y cc nL (rmk f lo fc fs) ret) (hk : Kd n = 102) (hz : z = (N : Int)) (q : Cond.arrayClass .long ∈ TB) (d : decode cc pc = .ok (.newarray .long, 2)) (hb : N ≤ 100000) (h3 : cs + 1 ≤ fc) (h4 : sl + N ≤ fs)
    (g : GG E K bf (n + 1) R S O (cs + 1) (sl + N) L (pc + 2) (.ref (zad E n) :: st) t) : GG E K bf n R S O cs sl L pc (.int (zi z) :: st) t := by
  subst hN
  exact r_newl C hk hz q d hb h3 h4 g
theorem r_newzN {n : Nat} {z : Int} (hN : Ln n = N) (C : Cx E K y cc nL (rmk f lo fc fs) ret) (hk : Kd n = 103) (hz : z = (N : Int)) (q : Cond.arrayClass .boolean ∈ TB) (d : decode cc pc = .ok (.newarray .boolean, 2)) (hb : N ≤ 100000) (h3 : cs + 1 ≤ fc) (h4 : sl + N ≤ fs)
    (g : GG E K bf (n + 1) R S O (cs + 1) (sl + N) L (pc + 2) (.ref (zad E n) :: st) t) : GG E K bf n R S O cs sl L pc (.int (zi z) :: st) t := by
  subst hN
  exact r_newz C hk hz q d hb h3 h4 g
end CTOR
set_option maxRecDepth 100000 in
set_option maxHeartbeats 4000000 in
theorem i_X6 {l : Launch} {E : EwT} {S : Sst} {O : Smo} {p m N : Nat} {a1 : Int} (h6 : Kd p = 6) (hc : p + 1 < nC) (hm : SQ[m]? = some (p, 0)) (hr : R0 p 0 = p + 1) (hN : Ln (p + 1) = N) (ha : a1 = (N : Int)) {q : Sst} (hq : f_X6_clear p S = q) : MetG l E yX6_init cX6_init 2 none 1 21 1 N (p + 1) (RT m) S O [.ref (zad E p), .int (zi a1)] True none (p + 2) (RT (m + 1)) q O := by
  have hNs := Ln_small (p + 1)
  have ha1 : IR a1 := ⟨by omega, by omega⟩
  refine ofG (L0 := [(0, .ref (zad E p)), (1, .int (zi a1))]) hq (by decide +kernel) (Nat.le_of_ble_eq_true rfl) rfl (fun K _ C hQ => ?_)
  refine r_aload_n (pc := 0) (j := 0) C dX6_init_0 rfl rfl ?_
  refine r_obj (pc := 1) C q_160 q_153 q_154 dX6_init_1 (Nat.le_of_ble_eq_true rfl) (by decide) (by decide) ?_
  refine r_aload_n (pc := 4) (j := 0) C dX6_init_4 rfl rfl ?_
  refine r_iload_n (pc := 5) (j := 1) C dX6_init_5 rfl rfl ?_
  refine r_iconst (v := 0) C dX6_init_6 (by decide) ?_
  refine r_cS1 (pc := 7) (As := [.int (zi a1), .int (zi 0)]) (st := [.ref (zad E p)]) C (m_J9_max_7cf53 (a0 := a1) (a1 := 0) ha1 (IRd rfl) rfl) cal_J9_max_7cf53 q_161 dX6_init_7 rfl rfl (Nat.le_of_ble_eq_true rfl) (Nat.le_of_ble_eq_true rfl) (Nat.le_of_ble_eq_true rfl) (by omega) (by omega) (fun _ => ?_)
  have hmx : f_J9_max_7cf53 a1 0 = (N : Int) := by
    unfold f_J9_max_7cf53
    split <;> omega
  refine r_newiN (n := p + 1) (N := N) hN C (Or.inr (Kd6 h6)) hmx q_171 dX6_init_10 (by omega) (by omega) (by omega) ?_
  refine r_putRT (cn := "") (m := m) (r := p + 1) C cl_X6 h6 (by omega) (by decide) rfl ⟨rfl, rfl, rfl⟩ (by omega) (Or.inr ⟨_, rfl⟩) hm hr q_164 dX6_init_12 ?_
  have g6 : gRw (p + 2) (RT (m + 1)) p := ⟨h6, by omega, hc, by rw [← RT_put hm hr]; simp [up2n]⟩
  refine r_aload_n (pc := 15) (j := 0) C dX6_init_15 rfl rfl ?_
  refine r_iconst (v := 0) C dX6_init_16 (by decide) ?_
  refine r_conv e_X6_clear ?_
  unfold g_X6_clear
  refine r_rowPut C g6 (IRd rfl) q_165 dX6_init_17 (fun S' => ?_)
  exact r_return (cs := 0 + 1) (sl := 0 + N) C (by rw [Nat.zero_add, Nat.zero_add]; exact hQ) dX6_init_20 (fun e => by cases e; exact ⟨trivial, rfl, rfl, rfl, rfl, rfl⟩)
def f_X1_init_24 (S : Sst) : Sst :=
  jn (f_X6_clear 25 S) fun (q10844 : Sst) =>
  jn (f_X6_clear 27 q10844) fun (q10846 : Sst) =>
  q10846
set_option maxRecDepth 100000 in
set_option maxHeartbeats 4000000 in
theorem i_X1_init_24 {l : Launch} {E : EwT} {S : Sst} {O : Smo} {q : Sst} (hq : f_X1_init_24 S = q) : MetG l E yX1_init cX1_init 1 none 2 42 4 368 25 (RT 22) S O [.ref (zad E 24)] True none 29 (RT 26) q O := by
  refine ofG (L0 := [(0, .ref (zad E 24))]) hq (by decide +kernel) (Nat.le_of_ble_eq_true rfl) rfl (fun K _ C hQ => ?_)
  unfold f_X1_init_24
  refine r_aload_n (pc := 0) (j := 0) C dX1_init_0 rfl rfl ?_
  refine r_obj (pc := 1) C q_185 q_153 q_154 dX1_init_1 (Nat.le_of_ble_eq_true rfl) (by decide) (by decide) ?_
  refine r_aload_n (pc := 4) (j := 0) C dX1_init_4 rfl rfl ?_
  refine r_new (n := 25) C cl_X6 kd_25 q_186 q_156 q_128 dX1_init_5 (by decide) (by decide) ?_
  refine r_dup C dX1_init_8 rfl ?_
  refine r_sipush (v := 300) C dX1_init_9 (by decide) ?_
  refine r_jn (fun q10844 e10845 => ?_)
  refine r_callI (pc := 12) (k := 25) (As := [.int (zi 300)]) (st := [.ref (zad E 25), .ref (zad E 24)]) C (i_X6 (p := 25) (m := 22) (N := 300) kd_25 (by decide) rfl (by decide +kernel) (by decide +kernel) (by decide +kernel) e10845) cal_X6_init q_187 dX1_init_12 rfl rfl (Nat.le_of_ble_eq_true rfl) (Nat.le_of_ble_eq_true rfl) (Nat.le_of_ble_eq_true rfl) (Nat.le_of_ble_eq_true rfl) (Nat.le_of_ble_eq_true rfl) (fun _ => ?_)
  refine r_putRT (m := 23) (r := 25) C cl_X1 kd_24 (by decide) (by decide) rfl ⟨rfl, rfl, rfl⟩ (by decide) (Or.inl rfl) rfl (by decide +kernel) q_191 dX1_init_15 ?_
  refine r_aload_n (pc := 18) (j := 0) C dX1_init_18 rfl rfl ?_
  refine r_new (n := 27) C cl_X6 kd_27 q_186 q_156 q_128 dX1_init_19 (by decide) (by decide) ?_
  refine r_dup C dX1_init_22 rfl ?_
  refine r_bipush (v := 64) C dX1_init_23 (by decide) ?_
  refine r_jn (fun q10846 e10847 => ?_)
  refine r_callI (pc := 25) (k := 27) (As := [.int (zi 64)]) (st := [.ref (zad E 27), .ref (zad E 24)]) C (i_X6 (p := 27) (m := 24) (N := 64) kd_27 (by decide) rfl (by decide +kernel) (by decide +kernel) (by decide +kernel) e10847) cal_X6_init q_187 dX1_init_25 rfl rfl (Nat.le_of_ble_eq_true rfl) (Nat.le_of_ble_eq_true rfl) (Nat.le_of_ble_eq_true rfl) (Nat.le_of_ble_eq_true rfl) (Nat.le_of_ble_eq_true rfl) (fun _ => ?_)
  refine r_putRT (m := 25) (r := 27) C cl_X1 kd_24 (by decide) (by decide) rfl ⟨rfl, rfl, rfl⟩ (by decide) (Or.inl rfl) rfl (by decide +kernel) q_192 dX1_init_28 ?_
  exact r_return C hQ dX1_init_31 (fun e => by subst e; exact ⟨trivial, rfl, rfl, rfl, rfl, rfl⟩)

def f_X4_init_5 (S : Sst) : Sst :=
  jn (f_X6_clear 6 S) fun (q10848 : Sst) =>
  jn (f_X6_clear 8 q10848) fun (q10850 : Sst) =>
  jn (f_X6_clear 10 q10850) fun (q10852 : Sst) =>
  jn (f_X6_clear 12 q10852) fun (q10854 : Sst) =>
  jn (f_X6_clear 14 q10854) fun (q10856 : Sst) =>
  jn (f_X6_clear 16 q10856) fun (q10858 : Sst) =>
  jn (f_X6_clear 18 q10858) fun (q10860 : Sst) =>
  jn (f_X6_clear 20 q10860) fun (q10862 : Sst) =>
  jn (f_X6_clear 22 q10862) fun (q10864 : Sst) =>
  jn (f_X1_init_24 q10864) fun (q10866 : Sst) =>
  jn (f_X4_clear 5 q10866) fun (q10869 : Sst) =>
  q10869
set_option maxRecDepth 100000 in
set_option maxHeartbeats 4000000 in
theorem i_X4_init_5 {l : Launch} {E : EwT} {S : Sst} {O : Smo} {q : Sst} (hq : f_X4_init_5 S = q) : MetG l E yX4_init cX4_init 1 none 3 62 23 469 6 (RT 4) S O [.ref (zad E 5)] True none 29 (RT 27) q O := by
  refine ofG (L0 := [(0, .ref (zad E 5))]) hq (by decide +kernel) (Nat.le_of_ble_eq_true rfl) rfl (fun K _ C hQ => ?_)
  unfold f_X4_init_5
  refine r_aload_n (pc := 0) (j := 0) C dX4_init_0 rfl rfl ?_
  refine r_obj (pc := 1) C q_177 q_153 q_154 dX4_init_1 (Nat.le_of_ble_eq_true rfl) (by decide) (by decide) ?_
  refine r_aload_n (pc := 4) (j := 0) C dX4_init_4 rfl rfl ?_
  refine r_new (n := 6) C cl_X6 kd_6 q_178 q_156 q_128 dX4_init_5 (by decide) (by decide) ?_
  refine r_dup C dX4_init_8 rfl ?_
  refine r_bipush (v := 8) C dX4_init_9 (by decide) ?_
  refine r_jn (fun q10848 e10849 => ?_)
  refine r_callI (pc := 11) (k := 6) (As := [.int (zi 8)]) (st := [.ref (zad E 6), .ref (zad E 5)]) C (i_X6 (p := 6) (m := 4) (N := 8) kd_6 (by decide) rfl (by decide +kernel) (by decide +kernel) (by decide +kernel) e10849) cal_X6_init q_179 dX4_init_11 rfl rfl (Nat.le_of_ble_eq_true rfl) (Nat.le_of_ble_eq_true rfl) (Nat.le_of_ble_eq_true rfl) (Nat.le_of_ble_eq_true rfl) (Nat.le_of_ble_eq_true rfl) (fun _ => ?_)
  refine r_putRT (m := 5) (r := 6) C cl_X4 kd_5 (by decide) (by decide) rfl ⟨rfl, rfl, rfl⟩ (by decide) (Or.inl rfl) rfl (by decide +kernel) q_221 dX4_init_14 ?_
  refine r_aload_n (pc := 17) (j := 0) C dX4_init_17 rfl rfl ?_
  refine r_new (n := 8) C cl_X6 kd_8 q_178 q_156 q_128 dX4_init_18 (by decide) (by decide) ?_
  refine r_dup C dX4_init_21 rfl ?_
  refine r_bipush (v := 8) C dX4_init_22 (by decide) ?_
  refine r_jn (fun q10850 e10851 => ?_)
  refine r_callI (pc := 24) (k := 8) (As := [.int (zi 8)]) (st := [.ref (zad E 8), .ref (zad E 5)]) C (i_X6 (p := 8) (m := 6) (N := 8) kd_8 (by decide) rfl (by decide +kernel) (by decide +kernel) (by decide +kernel) e10851) cal_X6_init q_179 dX4_init_24 rfl rfl (Nat.le_of_ble_eq_true rfl) (Nat.le_of_ble_eq_true rfl) (Nat.le_of_ble_eq_true rfl) (Nat.le_of_ble_eq_true rfl) (Nat.le_of_ble_eq_true rfl) (fun _ => ?_)
  refine r_putRT (m := 7) (r := 8) C cl_X4 kd_5 (by decide) (by decide) rfl ⟨rfl, rfl, rfl⟩ (by decide) (Or.inl rfl) rfl (by decide +kernel) q_223 dX4_init_27 ?_
  refine r_aload_n (pc := 30) (j := 0) C dX4_init_30 rfl rfl ?_
  refine r_new (n := 10) C cl_X6 kd_10 q_178 q_156 q_128 dX4_init_31 (by decide) (by decide) ?_
  refine r_dup C dX4_init_34 rfl ?_
  refine r_bipush (v := 8) C dX4_init_35 (by decide) ?_
  refine r_jn (fun q10852 e10853 => ?_)
  refine r_callI (pc := 37) (k := 10) (As := [.int (zi 8)]) (st := [.ref (zad E 10), .ref (zad E 5)]) C (i_X6 (p := 10) (m := 8) (N := 8) kd_10 (by decide) rfl (by decide +kernel) (by decide +kernel) (by decide +kernel) e10853) cal_X6_init q_179 dX4_init_37 rfl rfl (Nat.le_of_ble_eq_true rfl) (Nat.le_of_ble_eq_true rfl) (Nat.le_of_ble_eq_true rfl) (Nat.le_of_ble_eq_true rfl) (Nat.le_of_ble_eq_true rfl) (fun _ => ?_)
  refine r_putRT (m := 9) (r := 10) C cl_X4 kd_5 (by decide) (by decide) rfl ⟨rfl, rfl, rfl⟩ (by decide) (Or.inl rfl) rfl (by decide +kernel) q_225 dX4_init_40 ?_
  refine r_aload_n (pc := 43) (j := 0) C dX4_init_43 rfl rfl ?_
  refine r_new (n := 12) C cl_X6 kd_12 q_178 q_156 q_128 dX4_init_44 (by decide) (by decide) ?_
  refine r_dup C dX4_init_47 rfl ?_
  refine r_bipush (v := 8) C dX4_init_48 (by decide) ?_
  refine r_jn (fun q10854 e10855 => ?_)
  refine r_callI (pc := 50) (k := 12) (As := [.int (zi 8)]) (st := [.ref (zad E 12), .ref (zad E 5)]) C (i_X6 (p := 12) (m := 10) (N := 8) kd_12 (by decide) rfl (by decide +kernel) (by decide +kernel) (by decide +kernel) e10855) cal_X6_init q_179 dX4_init_50 rfl rfl (Nat.le_of_ble_eq_true rfl) (Nat.le_of_ble_eq_true rfl) (Nat.le_of_ble_eq_true rfl) (Nat.le_of_ble_eq_true rfl) (Nat.le_of_ble_eq_true rfl) (fun _ => ?_)
  refine r_putRT (m := 11) (r := 12) C cl_X4 kd_5 (by decide) (by decide) rfl ⟨rfl, rfl, rfl⟩ (by decide) (Or.inl rfl) rfl (by decide +kernel) q_227 dX4_init_53 ?_
  refine r_aload_n (pc := 56) (j := 0) C dX4_init_56 rfl rfl ?_
  refine r_new (n := 14) C cl_X6 kd_14 q_178 q_156 q_128 dX4_init_57 (by decide) (by decide) ?_
  refine r_dup C dX4_init_60 rfl ?_
  refine r_bipush (v := 8) C dX4_init_61 (by decide) ?_
  refine r_jn (fun q10856 e10857 => ?_)
  refine r_callI (pc := 63) (k := 14) (As := [.int (zi 8)]) (st := [.ref (zad E 14), .ref (zad E 5)]) C (i_X6 (p := 14) (m := 12) (N := 8) kd_14 (by decide) rfl (by decide +kernel) (by decide +kernel) (by decide +kernel) e10857) cal_X6_init q_179 dX4_init_63 rfl rfl (Nat.le_of_ble_eq_true rfl) (Nat.le_of_ble_eq_true rfl) (Nat.le_of_ble_eq_true rfl) (Nat.le_of_ble_eq_true rfl) (Nat.le_of_ble_eq_true rfl) (fun _ => ?_)
  refine r_putRT (m := 13) (r := 14) C cl_X4 kd_5 (by decide) (by decide) rfl ⟨rfl, rfl, rfl⟩ (by decide) (Or.inl rfl) rfl (by decide +kernel) q_229 dX4_init_66 ?_
  refine r_aload_n (pc := 69) (j := 0) C dX4_init_69 rfl rfl ?_
  refine r_new (n := 16) C cl_X6 kd_16 q_178 q_156 q_128 dX4_init_70 (by decide) (by decide) ?_
  refine r_dup C dX4_init_73 rfl ?_
  refine r_bipush (v := 8) C dX4_init_74 (by decide) ?_
  refine r_jn (fun q10858 e10859 => ?_)
  refine r_callI (pc := 76) (k := 16) (As := [.int (zi 8)]) (st := [.ref (zad E 16), .ref (zad E 5)]) C (i_X6 (p := 16) (m := 14) (N := 8) kd_16 (by decide) rfl (by decide +kernel) (by decide +kernel) (by decide +kernel) e10859) cal_X6_init q_179 dX4_init_76 rfl rfl (Nat.le_of_ble_eq_true rfl) (Nat.le_of_ble_eq_true rfl) (Nat.le_of_ble_eq_true rfl) (Nat.le_of_ble_eq_true rfl) (Nat.le_of_ble_eq_true rfl) (fun _ => ?_)
  refine r_putRT (m := 15) (r := 16) C cl_X4 kd_5 (by decide) (by decide) rfl ⟨rfl, rfl, rfl⟩ (by decide) (Or.inl rfl) rfl (by decide +kernel) q_231 dX4_init_79 ?_
  refine r_aload_n (pc := 82) (j := 0) C dX4_init_82 rfl rfl ?_
  refine r_new (n := 18) C cl_X6 kd_18 q_178 q_156 q_128 dX4_init_83 (by decide) (by decide) ?_
  refine r_dup C dX4_init_86 rfl ?_
  refine r_bipush (v := 8) C dX4_init_87 (by decide) ?_
  refine r_jn (fun q10860 e10861 => ?_)
  refine r_callI (pc := 89) (k := 18) (As := [.int (zi 8)]) (st := [.ref (zad E 18), .ref (zad E 5)]) C (i_X6 (p := 18) (m := 16) (N := 8) kd_18 (by decide) rfl (by decide +kernel) (by decide +kernel) (by decide +kernel) e10861) cal_X6_init q_179 dX4_init_89 rfl rfl (Nat.le_of_ble_eq_true rfl) (Nat.le_of_ble_eq_true rfl) (Nat.le_of_ble_eq_true rfl) (Nat.le_of_ble_eq_true rfl) (Nat.le_of_ble_eq_true rfl) (fun _ => ?_)
  refine r_putRT (m := 17) (r := 18) C cl_X4 kd_5 (by decide) (by decide) rfl ⟨rfl, rfl, rfl⟩ (by decide) (Or.inl rfl) rfl (by decide +kernel) q_232 dX4_init_92 ?_
  refine r_aload_n (pc := 95) (j := 0) C dX4_init_95 rfl rfl ?_
  refine r_new (n := 20) C cl_X6 kd_20 q_178 q_156 q_128 dX4_init_96 (by decide) (by decide) ?_
  refine r_dup C dX4_init_99 rfl ?_
  refine r_bipush (v := 8) C dX4_init_100 (by decide) ?_
  refine r_jn (fun q10862 e10863 => ?_)
  refine r_callI (pc := 102) (k := 20) (As := [.int (zi 8)]) (st := [.ref (zad E 20), .ref (zad E 5)]) C (i_X6 (p := 20) (m := 18) (N := 8) kd_20 (by decide) rfl (by decide +kernel) (by decide +kernel) (by decide +kernel) e10863) cal_X6_init q_179 dX4_init_102 rfl rfl (Nat.le_of_ble_eq_true rfl) (Nat.le_of_ble_eq_true rfl) (Nat.le_of_ble_eq_true rfl) (Nat.le_of_ble_eq_true rfl) (Nat.le_of_ble_eq_true rfl) (fun _ => ?_)
  refine r_putRT (m := 19) (r := 20) C cl_X4 kd_5 (by decide) (by decide) rfl ⟨rfl, rfl, rfl⟩ (by decide) (Or.inl rfl) rfl (by decide +kernel) q_234 dX4_init_105 ?_
  refine r_aload_n (pc := 108) (j := 0) C dX4_init_108 rfl rfl ?_
  refine r_new (n := 22) C cl_X6 kd_22 q_178 q_156 q_128 dX4_init_109 (by decide) (by decide) ?_
  refine r_dup C dX4_init_112 rfl ?_
  refine r_bipush (v := 16) C dX4_init_113 (by decide) ?_
  refine r_jn (fun q10864 e10865 => ?_)
  refine r_callI (pc := 115) (k := 22) (As := [.int (zi 16)]) (st := [.ref (zad E 22), .ref (zad E 5)]) C (i_X6 (p := 22) (m := 20) (N := 16) kd_22 (by decide) rfl (by decide +kernel) (by decide +kernel) (by decide +kernel) e10865) cal_X6_init q_179 dX4_init_115 rfl rfl (Nat.le_of_ble_eq_true rfl) (Nat.le_of_ble_eq_true rfl) (Nat.le_of_ble_eq_true rfl) (Nat.le_of_ble_eq_true rfl) (Nat.le_of_ble_eq_true rfl) (fun _ => ?_)
  refine r_putRT (m := 21) (r := 22) C cl_X4 kd_5 (by decide) (by decide) rfl ⟨rfl, rfl, rfl⟩ (by decide) (Or.inl rfl) rfl (by decide +kernel) q_237 dX4_init_118 ?_
  refine r_aload_n (pc := 121) (j := 0) C dX4_init_121 rfl rfl ?_
  refine r_new (n := 24) C cl_X1 kd_24 q_180 q_181 q_131 dX4_init_122 (by decide) (by decide) ?_
  refine r_dup C dX4_init_125 rfl ?_
  refine r_jn (fun q10866 e10867 => ?_)
  refine r_callI (pc := 126) (k := 24) (As := []) (st := [.ref (zad E 24), .ref (zad E 5)]) C (i_X1_init_24 e10867) cal_X1_init q_182 dX4_init_126 rfl rfl (Nat.le_of_ble_eq_true rfl) (Nat.le_of_ble_eq_true rfl) (Nat.le_of_ble_eq_true rfl) (Nat.le_of_ble_eq_true rfl) (Nat.le_of_ble_eq_true rfl) (fun _ => ?_)
  refine r_putRT (m := 26) (r := 24) C cl_X4 kd_5 (by decide) (by decide) rfl ⟨rfl, rfl, rfl⟩ (by decide) (Or.inl rfl) rfl (by decide +kernel) q_241 dX4_init_129 ?_
  refine r_aload_n (pc := 132) (j := 0) C dX4_init_132 rfl rfl ?_
  refine r_jn (fun q10869 e10870 => ?_)
  refine r_cV0 (pc := 133) (k := 5) (As := []) (st := []) C (m_X4_clear (p := 5) (show gPl 29 (RT 27) 5 from ⟨by decide, by decide, by decide +kernel⟩) e10870) cal_X4_clear cl_X4 kd_5 (by decide) q_200 dX4_init_133 rfl rfl (Nat.le_of_ble_eq_true rfl) (Nat.le_of_ble_eq_true rfl) (Nat.le_of_ble_eq_true rfl) (Nat.le_of_ble_eq_true rfl) (Nat.le_of_ble_eq_true rfl) (fun h10868 => ?_)
  exact r_return C hQ dX4_init_136 (fun e => by subst e; exact ⟨trivial, rfl, rfl, rfl, rfl, rfl⟩)

def f_X1_init_48 (S : Sst) : Sst :=
  jn (f_X6_clear 49 S) fun (q10871 : Sst) =>
  jn (f_X6_clear 51 q10871) fun (q10873 : Sst) =>
  q10873
set_option maxRecDepth 100000 in
set_option maxHeartbeats 4000000 in
theorem i_X1_init_48 {l : Launch} {E : EwT} {S : Sst} {O : Smo} {q : Sst} (hq : f_X1_init_48 S = q) : MetG l E yX1_init cX1_init 1 none 2 42 4 368 49 (RT 46) S O [.ref (zad E 48)] True none 53 (RT 50) q O := by
  refine ofG (L0 := [(0, .ref (zad E 48))]) hq (by decide +kernel) (Nat.le_of_ble_eq_true rfl) rfl (fun K _ C hQ => ?_)
  unfold f_X1_init_48
  refine r_aload_n (pc := 0) (j := 0) C dX1_init_0 rfl rfl ?_
  refine r_obj (pc := 1) C q_185 q_153 q_154 dX1_init_1 (Nat.le_of_ble_eq_true rfl) (by decide) (by decide) ?_
  refine r_aload_n (pc := 4) (j := 0) C dX1_init_4 rfl rfl ?_
  refine r_new (n := 49) C cl_X6 kd_49 q_186 q_156 q_128 dX1_init_5 (by decide) (by decide) ?_
  refine r_dup C dX1_init_8 rfl ?_
  refine r_sipush (v := 300) C dX1_init_9 (by decide) ?_
  refine r_jn (fun q10871 e10872 => ?_)
  refine r_callI (pc := 12) (k := 49) (As := [.int (zi 300)]) (st := [.ref (zad E 49), .ref (zad E 48)]) C (i_X6 (p := 49) (m := 46) (N := 300) kd_49 (by decide) rfl (by decide +kernel) (by decide +kernel) (by decide +kernel) e10872) cal_X6_init q_187 dX1_init_12 rfl rfl (Nat.le_of_ble_eq_true rfl) (Nat.le_of_ble_eq_true rfl) (Nat.le_of_ble_eq_true rfl) (Nat.le_of_ble_eq_true rfl) (Nat.le_of_ble_eq_true rfl) (fun _ => ?_)
  refine r_putRT (m := 47) (r := 49) C cl_X1 kd_48 (by decide) (by decide) rfl ⟨rfl, rfl, rfl⟩ (by decide) (Or.inl rfl) rfl (by decide +kernel) q_191 dX1_init_15 ?_
  refine r_aload_n (pc := 18) (j := 0) C dX1_init_18 rfl rfl ?_
  refine r_new (n := 51) C cl_X6 kd_51 q_186 q_156 q_128 dX1_init_19 (by decide) (by decide) ?_
  refine r_dup C dX1_init_22 rfl ?_
  refine r_bipush (v := 64) C dX1_init_23 (by decide) ?_
  refine r_jn (fun q10873 e10874 => ?_)
  refine r_callI (pc := 25) (k := 51) (As := [.int (zi 64)]) (st := [.ref (zad E 51), .ref (zad E 48)]) C (i_X6 (p := 51) (m := 48) (N := 64) kd_51 (by decide) rfl (by decide +kernel) (by decide +kernel) (by decide +kernel) e10874) cal_X6_init q_187 dX1_init_25 rfl rfl (Nat.le_of_ble_eq_true rfl) (Nat.le_of_ble_eq_true rfl) (Nat.le_of_ble_eq_true rfl) (Nat.le_of_ble_eq_true rfl) (Nat.le_of_ble_eq_true rfl) (fun _ => ?_)
  refine r_putRT (m := 49) (r := 51) C cl_X1 kd_48 (by decide) (by decide) rfl ⟨rfl, rfl, rfl⟩ (by decide) (Or.inl rfl) rfl (by decide +kernel) q_192 dX1_init_28 ?_
  exact r_return C hQ dX1_init_31 (fun e => by subst e; exact ⟨trivial, rfl, rfl, rfl, rfl, rfl⟩)

def f_X4_init_29 (S : Sst) : Sst :=
  jn (f_X6_clear 30 S) fun (q10875 : Sst) =>
  jn (f_X6_clear 32 q10875) fun (q10877 : Sst) =>
  jn (f_X6_clear 34 q10877) fun (q10879 : Sst) =>
  jn (f_X6_clear 36 q10879) fun (q10881 : Sst) =>
  jn (f_X6_clear 38 q10881) fun (q10883 : Sst) =>
  jn (f_X6_clear 40 q10883) fun (q10885 : Sst) =>
  jn (f_X6_clear 42 q10885) fun (q10887 : Sst) =>
  jn (f_X6_clear 44 q10887) fun (q10889 : Sst) =>
  jn (f_X6_clear 46 q10889) fun (q10891 : Sst) =>
  jn (f_X1_init_48 q10891) fun (q10893 : Sst) =>
  jn (f_X4_clear 29 q10893) fun (q10896 : Sst) =>
  q10896
set_option maxRecDepth 100000 in
set_option maxHeartbeats 4000000 in
theorem i_X4_init_29 {l : Launch} {E : EwT} {S : Sst} {O : Smo} {q : Sst} (hq : f_X4_init_29 S = q) : MetG l E yX4_init cX4_init 1 none 3 62 23 469 30 (RT 28) S O [.ref (zad E 29)] True none 53 (RT 51) q O := by
  refine ofG (L0 := [(0, .ref (zad E 29))]) hq (by decide +kernel) (Nat.le_of_ble_eq_true rfl) rfl (fun K _ C hQ => ?_)
  unfold f_X4_init_29
  refine r_aload_n (pc := 0) (j := 0) C dX4_init_0 rfl rfl ?_
  refine r_obj (pc := 1) C q_177 q_153 q_154 dX4_init_1 (Nat.le_of_ble_eq_true rfl) (by decide) (by decide) ?_
  refine r_aload_n (pc := 4) (j := 0) C dX4_init_4 rfl rfl ?_
  refine r_new (n := 30) C cl_X6 kd_30 q_178 q_156 q_128 dX4_init_5 (by decide) (by decide) ?_
  refine r_dup C dX4_init_8 rfl ?_
  refine r_bipush (v := 8) C dX4_init_9 (by decide) ?_
  refine r_jn (fun q10875 e10876 => ?_)
  refine r_callI (pc := 11) (k := 30) (As := [.int (zi 8)]) (st := [.ref (zad E 30), .ref (zad E 29)]) C (i_X6 (p := 30) (m := 28) (N := 8) kd_30 (by decide) rfl (by decide +kernel) (by decide +kernel) (by decide +kernel) e10876) cal_X6_init q_179 dX4_init_11 rfl rfl (Nat.le_of_ble_eq_true rfl) (Nat.le_of_ble_eq_true rfl) (Nat.le_of_ble_eq_true rfl) (Nat.le_of_ble_eq_true rfl) (Nat.le_of_ble_eq_true rfl) (fun _ => ?_)
  refine r_putRT (m := 29) (r := 30) C cl_X4 kd_29 (by decide) (by decide) rfl ⟨rfl, rfl, rfl⟩ (by decide) (Or.inl rfl) rfl (by decide +kernel) q_221 dX4_init_14 ?_
  refine r_aload_n (pc := 17) (j := 0) C dX4_init_17 rfl rfl ?_
  refine r_new (n := 32) C cl_X6 kd_32 q_178 q_156 q_128 dX4_init_18 (by decide) (by decide) ?_
  refine r_dup C dX4_init_21 rfl ?_
  refine r_bipush (v := 8) C dX4_init_22 (by decide) ?_
  refine r_jn (fun q10877 e10878 => ?_)
  refine r_callI (pc := 24) (k := 32) (As := [.int (zi 8)]) (st := [.ref (zad E 32), .ref (zad E 29)]) C (i_X6 (p := 32) (m := 30) (N := 8) kd_32 (by decide) rfl (by decide +kernel) (by decide +kernel) (by decide +kernel) e10878) cal_X6_init q_179 dX4_init_24 rfl rfl (Nat.le_of_ble_eq_true rfl) (Nat.le_of_ble_eq_true rfl) (Nat.le_of_ble_eq_true rfl) (Nat.le_of_ble_eq_true rfl) (Nat.le_of_ble_eq_true rfl) (fun _ => ?_)
  refine r_putRT (m := 31) (r := 32) C cl_X4 kd_29 (by decide) (by decide) rfl ⟨rfl, rfl, rfl⟩ (by decide) (Or.inl rfl) rfl (by decide +kernel) q_223 dX4_init_27 ?_
  refine r_aload_n (pc := 30) (j := 0) C dX4_init_30 rfl rfl ?_
  refine r_new (n := 34) C cl_X6 kd_34 q_178 q_156 q_128 dX4_init_31 (by decide) (by decide) ?_
  refine r_dup C dX4_init_34 rfl ?_
  refine r_bipush (v := 8) C dX4_init_35 (by decide) ?_
  refine r_jn (fun q10879 e10880 => ?_)
  refine r_callI (pc := 37) (k := 34) (As := [.int (zi 8)]) (st := [.ref (zad E 34), .ref (zad E 29)]) C (i_X6 (p := 34) (m := 32) (N := 8) kd_34 (by decide) rfl (by decide +kernel) (by decide +kernel) (by decide +kernel) e10880) cal_X6_init q_179 dX4_init_37 rfl rfl (Nat.le_of_ble_eq_true rfl) (Nat.le_of_ble_eq_true rfl) (Nat.le_of_ble_eq_true rfl) (Nat.le_of_ble_eq_true rfl) (Nat.le_of_ble_eq_true rfl) (fun _ => ?_)
  refine r_putRT (m := 33) (r := 34) C cl_X4 kd_29 (by decide) (by decide) rfl ⟨rfl, rfl, rfl⟩ (by decide) (Or.inl rfl) rfl (by decide +kernel) q_225 dX4_init_40 ?_
  refine r_aload_n (pc := 43) (j := 0) C dX4_init_43 rfl rfl ?_
  refine r_new (n := 36) C cl_X6 kd_36 q_178 q_156 q_128 dX4_init_44 (by decide) (by decide) ?_
  refine r_dup C dX4_init_47 rfl ?_
  refine r_bipush (v := 8) C dX4_init_48 (by decide) ?_
  refine r_jn (fun q10881 e10882 => ?_)
  refine r_callI (pc := 50) (k := 36) (As := [.int (zi 8)]) (st := [.ref (zad E 36), .ref (zad E 29)]) C (i_X6 (p := 36) (m := 34) (N := 8) kd_36 (by decide) rfl (by decide +kernel) (by decide +kernel) (by decide +kernel) e10882) cal_X6_init q_179 dX4_init_50 rfl rfl (Nat.le_of_ble_eq_true rfl) (Nat.le_of_ble_eq_true rfl) (Nat.le_of_ble_eq_true rfl) (Nat.le_of_ble_eq_true rfl) (Nat.le_of_ble_eq_true rfl) (fun _ => ?_)
  refine r_putRT (m := 35) (r := 36) C cl_X4 kd_29 (by decide) (by decide) rfl ⟨rfl, rfl, rfl⟩ (by decide) (Or.inl rfl) rfl (by decide +kernel) q_227 dX4_init_53 ?_
  refine r_aload_n (pc := 56) (j := 0) C dX4_init_56 rfl rfl ?_
  refine r_new (n := 38) C cl_X6 kd_38 q_178 q_156 q_128 dX4_init_57 (by decide) (by decide) ?_
  refine r_dup C dX4_init_60 rfl ?_
  refine r_bipush (v := 8) C dX4_init_61 (by decide) ?_
  refine r_jn (fun q10883 e10884 => ?_)
  refine r_callI (pc := 63) (k := 38) (As := [.int (zi 8)]) (st := [.ref (zad E 38), .ref (zad E 29)]) C (i_X6 (p := 38) (m := 36) (N := 8) kd_38 (by decide) rfl (by decide +kernel) (by decide +kernel) (by decide +kernel) e10884) cal_X6_init q_179 dX4_init_63 rfl rfl (Nat.le_of_ble_eq_true rfl) (Nat.le_of_ble_eq_true rfl) (Nat.le_of_ble_eq_true rfl) (Nat.le_of_ble_eq_true rfl) (Nat.le_of_ble_eq_true rfl) (fun _ => ?_)
  refine r_putRT (m := 37) (r := 38) C cl_X4 kd_29 (by decide) (by decide) rfl ⟨rfl, rfl, rfl⟩ (by decide) (Or.inl rfl) rfl (by decide +kernel) q_229 dX4_init_66 ?_
  refine r_aload_n (pc := 69) (j := 0) C dX4_init_69 rfl rfl ?_
  refine r_new (n := 40) C cl_X6 kd_40 q_178 q_156 q_128 dX4_init_70 (by decide) (by decide) ?_
  refine r_dup C dX4_init_73 rfl ?_
  refine r_bipush (v := 8) C dX4_init_74 (by decide) ?_
  refine r_jn (fun q10885 e10886 => ?_)
  refine r_callI (pc := 76) (k := 40) (As := [.int (zi 8)]) (st := [.ref (zad E 40), .ref (zad E 29)]) C (i_X6 (p := 40) (m := 38) (N := 8) kd_40 (by decide) rfl (by decide +kernel) (by decide +kernel) (by decide +kernel) e10886) cal_X6_init q_179 dX4_init_76 rfl rfl (Nat.le_of_ble_eq_true rfl) (Nat.le_of_ble_eq_true rfl) (Nat.le_of_ble_eq_true rfl) (Nat.le_of_ble_eq_true rfl) (Nat.le_of_ble_eq_true rfl) (fun _ => ?_)
  refine r_putRT (m := 39) (r := 40) C cl_X4 kd_29 (by decide) (by decide) rfl ⟨rfl, rfl, rfl⟩ (by decide) (Or.inl rfl) rfl (by decide +kernel) q_231 dX4_init_79 ?_
  refine r_aload_n (pc := 82) (j := 0) C dX4_init_82 rfl rfl ?_
  refine r_new (n := 42) C cl_X6 kd_42 q_178 q_156 q_128 dX4_init_83 (by decide) (by decide) ?_
  refine r_dup C dX4_init_86 rfl ?_
  refine r_bipush (v := 8) C dX4_init_87 (by decide) ?_
  refine r_jn (fun q10887 e10888 => ?_)
  refine r_callI (pc := 89) (k := 42) (As := [.int (zi 8)]) (st := [.ref (zad E 42), .ref (zad E 29)]) C (i_X6 (p := 42) (m := 40) (N := 8) kd_42 (by decide) rfl (by decide +kernel) (by decide +kernel) (by decide +kernel) e10888) cal_X6_init q_179 dX4_init_89 rfl rfl (Nat.le_of_ble_eq_true rfl) (Nat.le_of_ble_eq_true rfl) (Nat.le_of_ble_eq_true rfl) (Nat.le_of_ble_eq_true rfl) (Nat.le_of_ble_eq_true rfl) (fun _ => ?_)
  refine r_putRT (m := 41) (r := 42) C cl_X4 kd_29 (by decide) (by decide) rfl ⟨rfl, rfl, rfl⟩ (by decide) (Or.inl rfl) rfl (by decide +kernel) q_232 dX4_init_92 ?_
  refine r_aload_n (pc := 95) (j := 0) C dX4_init_95 rfl rfl ?_
  refine r_new (n := 44) C cl_X6 kd_44 q_178 q_156 q_128 dX4_init_96 (by decide) (by decide) ?_
  refine r_dup C dX4_init_99 rfl ?_
  refine r_bipush (v := 8) C dX4_init_100 (by decide) ?_
  refine r_jn (fun q10889 e10890 => ?_)
  refine r_callI (pc := 102) (k := 44) (As := [.int (zi 8)]) (st := [.ref (zad E 44), .ref (zad E 29)]) C (i_X6 (p := 44) (m := 42) (N := 8) kd_44 (by decide) rfl (by decide +kernel) (by decide +kernel) (by decide +kernel) e10890) cal_X6_init q_179 dX4_init_102 rfl rfl (Nat.le_of_ble_eq_true rfl) (Nat.le_of_ble_eq_true rfl) (Nat.le_of_ble_eq_true rfl) (Nat.le_of_ble_eq_true rfl) (Nat.le_of_ble_eq_true rfl) (fun _ => ?_)
  refine r_putRT (m := 43) (r := 44) C cl_X4 kd_29 (by decide) (by decide) rfl ⟨rfl, rfl, rfl⟩ (by decide) (Or.inl rfl) rfl (by decide +kernel) q_234 dX4_init_105 ?_
  refine r_aload_n (pc := 108) (j := 0) C dX4_init_108 rfl rfl ?_
  refine r_new (n := 46) C cl_X6 kd_46 q_178 q_156 q_128 dX4_init_109 (by decide) (by decide) ?_
  refine r_dup C dX4_init_112 rfl ?_
  refine r_bipush (v := 16) C dX4_init_113 (by decide) ?_
  refine r_jn (fun q10891 e10892 => ?_)
  refine r_callI (pc := 115) (k := 46) (As := [.int (zi 16)]) (st := [.ref (zad E 46), .ref (zad E 29)]) C (i_X6 (p := 46) (m := 44) (N := 16) kd_46 (by decide) rfl (by decide +kernel) (by decide +kernel) (by decide +kernel) e10892) cal_X6_init q_179 dX4_init_115 rfl rfl (Nat.le_of_ble_eq_true rfl) (Nat.le_of_ble_eq_true rfl) (Nat.le_of_ble_eq_true rfl) (Nat.le_of_ble_eq_true rfl) (Nat.le_of_ble_eq_true rfl) (fun _ => ?_)
  refine r_putRT (m := 45) (r := 46) C cl_X4 kd_29 (by decide) (by decide) rfl ⟨rfl, rfl, rfl⟩ (by decide) (Or.inl rfl) rfl (by decide +kernel) q_237 dX4_init_118 ?_
  refine r_aload_n (pc := 121) (j := 0) C dX4_init_121 rfl rfl ?_
  refine r_new (n := 48) C cl_X1 kd_48 q_180 q_181 q_131 dX4_init_122 (by decide) (by decide) ?_
  refine r_dup C dX4_init_125 rfl ?_
  refine r_jn (fun q10893 e10894 => ?_)
  refine r_callI (pc := 126) (k := 48) (As := []) (st := [.ref (zad E 48), .ref (zad E 29)]) C (i_X1_init_48 e10894) cal_X1_init q_182 dX4_init_126 rfl rfl (Nat.le_of_ble_eq_true rfl) (Nat.le_of_ble_eq_true rfl) (Nat.le_of_ble_eq_true rfl) (Nat.le_of_ble_eq_true rfl) (Nat.le_of_ble_eq_true rfl) (fun _ => ?_)
  refine r_putRT (m := 50) (r := 48) C cl_X4 kd_29 (by decide) (by decide) rfl ⟨rfl, rfl, rfl⟩ (by decide) (Or.inl rfl) rfl (by decide +kernel) q_241 dX4_init_129 ?_
  refine r_aload_n (pc := 132) (j := 0) C dX4_init_132 rfl rfl ?_
  refine r_jn (fun q10896 e10897 => ?_)
  refine r_cV0 (pc := 133) (k := 29) (As := []) (st := []) C (m_X4_clear (p := 29) (show gPl 53 (RT 51) 29 from ⟨by decide, by decide, by decide +kernel⟩) e10897) cal_X4_clear cl_X4 kd_29 (by decide) q_200 dX4_init_133 rfl rfl (Nat.le_of_ble_eq_true rfl) (Nat.le_of_ble_eq_true rfl) (Nat.le_of_ble_eq_true rfl) (Nat.le_of_ble_eq_true rfl) (Nat.le_of_ble_eq_true rfl) (fun h10895 => ?_)
  exact r_return C hQ dX4_init_136 (fun e => by subst e; exact ⟨trivial, rfl, rfl, rfl, rfl, rfl⟩)

def f_X3_init_53 (S : Sst) : Option Sst :=
  jn (upS S 53 3 (-1)) fun (S10921 : Sst) =>
  Option.bind (lp (fun (s10922 : Int × Int × Sst) =>
    if s10922.2.1 < f_J0_length_8abf5 0 then
      (Option.bind (f_J0_charAt_5068e 0 s10922.2.1) fun (q10931 : Int) =>
      Option.bind (
        if q10931 = 32 then
          (Option.bind (f_X3_addWord s10922.1 s10922.2.2) fun (q10939 : Sst) =>
          some (0, q10939))
        else
          (jn (f_X3_spell s10922.1 q10931) fun (v10942 : Int) =>
          some (v10942, s10922.2.2))) fun (q10933 : Int × Sst) =>
      some (Sum.inl (q10933.1, wr (s10922.2.1 + 1), q10933.2)))
    else
      (some (Sum.inr s10922.2.2))) FU (0, 0, S10921)) fun (r10944 : Sst) =>
  some r10944
set_option maxRecDepth 100000 in
set_option maxHeartbeats 4000000 in
theorem i_X3_init_53 {l : Launch} {E : EwT} {S : Sst} {O : Smo} {q : Sst} (hq : f_X3_init_53 S = some q) : MetG l E yX3_init cX3_init 6 none 5 141 1 22 54 (RT 52) S O [.ref (zad E 53), .ref (zad E 1)] True none 55 (RT 54) q O := by
  refine ofG (L0 := [(0, .ref (zad E 53)), (1, .ref (zad E 1))]) hq (by decide +kernel) (Nat.le_of_ble_eq_true rfl) rfl (fun K _ C hQ => ?_)
  unfold f_X3_init_53
  refine r_aload_n (pc := 0) (j := 0) C dX3_init_0 rfl rfl ?_
  refine r_obj (pc := 1) C q_283 q_153 q_154 dX3_init_1 (Nat.le_of_ble_eq_true rfl) (by decide) (by decide) ?_
  refine r_aload_n (pc := 4) (j := 0) C dX3_init_4 rfl rfl ?_
  refine r_aload_n (pc := 5) (j := 1) C dX3_init_5 rfl rfl ?_
  refine r_putRT (m := 52) (r := 1) C cl_X3 kd_53 (by decide) (by decide) rfl ⟨rfl, rfl, rfl⟩ (by decide) (Or.inl rfl) rfl (by decide +kernel) q_351 dX3_init_6 ?_
  refine r_aload_n (pc := 9) (j := 0) C dX3_init_9 rfl rfl ?_
  refine r_bipush (v := 22) C dX3_init_10 (by decide) ?_
  refine r_newlN (n := 54) (N := 22) (by decide +kernel) C kd_54 rfl q_378 dX3_init_12 (by decide) (by decide) (by decide) ?_
  refine r_putRT (cn := "") (m := 53) (r := 54) C cl_X3 kd_53 (by decide) (by decide) rfl ⟨rfl, rfl, rfl⟩ (by decide) (Or.inr ⟨_, rfl⟩) rfl (by decide +kernel) q_352 dX3_init_14 ?_
  refine r_aload_n (pc := 17) (j := 0) C dX3_init_17 rfl rfl ?_
  refine r_iconst (v := (-1)) C dX3_init_18 (by decide) ?_
  refine r_putS C cl_X3 kd_53 (by decide) lc_53 (by decide) (by decide) rfl rfl rfl (IRd rfl) q_349 dX3_init_19 (fun S10921 => ?_)
  refine r_lconst (v := 0) C dX3_init_22 (by decide) ?_
  refine r_lstore_n (L' := [(2, .long (zl 0)), (0, .ref (zad E 53)), (1, .ref (zad E 1))]) C dX3_init_23 rfl (by decide) rfl ?_
  refine r_iconst (v := 0) C dX3_init_24 (by decide) ?_
  refine r_istore (L' := [(4, .int (zi 0)), (2, .long (zl 0)), (0, .ref (zad E 53)), (1, .ref (zad E 1))]) C dX3_init_25 (by decide) rfl ?_
  refine r_L (L' := [(0, .ref (zad E 53)), (2, .long (zl 0)), (4, .int (zi 0))]) [2, 1, 0] rfl ?_
  refine r_loop1 (fun s10922 : Int × Int × Sst => LR s10922.1 ∧ IR s10922.2.1) (fun s10922 => s10922.2.2) (fun s10922 => O) (fun s10922 => [(0, .ref (zad E 53)), (2, .long (zl s10922.1)), (4, .int (zi s10922.2.1))]) [] (fun r10944 : Sst => True) (fun r10944 => r10944) (fun r10944 => O) (fun r10944 => []) 76 (fun r10944 h10945 => ?_) (fun k10924 k10926 k10925 k10927 s10922 h10923 => ?_) ⟨(LRd rfl), (IRd rfl)⟩
  · exact r_return C hQ dX3_init_76 (fun e => by cases e; exact ⟨trivial, rfl, rfl, rfl, rfl, rfl⟩)
  · refine r_iload (pc := 27) (j := 2) C dX3_init_27 rfl ?_
    refine r_ldcS0 C rfl dX3_init_29 ?_
    refine r_cStr1 (pc := 31) (i := 0) (As := []) (st := [.int (zi s10922.2.1)]) (by decide) C (m_J0_length_8abf5 (i := 0) (by decide) rfl) cal_J0_length_8abf5 rfl q_285 dX3_init_31 rfl rfl (Nat.le_of_ble_eq_true rfl) (Nat.le_of_ble_eq_true rfl) (Nat.le_of_ble_eq_true rfl) (Nat.le_of_ble_eq_true rfl) (Nat.le_of_ble_eq_true rfl) (fun h10928 => ?_)
    refine r_icmp_ge (tgt := 76) C h10923.2 h10928 dX3_init_34 (by decide) (fun c10929 => ?_) (fun c10929 => ?_)
    · refine r_bf c10929 ?_
      refine r_L (L' := []) [] rfl ?_
      exact k10927 s10922.2.2 trivial
    · refine r_bt c10929 ?_
      refine r_ldcS0 C rfl dX3_init_37 ?_
      refine r_iload (pc := 39) (j := 2) C dX3_init_39 rfl ?_
      refine r_bb ?_
      refine r_bd (fun q10931 e10932 => ?_)
      refine r_cStr1 (pc := 41) (i := 0) (As := [.int (zi s10922.2.1)]) (st := []) (by decide) C (m_J0_charAt_5068e (i := 0) (a1 := s10922.2.1) (by decide) h10923.2 e10932) cal_J0_charAt_5068e rfl q_295 dX3_init_41 rfl rfl (Nat.le_of_ble_eq_true rfl) (Nat.le_of_ble_eq_true rfl) (Nat.le_of_ble_eq_true rfl) (Nat.le_of_ble_eq_true rfl) (Nat.le_of_ble_eq_true rfl) (fun h10930 => ?_)
      refine r_istore (L' := [(5, .int (zi q10931)), (0, .ref (zad E 53)), (2, .long (zl s10922.1)), (4, .int (zi s10922.2.1))]) C dX3_init_44 (by decide) rfl ?_
      refine r_iload (pc := 46) (j := 0) C dX3_init_46 rfl ?_
      refine r_bipush (v := 32) C dX3_init_48 (by decide) ?_
      refine r_bb ?_
      refine r_joinb (fun q10933 : Int × Sst => LR q10933.1) (fun q10933 => q10933.2) (fun q10933 => O) (fun q10933 => [(0, .ref (zad E 53)), (2, .long (zl q10933.1)), (4, .int (zi s10922.2.1))]) 70 (fun q10933 => []) (fun q10933 h10934 => ?_) (fun k10935 k10936 => ?_)
      · refine r_iinc (j := 2) (L' := [(4, .int (zi (wr (s10922.2.1 + 1)))), (0, .ref (zad E 53)), (2, .long (zl q10933.1))]) C dX3_init_70 rfl (by decide) rfl ?_
        refine r_goto (tgt := 27) C dX3_init_73 (by decide) ?_
        refine r_L (L' := [(0, .ref (zad E 53)), (2, .long (zl q10933.1)), (4, .int (zi (wr (s10922.2.1 + 1))))]) [1, 2, 0] rfl ?_
        exact k10925 (q10933.1, wr (s10922.2.1 + 1), q10933.2) ⟨h10934, (IR_wr _)⟩
      · refine r_icmp_ne (tgt := 63) C h10930 (IRd rfl) dX3_init_50 (by decide) (fun c10937 => ?_) (fun c10937 => ?_)
        · refine r_bf c10937 ?_
          refine r_lload_n (pc := 63) (j := 2) C dX3_init_63 rfl rfl ?_
          refine r_iload (pc := 64) (j := 0) C dX3_init_64 rfl ?_
          refine r_cS1 (pc := 66) (As := [.long (zl s10922.1), .int (zi q10931)]) (st := []) C (m_X3_spell (a0 := s10922.1) (a2 := q10931) h10923.1 h10930 rfl) cal_X3_spell q_337 dX3_init_66 rfl rfl (Nat.le_of_ble_eq_true rfl) (Nat.le_of_ble_eq_true rfl) (Nat.le_of_ble_eq_true rfl) (Nat.le_of_ble_eq_true rfl) (Nat.le_of_ble_eq_true rfl) (fun h10941 => ?_)
          refine r_bj ?_
          refine r_jvl h10941 (fun v10942 h10943 => ?_)
          refine r_lstore_n (L' := [(2, .long (zl v10942)), (5, .int (zi q10931)), (0, .ref (zad E 53)), (4, .int (zi s10922.2.1))]) C dX3_init_69 rfl (by decide) rfl ?_
          refine r_L (L' := [(0, .ref (zad E 53)), (2, .long (zl v10942)), (4, .int (zi s10922.2.1))]) [2, 0, 3] rfl ?_
          exact k10936 (v10942, s10922.2.2) h10943
        · refine r_bt c10937 ?_
          refine r_aload_n (pc := 53) (j := 1) C dX3_init_53 rfl rfl ?_
          refine r_lload_n (pc := 54) (j := 2) C dX3_init_54 rfl rfl ?_
          refine r_bb ?_
          refine r_bd (fun q10939 e10940 => ?_)
          refine r_cV0 (pc := 55) (k := 53) (As := [.long (zl s10922.1)]) (st := []) C (m_X3_addWord (a1 := s10922.1) h10923.1 ⟨by decide, by decide +kernel⟩ e10940) cal_X3_addWord cl_X3 kd_53 (by decide) q_333 dX3_init_55 rfl rfl (Nat.le_of_ble_eq_true rfl) (Nat.le_of_ble_eq_true rfl) (Nat.le_of_ble_eq_true rfl) (Nat.le_of_ble_eq_true rfl) (Nat.le_of_ble_eq_true rfl) (fun h10938 => ?_)
          refine r_lconst (v := 0) C dX3_init_58 (by decide) ?_
          refine r_lstore_n (L' := [(2, .long (zl 0)), (5, .int (zi q10931)), (0, .ref (zad E 53)), (4, .int (zi s10922.2.1))]) C dX3_init_59 rfl (by decide) rfl ?_
          refine r_goto (tgt := 70) C dX3_init_60 (by decide) ?_
          refine r_L (L' := [(0, .ref (zad E 53)), (2, .long (zl 0)), (4, .int (zi s10922.2.1))]) [2, 0, 3] rfl ?_
          exact k10936 (0, q10939) (LRd rfl)

def f_X2_init_56 (S : Sst) : Sst :=
  jn (f_X6_clear 57 S) fun (q10946 : Sst) =>
  q10946
set_option maxRecDepth 100000 in
set_option maxHeartbeats 4000000 in
theorem i_X2_init_56 {l : Launch} {E : EwT} {S : Sst} {O : Smo} {q : Sst} (hq : f_X2_init_56 S = q) : MetG l E yX2_init cX2_init 2 none 2 42 2 66 57 (RT 57) S O [.ref (zad E 56), .ref (zad E 53)] True none 59 (RT 60) q O := by
  refine ofG (L0 := [(0, .ref (zad E 56)), (1, .ref (zad E 53))]) hq (by decide +kernel) (Nat.le_of_ble_eq_true rfl) rfl (fun K _ C hQ => ?_)
  unfold f_X2_init_56
  refine r_aload_n (pc := 0) (j := 0) C dX2_init_0 rfl rfl ?_
  refine r_obj (pc := 1) C q_391 q_153 q_154 dX2_init_1 (Nat.le_of_ble_eq_true rfl) (by decide) (by decide) ?_
  refine r_aload_n (pc := 4) (j := 0) C dX2_init_4 rfl rfl ?_
  refine r_aload_n (pc := 5) (j := 1) C dX2_init_5 rfl rfl ?_
  refine r_putRT (m := 57) (r := 53) C cl_X2 kd_56 (by decide) (by decide) rfl ⟨rfl, rfl, rfl⟩ (by decide) (Or.inl rfl) rfl (by decide +kernel) q_394 dX2_init_6 ?_
  refine r_aload_n (pc := 9) (j := 0) C dX2_init_9 rfl rfl ?_
  refine r_new (n := 57) C cl_X6 kd_57 q_392 q_156 q_128 dX2_init_10 (by decide) (by decide) ?_
  refine r_dup C dX2_init_13 rfl ?_
  refine r_bipush (v := 64) C dX2_init_14 (by decide) ?_
  refine r_jn (fun q10946 e10947 => ?_)
  refine r_callI (pc := 16) (k := 57) (As := [.int (zi 64)]) (st := [.ref (zad E 57), .ref (zad E 56)]) C (i_X6 (p := 57) (m := 58) (N := 64) kd_57 (by decide) rfl (by decide +kernel) (by decide +kernel) (by decide +kernel) e10947) cal_X6_init q_393 dX2_init_16 rfl rfl (Nat.le_of_ble_eq_true rfl) (Nat.le_of_ble_eq_true rfl) (Nat.le_of_ble_eq_true rfl) (Nat.le_of_ble_eq_true rfl) (Nat.le_of_ble_eq_true rfl) (fun _ => ?_)
  refine r_putRT (m := 59) (r := 57) C cl_X2 kd_56 (by decide) (by decide) rfl ⟨rfl, rfl, rfl⟩ (by decide) (Or.inl rfl) rfl (by decide +kernel) q_395 dX2_init_19 ?_
  exact r_return C hQ dX2_init_22 (fun e => by subst e; exact ⟨trivial, rfl, rfl, rfl, rfl, rfl⟩)

def f_X5_init_55 (S : Sst) : Sst :=
  jn (f_X2_init_56 S) fun (q10948 : Sst) =>
  q10948
set_option maxRecDepth 100000 in
set_option maxHeartbeats 4000000 in
theorem i_X5_init_55 {l : Launch} {E : EwT} {S : Sst} {O : Smo} {q : Sst} (hq : f_X5_init_55 S = q) : MetG l E yX5_init cX5_init 3 none 3 63 3 69 56 (RT 55) S O [.ref (zad E 55), .ref (zad E 53), .ref (zad E 5)] True none 59 (RT 61) q O := by
  refine ofG (L0 := [(0, .ref (zad E 55)), (1, .ref (zad E 53)), (2, .ref (zad E 5))]) hq (by decide +kernel) (Nat.le_of_ble_eq_true rfl) rfl (fun K _ C hQ => ?_)
  unfold f_X5_init_55
  refine r_aload_n (pc := 0) (j := 0) C dX5_init_0 rfl rfl ?_
  refine r_obj (pc := 1) C q_385 q_153 q_154 dX5_init_1 (Nat.le_of_ble_eq_true rfl) (by decide) (by decide) ?_
  refine r_aload_n (pc := 4) (j := 0) C dX5_init_4 rfl rfl ?_
  refine r_aload_n (pc := 5) (j := 1) C dX5_init_5 rfl rfl ?_
  refine r_putRT (m := 55) (r := 53) C cl_X5 kd_55 (by decide) (by decide) rfl ⟨rfl, rfl, rfl⟩ (by decide) (Or.inl rfl) rfl (by decide +kernel) q_404 dX5_init_6 ?_
  refine r_aload_n (pc := 9) (j := 0) C dX5_init_9 rfl rfl ?_
  refine r_aload_n (pc := 10) (j := 2) C dX5_init_10 rfl rfl ?_
  refine r_putRT (m := 56) (r := 5) C cl_X5 kd_55 (by decide) (by decide) rfl ⟨rfl, rfl, rfl⟩ (by decide) (Or.inl rfl) rfl (by decide +kernel) q_405 dX5_init_11 ?_
  refine r_aload_n (pc := 14) (j := 0) C dX5_init_14 rfl rfl ?_
  refine r_new (n := 56) C cl_X2 kd_56 q_386 q_387 q_138 dX5_init_15 (by decide) (by decide) ?_
  refine r_dup C dX5_init_18 rfl ?_
  refine r_aload_n (pc := 19) (j := 1) C dX5_init_19 rfl rfl ?_
  refine r_jn (fun q10948 e10949 => ?_)
  refine r_callI (pc := 20) (k := 56) (As := [.ref (zad E 53)]) (st := [.ref (zad E 56), .ref (zad E 55)]) C (i_X2_init_56 e10949) cal_X2_init q_388 dX5_init_20 rfl rfl (Nat.le_of_ble_eq_true rfl) (Nat.le_of_ble_eq_true rfl) (Nat.le_of_ble_eq_true rfl) (Nat.le_of_ble_eq_true rfl) (Nat.le_of_ble_eq_true rfl) (fun _ => ?_)
  refine r_putRT (m := 60) (r := 56) C cl_X5 kd_55 (by decide) (by decide) rfl ⟨rfl, rfl, rfl⟩ (by decide) (Or.inl rfl) rfl (by decide +kernel) q_406 dX5_init_23 ?_
  exact r_return C hQ dX5_init_26 (fun e => by subst e; exact ⟨trivial, rfl, rfl, rfl, rfl, rfl⟩)

def f_X10_init_59 (S : Sst) : Sst :=
  jn (f_X6_clear 60 S) fun (q10950 : Sst) =>
  jn (f_X6_clear 62 q10950) fun (q10952 : Sst) =>
  jn (f_X6_clear 64 q10952) fun (q10954 : Sst) =>
  jn (f_X6_clear 66 q10954) fun (q10956 : Sst) =>
  jn (f_X6_clear 68 q10956) fun (q10958 : Sst) =>
  jn (f_X6_clear 70 q10958) fun (q10960 : Sst) =>
  jn (f_X6_clear 72 q10960) fun (q10962 : Sst) =>
  jn (upS q10962 59 5 (-1)) fun (S10964 : Sst) =>
  S10964
set_option maxRecDepth 100000 in
set_option maxHeartbeats 4000000 in
theorem i_X10_init_59 {l : Launch} {E : EwT} {S : Sst} {O : Smo} {q : Sst} (hq : f_X10_init_59 S = q) : MetG l E yX10_init cX10_init 2 none 2 42 14 70 60 (RT 62) S O [.ref (zad E 59), .ref (zad E 29)] True none 74 (RT 77) q O := by
  refine ofG (L0 := [(0, .ref (zad E 59)), (1, .ref (zad E 29))]) hq (by decide +kernel) (Nat.le_of_ble_eq_true rfl) rfl (fun K _ C hQ => ?_)
  unfold f_X10_init_59
  refine r_aload_n (pc := 0) (j := 0) C dX10_init_0 rfl rfl ?_
  refine r_obj (pc := 1) C q_428 q_153 q_154 dX10_init_1 (Nat.le_of_ble_eq_true rfl) (by decide) (by decide) ?_
  refine r_aload_n (pc := 4) (j := 0) C dX10_init_4 rfl rfl ?_
  refine r_aload_n (pc := 5) (j := 1) C dX10_init_5 rfl rfl ?_
  refine r_putRT (m := 62) (r := 29) C cl_X10 kd_59 (by decide) (by decide) rfl ⟨rfl, rfl, rfl⟩ (by decide) (Or.inl rfl) rfl (by decide +kernel) q_449 dX10_init_6 ?_
  refine r_aload_n (pc := 9) (j := 0) C dX10_init_9 rfl rfl ?_
  refine r_new (n := 60) C cl_X6 kd_60 q_429 q_156 q_128 dX10_init_10 (by decide) (by decide) ?_
  refine r_dup C dX10_init_13 rfl ?_
  refine r_bipush (v := 8) C dX10_init_14 (by decide) ?_
  refine r_jn (fun q10950 e10951 => ?_)
  refine r_callI (pc := 16) (k := 60) (As := [.int (zi 8)]) (st := [.ref (zad E 60), .ref (zad E 59)]) C (i_X6 (p := 60) (m := 63) (N := 8) kd_60 (by decide) rfl (by decide +kernel) (by decide +kernel) (by decide +kernel) e10951) cal_X6_init q_430 dX10_init_16 rfl rfl (Nat.le_of_ble_eq_true rfl) (Nat.le_of_ble_eq_true rfl) (Nat.le_of_ble_eq_true rfl) (Nat.le_of_ble_eq_true rfl) (Nat.le_of_ble_eq_true rfl) (fun _ => ?_)
  refine r_putRT (m := 64) (r := 60) C cl_X10 kd_59 (by decide) (by decide) rfl ⟨rfl, rfl, rfl⟩ (by decide) (Or.inl rfl) rfl (by decide +kernel) q_431 dX10_init_19 ?_
  refine r_aload_n (pc := 22) (j := 0) C dX10_init_22 rfl rfl ?_
  refine r_new (n := 62) C cl_X6 kd_62 q_429 q_156 q_128 dX10_init_23 (by decide) (by decide) ?_
  refine r_dup C dX10_init_26 rfl ?_
  refine r_bipush (v := 8) C dX10_init_27 (by decide) ?_
  refine r_jn (fun q10952 e10953 => ?_)
  refine r_callI (pc := 29) (k := 62) (As := [.int (zi 8)]) (st := [.ref (zad E 62), .ref (zad E 59)]) C (i_X6 (p := 62) (m := 65) (N := 8) kd_62 (by decide) rfl (by decide +kernel) (by decide +kernel) (by decide +kernel) e10953) cal_X6_init q_430 dX10_init_29 rfl rfl (Nat.le_of_ble_eq_true rfl) (Nat.le_of_ble_eq_true rfl) (Nat.le_of_ble_eq_true rfl) (Nat.le_of_ble_eq_true rfl) (Nat.le_of_ble_eq_true rfl) (fun _ => ?_)
  refine r_putRT (m := 66) (r := 62) C cl_X10 kd_59 (by decide) (by decide) rfl ⟨rfl, rfl, rfl⟩ (by decide) (Or.inl rfl) rfl (by decide +kernel) q_434 dX10_init_32 ?_
  refine r_aload_n (pc := 35) (j := 0) C dX10_init_35 rfl rfl ?_
  refine r_new (n := 64) C cl_X6 kd_64 q_429 q_156 q_128 dX10_init_36 (by decide) (by decide) ?_
  refine r_dup C dX10_init_39 rfl ?_
  refine r_bipush (v := 8) C dX10_init_40 (by decide) ?_
  refine r_jn (fun q10954 e10955 => ?_)
  refine r_callI (pc := 42) (k := 64) (As := [.int (zi 8)]) (st := [.ref (zad E 64), .ref (zad E 59)]) C (i_X6 (p := 64) (m := 67) (N := 8) kd_64 (by decide) rfl (by decide +kernel) (by decide +kernel) (by decide +kernel) e10955) cal_X6_init q_430 dX10_init_42 rfl rfl (Nat.le_of_ble_eq_true rfl) (Nat.le_of_ble_eq_true rfl) (Nat.le_of_ble_eq_true rfl) (Nat.le_of_ble_eq_true rfl) (Nat.le_of_ble_eq_true rfl) (fun _ => ?_)
  refine r_putRT (m := 68) (r := 64) C cl_X10 kd_59 (by decide) (by decide) rfl ⟨rfl, rfl, rfl⟩ (by decide) (Or.inl rfl) rfl (by decide +kernel) q_437 dX10_init_45 ?_
  refine r_aload_n (pc := 48) (j := 0) C dX10_init_48 rfl rfl ?_
  refine r_new (n := 66) C cl_X6 kd_66 q_429 q_156 q_128 dX10_init_49 (by decide) (by decide) ?_
  refine r_dup C dX10_init_52 rfl ?_
  refine r_bipush (v := 8) C dX10_init_53 (by decide) ?_
  refine r_jn (fun q10956 e10957 => ?_)
  refine r_callI (pc := 55) (k := 66) (As := [.int (zi 8)]) (st := [.ref (zad E 66), .ref (zad E 59)]) C (i_X6 (p := 66) (m := 69) (N := 8) kd_66 (by decide) rfl (by decide +kernel) (by decide +kernel) (by decide +kernel) e10957) cal_X6_init q_430 dX10_init_55 rfl rfl (Nat.le_of_ble_eq_true rfl) (Nat.le_of_ble_eq_true rfl) (Nat.le_of_ble_eq_true rfl) (Nat.le_of_ble_eq_true rfl) (Nat.le_of_ble_eq_true rfl) (fun _ => ?_)
  refine r_putRT (m := 70) (r := 66) C cl_X10 kd_59 (by decide) (by decide) rfl ⟨rfl, rfl, rfl⟩ (by decide) (Or.inl rfl) rfl (by decide +kernel) q_440 dX10_init_58 ?_
  refine r_aload_n (pc := 61) (j := 0) C dX10_init_61 rfl rfl ?_
  refine r_new (n := 68) C cl_X6 kd_68 q_429 q_156 q_128 dX10_init_62 (by decide) (by decide) ?_
  refine r_dup C dX10_init_65 rfl ?_
  refine r_bipush (v := 8) C dX10_init_66 (by decide) ?_
  refine r_jn (fun q10958 e10959 => ?_)
  refine r_callI (pc := 68) (k := 68) (As := [.int (zi 8)]) (st := [.ref (zad E 68), .ref (zad E 59)]) C (i_X6 (p := 68) (m := 71) (N := 8) kd_68 (by decide) rfl (by decide +kernel) (by decide +kernel) (by decide +kernel) e10959) cal_X6_init q_430 dX10_init_68 rfl rfl (Nat.le_of_ble_eq_true rfl) (Nat.le_of_ble_eq_true rfl) (Nat.le_of_ble_eq_true rfl) (Nat.le_of_ble_eq_true rfl) (Nat.le_of_ble_eq_true rfl) (fun _ => ?_)
  refine r_putRT (m := 72) (r := 68) C cl_X10 kd_59 (by decide) (by decide) rfl ⟨rfl, rfl, rfl⟩ (by decide) (Or.inl rfl) rfl (by decide +kernel) q_442 dX10_init_71 ?_
  refine r_aload_n (pc := 74) (j := 0) C dX10_init_74 rfl rfl ?_
  refine r_new (n := 70) C cl_X6 kd_70 q_429 q_156 q_128 dX10_init_75 (by decide) (by decide) ?_
  refine r_dup C dX10_init_78 rfl ?_
  refine r_bipush (v := 8) C dX10_init_79 (by decide) ?_
  refine r_jn (fun q10960 e10961 => ?_)
  refine r_callI (pc := 81) (k := 70) (As := [.int (zi 8)]) (st := [.ref (zad E 70), .ref (zad E 59)]) C (i_X6 (p := 70) (m := 73) (N := 8) kd_70 (by decide) rfl (by decide +kernel) (by decide +kernel) (by decide +kernel) e10961) cal_X6_init q_430 dX10_init_81 rfl rfl (Nat.le_of_ble_eq_true rfl) (Nat.le_of_ble_eq_true rfl) (Nat.le_of_ble_eq_true rfl) (Nat.le_of_ble_eq_true rfl) (Nat.le_of_ble_eq_true rfl) (fun _ => ?_)
  refine r_putRT (m := 74) (r := 70) C cl_X10 kd_59 (by decide) (by decide) rfl ⟨rfl, rfl, rfl⟩ (by decide) (Or.inl rfl) rfl (by decide +kernel) q_450 dX10_init_84 ?_
  refine r_aload_n (pc := 87) (j := 0) C dX10_init_87 rfl rfl ?_
  refine r_new (n := 72) C cl_X6 kd_72 q_429 q_156 q_128 dX10_init_88 (by decide) (by decide) ?_
  refine r_dup C dX10_init_91 rfl ?_
  refine r_bipush (v := 8) C dX10_init_92 (by decide) ?_
  refine r_jn (fun q10962 e10963 => ?_)
  refine r_callI (pc := 94) (k := 72) (As := [.int (zi 8)]) (st := [.ref (zad E 72), .ref (zad E 59)]) C (i_X6 (p := 72) (m := 75) (N := 8) kd_72 (by decide) rfl (by decide +kernel) (by decide +kernel) (by decide +kernel) e10963) cal_X6_init q_430 dX10_init_94 rfl rfl (Nat.le_of_ble_eq_true rfl) (Nat.le_of_ble_eq_true rfl) (Nat.le_of_ble_eq_true rfl) (Nat.le_of_ble_eq_true rfl) (Nat.le_of_ble_eq_true rfl) (fun _ => ?_)
  refine r_putRT (m := 76) (r := 72) C cl_X10 kd_59 (by decide) (by decide) rfl ⟨rfl, rfl, rfl⟩ (by decide) (Or.inl rfl) rfl (by decide +kernel) q_451 dX10_init_97 ?_
  refine r_aload_n (pc := 100) (j := 0) C dX10_init_100 rfl rfl ?_
  refine r_iconst (v := (-1)) C dX10_init_101 (by decide) ?_
  refine r_putS C cl_X10 kd_59 (by decide) lc_59 (by decide) (by decide) rfl rfl rfl (IRd rfl) q_444 dX10_init_102 (fun S10964 => ?_)
  exact r_return C hQ dX10_init_105 (fun e => by subst e; exact ⟨trivial, rfl, rfl, rfl, rfl, rfl⟩)

def f_X7_init_74 (S : Sst) : Sst :=
  jn (f_X6_clear 75 S) fun (q10965 : Sst) =>
  jn (f_X6_clear 77 q10965) fun (q10967 : Sst) =>
  jn (f_X6_clear 79 q10967) fun (q10969 : Sst) =>
  jn (f_X6_clear 81 q10969) fun (q10971 : Sst) =>
  jn (f_X6_clear 83 q10971) fun (q10973 : Sst) =>
  jn (f_X6_clear 85 q10973) fun (q10975 : Sst) =>
  jn (f_X6_clear 87 q10975) fun (q10977 : Sst) =>
  jn (f_X6_clear 89 q10977) fun (q10979 : Sst) =>
  jn (f_X6_clear 91 q10979) fun (q10981 : Sst) =>
  jn (f_X6_clear 93 q10981) fun (q10983 : Sst) =>
  jn (f_X6_clear 95 q10983) fun (q10985 : Sst) =>
  jn (f_X6_clear 97 q10985) fun (q10987 : Sst) =>
  jn (f_X6_clear 99 q10987) fun (q10989 : Sst) =>
  jn (f_X6_clear 101 q10989) fun (q10991 : Sst) =>
  jn (f_X6_clear 103 q10991) fun (q10993 : Sst) =>
  jn (f_X6_clear 105 q10993) fun (q10995 : Sst) =>
  jn (f_X7_restart 74 q10995) fun (q10998 : Sst) =>
  q10998
set_option maxRecDepth 100000 in
set_option maxHeartbeats 4000000 in
theorem i_X7_init_74 {l : Launch} {E : EwT} {S : Sst} {O : Smo} {q : Sst} (hq : f_X7_init_74 S = q) : MetG l E yX7_init cX7_init 1 none 3 67 32 7966 75 (RT 78) S O [.ref (zad E 74)] True none 107 (RT 110) q O := by
  refine ofG (L0 := [(0, .ref (zad E 74))]) hq (by decide +kernel) (Nat.le_of_ble_eq_true rfl) rfl (fun K _ C hQ => ?_)
  unfold f_X7_init_74
  refine r_aload_n (pc := 0) (j := 0) C dX7_init_0 rfl rfl ?_
  refine r_obj (pc := 1) C q_478 q_153 q_154 dX7_init_1 (Nat.le_of_ble_eq_true rfl) (by decide) (by decide) ?_
  refine r_aload_n (pc := 4) (j := 0) C dX7_init_4 rfl rfl ?_
  refine r_new (n := 75) C cl_X6 kd_75 q_479 q_156 q_128 dX7_init_5 (by decide) (by decide) ?_
  refine r_dup C dX7_init_8 rfl ?_
  refine r_bipush (v := 41) C dX7_init_9 (by decide) ?_
  refine r_jn (fun q10965 e10966 => ?_)
  refine r_callI (pc := 11) (k := 75) (As := [.int (zi 41)]) (st := [.ref (zad E 75), .ref (zad E 74)]) C (i_X6 (p := 75) (m := 78) (N := 41) kd_75 (by decide) rfl (by decide +kernel) (by decide +kernel) (by decide +kernel) e10966) cal_X6_init q_480 dX7_init_11 rfl rfl (Nat.le_of_ble_eq_true rfl) (Nat.le_of_ble_eq_true rfl) (Nat.le_of_ble_eq_true rfl) (Nat.le_of_ble_eq_true rfl) (Nat.le_of_ble_eq_true rfl) (fun _ => ?_)
  refine r_putRT (m := 79) (r := 75) C cl_X7 kd_74 (by decide) (by decide) rfl ⟨rfl, rfl, rfl⟩ (by decide) (Or.inl rfl) rfl (by decide +kernel) q_507 dX7_init_14 ?_
  refine r_aload_n (pc := 17) (j := 0) C dX7_init_17 rfl rfl ?_
  refine r_new (n := 77) C cl_X6 kd_77 q_479 q_156 q_128 dX7_init_18 (by decide) (by decide) ?_
  refine r_dup C dX7_init_21 rfl ?_
  refine r_bipush (v := 41) C dX7_init_22 (by decide) ?_
  refine r_jn (fun q10967 e10968 => ?_)
  refine r_callI (pc := 24) (k := 77) (As := [.int (zi 41)]) (st := [.ref (zad E 77), .ref (zad E 74)]) C (i_X6 (p := 77) (m := 80) (N := 41) kd_77 (by decide) rfl (by decide +kernel) (by decide +kernel) (by decide +kernel) e10968) cal_X6_init q_480 dX7_init_24 rfl rfl (Nat.le_of_ble_eq_true rfl) (Nat.le_of_ble_eq_true rfl) (Nat.le_of_ble_eq_true rfl) (Nat.le_of_ble_eq_true rfl) (Nat.le_of_ble_eq_true rfl) (fun _ => ?_)
  refine r_putRT (m := 81) (r := 77) C cl_X7 kd_74 (by decide) (by decide) rfl ⟨rfl, rfl, rfl⟩ (by decide) (Or.inl rfl) rfl (by decide +kernel) q_511 dX7_init_27 ?_
  refine r_aload_n (pc := 30) (j := 0) C dX7_init_30 rfl rfl ?_
  refine r_new (n := 79) C cl_X6 kd_79 q_479 q_156 q_128 dX7_init_31 (by decide) (by decide) ?_
  refine r_dup C dX7_init_34 rfl ?_
  refine r_bipush (v := 41) C dX7_init_35 (by decide) ?_
  refine r_jn (fun q10969 e10970 => ?_)
  refine r_callI (pc := 37) (k := 79) (As := [.int (zi 41)]) (st := [.ref (zad E 79), .ref (zad E 74)]) C (i_X6 (p := 79) (m := 82) (N := 41) kd_79 (by decide) rfl (by decide +kernel) (by decide +kernel) (by decide +kernel) e10970) cal_X6_init q_480 dX7_init_37 rfl rfl (Nat.le_of_ble_eq_true rfl) (Nat.le_of_ble_eq_true rfl) (Nat.le_of_ble_eq_true rfl) (Nat.le_of_ble_eq_true rfl) (Nat.le_of_ble_eq_true rfl) (fun _ => ?_)
  refine r_putRT (m := 83) (r := 79) C cl_X7 kd_74 (by decide) (by decide) rfl ⟨rfl, rfl, rfl⟩ (by decide) (Or.inl rfl) rfl (by decide +kernel) q_515 dX7_init_40 ?_
  refine r_aload_n (pc := 43) (j := 0) C dX7_init_43 rfl rfl ?_
  refine r_new (n := 81) C cl_X6 kd_81 q_479 q_156 q_128 dX7_init_44 (by decide) (by decide) ?_
  refine r_dup C dX7_init_47 rfl ?_
  refine r_bipush (v := 41) C dX7_init_48 (by decide) ?_
  refine r_jn (fun q10971 e10972 => ?_)
  refine r_callI (pc := 50) (k := 81) (As := [.int (zi 41)]) (st := [.ref (zad E 81), .ref (zad E 74)]) C (i_X6 (p := 81) (m := 84) (N := 41) kd_81 (by decide) rfl (by decide +kernel) (by decide +kernel) (by decide +kernel) e10972) cal_X6_init q_480 dX7_init_50 rfl rfl (Nat.le_of_ble_eq_true rfl) (Nat.le_of_ble_eq_true rfl) (Nat.le_of_ble_eq_true rfl) (Nat.le_of_ble_eq_true rfl) (Nat.le_of_ble_eq_true rfl) (fun _ => ?_)
  refine r_putRT (m := 85) (r := 81) C cl_X7 kd_74 (by decide) (by decide) rfl ⟨rfl, rfl, rfl⟩ (by decide) (Or.inl rfl) rfl (by decide +kernel) q_518 dX7_init_53 ?_
  refine r_aload_n (pc := 56) (j := 0) C dX7_init_56 rfl rfl ?_
  refine r_new (n := 83) C cl_X6 kd_83 q_479 q_156 q_128 dX7_init_57 (by decide) (by decide) ?_
  refine r_dup C dX7_init_60 rfl ?_
  refine r_bipush (v := 41) C dX7_init_61 (by decide) ?_
  refine r_jn (fun q10973 e10974 => ?_)
  refine r_callI (pc := 63) (k := 83) (As := [.int (zi 41)]) (st := [.ref (zad E 83), .ref (zad E 74)]) C (i_X6 (p := 83) (m := 86) (N := 41) kd_83 (by decide) rfl (by decide +kernel) (by decide +kernel) (by decide +kernel) e10974) cal_X6_init q_480 dX7_init_63 rfl rfl (Nat.le_of_ble_eq_true rfl) (Nat.le_of_ble_eq_true rfl) (Nat.le_of_ble_eq_true rfl) (Nat.le_of_ble_eq_true rfl) (Nat.le_of_ble_eq_true rfl) (fun _ => ?_)
  refine r_putRT (m := 87) (r := 83) C cl_X7 kd_74 (by decide) (by decide) rfl ⟨rfl, rfl, rfl⟩ (by decide) (Or.inl rfl) rfl (by decide +kernel) q_521 dX7_init_66 ?_
  refine r_aload_n (pc := 69) (j := 0) C dX7_init_69 rfl rfl ?_
  refine r_new (n := 85) C cl_X6 kd_85 q_479 q_156 q_128 dX7_init_70 (by decide) (by decide) ?_
  refine r_dup C dX7_init_73 rfl ?_
  refine r_bipush (v := 41) C dX7_init_74 (by decide) ?_
  refine r_jn (fun q10975 e10976 => ?_)
  refine r_callI (pc := 76) (k := 85) (As := [.int (zi 41)]) (st := [.ref (zad E 85), .ref (zad E 74)]) C (i_X6 (p := 85) (m := 88) (N := 41) kd_85 (by decide) rfl (by decide +kernel) (by decide +kernel) (by decide +kernel) e10976) cal_X6_init q_480 dX7_init_76 rfl rfl (Nat.le_of_ble_eq_true rfl) (Nat.le_of_ble_eq_true rfl) (Nat.le_of_ble_eq_true rfl) (Nat.le_of_ble_eq_true rfl) (Nat.le_of_ble_eq_true rfl) (fun _ => ?_)
  refine r_putRT (m := 89) (r := 85) C cl_X7 kd_74 (by decide) (by decide) rfl ⟨rfl, rfl, rfl⟩ (by decide) (Or.inl rfl) rfl (by decide +kernel) q_523 dX7_init_79 ?_
  refine r_aload_n (pc := 82) (j := 0) C dX7_init_82 rfl rfl ?_
  refine r_new (n := 87) C cl_X6 kd_87 q_479 q_156 q_128 dX7_init_83 (by decide) (by decide) ?_
  refine r_dup C dX7_init_86 rfl ?_
  refine r_sipush (v := 320) C dX7_init_87 (by decide) ?_
  refine r_jn (fun q10977 e10978 => ?_)
  refine r_callI (pc := 90) (k := 87) (As := [.int (zi 320)]) (st := [.ref (zad E 87), .ref (zad E 74)]) C (i_X6 (p := 87) (m := 90) (N := 320) kd_87 (by decide) rfl (by decide +kernel) (by decide +kernel) (by decide +kernel) e10978) cal_X6_init q_480 dX7_init_90 rfl rfl (Nat.le_of_ble_eq_true rfl) (Nat.le_of_ble_eq_true rfl) (Nat.le_of_ble_eq_true rfl) (Nat.le_of_ble_eq_true rfl) (Nat.le_of_ble_eq_true rfl) (fun _ => ?_)
  refine r_putRT (m := 91) (r := 87) C cl_X7 kd_74 (by decide) (by decide) rfl ⟨rfl, rfl, rfl⟩ (by decide) (Or.inl rfl) rfl (by decide +kernel) q_525 dX7_init_93 ?_
  refine r_aload_n (pc := 96) (j := 0) C dX7_init_96 rfl rfl ?_
  refine r_new (n := 89) C cl_X6 kd_89 q_479 q_156 q_128 dX7_init_97 (by decide) (by decide) ?_
  refine r_dup C dX7_init_100 rfl ?_
  refine r_sipush (v := 320) C dX7_init_101 (by decide) ?_
  refine r_jn (fun q10979 e10980 => ?_)
  refine r_callI (pc := 104) (k := 89) (As := [.int (zi 320)]) (st := [.ref (zad E 89), .ref (zad E 74)]) C (i_X6 (p := 89) (m := 92) (N := 320) kd_89 (by decide) rfl (by decide +kernel) (by decide +kernel) (by decide +kernel) e10980) cal_X6_init q_480 dX7_init_104 rfl rfl (Nat.le_of_ble_eq_true rfl) (Nat.le_of_ble_eq_true rfl) (Nat.le_of_ble_eq_true rfl) (Nat.le_of_ble_eq_true rfl) (Nat.le_of_ble_eq_true rfl) (fun _ => ?_)
  refine r_putRT (m := 93) (r := 89) C cl_X7 kd_74 (by decide) (by decide) rfl ⟨rfl, rfl, rfl⟩ (by decide) (Or.inl rfl) rfl (by decide +kernel) q_527 dX7_init_107 ?_
  refine r_aload_n (pc := 110) (j := 0) C dX7_init_110 rfl rfl ?_
  refine r_new (n := 91) C cl_X6 kd_91 q_479 q_156 q_128 dX7_init_111 (by decide) (by decide) ?_
  refine r_dup C dX7_init_114 rfl ?_
  refine r_sipush (v := 320) C dX7_init_115 (by decide) ?_
  refine r_jn (fun q10981 e10982 => ?_)
  refine r_callI (pc := 118) (k := 91) (As := [.int (zi 320)]) (st := [.ref (zad E 91), .ref (zad E 74)]) C (i_X6 (p := 91) (m := 94) (N := 320) kd_91 (by decide) rfl (by decide +kernel) (by decide +kernel) (by decide +kernel) e10982) cal_X6_init q_480 dX7_init_118 rfl rfl (Nat.le_of_ble_eq_true rfl) (Nat.le_of_ble_eq_true rfl) (Nat.le_of_ble_eq_true rfl) (Nat.le_of_ble_eq_true rfl) (Nat.le_of_ble_eq_true rfl) (fun _ => ?_)
  refine r_putRT (m := 95) (r := 91) C cl_X7 kd_74 (by decide) (by decide) rfl ⟨rfl, rfl, rfl⟩ (by decide) (Or.inl rfl) rfl (by decide +kernel) q_529 dX7_init_121 ?_
  refine r_aload_n (pc := 124) (j := 0) C dX7_init_124 rfl rfl ?_
  refine r_new (n := 93) C cl_X6 kd_93 q_479 q_156 q_128 dX7_init_125 (by decide) (by decide) ?_
  refine r_dup C dX7_init_128 rfl ?_
  refine r_sipush (v := 320) C dX7_init_129 (by decide) ?_
  refine r_jn (fun q10983 e10984 => ?_)
  refine r_callI (pc := 132) (k := 93) (As := [.int (zi 320)]) (st := [.ref (zad E 93), .ref (zad E 74)]) C (i_X6 (p := 93) (m := 96) (N := 320) kd_93 (by decide) rfl (by decide +kernel) (by decide +kernel) (by decide +kernel) e10984) cal_X6_init q_480 dX7_init_132 rfl rfl (Nat.le_of_ble_eq_true rfl) (Nat.le_of_ble_eq_true rfl) (Nat.le_of_ble_eq_true rfl) (Nat.le_of_ble_eq_true rfl) (Nat.le_of_ble_eq_true rfl) (fun _ => ?_)
  refine r_putRT (m := 97) (r := 93) C cl_X7 kd_74 (by decide) (by decide) rfl ⟨rfl, rfl, rfl⟩ (by decide) (Or.inl rfl) rfl (by decide +kernel) q_531 dX7_init_135 ?_
  refine r_aload_n (pc := 138) (j := 0) C dX7_init_138 rfl rfl ?_
  refine r_new (n := 95) C cl_X6 kd_95 q_479 q_156 q_128 dX7_init_139 (by decide) (by decide) ?_
  refine r_dup C dX7_init_142 rfl ?_
  refine r_sipush (v := 320) C dX7_init_143 (by decide) ?_
  refine r_jn (fun q10985 e10986 => ?_)
  refine r_callI (pc := 146) (k := 95) (As := [.int (zi 320)]) (st := [.ref (zad E 95), .ref (zad E 74)]) C (i_X6 (p := 95) (m := 98) (N := 320) kd_95 (by decide) rfl (by decide +kernel) (by decide +kernel) (by decide +kernel) e10986) cal_X6_init q_480 dX7_init_146 rfl rfl (Nat.le_of_ble_eq_true rfl) (Nat.le_of_ble_eq_true rfl) (Nat.le_of_ble_eq_true rfl) (Nat.le_of_ble_eq_true rfl) (Nat.le_of_ble_eq_true rfl) (fun _ => ?_)
  refine r_putRT (m := 99) (r := 95) C cl_X7 kd_74 (by decide) (by decide) rfl ⟨rfl, rfl, rfl⟩ (by decide) (Or.inl rfl) rfl (by decide +kernel) q_533 dX7_init_149 ?_
  refine r_aload_n (pc := 152) (j := 0) C dX7_init_152 rfl rfl ?_
  refine r_new (n := 97) C cl_X6 kd_97 q_479 q_156 q_128 dX7_init_153 (by decide) (by decide) ?_
  refine r_dup C dX7_init_156 rfl ?_
  refine r_sipush (v := 320) C dX7_init_157 (by decide) ?_
  refine r_jn (fun q10987 e10988 => ?_)
  refine r_callI (pc := 160) (k := 97) (As := [.int (zi 320)]) (st := [.ref (zad E 97), .ref (zad E 74)]) C (i_X6 (p := 97) (m := 100) (N := 320) kd_97 (by decide) rfl (by decide +kernel) (by decide +kernel) (by decide +kernel) e10988) cal_X6_init q_480 dX7_init_160 rfl rfl (Nat.le_of_ble_eq_true rfl) (Nat.le_of_ble_eq_true rfl) (Nat.le_of_ble_eq_true rfl) (Nat.le_of_ble_eq_true rfl) (Nat.le_of_ble_eq_true rfl) (fun _ => ?_)
  refine r_putRT (m := 101) (r := 97) C cl_X7 kd_74 (by decide) (by decide) rfl ⟨rfl, rfl, rfl⟩ (by decide) (Or.inl rfl) rfl (by decide +kernel) q_535 dX7_init_163 ?_
  refine r_aload_n (pc := 166) (j := 0) C dX7_init_166 rfl rfl ?_
  refine r_new (n := 99) C cl_X6 kd_99 q_479 q_156 q_128 dX7_init_167 (by decide) (by decide) ?_
  refine r_dup C dX7_init_170 rfl ?_
  refine r_sipush (v := 1920) C dX7_init_171 (by decide) ?_
  refine r_jn (fun q10989 e10990 => ?_)
  refine r_callI (pc := 174) (k := 99) (As := [.int (zi 1920)]) (st := [.ref (zad E 99), .ref (zad E 74)]) C (i_X6 (p := 99) (m := 102) (N := 1920) kd_99 (by decide) rfl (by decide +kernel) (by decide +kernel) (by decide +kernel) e10990) cal_X6_init q_480 dX7_init_174 rfl rfl (Nat.le_of_ble_eq_true rfl) (Nat.le_of_ble_eq_true rfl) (Nat.le_of_ble_eq_true rfl) (Nat.le_of_ble_eq_true rfl) (Nat.le_of_ble_eq_true rfl) (fun _ => ?_)
  refine r_putRT (m := 103) (r := 99) C cl_X7 kd_74 (by decide) (by decide) rfl ⟨rfl, rfl, rfl⟩ (by decide) (Or.inl rfl) rfl (by decide +kernel) q_536 dX7_init_177 ?_
  refine r_aload_n (pc := 180) (j := 0) C dX7_init_180 rfl rfl ?_
  refine r_new (n := 101) C cl_X6 kd_101 q_479 q_156 q_128 dX7_init_181 (by decide) (by decide) ?_
  refine r_dup C dX7_init_184 rfl ?_
  refine r_sipush (v := 1920) C dX7_init_185 (by decide) ?_
  refine r_jn (fun q10991 e10992 => ?_)
  refine r_callI (pc := 188) (k := 101) (As := [.int (zi 1920)]) (st := [.ref (zad E 101), .ref (zad E 74)]) C (i_X6 (p := 101) (m := 104) (N := 1920) kd_101 (by decide) rfl (by decide +kernel) (by decide +kernel) (by decide +kernel) e10992) cal_X6_init q_480 dX7_init_188 rfl rfl (Nat.le_of_ble_eq_true rfl) (Nat.le_of_ble_eq_true rfl) (Nat.le_of_ble_eq_true rfl) (Nat.le_of_ble_eq_true rfl) (Nat.le_of_ble_eq_true rfl) (fun _ => ?_)
  refine r_putRT (m := 105) (r := 101) C cl_X7 kd_74 (by decide) (by decide) rfl ⟨rfl, rfl, rfl⟩ (by decide) (Or.inl rfl) rfl (by decide +kernel) q_538 dX7_init_191 ?_
  refine r_aload_n (pc := 194) (j := 0) C dX7_init_194 rfl rfl ?_
  refine r_new (n := 103) C cl_X6 kd_103 q_479 q_156 q_128 dX7_init_195 (by decide) (by decide) ?_
  refine r_dup C dX7_init_198 rfl ?_
  refine r_sipush (v := 1920) C dX7_init_199 (by decide) ?_
  refine r_jn (fun q10993 e10994 => ?_)
  refine r_callI (pc := 202) (k := 103) (As := [.int (zi 1920)]) (st := [.ref (zad E 103), .ref (zad E 74)]) C (i_X6 (p := 103) (m := 106) (N := 1920) kd_103 (by decide) rfl (by decide +kernel) (by decide +kernel) (by decide +kernel) e10994) cal_X6_init q_480 dX7_init_202 rfl rfl (Nat.le_of_ble_eq_true rfl) (Nat.le_of_ble_eq_true rfl) (Nat.le_of_ble_eq_true rfl) (Nat.le_of_ble_eq_true rfl) (Nat.le_of_ble_eq_true rfl) (fun _ => ?_)
  refine r_putRT (m := 107) (r := 103) C cl_X7 kd_74 (by decide) (by decide) rfl ⟨rfl, rfl, rfl⟩ (by decide) (Or.inl rfl) rfl (by decide +kernel) q_540 dX7_init_205 ?_
  refine r_aload_n (pc := 208) (j := 0) C dX7_init_208 rfl rfl ?_
  refine r_new (n := 105) C cl_X6 kd_105 q_479 q_156 q_128 dX7_init_209 (by decide) (by decide) ?_
  refine r_dup C dX7_init_212 rfl ?_
  refine r_bipush (v := 8) C dX7_init_213 (by decide) ?_
  refine r_jn (fun q10995 e10996 => ?_)
  refine r_callI (pc := 215) (k := 105) (As := [.int (zi 8)]) (st := [.ref (zad E 105), .ref (zad E 74)]) C (i_X6 (p := 105) (m := 108) (N := 8) kd_105 (by decide) rfl (by decide +kernel) (by decide +kernel) (by decide +kernel) e10996) cal_X6_init q_480 dX7_init_215 rfl rfl (Nat.le_of_ble_eq_true rfl) (Nat.le_of_ble_eq_true rfl) (Nat.le_of_ble_eq_true rfl) (Nat.le_of_ble_eq_true rfl) (Nat.le_of_ble_eq_true rfl) (fun _ => ?_)
  refine r_putRT (m := 109) (r := 105) C cl_X7 kd_74 (by decide) (by decide) rfl ⟨rfl, rfl, rfl⟩ (by decide) (Or.inl rfl) rfl (by decide +kernel) q_542 dX7_init_218 ?_
  refine r_aload_n (pc := 221) (j := 0) C dX7_init_221 rfl rfl ?_
  refine r_jn (fun q10998 e10999 => ?_)
  refine r_cV0 (pc := 222) (k := 74) (As := []) (st := []) C (m_X7_restart (p := 74) (show gSt 107 (RT 110) 74 from ⟨by decide, by decide, by decide +kernel⟩) e10999) cal_X7_restart cl_X7 kd_74 (by decide) q_481 dX7_init_222 rfl rfl (Nat.le_of_ble_eq_true rfl) (Nat.le_of_ble_eq_true rfl) (Nat.le_of_ble_eq_true rfl) (Nat.le_of_ble_eq_true rfl) (Nat.le_of_ble_eq_true rfl) (fun h10997 => ?_)
  exact r_return C hQ dX7_init_225 (fun e => by subst e; exact ⟨trivial, rfl, rfl, rfl, rfl, rfl⟩)

def f_X7_init_107 (S : Sst) : Sst :=
  jn (f_X6_clear 108 S) fun (q11000 : Sst) =>
  jn (f_X6_clear 110 q11000) fun (q11002 : Sst) =>
  jn (f_X6_clear 112 q11002) fun (q11004 : Sst) =>
  jn (f_X6_clear 114 q11004) fun (q11006 : Sst) =>
  jn (f_X6_clear 116 q11006) fun (q11008 : Sst) =>
  jn (f_X6_clear 118 q11008) fun (q11010 : Sst) =>
  jn (f_X6_clear 120 q11010) fun (q11012 : Sst) =>
  jn (f_X6_clear 122 q11012) fun (q11014 : Sst) =>
  jn (f_X6_clear 124 q11014) fun (q11016 : Sst) =>
  jn (f_X6_clear 126 q11016) fun (q11018 : Sst) =>
  jn (f_X6_clear 128 q11018) fun (q11020 : Sst) =>
  jn (f_X6_clear 130 q11020) fun (q11022 : Sst) =>
  jn (f_X6_clear 132 q11022) fun (q11024 : Sst) =>
  jn (f_X6_clear 134 q11024) fun (q11026 : Sst) =>
  jn (f_X6_clear 136 q11026) fun (q11028 : Sst) =>
  jn (f_X6_clear 138 q11028) fun (q11030 : Sst) =>
  jn (f_X7_restart 107 q11030) fun (q11033 : Sst) =>
  q11033
set_option maxRecDepth 100000 in
set_option maxHeartbeats 4000000 in
theorem i_X7_init_107 {l : Launch} {E : EwT} {S : Sst} {O : Smo} {q : Sst} (hq : f_X7_init_107 S = q) : MetG l E yX7_init cX7_init 1 none 3 67 32 7966 108 (RT 111) S O [.ref (zad E 107)] True none 140 (RT 143) q O := by
  refine ofG (L0 := [(0, .ref (zad E 107))]) hq (by decide +kernel) (Nat.le_of_ble_eq_true rfl) rfl (fun K _ C hQ => ?_)
  unfold f_X7_init_107
  refine r_aload_n (pc := 0) (j := 0) C dX7_init_0 rfl rfl ?_
  refine r_obj (pc := 1) C q_478 q_153 q_154 dX7_init_1 (Nat.le_of_ble_eq_true rfl) (by decide) (by decide) ?_
  refine r_aload_n (pc := 4) (j := 0) C dX7_init_4 rfl rfl ?_
  refine r_new (n := 108) C cl_X6 kd_108 q_479 q_156 q_128 dX7_init_5 (by decide) (by decide) ?_
  refine r_dup C dX7_init_8 rfl ?_
  refine r_bipush (v := 41) C dX7_init_9 (by decide) ?_
  refine r_jn (fun q11000 e11001 => ?_)
  refine r_callI (pc := 11) (k := 108) (As := [.int (zi 41)]) (st := [.ref (zad E 108), .ref (zad E 107)]) C (i_X6 (p := 108) (m := 111) (N := 41) kd_108 (by decide) rfl (by decide +kernel) (by decide +kernel) (by decide +kernel) e11001) cal_X6_init q_480 dX7_init_11 rfl rfl (Nat.le_of_ble_eq_true rfl) (Nat.le_of_ble_eq_true rfl) (Nat.le_of_ble_eq_true rfl) (Nat.le_of_ble_eq_true rfl) (Nat.le_of_ble_eq_true rfl) (fun _ => ?_)
  refine r_putRT (m := 112) (r := 108) C cl_X7 kd_107 (by decide) (by decide) rfl ⟨rfl, rfl, rfl⟩ (by decide) (Or.inl rfl) rfl (by decide +kernel) q_507 dX7_init_14 ?_
  refine r_aload_n (pc := 17) (j := 0) C dX7_init_17 rfl rfl ?_
  refine r_new (n := 110) C cl_X6 kd_110 q_479 q_156 q_128 dX7_init_18 (by decide) (by decide) ?_
  refine r_dup C dX7_init_21 rfl ?_
  refine r_bipush (v := 41) C dX7_init_22 (by decide) ?_
  refine r_jn (fun q11002 e11003 => ?_)
  refine r_callI (pc := 24) (k := 110) (As := [.int (zi 41)]) (st := [.ref (zad E 110), .ref (zad E 107)]) C (i_X6 (p := 110) (m := 113) (N := 41) kd_110 (by decide) rfl (by decide +kernel) (by decide +kernel) (by decide +kernel) e11003) cal_X6_init q_480 dX7_init_24 rfl rfl (Nat.le_of_ble_eq_true rfl) (Nat.le_of_ble_eq_true rfl) (Nat.le_of_ble_eq_true rfl) (Nat.le_of_ble_eq_true rfl) (Nat.le_of_ble_eq_true rfl) (fun _ => ?_)
  refine r_putRT (m := 114) (r := 110) C cl_X7 kd_107 (by decide) (by decide) rfl ⟨rfl, rfl, rfl⟩ (by decide) (Or.inl rfl) rfl (by decide +kernel) q_511 dX7_init_27 ?_
  refine r_aload_n (pc := 30) (j := 0) C dX7_init_30 rfl rfl ?_
  refine r_new (n := 112) C cl_X6 kd_112 q_479 q_156 q_128 dX7_init_31 (by decide) (by decide) ?_
  refine r_dup C dX7_init_34 rfl ?_
  refine r_bipush (v := 41) C dX7_init_35 (by decide) ?_
  refine r_jn (fun q11004 e11005 => ?_)
  refine r_callI (pc := 37) (k := 112) (As := [.int (zi 41)]) (st := [.ref (zad E 112), .ref (zad E 107)]) C (i_X6 (p := 112) (m := 115) (N := 41) kd_112 (by decide) rfl (by decide +kernel) (by decide +kernel) (by decide +kernel) e11005) cal_X6_init q_480 dX7_init_37 rfl rfl (Nat.le_of_ble_eq_true rfl) (Nat.le_of_ble_eq_true rfl) (Nat.le_of_ble_eq_true rfl) (Nat.le_of_ble_eq_true rfl) (Nat.le_of_ble_eq_true rfl) (fun _ => ?_)
  refine r_putRT (m := 116) (r := 112) C cl_X7 kd_107 (by decide) (by decide) rfl ⟨rfl, rfl, rfl⟩ (by decide) (Or.inl rfl) rfl (by decide +kernel) q_515 dX7_init_40 ?_
  refine r_aload_n (pc := 43) (j := 0) C dX7_init_43 rfl rfl ?_
  refine r_new (n := 114) C cl_X6 kd_114 q_479 q_156 q_128 dX7_init_44 (by decide) (by decide) ?_
  refine r_dup C dX7_init_47 rfl ?_
  refine r_bipush (v := 41) C dX7_init_48 (by decide) ?_
  refine r_jn (fun q11006 e11007 => ?_)
  refine r_callI (pc := 50) (k := 114) (As := [.int (zi 41)]) (st := [.ref (zad E 114), .ref (zad E 107)]) C (i_X6 (p := 114) (m := 117) (N := 41) kd_114 (by decide) rfl (by decide +kernel) (by decide +kernel) (by decide +kernel) e11007) cal_X6_init q_480 dX7_init_50 rfl rfl (Nat.le_of_ble_eq_true rfl) (Nat.le_of_ble_eq_true rfl) (Nat.le_of_ble_eq_true rfl) (Nat.le_of_ble_eq_true rfl) (Nat.le_of_ble_eq_true rfl) (fun _ => ?_)
  refine r_putRT (m := 118) (r := 114) C cl_X7 kd_107 (by decide) (by decide) rfl ⟨rfl, rfl, rfl⟩ (by decide) (Or.inl rfl) rfl (by decide +kernel) q_518 dX7_init_53 ?_
  refine r_aload_n (pc := 56) (j := 0) C dX7_init_56 rfl rfl ?_
  refine r_new (n := 116) C cl_X6 kd_116 q_479 q_156 q_128 dX7_init_57 (by decide) (by decide) ?_
  refine r_dup C dX7_init_60 rfl ?_
  refine r_bipush (v := 41) C dX7_init_61 (by decide) ?_
  refine r_jn (fun q11008 e11009 => ?_)
  refine r_callI (pc := 63) (k := 116) (As := [.int (zi 41)]) (st := [.ref (zad E 116), .ref (zad E 107)]) C (i_X6 (p := 116) (m := 119) (N := 41) kd_116 (by decide) rfl (by decide +kernel) (by decide +kernel) (by decide +kernel) e11009) cal_X6_init q_480 dX7_init_63 rfl rfl (Nat.le_of_ble_eq_true rfl) (Nat.le_of_ble_eq_true rfl) (Nat.le_of_ble_eq_true rfl) (Nat.le_of_ble_eq_true rfl) (Nat.le_of_ble_eq_true rfl) (fun _ => ?_)
  refine r_putRT (m := 120) (r := 116) C cl_X7 kd_107 (by decide) (by decide) rfl ⟨rfl, rfl, rfl⟩ (by decide) (Or.inl rfl) rfl (by decide +kernel) q_521 dX7_init_66 ?_
  refine r_aload_n (pc := 69) (j := 0) C dX7_init_69 rfl rfl ?_
  refine r_new (n := 118) C cl_X6 kd_118 q_479 q_156 q_128 dX7_init_70 (by decide) (by decide) ?_
  refine r_dup C dX7_init_73 rfl ?_
  refine r_bipush (v := 41) C dX7_init_74 (by decide) ?_
  refine r_jn (fun q11010 e11011 => ?_)
  refine r_callI (pc := 76) (k := 118) (As := [.int (zi 41)]) (st := [.ref (zad E 118), .ref (zad E 107)]) C (i_X6 (p := 118) (m := 121) (N := 41) kd_118 (by decide) rfl (by decide +kernel) (by decide +kernel) (by decide +kernel) e11011) cal_X6_init q_480 dX7_init_76 rfl rfl (Nat.le_of_ble_eq_true rfl) (Nat.le_of_ble_eq_true rfl) (Nat.le_of_ble_eq_true rfl) (Nat.le_of_ble_eq_true rfl) (Nat.le_of_ble_eq_true rfl) (fun _ => ?_)
  refine r_putRT (m := 122) (r := 118) C cl_X7 kd_107 (by decide) (by decide) rfl ⟨rfl, rfl, rfl⟩ (by decide) (Or.inl rfl) rfl (by decide +kernel) q_523 dX7_init_79 ?_
  refine r_aload_n (pc := 82) (j := 0) C dX7_init_82 rfl rfl ?_
  refine r_new (n := 120) C cl_X6 kd_120 q_479 q_156 q_128 dX7_init_83 (by decide) (by decide) ?_
  refine r_dup C dX7_init_86 rfl ?_
  refine r_sipush (v := 320) C dX7_init_87 (by decide) ?_
  refine r_jn (fun q11012 e11013 => ?_)
  refine r_callI (pc := 90) (k := 120) (As := [.int (zi 320)]) (st := [.ref (zad E 120), .ref (zad E 107)]) C (i_X6 (p := 120) (m := 123) (N := 320) kd_120 (by decide) rfl (by decide +kernel) (by decide +kernel) (by decide +kernel) e11013) cal_X6_init q_480 dX7_init_90 rfl rfl (Nat.le_of_ble_eq_true rfl) (Nat.le_of_ble_eq_true rfl) (Nat.le_of_ble_eq_true rfl) (Nat.le_of_ble_eq_true rfl) (Nat.le_of_ble_eq_true rfl) (fun _ => ?_)
  refine r_putRT (m := 124) (r := 120) C cl_X7 kd_107 (by decide) (by decide) rfl ⟨rfl, rfl, rfl⟩ (by decide) (Or.inl rfl) rfl (by decide +kernel) q_525 dX7_init_93 ?_
  refine r_aload_n (pc := 96) (j := 0) C dX7_init_96 rfl rfl ?_
  refine r_new (n := 122) C cl_X6 kd_122 q_479 q_156 q_128 dX7_init_97 (by decide) (by decide) ?_
  refine r_dup C dX7_init_100 rfl ?_
  refine r_sipush (v := 320) C dX7_init_101 (by decide) ?_
  refine r_jn (fun q11014 e11015 => ?_)
  refine r_callI (pc := 104) (k := 122) (As := [.int (zi 320)]) (st := [.ref (zad E 122), .ref (zad E 107)]) C (i_X6 (p := 122) (m := 125) (N := 320) kd_122 (by decide) rfl (by decide +kernel) (by decide +kernel) (by decide +kernel) e11015) cal_X6_init q_480 dX7_init_104 rfl rfl (Nat.le_of_ble_eq_true rfl) (Nat.le_of_ble_eq_true rfl) (Nat.le_of_ble_eq_true rfl) (Nat.le_of_ble_eq_true rfl) (Nat.le_of_ble_eq_true rfl) (fun _ => ?_)
  refine r_putRT (m := 126) (r := 122) C cl_X7 kd_107 (by decide) (by decide) rfl ⟨rfl, rfl, rfl⟩ (by decide) (Or.inl rfl) rfl (by decide +kernel) q_527 dX7_init_107 ?_
  refine r_aload_n (pc := 110) (j := 0) C dX7_init_110 rfl rfl ?_
  refine r_new (n := 124) C cl_X6 kd_124 q_479 q_156 q_128 dX7_init_111 (by decide) (by decide) ?_
  refine r_dup C dX7_init_114 rfl ?_
  refine r_sipush (v := 320) C dX7_init_115 (by decide) ?_
  refine r_jn (fun q11016 e11017 => ?_)
  refine r_callI (pc := 118) (k := 124) (As := [.int (zi 320)]) (st := [.ref (zad E 124), .ref (zad E 107)]) C (i_X6 (p := 124) (m := 127) (N := 320) kd_124 (by decide) rfl (by decide +kernel) (by decide +kernel) (by decide +kernel) e11017) cal_X6_init q_480 dX7_init_118 rfl rfl (Nat.le_of_ble_eq_true rfl) (Nat.le_of_ble_eq_true rfl) (Nat.le_of_ble_eq_true rfl) (Nat.le_of_ble_eq_true rfl) (Nat.le_of_ble_eq_true rfl) (fun _ => ?_)
  refine r_putRT (m := 128) (r := 124) C cl_X7 kd_107 (by decide) (by decide) rfl ⟨rfl, rfl, rfl⟩ (by decide) (Or.inl rfl) rfl (by decide +kernel) q_529 dX7_init_121 ?_
  refine r_aload_n (pc := 124) (j := 0) C dX7_init_124 rfl rfl ?_
  refine r_new (n := 126) C cl_X6 kd_126 q_479 q_156 q_128 dX7_init_125 (by decide) (by decide) ?_
  refine r_dup C dX7_init_128 rfl ?_
  refine r_sipush (v := 320) C dX7_init_129 (by decide) ?_
  refine r_jn (fun q11018 e11019 => ?_)
  refine r_callI (pc := 132) (k := 126) (As := [.int (zi 320)]) (st := [.ref (zad E 126), .ref (zad E 107)]) C (i_X6 (p := 126) (m := 129) (N := 320) kd_126 (by decide) rfl (by decide +kernel) (by decide +kernel) (by decide +kernel) e11019) cal_X6_init q_480 dX7_init_132 rfl rfl (Nat.le_of_ble_eq_true rfl) (Nat.le_of_ble_eq_true rfl) (Nat.le_of_ble_eq_true rfl) (Nat.le_of_ble_eq_true rfl) (Nat.le_of_ble_eq_true rfl) (fun _ => ?_)
  refine r_putRT (m := 130) (r := 126) C cl_X7 kd_107 (by decide) (by decide) rfl ⟨rfl, rfl, rfl⟩ (by decide) (Or.inl rfl) rfl (by decide +kernel) q_531 dX7_init_135 ?_
  refine r_aload_n (pc := 138) (j := 0) C dX7_init_138 rfl rfl ?_
  refine r_new (n := 128) C cl_X6 kd_128 q_479 q_156 q_128 dX7_init_139 (by decide) (by decide) ?_
  refine r_dup C dX7_init_142 rfl ?_
  refine r_sipush (v := 320) C dX7_init_143 (by decide) ?_
  refine r_jn (fun q11020 e11021 => ?_)
  refine r_callI (pc := 146) (k := 128) (As := [.int (zi 320)]) (st := [.ref (zad E 128), .ref (zad E 107)]) C (i_X6 (p := 128) (m := 131) (N := 320) kd_128 (by decide) rfl (by decide +kernel) (by decide +kernel) (by decide +kernel) e11021) cal_X6_init q_480 dX7_init_146 rfl rfl (Nat.le_of_ble_eq_true rfl) (Nat.le_of_ble_eq_true rfl) (Nat.le_of_ble_eq_true rfl) (Nat.le_of_ble_eq_true rfl) (Nat.le_of_ble_eq_true rfl) (fun _ => ?_)
  refine r_putRT (m := 132) (r := 128) C cl_X7 kd_107 (by decide) (by decide) rfl ⟨rfl, rfl, rfl⟩ (by decide) (Or.inl rfl) rfl (by decide +kernel) q_533 dX7_init_149 ?_
  refine r_aload_n (pc := 152) (j := 0) C dX7_init_152 rfl rfl ?_
  refine r_new (n := 130) C cl_X6 kd_130 q_479 q_156 q_128 dX7_init_153 (by decide) (by decide) ?_
  refine r_dup C dX7_init_156 rfl ?_
  refine r_sipush (v := 320) C dX7_init_157 (by decide) ?_
  refine r_jn (fun q11022 e11023 => ?_)
  refine r_callI (pc := 160) (k := 130) (As := [.int (zi 320)]) (st := [.ref (zad E 130), .ref (zad E 107)]) C (i_X6 (p := 130) (m := 133) (N := 320) kd_130 (by decide) rfl (by decide +kernel) (by decide +kernel) (by decide +kernel) e11023) cal_X6_init q_480 dX7_init_160 rfl rfl (Nat.le_of_ble_eq_true rfl) (Nat.le_of_ble_eq_true rfl) (Nat.le_of_ble_eq_true rfl) (Nat.le_of_ble_eq_true rfl) (Nat.le_of_ble_eq_true rfl) (fun _ => ?_)
  refine r_putRT (m := 134) (r := 130) C cl_X7 kd_107 (by decide) (by decide) rfl ⟨rfl, rfl, rfl⟩ (by decide) (Or.inl rfl) rfl (by decide +kernel) q_535 dX7_init_163 ?_
  refine r_aload_n (pc := 166) (j := 0) C dX7_init_166 rfl rfl ?_
  refine r_new (n := 132) C cl_X6 kd_132 q_479 q_156 q_128 dX7_init_167 (by decide) (by decide) ?_
  refine r_dup C dX7_init_170 rfl ?_
  refine r_sipush (v := 1920) C dX7_init_171 (by decide) ?_
  refine r_jn (fun q11024 e11025 => ?_)
  refine r_callI (pc := 174) (k := 132) (As := [.int (zi 1920)]) (st := [.ref (zad E 132), .ref (zad E 107)]) C (i_X6 (p := 132) (m := 135) (N := 1920) kd_132 (by decide) rfl (by decide +kernel) (by decide +kernel) (by decide +kernel) e11025) cal_X6_init q_480 dX7_init_174 rfl rfl (Nat.le_of_ble_eq_true rfl) (Nat.le_of_ble_eq_true rfl) (Nat.le_of_ble_eq_true rfl) (Nat.le_of_ble_eq_true rfl) (Nat.le_of_ble_eq_true rfl) (fun _ => ?_)
  refine r_putRT (m := 136) (r := 132) C cl_X7 kd_107 (by decide) (by decide) rfl ⟨rfl, rfl, rfl⟩ (by decide) (Or.inl rfl) rfl (by decide +kernel) q_536 dX7_init_177 ?_
  refine r_aload_n (pc := 180) (j := 0) C dX7_init_180 rfl rfl ?_
  refine r_new (n := 134) C cl_X6 kd_134 q_479 q_156 q_128 dX7_init_181 (by decide) (by decide) ?_
  refine r_dup C dX7_init_184 rfl ?_
  refine r_sipush (v := 1920) C dX7_init_185 (by decide) ?_
  refine r_jn (fun q11026 e11027 => ?_)
  refine r_callI (pc := 188) (k := 134) (As := [.int (zi 1920)]) (st := [.ref (zad E 134), .ref (zad E 107)]) C (i_X6 (p := 134) (m := 137) (N := 1920) kd_134 (by decide) rfl (by decide +kernel) (by decide +kernel) (by decide +kernel) e11027) cal_X6_init q_480 dX7_init_188 rfl rfl (Nat.le_of_ble_eq_true rfl) (Nat.le_of_ble_eq_true rfl) (Nat.le_of_ble_eq_true rfl) (Nat.le_of_ble_eq_true rfl) (Nat.le_of_ble_eq_true rfl) (fun _ => ?_)
  refine r_putRT (m := 138) (r := 134) C cl_X7 kd_107 (by decide) (by decide) rfl ⟨rfl, rfl, rfl⟩ (by decide) (Or.inl rfl) rfl (by decide +kernel) q_538 dX7_init_191 ?_
  refine r_aload_n (pc := 194) (j := 0) C dX7_init_194 rfl rfl ?_
  refine r_new (n := 136) C cl_X6 kd_136 q_479 q_156 q_128 dX7_init_195 (by decide) (by decide) ?_
  refine r_dup C dX7_init_198 rfl ?_
  refine r_sipush (v := 1920) C dX7_init_199 (by decide) ?_
  refine r_jn (fun q11028 e11029 => ?_)
  refine r_callI (pc := 202) (k := 136) (As := [.int (zi 1920)]) (st := [.ref (zad E 136), .ref (zad E 107)]) C (i_X6 (p := 136) (m := 139) (N := 1920) kd_136 (by decide) rfl (by decide +kernel) (by decide +kernel) (by decide +kernel) e11029) cal_X6_init q_480 dX7_init_202 rfl rfl (Nat.le_of_ble_eq_true rfl) (Nat.le_of_ble_eq_true rfl) (Nat.le_of_ble_eq_true rfl) (Nat.le_of_ble_eq_true rfl) (Nat.le_of_ble_eq_true rfl) (fun _ => ?_)
  refine r_putRT (m := 140) (r := 136) C cl_X7 kd_107 (by decide) (by decide) rfl ⟨rfl, rfl, rfl⟩ (by decide) (Or.inl rfl) rfl (by decide +kernel) q_540 dX7_init_205 ?_
  refine r_aload_n (pc := 208) (j := 0) C dX7_init_208 rfl rfl ?_
  refine r_new (n := 138) C cl_X6 kd_138 q_479 q_156 q_128 dX7_init_209 (by decide) (by decide) ?_
  refine r_dup C dX7_init_212 rfl ?_
  refine r_bipush (v := 8) C dX7_init_213 (by decide) ?_
  refine r_jn (fun q11030 e11031 => ?_)
  refine r_callI (pc := 215) (k := 138) (As := [.int (zi 8)]) (st := [.ref (zad E 138), .ref (zad E 107)]) C (i_X6 (p := 138) (m := 141) (N := 8) kd_138 (by decide) rfl (by decide +kernel) (by decide +kernel) (by decide +kernel) e11031) cal_X6_init q_480 dX7_init_215 rfl rfl (Nat.le_of_ble_eq_true rfl) (Nat.le_of_ble_eq_true rfl) (Nat.le_of_ble_eq_true rfl) (Nat.le_of_ble_eq_true rfl) (Nat.le_of_ble_eq_true rfl) (fun _ => ?_)
  refine r_putRT (m := 142) (r := 138) C cl_X7 kd_107 (by decide) (by decide) rfl ⟨rfl, rfl, rfl⟩ (by decide) (Or.inl rfl) rfl (by decide +kernel) q_542 dX7_init_218 ?_
  refine r_aload_n (pc := 221) (j := 0) C dX7_init_221 rfl rfl ?_
  refine r_jn (fun q11033 e11034 => ?_)
  refine r_cV0 (pc := 222) (k := 107) (As := []) (st := []) C (m_X7_restart (p := 107) (show gSt 140 (RT 143) 107 from ⟨by decide, by decide, by decide +kernel⟩) e11034) cal_X7_restart cl_X7 kd_107 (by decide) q_481 dX7_init_222 rfl rfl (Nat.le_of_ble_eq_true rfl) (Nat.le_of_ble_eq_true rfl) (Nat.le_of_ble_eq_true rfl) (Nat.le_of_ble_eq_true rfl) (Nat.le_of_ble_eq_true rfl) (fun h11032 => ?_)
  exact r_return C hQ dX7_init_225 (fun e => by subst e; exact ⟨trivial, rfl, rfl, rfl, rfl, rfl⟩)

def f_X7_init_140 (S : Sst) : Sst :=
  jn (f_X6_clear 141 S) fun (q11035 : Sst) =>
  jn (f_X6_clear 143 q11035) fun (q11037 : Sst) =>
  jn (f_X6_clear 145 q11037) fun (q11039 : Sst) =>
  jn (f_X6_clear 147 q11039) fun (q11041 : Sst) =>
  jn (f_X6_clear 149 q11041) fun (q11043 : Sst) =>
  jn (f_X6_clear 151 q11043) fun (q11045 : Sst) =>
  jn (f_X6_clear 153 q11045) fun (q11047 : Sst) =>
  jn (f_X6_clear 155 q11047) fun (q11049 : Sst) =>
  jn (f_X6_clear 157 q11049) fun (q11051 : Sst) =>
  jn (f_X6_clear 159 q11051) fun (q11053 : Sst) =>
  jn (f_X6_clear 161 q11053) fun (q11055 : Sst) =>
  jn (f_X6_clear 163 q11055) fun (q11057 : Sst) =>
  jn (f_X6_clear 165 q11057) fun (q11059 : Sst) =>
  jn (f_X6_clear 167 q11059) fun (q11061 : Sst) =>
  jn (f_X6_clear 169 q11061) fun (q11063 : Sst) =>
  jn (f_X6_clear 171 q11063) fun (q11065 : Sst) =>
  jn (f_X7_restart 140 q11065) fun (q11068 : Sst) =>
  q11068
set_option maxRecDepth 100000 in
set_option maxHeartbeats 4000000 in
theorem i_X7_init_140 {l : Launch} {E : EwT} {S : Sst} {O : Smo} {q : Sst} (hq : f_X7_init_140 S = q) : MetG l E yX7_init cX7_init 1 none 3 67 32 7966 141 (RT 144) S O [.ref (zad E 140)] True none 173 (RT 176) q O := by
  refine ofG (L0 := [(0, .ref (zad E 140))]) hq (by decide +kernel) (Nat.le_of_ble_eq_true rfl) rfl (fun K _ C hQ => ?_)
  unfold f_X7_init_140
  refine r_aload_n (pc := 0) (j := 0) C dX7_init_0 rfl rfl ?_
  refine r_obj (pc := 1) C q_478 q_153 q_154 dX7_init_1 (Nat.le_of_ble_eq_true rfl) (by decide) (by decide) ?_
  refine r_aload_n (pc := 4) (j := 0) C dX7_init_4 rfl rfl ?_
  refine r_new (n := 141) C cl_X6 kd_141 q_479 q_156 q_128 dX7_init_5 (by decide) (by decide) ?_
  refine r_dup C dX7_init_8 rfl ?_
  refine r_bipush (v := 41) C dX7_init_9 (by decide) ?_
  refine r_jn (fun q11035 e11036 => ?_)
  refine r_callI (pc := 11) (k := 141) (As := [.int (zi 41)]) (st := [.ref (zad E 141), .ref (zad E 140)]) C (i_X6 (p := 141) (m := 144) (N := 41) kd_141 (by decide) rfl (by decide +kernel) (by decide +kernel) (by decide +kernel) e11036) cal_X6_init q_480 dX7_init_11 rfl rfl (Nat.le_of_ble_eq_true rfl) (Nat.le_of_ble_eq_true rfl) (Nat.le_of_ble_eq_true rfl) (Nat.le_of_ble_eq_true rfl) (Nat.le_of_ble_eq_true rfl) (fun _ => ?_)
  refine r_putRT (m := 145) (r := 141) C cl_X7 kd_140 (by decide) (by decide) rfl ⟨rfl, rfl, rfl⟩ (by decide) (Or.inl rfl) rfl (by decide +kernel) q_507 dX7_init_14 ?_
  refine r_aload_n (pc := 17) (j := 0) C dX7_init_17 rfl rfl ?_
  refine r_new (n := 143) C cl_X6 kd_143 q_479 q_156 q_128 dX7_init_18 (by decide) (by decide) ?_
  refine r_dup C dX7_init_21 rfl ?_
  refine r_bipush (v := 41) C dX7_init_22 (by decide) ?_
  refine r_jn (fun q11037 e11038 => ?_)
  refine r_callI (pc := 24) (k := 143) (As := [.int (zi 41)]) (st := [.ref (zad E 143), .ref (zad E 140)]) C (i_X6 (p := 143) (m := 146) (N := 41) kd_143 (by decide) rfl (by decide +kernel) (by decide +kernel) (by decide +kernel) e11038) cal_X6_init q_480 dX7_init_24 rfl rfl (Nat.le_of_ble_eq_true rfl) (Nat.le_of_ble_eq_true rfl) (Nat.le_of_ble_eq_true rfl) (Nat.le_of_ble_eq_true rfl) (Nat.le_of_ble_eq_true rfl) (fun _ => ?_)
  refine r_putRT (m := 147) (r := 143) C cl_X7 kd_140 (by decide) (by decide) rfl ⟨rfl, rfl, rfl⟩ (by decide) (Or.inl rfl) rfl (by decide +kernel) q_511 dX7_init_27 ?_
  refine r_aload_n (pc := 30) (j := 0) C dX7_init_30 rfl rfl ?_
  refine r_new (n := 145) C cl_X6 kd_145 q_479 q_156 q_128 dX7_init_31 (by decide) (by decide) ?_
  refine r_dup C dX7_init_34 rfl ?_
  refine r_bipush (v := 41) C dX7_init_35 (by decide) ?_
  refine r_jn (fun q11039 e11040 => ?_)
  refine r_callI (pc := 37) (k := 145) (As := [.int (zi 41)]) (st := [.ref (zad E 145), .ref (zad E 140)]) C (i_X6 (p := 145) (m := 148) (N := 41) kd_145 (by decide) rfl (by decide +kernel) (by decide +kernel) (by decide +kernel) e11040) cal_X6_init q_480 dX7_init_37 rfl rfl (Nat.le_of_ble_eq_true rfl) (Nat.le_of_ble_eq_true rfl) (Nat.le_of_ble_eq_true rfl) (Nat.le_of_ble_eq_true rfl) (Nat.le_of_ble_eq_true rfl) (fun _ => ?_)
  refine r_putRT (m := 149) (r := 145) C cl_X7 kd_140 (by decide) (by decide) rfl ⟨rfl, rfl, rfl⟩ (by decide) (Or.inl rfl) rfl (by decide +kernel) q_515 dX7_init_40 ?_
  refine r_aload_n (pc := 43) (j := 0) C dX7_init_43 rfl rfl ?_
  refine r_new (n := 147) C cl_X6 kd_147 q_479 q_156 q_128 dX7_init_44 (by decide) (by decide) ?_
  refine r_dup C dX7_init_47 rfl ?_
  refine r_bipush (v := 41) C dX7_init_48 (by decide) ?_
  refine r_jn (fun q11041 e11042 => ?_)
  refine r_callI (pc := 50) (k := 147) (As := [.int (zi 41)]) (st := [.ref (zad E 147), .ref (zad E 140)]) C (i_X6 (p := 147) (m := 150) (N := 41) kd_147 (by decide) rfl (by decide +kernel) (by decide +kernel) (by decide +kernel) e11042) cal_X6_init q_480 dX7_init_50 rfl rfl (Nat.le_of_ble_eq_true rfl) (Nat.le_of_ble_eq_true rfl) (Nat.le_of_ble_eq_true rfl) (Nat.le_of_ble_eq_true rfl) (Nat.le_of_ble_eq_true rfl) (fun _ => ?_)
  refine r_putRT (m := 151) (r := 147) C cl_X7 kd_140 (by decide) (by decide) rfl ⟨rfl, rfl, rfl⟩ (by decide) (Or.inl rfl) rfl (by decide +kernel) q_518 dX7_init_53 ?_
  refine r_aload_n (pc := 56) (j := 0) C dX7_init_56 rfl rfl ?_
  refine r_new (n := 149) C cl_X6 kd_149 q_479 q_156 q_128 dX7_init_57 (by decide) (by decide) ?_
  refine r_dup C dX7_init_60 rfl ?_
  refine r_bipush (v := 41) C dX7_init_61 (by decide) ?_
  refine r_jn (fun q11043 e11044 => ?_)
  refine r_callI (pc := 63) (k := 149) (As := [.int (zi 41)]) (st := [.ref (zad E 149), .ref (zad E 140)]) C (i_X6 (p := 149) (m := 152) (N := 41) kd_149 (by decide) rfl (by decide +kernel) (by decide +kernel) (by decide +kernel) e11044) cal_X6_init q_480 dX7_init_63 rfl rfl (Nat.le_of_ble_eq_true rfl) (Nat.le_of_ble_eq_true rfl) (Nat.le_of_ble_eq_true rfl) (Nat.le_of_ble_eq_true rfl) (Nat.le_of_ble_eq_true rfl) (fun _ => ?_)
  refine r_putRT (m := 153) (r := 149) C cl_X7 kd_140 (by decide) (by decide) rfl ⟨rfl, rfl, rfl⟩ (by decide) (Or.inl rfl) rfl (by decide +kernel) q_521 dX7_init_66 ?_
  refine r_aload_n (pc := 69) (j := 0) C dX7_init_69 rfl rfl ?_
  refine r_new (n := 151) C cl_X6 kd_151 q_479 q_156 q_128 dX7_init_70 (by decide) (by decide) ?_
  refine r_dup C dX7_init_73 rfl ?_
  refine r_bipush (v := 41) C dX7_init_74 (by decide) ?_
  refine r_jn (fun q11045 e11046 => ?_)
  refine r_callI (pc := 76) (k := 151) (As := [.int (zi 41)]) (st := [.ref (zad E 151), .ref (zad E 140)]) C (i_X6 (p := 151) (m := 154) (N := 41) kd_151 (by decide) rfl (by decide +kernel) (by decide +kernel) (by decide +kernel) e11046) cal_X6_init q_480 dX7_init_76 rfl rfl (Nat.le_of_ble_eq_true rfl) (Nat.le_of_ble_eq_true rfl) (Nat.le_of_ble_eq_true rfl) (Nat.le_of_ble_eq_true rfl) (Nat.le_of_ble_eq_true rfl) (fun _ => ?_)
  refine r_putRT (m := 155) (r := 151) C cl_X7 kd_140 (by decide) (by decide) rfl ⟨rfl, rfl, rfl⟩ (by decide) (Or.inl rfl) rfl (by decide +kernel) q_523 dX7_init_79 ?_
  refine r_aload_n (pc := 82) (j := 0) C dX7_init_82 rfl rfl ?_
  refine r_new (n := 153) C cl_X6 kd_153 q_479 q_156 q_128 dX7_init_83 (by decide) (by decide) ?_
  refine r_dup C dX7_init_86 rfl ?_
  refine r_sipush (v := 320) C dX7_init_87 (by decide) ?_
  refine r_jn (fun q11047 e11048 => ?_)
  refine r_callI (pc := 90) (k := 153) (As := [.int (zi 320)]) (st := [.ref (zad E 153), .ref (zad E 140)]) C (i_X6 (p := 153) (m := 156) (N := 320) kd_153 (by decide) rfl (by decide +kernel) (by decide +kernel) (by decide +kernel) e11048) cal_X6_init q_480 dX7_init_90 rfl rfl (Nat.le_of_ble_eq_true rfl) (Nat.le_of_ble_eq_true rfl) (Nat.le_of_ble_eq_true rfl) (Nat.le_of_ble_eq_true rfl) (Nat.le_of_ble_eq_true rfl) (fun _ => ?_)
  refine r_putRT (m := 157) (r := 153) C cl_X7 kd_140 (by decide) (by decide) rfl ⟨rfl, rfl, rfl⟩ (by decide) (Or.inl rfl) rfl (by decide +kernel) q_525 dX7_init_93 ?_
  refine r_aload_n (pc := 96) (j := 0) C dX7_init_96 rfl rfl ?_
  refine r_new (n := 155) C cl_X6 kd_155 q_479 q_156 q_128 dX7_init_97 (by decide) (by decide) ?_
  refine r_dup C dX7_init_100 rfl ?_
  refine r_sipush (v := 320) C dX7_init_101 (by decide) ?_
  refine r_jn (fun q11049 e11050 => ?_)
  refine r_callI (pc := 104) (k := 155) (As := [.int (zi 320)]) (st := [.ref (zad E 155), .ref (zad E 140)]) C (i_X6 (p := 155) (m := 158) (N := 320) kd_155 (by decide) rfl (by decide +kernel) (by decide +kernel) (by decide +kernel) e11050) cal_X6_init q_480 dX7_init_104 rfl rfl (Nat.le_of_ble_eq_true rfl) (Nat.le_of_ble_eq_true rfl) (Nat.le_of_ble_eq_true rfl) (Nat.le_of_ble_eq_true rfl) (Nat.le_of_ble_eq_true rfl) (fun _ => ?_)
  refine r_putRT (m := 159) (r := 155) C cl_X7 kd_140 (by decide) (by decide) rfl ⟨rfl, rfl, rfl⟩ (by decide) (Or.inl rfl) rfl (by decide +kernel) q_527 dX7_init_107 ?_
  refine r_aload_n (pc := 110) (j := 0) C dX7_init_110 rfl rfl ?_
  refine r_new (n := 157) C cl_X6 kd_157 q_479 q_156 q_128 dX7_init_111 (by decide) (by decide) ?_
  refine r_dup C dX7_init_114 rfl ?_
  refine r_sipush (v := 320) C dX7_init_115 (by decide) ?_
  refine r_jn (fun q11051 e11052 => ?_)
  refine r_callI (pc := 118) (k := 157) (As := [.int (zi 320)]) (st := [.ref (zad E 157), .ref (zad E 140)]) C (i_X6 (p := 157) (m := 160) (N := 320) kd_157 (by decide) rfl (by decide +kernel) (by decide +kernel) (by decide +kernel) e11052) cal_X6_init q_480 dX7_init_118 rfl rfl (Nat.le_of_ble_eq_true rfl) (Nat.le_of_ble_eq_true rfl) (Nat.le_of_ble_eq_true rfl) (Nat.le_of_ble_eq_true rfl) (Nat.le_of_ble_eq_true rfl) (fun _ => ?_)
  refine r_putRT (m := 161) (r := 157) C cl_X7 kd_140 (by decide) (by decide) rfl ⟨rfl, rfl, rfl⟩ (by decide) (Or.inl rfl) rfl (by decide +kernel) q_529 dX7_init_121 ?_
  refine r_aload_n (pc := 124) (j := 0) C dX7_init_124 rfl rfl ?_
  refine r_new (n := 159) C cl_X6 kd_159 q_479 q_156 q_128 dX7_init_125 (by decide) (by decide) ?_
  refine r_dup C dX7_init_128 rfl ?_
  refine r_sipush (v := 320) C dX7_init_129 (by decide) ?_
  refine r_jn (fun q11053 e11054 => ?_)
  refine r_callI (pc := 132) (k := 159) (As := [.int (zi 320)]) (st := [.ref (zad E 159), .ref (zad E 140)]) C (i_X6 (p := 159) (m := 162) (N := 320) kd_159 (by decide) rfl (by decide +kernel) (by decide +kernel) (by decide +kernel) e11054) cal_X6_init q_480 dX7_init_132 rfl rfl (Nat.le_of_ble_eq_true rfl) (Nat.le_of_ble_eq_true rfl) (Nat.le_of_ble_eq_true rfl) (Nat.le_of_ble_eq_true rfl) (Nat.le_of_ble_eq_true rfl) (fun _ => ?_)
  refine r_putRT (m := 163) (r := 159) C cl_X7 kd_140 (by decide) (by decide) rfl ⟨rfl, rfl, rfl⟩ (by decide) (Or.inl rfl) rfl (by decide +kernel) q_531 dX7_init_135 ?_
  refine r_aload_n (pc := 138) (j := 0) C dX7_init_138 rfl rfl ?_
  refine r_new (n := 161) C cl_X6 kd_161 q_479 q_156 q_128 dX7_init_139 (by decide) (by decide) ?_
  refine r_dup C dX7_init_142 rfl ?_
  refine r_sipush (v := 320) C dX7_init_143 (by decide) ?_
  refine r_jn (fun q11055 e11056 => ?_)
  refine r_callI (pc := 146) (k := 161) (As := [.int (zi 320)]) (st := [.ref (zad E 161), .ref (zad E 140)]) C (i_X6 (p := 161) (m := 164) (N := 320) kd_161 (by decide) rfl (by decide +kernel) (by decide +kernel) (by decide +kernel) e11056) cal_X6_init q_480 dX7_init_146 rfl rfl (Nat.le_of_ble_eq_true rfl) (Nat.le_of_ble_eq_true rfl) (Nat.le_of_ble_eq_true rfl) (Nat.le_of_ble_eq_true rfl) (Nat.le_of_ble_eq_true rfl) (fun _ => ?_)
  refine r_putRT (m := 165) (r := 161) C cl_X7 kd_140 (by decide) (by decide) rfl ⟨rfl, rfl, rfl⟩ (by decide) (Or.inl rfl) rfl (by decide +kernel) q_533 dX7_init_149 ?_
  refine r_aload_n (pc := 152) (j := 0) C dX7_init_152 rfl rfl ?_
  refine r_new (n := 163) C cl_X6 kd_163 q_479 q_156 q_128 dX7_init_153 (by decide) (by decide) ?_
  refine r_dup C dX7_init_156 rfl ?_
  refine r_sipush (v := 320) C dX7_init_157 (by decide) ?_
  refine r_jn (fun q11057 e11058 => ?_)
  refine r_callI (pc := 160) (k := 163) (As := [.int (zi 320)]) (st := [.ref (zad E 163), .ref (zad E 140)]) C (i_X6 (p := 163) (m := 166) (N := 320) kd_163 (by decide) rfl (by decide +kernel) (by decide +kernel) (by decide +kernel) e11058) cal_X6_init q_480 dX7_init_160 rfl rfl (Nat.le_of_ble_eq_true rfl) (Nat.le_of_ble_eq_true rfl) (Nat.le_of_ble_eq_true rfl) (Nat.le_of_ble_eq_true rfl) (Nat.le_of_ble_eq_true rfl) (fun _ => ?_)
  refine r_putRT (m := 167) (r := 163) C cl_X7 kd_140 (by decide) (by decide) rfl ⟨rfl, rfl, rfl⟩ (by decide) (Or.inl rfl) rfl (by decide +kernel) q_535 dX7_init_163 ?_
  refine r_aload_n (pc := 166) (j := 0) C dX7_init_166 rfl rfl ?_
  refine r_new (n := 165) C cl_X6 kd_165 q_479 q_156 q_128 dX7_init_167 (by decide) (by decide) ?_
  refine r_dup C dX7_init_170 rfl ?_
  refine r_sipush (v := 1920) C dX7_init_171 (by decide) ?_
  refine r_jn (fun q11059 e11060 => ?_)
  refine r_callI (pc := 174) (k := 165) (As := [.int (zi 1920)]) (st := [.ref (zad E 165), .ref (zad E 140)]) C (i_X6 (p := 165) (m := 168) (N := 1920) kd_165 (by decide) rfl (by decide +kernel) (by decide +kernel) (by decide +kernel) e11060) cal_X6_init q_480 dX7_init_174 rfl rfl (Nat.le_of_ble_eq_true rfl) (Nat.le_of_ble_eq_true rfl) (Nat.le_of_ble_eq_true rfl) (Nat.le_of_ble_eq_true rfl) (Nat.le_of_ble_eq_true rfl) (fun _ => ?_)
  refine r_putRT (m := 169) (r := 165) C cl_X7 kd_140 (by decide) (by decide) rfl ⟨rfl, rfl, rfl⟩ (by decide) (Or.inl rfl) rfl (by decide +kernel) q_536 dX7_init_177 ?_
  refine r_aload_n (pc := 180) (j := 0) C dX7_init_180 rfl rfl ?_
  refine r_new (n := 167) C cl_X6 kd_167 q_479 q_156 q_128 dX7_init_181 (by decide) (by decide) ?_
  refine r_dup C dX7_init_184 rfl ?_
  refine r_sipush (v := 1920) C dX7_init_185 (by decide) ?_
  refine r_jn (fun q11061 e11062 => ?_)
  refine r_callI (pc := 188) (k := 167) (As := [.int (zi 1920)]) (st := [.ref (zad E 167), .ref (zad E 140)]) C (i_X6 (p := 167) (m := 170) (N := 1920) kd_167 (by decide) rfl (by decide +kernel) (by decide +kernel) (by decide +kernel) e11062) cal_X6_init q_480 dX7_init_188 rfl rfl (Nat.le_of_ble_eq_true rfl) (Nat.le_of_ble_eq_true rfl) (Nat.le_of_ble_eq_true rfl) (Nat.le_of_ble_eq_true rfl) (Nat.le_of_ble_eq_true rfl) (fun _ => ?_)
  refine r_putRT (m := 171) (r := 167) C cl_X7 kd_140 (by decide) (by decide) rfl ⟨rfl, rfl, rfl⟩ (by decide) (Or.inl rfl) rfl (by decide +kernel) q_538 dX7_init_191 ?_
  refine r_aload_n (pc := 194) (j := 0) C dX7_init_194 rfl rfl ?_
  refine r_new (n := 169) C cl_X6 kd_169 q_479 q_156 q_128 dX7_init_195 (by decide) (by decide) ?_
  refine r_dup C dX7_init_198 rfl ?_
  refine r_sipush (v := 1920) C dX7_init_199 (by decide) ?_
  refine r_jn (fun q11063 e11064 => ?_)
  refine r_callI (pc := 202) (k := 169) (As := [.int (zi 1920)]) (st := [.ref (zad E 169), .ref (zad E 140)]) C (i_X6 (p := 169) (m := 172) (N := 1920) kd_169 (by decide) rfl (by decide +kernel) (by decide +kernel) (by decide +kernel) e11064) cal_X6_init q_480 dX7_init_202 rfl rfl (Nat.le_of_ble_eq_true rfl) (Nat.le_of_ble_eq_true rfl) (Nat.le_of_ble_eq_true rfl) (Nat.le_of_ble_eq_true rfl) (Nat.le_of_ble_eq_true rfl) (fun _ => ?_)
  refine r_putRT (m := 173) (r := 169) C cl_X7 kd_140 (by decide) (by decide) rfl ⟨rfl, rfl, rfl⟩ (by decide) (Or.inl rfl) rfl (by decide +kernel) q_540 dX7_init_205 ?_
  refine r_aload_n (pc := 208) (j := 0) C dX7_init_208 rfl rfl ?_
  refine r_new (n := 171) C cl_X6 kd_171 q_479 q_156 q_128 dX7_init_209 (by decide) (by decide) ?_
  refine r_dup C dX7_init_212 rfl ?_
  refine r_bipush (v := 8) C dX7_init_213 (by decide) ?_
  refine r_jn (fun q11065 e11066 => ?_)
  refine r_callI (pc := 215) (k := 171) (As := [.int (zi 8)]) (st := [.ref (zad E 171), .ref (zad E 140)]) C (i_X6 (p := 171) (m := 174) (N := 8) kd_171 (by decide) rfl (by decide +kernel) (by decide +kernel) (by decide +kernel) e11066) cal_X6_init q_480 dX7_init_215 rfl rfl (Nat.le_of_ble_eq_true rfl) (Nat.le_of_ble_eq_true rfl) (Nat.le_of_ble_eq_true rfl) (Nat.le_of_ble_eq_true rfl) (Nat.le_of_ble_eq_true rfl) (fun _ => ?_)
  refine r_putRT (m := 175) (r := 171) C cl_X7 kd_140 (by decide) (by decide) rfl ⟨rfl, rfl, rfl⟩ (by decide) (Or.inl rfl) rfl (by decide +kernel) q_542 dX7_init_218 ?_
  refine r_aload_n (pc := 221) (j := 0) C dX7_init_221 rfl rfl ?_
  refine r_jn (fun q11068 e11069 => ?_)
  refine r_cV0 (pc := 222) (k := 140) (As := []) (st := []) C (m_X7_restart (p := 140) (show gSt 173 (RT 176) 140 from ⟨by decide, by decide, by decide +kernel⟩) e11069) cal_X7_restart cl_X7 kd_140 (by decide) q_481 dX7_init_222 rfl rfl (Nat.le_of_ble_eq_true rfl) (Nat.le_of_ble_eq_true rfl) (Nat.le_of_ble_eq_true rfl) (Nat.le_of_ble_eq_true rfl) (Nat.le_of_ble_eq_true rfl) (fun h11067 => ?_)
  exact r_return C hQ dX7_init_225 (fun e => by subst e; exact ⟨trivial, rfl, rfl, rfl, rfl, rfl⟩)

def f_X7_init_173 (S : Sst) : Sst :=
  jn (f_X6_clear 174 S) fun (q11070 : Sst) =>
  jn (f_X6_clear 176 q11070) fun (q11072 : Sst) =>
  jn (f_X6_clear 178 q11072) fun (q11074 : Sst) =>
  jn (f_X6_clear 180 q11074) fun (q11076 : Sst) =>
  jn (f_X6_clear 182 q11076) fun (q11078 : Sst) =>
  jn (f_X6_clear 184 q11078) fun (q11080 : Sst) =>
  jn (f_X6_clear 186 q11080) fun (q11082 : Sst) =>
  jn (f_X6_clear 188 q11082) fun (q11084 : Sst) =>
  jn (f_X6_clear 190 q11084) fun (q11086 : Sst) =>
  jn (f_X6_clear 192 q11086) fun (q11088 : Sst) =>
  jn (f_X6_clear 194 q11088) fun (q11090 : Sst) =>
  jn (f_X6_clear 196 q11090) fun (q11092 : Sst) =>
  jn (f_X6_clear 198 q11092) fun (q11094 : Sst) =>
  jn (f_X6_clear 200 q11094) fun (q11096 : Sst) =>
  jn (f_X6_clear 202 q11096) fun (q11098 : Sst) =>
  jn (f_X6_clear 204 q11098) fun (q11100 : Sst) =>
  jn (f_X7_restart 173 q11100) fun (q11103 : Sst) =>
  q11103
set_option maxRecDepth 100000 in
set_option maxHeartbeats 4000000 in
theorem i_X7_init_173 {l : Launch} {E : EwT} {S : Sst} {O : Smo} {q : Sst} (hq : f_X7_init_173 S = q) : MetG l E yX7_init cX7_init 1 none 3 67 32 7966 174 (RT 177) S O [.ref (zad E 173)] True none 206 (RT 209) q O := by
  refine ofG (L0 := [(0, .ref (zad E 173))]) hq (by decide +kernel) (Nat.le_of_ble_eq_true rfl) rfl (fun K _ C hQ => ?_)
  unfold f_X7_init_173
  refine r_aload_n (pc := 0) (j := 0) C dX7_init_0 rfl rfl ?_
  refine r_obj (pc := 1) C q_478 q_153 q_154 dX7_init_1 (Nat.le_of_ble_eq_true rfl) (by decide) (by decide) ?_
  refine r_aload_n (pc := 4) (j := 0) C dX7_init_4 rfl rfl ?_
  refine r_new (n := 174) C cl_X6 kd_174 q_479 q_156 q_128 dX7_init_5 (by decide) (by decide) ?_
  refine r_dup C dX7_init_8 rfl ?_
  refine r_bipush (v := 41) C dX7_init_9 (by decide) ?_
  refine r_jn (fun q11070 e11071 => ?_)
  refine r_callI (pc := 11) (k := 174) (As := [.int (zi 41)]) (st := [.ref (zad E 174), .ref (zad E 173)]) C (i_X6 (p := 174) (m := 177) (N := 41) kd_174 (by decide) rfl (by decide +kernel) (by decide +kernel) (by decide +kernel) e11071) cal_X6_init q_480 dX7_init_11 rfl rfl (Nat.le_of_ble_eq_true rfl) (Nat.le_of_ble_eq_true rfl) (Nat.le_of_ble_eq_true rfl) (Nat.le_of_ble_eq_true rfl) (Nat.le_of_ble_eq_true rfl) (fun _ => ?_)
  refine r_putRT (m := 178) (r := 174) C cl_X7 kd_173 (by decide) (by decide) rfl ⟨rfl, rfl, rfl⟩ (by decide) (Or.inl rfl) rfl (by decide +kernel) q_507 dX7_init_14 ?_
  refine r_aload_n (pc := 17) (j := 0) C dX7_init_17 rfl rfl ?_
  refine r_new (n := 176) C cl_X6 kd_176 q_479 q_156 q_128 dX7_init_18 (by decide) (by decide) ?_
  refine r_dup C dX7_init_21 rfl ?_
  refine r_bipush (v := 41) C dX7_init_22 (by decide) ?_
  refine r_jn (fun q11072 e11073 => ?_)
  refine r_callI (pc := 24) (k := 176) (As := [.int (zi 41)]) (st := [.ref (zad E 176), .ref (zad E 173)]) C (i_X6 (p := 176) (m := 179) (N := 41) kd_176 (by decide) rfl (by decide +kernel) (by decide +kernel) (by decide +kernel) e11073) cal_X6_init q_480 dX7_init_24 rfl rfl (Nat.le_of_ble_eq_true rfl) (Nat.le_of_ble_eq_true rfl) (Nat.le_of_ble_eq_true rfl) (Nat.le_of_ble_eq_true rfl) (Nat.le_of_ble_eq_true rfl) (fun _ => ?_)
  refine r_putRT (m := 180) (r := 176) C cl_X7 kd_173 (by decide) (by decide) rfl ⟨rfl, rfl, rfl⟩ (by decide) (Or.inl rfl) rfl (by decide +kernel) q_511 dX7_init_27 ?_
  refine r_aload_n (pc := 30) (j := 0) C dX7_init_30 rfl rfl ?_
  refine r_new (n := 178) C cl_X6 kd_178 q_479 q_156 q_128 dX7_init_31 (by decide) (by decide) ?_
  refine r_dup C dX7_init_34 rfl ?_
  refine r_bipush (v := 41) C dX7_init_35 (by decide) ?_
  refine r_jn (fun q11074 e11075 => ?_)
  refine r_callI (pc := 37) (k := 178) (As := [.int (zi 41)]) (st := [.ref (zad E 178), .ref (zad E 173)]) C (i_X6 (p := 178) (m := 181) (N := 41) kd_178 (by decide) rfl (by decide +kernel) (by decide +kernel) (by decide +kernel) e11075) cal_X6_init q_480 dX7_init_37 rfl rfl (Nat.le_of_ble_eq_true rfl) (Nat.le_of_ble_eq_true rfl) (Nat.le_of_ble_eq_true rfl) (Nat.le_of_ble_eq_true rfl) (Nat.le_of_ble_eq_true rfl) (fun _ => ?_)
  refine r_putRT (m := 182) (r := 178) C cl_X7 kd_173 (by decide) (by decide) rfl ⟨rfl, rfl, rfl⟩ (by decide) (Or.inl rfl) rfl (by decide +kernel) q_515 dX7_init_40 ?_
  refine r_aload_n (pc := 43) (j := 0) C dX7_init_43 rfl rfl ?_
  refine r_new (n := 180) C cl_X6 kd_180 q_479 q_156 q_128 dX7_init_44 (by decide) (by decide) ?_
  refine r_dup C dX7_init_47 rfl ?_
  refine r_bipush (v := 41) C dX7_init_48 (by decide) ?_
  refine r_jn (fun q11076 e11077 => ?_)
  refine r_callI (pc := 50) (k := 180) (As := [.int (zi 41)]) (st := [.ref (zad E 180), .ref (zad E 173)]) C (i_X6 (p := 180) (m := 183) (N := 41) kd_180 (by decide) rfl (by decide +kernel) (by decide +kernel) (by decide +kernel) e11077) cal_X6_init q_480 dX7_init_50 rfl rfl (Nat.le_of_ble_eq_true rfl) (Nat.le_of_ble_eq_true rfl) (Nat.le_of_ble_eq_true rfl) (Nat.le_of_ble_eq_true rfl) (Nat.le_of_ble_eq_true rfl) (fun _ => ?_)
  refine r_putRT (m := 184) (r := 180) C cl_X7 kd_173 (by decide) (by decide) rfl ⟨rfl, rfl, rfl⟩ (by decide) (Or.inl rfl) rfl (by decide +kernel) q_518 dX7_init_53 ?_
  refine r_aload_n (pc := 56) (j := 0) C dX7_init_56 rfl rfl ?_
  refine r_new (n := 182) C cl_X6 kd_182 q_479 q_156 q_128 dX7_init_57 (by decide) (by decide) ?_
  refine r_dup C dX7_init_60 rfl ?_
  refine r_bipush (v := 41) C dX7_init_61 (by decide) ?_
  refine r_jn (fun q11078 e11079 => ?_)
  refine r_callI (pc := 63) (k := 182) (As := [.int (zi 41)]) (st := [.ref (zad E 182), .ref (zad E 173)]) C (i_X6 (p := 182) (m := 185) (N := 41) kd_182 (by decide) rfl (by decide +kernel) (by decide +kernel) (by decide +kernel) e11079) cal_X6_init q_480 dX7_init_63 rfl rfl (Nat.le_of_ble_eq_true rfl) (Nat.le_of_ble_eq_true rfl) (Nat.le_of_ble_eq_true rfl) (Nat.le_of_ble_eq_true rfl) (Nat.le_of_ble_eq_true rfl) (fun _ => ?_)
  refine r_putRT (m := 186) (r := 182) C cl_X7 kd_173 (by decide) (by decide) rfl ⟨rfl, rfl, rfl⟩ (by decide) (Or.inl rfl) rfl (by decide +kernel) q_521 dX7_init_66 ?_
  refine r_aload_n (pc := 69) (j := 0) C dX7_init_69 rfl rfl ?_
  refine r_new (n := 184) C cl_X6 kd_184 q_479 q_156 q_128 dX7_init_70 (by decide) (by decide) ?_
  refine r_dup C dX7_init_73 rfl ?_
  refine r_bipush (v := 41) C dX7_init_74 (by decide) ?_
  refine r_jn (fun q11080 e11081 => ?_)
  refine r_callI (pc := 76) (k := 184) (As := [.int (zi 41)]) (st := [.ref (zad E 184), .ref (zad E 173)]) C (i_X6 (p := 184) (m := 187) (N := 41) kd_184 (by decide) rfl (by decide +kernel) (by decide +kernel) (by decide +kernel) e11081) cal_X6_init q_480 dX7_init_76 rfl rfl (Nat.le_of_ble_eq_true rfl) (Nat.le_of_ble_eq_true rfl) (Nat.le_of_ble_eq_true rfl) (Nat.le_of_ble_eq_true rfl) (Nat.le_of_ble_eq_true rfl) (fun _ => ?_)
  refine r_putRT (m := 188) (r := 184) C cl_X7 kd_173 (by decide) (by decide) rfl ⟨rfl, rfl, rfl⟩ (by decide) (Or.inl rfl) rfl (by decide +kernel) q_523 dX7_init_79 ?_
  refine r_aload_n (pc := 82) (j := 0) C dX7_init_82 rfl rfl ?_
  refine r_new (n := 186) C cl_X6 kd_186 q_479 q_156 q_128 dX7_init_83 (by decide) (by decide) ?_
  refine r_dup C dX7_init_86 rfl ?_
  refine r_sipush (v := 320) C dX7_init_87 (by decide) ?_
  refine r_jn (fun q11082 e11083 => ?_)
  refine r_callI (pc := 90) (k := 186) (As := [.int (zi 320)]) (st := [.ref (zad E 186), .ref (zad E 173)]) C (i_X6 (p := 186) (m := 189) (N := 320) kd_186 (by decide) rfl (by decide +kernel) (by decide +kernel) (by decide +kernel) e11083) cal_X6_init q_480 dX7_init_90 rfl rfl (Nat.le_of_ble_eq_true rfl) (Nat.le_of_ble_eq_true rfl) (Nat.le_of_ble_eq_true rfl) (Nat.le_of_ble_eq_true rfl) (Nat.le_of_ble_eq_true rfl) (fun _ => ?_)
  refine r_putRT (m := 190) (r := 186) C cl_X7 kd_173 (by decide) (by decide) rfl ⟨rfl, rfl, rfl⟩ (by decide) (Or.inl rfl) rfl (by decide +kernel) q_525 dX7_init_93 ?_
  refine r_aload_n (pc := 96) (j := 0) C dX7_init_96 rfl rfl ?_
  refine r_new (n := 188) C cl_X6 kd_188 q_479 q_156 q_128 dX7_init_97 (by decide) (by decide) ?_
  refine r_dup C dX7_init_100 rfl ?_
  refine r_sipush (v := 320) C dX7_init_101 (by decide) ?_
  refine r_jn (fun q11084 e11085 => ?_)
  refine r_callI (pc := 104) (k := 188) (As := [.int (zi 320)]) (st := [.ref (zad E 188), .ref (zad E 173)]) C (i_X6 (p := 188) (m := 191) (N := 320) kd_188 (by decide) rfl (by decide +kernel) (by decide +kernel) (by decide +kernel) e11085) cal_X6_init q_480 dX7_init_104 rfl rfl (Nat.le_of_ble_eq_true rfl) (Nat.le_of_ble_eq_true rfl) (Nat.le_of_ble_eq_true rfl) (Nat.le_of_ble_eq_true rfl) (Nat.le_of_ble_eq_true rfl) (fun _ => ?_)
  refine r_putRT (m := 192) (r := 188) C cl_X7 kd_173 (by decide) (by decide) rfl ⟨rfl, rfl, rfl⟩ (by decide) (Or.inl rfl) rfl (by decide +kernel) q_527 dX7_init_107 ?_
  refine r_aload_n (pc := 110) (j := 0) C dX7_init_110 rfl rfl ?_
  refine r_new (n := 190) C cl_X6 kd_190 q_479 q_156 q_128 dX7_init_111 (by decide) (by decide) ?_
  refine r_dup C dX7_init_114 rfl ?_
  refine r_sipush (v := 320) C dX7_init_115 (by decide) ?_
  refine r_jn (fun q11086 e11087 => ?_)
  refine r_callI (pc := 118) (k := 190) (As := [.int (zi 320)]) (st := [.ref (zad E 190), .ref (zad E 173)]) C (i_X6 (p := 190) (m := 193) (N := 320) kd_190 (by decide) rfl (by decide +kernel) (by decide +kernel) (by decide +kernel) e11087) cal_X6_init q_480 dX7_init_118 rfl rfl (Nat.le_of_ble_eq_true rfl) (Nat.le_of_ble_eq_true rfl) (Nat.le_of_ble_eq_true rfl) (Nat.le_of_ble_eq_true rfl) (Nat.le_of_ble_eq_true rfl) (fun _ => ?_)
  refine r_putRT (m := 194) (r := 190) C cl_X7 kd_173 (by decide) (by decide) rfl ⟨rfl, rfl, rfl⟩ (by decide) (Or.inl rfl) rfl (by decide +kernel) q_529 dX7_init_121 ?_
  refine r_aload_n (pc := 124) (j := 0) C dX7_init_124 rfl rfl ?_
  refine r_new (n := 192) C cl_X6 kd_192 q_479 q_156 q_128 dX7_init_125 (by decide) (by decide) ?_
  refine r_dup C dX7_init_128 rfl ?_
  refine r_sipush (v := 320) C dX7_init_129 (by decide) ?_
  refine r_jn (fun q11088 e11089 => ?_)
  refine r_callI (pc := 132) (k := 192) (As := [.int (zi 320)]) (st := [.ref (zad E 192), .ref (zad E 173)]) C (i_X6 (p := 192) (m := 195) (N := 320) kd_192 (by decide) rfl (by decide +kernel) (by decide +kernel) (by decide +kernel) e11089) cal_X6_init q_480 dX7_init_132 rfl rfl (Nat.le_of_ble_eq_true rfl) (Nat.le_of_ble_eq_true rfl) (Nat.le_of_ble_eq_true rfl) (Nat.le_of_ble_eq_true rfl) (Nat.le_of_ble_eq_true rfl) (fun _ => ?_)
  refine r_putRT (m := 196) (r := 192) C cl_X7 kd_173 (by decide) (by decide) rfl ⟨rfl, rfl, rfl⟩ (by decide) (Or.inl rfl) rfl (by decide +kernel) q_531 dX7_init_135 ?_
  refine r_aload_n (pc := 138) (j := 0) C dX7_init_138 rfl rfl ?_
  refine r_new (n := 194) C cl_X6 kd_194 q_479 q_156 q_128 dX7_init_139 (by decide) (by decide) ?_
  refine r_dup C dX7_init_142 rfl ?_
  refine r_sipush (v := 320) C dX7_init_143 (by decide) ?_
  refine r_jn (fun q11090 e11091 => ?_)
  refine r_callI (pc := 146) (k := 194) (As := [.int (zi 320)]) (st := [.ref (zad E 194), .ref (zad E 173)]) C (i_X6 (p := 194) (m := 197) (N := 320) kd_194 (by decide) rfl (by decide +kernel) (by decide +kernel) (by decide +kernel) e11091) cal_X6_init q_480 dX7_init_146 rfl rfl (Nat.le_of_ble_eq_true rfl) (Nat.le_of_ble_eq_true rfl) (Nat.le_of_ble_eq_true rfl) (Nat.le_of_ble_eq_true rfl) (Nat.le_of_ble_eq_true rfl) (fun _ => ?_)
  refine r_putRT (m := 198) (r := 194) C cl_X7 kd_173 (by decide) (by decide) rfl ⟨rfl, rfl, rfl⟩ (by decide) (Or.inl rfl) rfl (by decide +kernel) q_533 dX7_init_149 ?_
  refine r_aload_n (pc := 152) (j := 0) C dX7_init_152 rfl rfl ?_
  refine r_new (n := 196) C cl_X6 kd_196 q_479 q_156 q_128 dX7_init_153 (by decide) (by decide) ?_
  refine r_dup C dX7_init_156 rfl ?_
  refine r_sipush (v := 320) C dX7_init_157 (by decide) ?_
  refine r_jn (fun q11092 e11093 => ?_)
  refine r_callI (pc := 160) (k := 196) (As := [.int (zi 320)]) (st := [.ref (zad E 196), .ref (zad E 173)]) C (i_X6 (p := 196) (m := 199) (N := 320) kd_196 (by decide) rfl (by decide +kernel) (by decide +kernel) (by decide +kernel) e11093) cal_X6_init q_480 dX7_init_160 rfl rfl (Nat.le_of_ble_eq_true rfl) (Nat.le_of_ble_eq_true rfl) (Nat.le_of_ble_eq_true rfl) (Nat.le_of_ble_eq_true rfl) (Nat.le_of_ble_eq_true rfl) (fun _ => ?_)
  refine r_putRT (m := 200) (r := 196) C cl_X7 kd_173 (by decide) (by decide) rfl ⟨rfl, rfl, rfl⟩ (by decide) (Or.inl rfl) rfl (by decide +kernel) q_535 dX7_init_163 ?_
  refine r_aload_n (pc := 166) (j := 0) C dX7_init_166 rfl rfl ?_
  refine r_new (n := 198) C cl_X6 kd_198 q_479 q_156 q_128 dX7_init_167 (by decide) (by decide) ?_
  refine r_dup C dX7_init_170 rfl ?_
  refine r_sipush (v := 1920) C dX7_init_171 (by decide) ?_
  refine r_jn (fun q11094 e11095 => ?_)
  refine r_callI (pc := 174) (k := 198) (As := [.int (zi 1920)]) (st := [.ref (zad E 198), .ref (zad E 173)]) C (i_X6 (p := 198) (m := 201) (N := 1920) kd_198 (by decide) rfl (by decide +kernel) (by decide +kernel) (by decide +kernel) e11095) cal_X6_init q_480 dX7_init_174 rfl rfl (Nat.le_of_ble_eq_true rfl) (Nat.le_of_ble_eq_true rfl) (Nat.le_of_ble_eq_true rfl) (Nat.le_of_ble_eq_true rfl) (Nat.le_of_ble_eq_true rfl) (fun _ => ?_)
  refine r_putRT (m := 202) (r := 198) C cl_X7 kd_173 (by decide) (by decide) rfl ⟨rfl, rfl, rfl⟩ (by decide) (Or.inl rfl) rfl (by decide +kernel) q_536 dX7_init_177 ?_
  refine r_aload_n (pc := 180) (j := 0) C dX7_init_180 rfl rfl ?_
  refine r_new (n := 200) C cl_X6 kd_200 q_479 q_156 q_128 dX7_init_181 (by decide) (by decide) ?_
  refine r_dup C dX7_init_184 rfl ?_
  refine r_sipush (v := 1920) C dX7_init_185 (by decide) ?_
  refine r_jn (fun q11096 e11097 => ?_)
  refine r_callI (pc := 188) (k := 200) (As := [.int (zi 1920)]) (st := [.ref (zad E 200), .ref (zad E 173)]) C (i_X6 (p := 200) (m := 203) (N := 1920) kd_200 (by decide) rfl (by decide +kernel) (by decide +kernel) (by decide +kernel) e11097) cal_X6_init q_480 dX7_init_188 rfl rfl (Nat.le_of_ble_eq_true rfl) (Nat.le_of_ble_eq_true rfl) (Nat.le_of_ble_eq_true rfl) (Nat.le_of_ble_eq_true rfl) (Nat.le_of_ble_eq_true rfl) (fun _ => ?_)
  refine r_putRT (m := 204) (r := 200) C cl_X7 kd_173 (by decide) (by decide) rfl ⟨rfl, rfl, rfl⟩ (by decide) (Or.inl rfl) rfl (by decide +kernel) q_538 dX7_init_191 ?_
  refine r_aload_n (pc := 194) (j := 0) C dX7_init_194 rfl rfl ?_
  refine r_new (n := 202) C cl_X6 kd_202 q_479 q_156 q_128 dX7_init_195 (by decide) (by decide) ?_
  refine r_dup C dX7_init_198 rfl ?_
  refine r_sipush (v := 1920) C dX7_init_199 (by decide) ?_
  refine r_jn (fun q11098 e11099 => ?_)
  refine r_callI (pc := 202) (k := 202) (As := [.int (zi 1920)]) (st := [.ref (zad E 202), .ref (zad E 173)]) C (i_X6 (p := 202) (m := 205) (N := 1920) kd_202 (by decide) rfl (by decide +kernel) (by decide +kernel) (by decide +kernel) e11099) cal_X6_init q_480 dX7_init_202 rfl rfl (Nat.le_of_ble_eq_true rfl) (Nat.le_of_ble_eq_true rfl) (Nat.le_of_ble_eq_true rfl) (Nat.le_of_ble_eq_true rfl) (Nat.le_of_ble_eq_true rfl) (fun _ => ?_)
  refine r_putRT (m := 206) (r := 202) C cl_X7 kd_173 (by decide) (by decide) rfl ⟨rfl, rfl, rfl⟩ (by decide) (Or.inl rfl) rfl (by decide +kernel) q_540 dX7_init_205 ?_
  refine r_aload_n (pc := 208) (j := 0) C dX7_init_208 rfl rfl ?_
  refine r_new (n := 204) C cl_X6 kd_204 q_479 q_156 q_128 dX7_init_209 (by decide) (by decide) ?_
  refine r_dup C dX7_init_212 rfl ?_
  refine r_bipush (v := 8) C dX7_init_213 (by decide) ?_
  refine r_jn (fun q11100 e11101 => ?_)
  refine r_callI (pc := 215) (k := 204) (As := [.int (zi 8)]) (st := [.ref (zad E 204), .ref (zad E 173)]) C (i_X6 (p := 204) (m := 207) (N := 8) kd_204 (by decide) rfl (by decide +kernel) (by decide +kernel) (by decide +kernel) e11101) cal_X6_init q_480 dX7_init_215 rfl rfl (Nat.le_of_ble_eq_true rfl) (Nat.le_of_ble_eq_true rfl) (Nat.le_of_ble_eq_true rfl) (Nat.le_of_ble_eq_true rfl) (Nat.le_of_ble_eq_true rfl) (fun _ => ?_)
  refine r_putRT (m := 208) (r := 204) C cl_X7 kd_173 (by decide) (by decide) rfl ⟨rfl, rfl, rfl⟩ (by decide) (Or.inl rfl) rfl (by decide +kernel) q_542 dX7_init_218 ?_
  refine r_aload_n (pc := 221) (j := 0) C dX7_init_221 rfl rfl ?_
  refine r_jn (fun q11103 e11104 => ?_)
  refine r_cV0 (pc := 222) (k := 173) (As := []) (st := []) C (m_X7_restart (p := 173) (show gSt 206 (RT 209) 173 from ⟨by decide, by decide, by decide +kernel⟩) e11104) cal_X7_restart cl_X7 kd_173 (by decide) q_481 dX7_init_222 rfl rfl (Nat.le_of_ble_eq_true rfl) (Nat.le_of_ble_eq_true rfl) (Nat.le_of_ble_eq_true rfl) (Nat.le_of_ble_eq_true rfl) (Nat.le_of_ble_eq_true rfl) (fun h11102 => ?_)
  exact r_return C hQ dX7_init_225 (fun e => by subst e; exact ⟨trivial, rfl, rfl, rfl, rfl, rfl⟩)

def f_X7_init_206 (S : Sst) : Sst :=
  jn (f_X6_clear 207 S) fun (q11105 : Sst) =>
  jn (f_X6_clear 209 q11105) fun (q11107 : Sst) =>
  jn (f_X6_clear 211 q11107) fun (q11109 : Sst) =>
  jn (f_X6_clear 213 q11109) fun (q11111 : Sst) =>
  jn (f_X6_clear 215 q11111) fun (q11113 : Sst) =>
  jn (f_X6_clear 217 q11113) fun (q11115 : Sst) =>
  jn (f_X6_clear 219 q11115) fun (q11117 : Sst) =>
  jn (f_X6_clear 221 q11117) fun (q11119 : Sst) =>
  jn (f_X6_clear 223 q11119) fun (q11121 : Sst) =>
  jn (f_X6_clear 225 q11121) fun (q11123 : Sst) =>
  jn (f_X6_clear 227 q11123) fun (q11125 : Sst) =>
  jn (f_X6_clear 229 q11125) fun (q11127 : Sst) =>
  jn (f_X6_clear 231 q11127) fun (q11129 : Sst) =>
  jn (f_X6_clear 233 q11129) fun (q11131 : Sst) =>
  jn (f_X6_clear 235 q11131) fun (q11133 : Sst) =>
  jn (f_X6_clear 237 q11133) fun (q11135 : Sst) =>
  jn (f_X7_restart 206 q11135) fun (q11138 : Sst) =>
  q11138
set_option maxRecDepth 100000 in
set_option maxHeartbeats 4000000 in
theorem i_X7_init_206 {l : Launch} {E : EwT} {S : Sst} {O : Smo} {q : Sst} (hq : f_X7_init_206 S = q) : MetG l E yX7_init cX7_init 1 none 3 67 32 7966 207 (RT 210) S O [.ref (zad E 206)] True none 239 (RT 242) q O := by
  refine ofG (L0 := [(0, .ref (zad E 206))]) hq (by decide +kernel) (Nat.le_of_ble_eq_true rfl) rfl (fun K _ C hQ => ?_)
  unfold f_X7_init_206
  refine r_aload_n (pc := 0) (j := 0) C dX7_init_0 rfl rfl ?_
  refine r_obj (pc := 1) C q_478 q_153 q_154 dX7_init_1 (Nat.le_of_ble_eq_true rfl) (by decide) (by decide) ?_
  refine r_aload_n (pc := 4) (j := 0) C dX7_init_4 rfl rfl ?_
  refine r_new (n := 207) C cl_X6 kd_207 q_479 q_156 q_128 dX7_init_5 (by decide) (by decide) ?_
  refine r_dup C dX7_init_8 rfl ?_
  refine r_bipush (v := 41) C dX7_init_9 (by decide) ?_
  refine r_jn (fun q11105 e11106 => ?_)
  refine r_callI (pc := 11) (k := 207) (As := [.int (zi 41)]) (st := [.ref (zad E 207), .ref (zad E 206)]) C (i_X6 (p := 207) (m := 210) (N := 41) kd_207 (by decide) rfl (by decide +kernel) (by decide +kernel) (by decide +kernel) e11106) cal_X6_init q_480 dX7_init_11 rfl rfl (Nat.le_of_ble_eq_true rfl) (Nat.le_of_ble_eq_true rfl) (Nat.le_of_ble_eq_true rfl) (Nat.le_of_ble_eq_true rfl) (Nat.le_of_ble_eq_true rfl) (fun _ => ?_)
  refine r_putRT (m := 211) (r := 207) C cl_X7 kd_206 (by decide) (by decide) rfl ⟨rfl, rfl, rfl⟩ (by decide) (Or.inl rfl) rfl (by decide +kernel) q_507 dX7_init_14 ?_
  refine r_aload_n (pc := 17) (j := 0) C dX7_init_17 rfl rfl ?_
  refine r_new (n := 209) C cl_X6 kd_209 q_479 q_156 q_128 dX7_init_18 (by decide) (by decide) ?_
  refine r_dup C dX7_init_21 rfl ?_
  refine r_bipush (v := 41) C dX7_init_22 (by decide) ?_
  refine r_jn (fun q11107 e11108 => ?_)
  refine r_callI (pc := 24) (k := 209) (As := [.int (zi 41)]) (st := [.ref (zad E 209), .ref (zad E 206)]) C (i_X6 (p := 209) (m := 212) (N := 41) kd_209 (by decide) rfl (by decide +kernel) (by decide +kernel) (by decide +kernel) e11108) cal_X6_init q_480 dX7_init_24 rfl rfl (Nat.le_of_ble_eq_true rfl) (Nat.le_of_ble_eq_true rfl) (Nat.le_of_ble_eq_true rfl) (Nat.le_of_ble_eq_true rfl) (Nat.le_of_ble_eq_true rfl) (fun _ => ?_)
  refine r_putRT (m := 213) (r := 209) C cl_X7 kd_206 (by decide) (by decide) rfl ⟨rfl, rfl, rfl⟩ (by decide) (Or.inl rfl) rfl (by decide +kernel) q_511 dX7_init_27 ?_
  refine r_aload_n (pc := 30) (j := 0) C dX7_init_30 rfl rfl ?_
  refine r_new (n := 211) C cl_X6 kd_211 q_479 q_156 q_128 dX7_init_31 (by decide) (by decide) ?_
  refine r_dup C dX7_init_34 rfl ?_
  refine r_bipush (v := 41) C dX7_init_35 (by decide) ?_
  refine r_jn (fun q11109 e11110 => ?_)
  refine r_callI (pc := 37) (k := 211) (As := [.int (zi 41)]) (st := [.ref (zad E 211), .ref (zad E 206)]) C (i_X6 (p := 211) (m := 214) (N := 41) kd_211 (by decide) rfl (by decide +kernel) (by decide +kernel) (by decide +kernel) e11110) cal_X6_init q_480 dX7_init_37 rfl rfl (Nat.le_of_ble_eq_true rfl) (Nat.le_of_ble_eq_true rfl) (Nat.le_of_ble_eq_true rfl) (Nat.le_of_ble_eq_true rfl) (Nat.le_of_ble_eq_true rfl) (fun _ => ?_)
  refine r_putRT (m := 215) (r := 211) C cl_X7 kd_206 (by decide) (by decide) rfl ⟨rfl, rfl, rfl⟩ (by decide) (Or.inl rfl) rfl (by decide +kernel) q_515 dX7_init_40 ?_
  refine r_aload_n (pc := 43) (j := 0) C dX7_init_43 rfl rfl ?_
  refine r_new (n := 213) C cl_X6 kd_213 q_479 q_156 q_128 dX7_init_44 (by decide) (by decide) ?_
  refine r_dup C dX7_init_47 rfl ?_
  refine r_bipush (v := 41) C dX7_init_48 (by decide) ?_
  refine r_jn (fun q11111 e11112 => ?_)
  refine r_callI (pc := 50) (k := 213) (As := [.int (zi 41)]) (st := [.ref (zad E 213), .ref (zad E 206)]) C (i_X6 (p := 213) (m := 216) (N := 41) kd_213 (by decide) rfl (by decide +kernel) (by decide +kernel) (by decide +kernel) e11112) cal_X6_init q_480 dX7_init_50 rfl rfl (Nat.le_of_ble_eq_true rfl) (Nat.le_of_ble_eq_true rfl) (Nat.le_of_ble_eq_true rfl) (Nat.le_of_ble_eq_true rfl) (Nat.le_of_ble_eq_true rfl) (fun _ => ?_)
  refine r_putRT (m := 217) (r := 213) C cl_X7 kd_206 (by decide) (by decide) rfl ⟨rfl, rfl, rfl⟩ (by decide) (Or.inl rfl) rfl (by decide +kernel) q_518 dX7_init_53 ?_
  refine r_aload_n (pc := 56) (j := 0) C dX7_init_56 rfl rfl ?_
  refine r_new (n := 215) C cl_X6 kd_215 q_479 q_156 q_128 dX7_init_57 (by decide) (by decide) ?_
  refine r_dup C dX7_init_60 rfl ?_
  refine r_bipush (v := 41) C dX7_init_61 (by decide) ?_
  refine r_jn (fun q11113 e11114 => ?_)
  refine r_callI (pc := 63) (k := 215) (As := [.int (zi 41)]) (st := [.ref (zad E 215), .ref (zad E 206)]) C (i_X6 (p := 215) (m := 218) (N := 41) kd_215 (by decide) rfl (by decide +kernel) (by decide +kernel) (by decide +kernel) e11114) cal_X6_init q_480 dX7_init_63 rfl rfl (Nat.le_of_ble_eq_true rfl) (Nat.le_of_ble_eq_true rfl) (Nat.le_of_ble_eq_true rfl) (Nat.le_of_ble_eq_true rfl) (Nat.le_of_ble_eq_true rfl) (fun _ => ?_)
  refine r_putRT (m := 219) (r := 215) C cl_X7 kd_206 (by decide) (by decide) rfl ⟨rfl, rfl, rfl⟩ (by decide) (Or.inl rfl) rfl (by decide +kernel) q_521 dX7_init_66 ?_
  refine r_aload_n (pc := 69) (j := 0) C dX7_init_69 rfl rfl ?_
  refine r_new (n := 217) C cl_X6 kd_217 q_479 q_156 q_128 dX7_init_70 (by decide) (by decide) ?_
  refine r_dup C dX7_init_73 rfl ?_
  refine r_bipush (v := 41) C dX7_init_74 (by decide) ?_
  refine r_jn (fun q11115 e11116 => ?_)
  refine r_callI (pc := 76) (k := 217) (As := [.int (zi 41)]) (st := [.ref (zad E 217), .ref (zad E 206)]) C (i_X6 (p := 217) (m := 220) (N := 41) kd_217 (by decide) rfl (by decide +kernel) (by decide +kernel) (by decide +kernel) e11116) cal_X6_init q_480 dX7_init_76 rfl rfl (Nat.le_of_ble_eq_true rfl) (Nat.le_of_ble_eq_true rfl) (Nat.le_of_ble_eq_true rfl) (Nat.le_of_ble_eq_true rfl) (Nat.le_of_ble_eq_true rfl) (fun _ => ?_)
  refine r_putRT (m := 221) (r := 217) C cl_X7 kd_206 (by decide) (by decide) rfl ⟨rfl, rfl, rfl⟩ (by decide) (Or.inl rfl) rfl (by decide +kernel) q_523 dX7_init_79 ?_
  refine r_aload_n (pc := 82) (j := 0) C dX7_init_82 rfl rfl ?_
  refine r_new (n := 219) C cl_X6 kd_219 q_479 q_156 q_128 dX7_init_83 (by decide) (by decide) ?_
  refine r_dup C dX7_init_86 rfl ?_
  refine r_sipush (v := 320) C dX7_init_87 (by decide) ?_
  refine r_jn (fun q11117 e11118 => ?_)
  refine r_callI (pc := 90) (k := 219) (As := [.int (zi 320)]) (st := [.ref (zad E 219), .ref (zad E 206)]) C (i_X6 (p := 219) (m := 222) (N := 320) kd_219 (by decide) rfl (by decide +kernel) (by decide +kernel) (by decide +kernel) e11118) cal_X6_init q_480 dX7_init_90 rfl rfl (Nat.le_of_ble_eq_true rfl) (Nat.le_of_ble_eq_true rfl) (Nat.le_of_ble_eq_true rfl) (Nat.le_of_ble_eq_true rfl) (Nat.le_of_ble_eq_true rfl) (fun _ => ?_)
  refine r_putRT (m := 223) (r := 219) C cl_X7 kd_206 (by decide) (by decide) rfl ⟨rfl, rfl, rfl⟩ (by decide) (Or.inl rfl) rfl (by decide +kernel) q_525 dX7_init_93 ?_
  refine r_aload_n (pc := 96) (j := 0) C dX7_init_96 rfl rfl ?_
  refine r_new (n := 221) C cl_X6 kd_221 q_479 q_156 q_128 dX7_init_97 (by decide) (by decide) ?_
  refine r_dup C dX7_init_100 rfl ?_
  refine r_sipush (v := 320) C dX7_init_101 (by decide) ?_
  refine r_jn (fun q11119 e11120 => ?_)
  refine r_callI (pc := 104) (k := 221) (As := [.int (zi 320)]) (st := [.ref (zad E 221), .ref (zad E 206)]) C (i_X6 (p := 221) (m := 224) (N := 320) kd_221 (by decide) rfl (by decide +kernel) (by decide +kernel) (by decide +kernel) e11120) cal_X6_init q_480 dX7_init_104 rfl rfl (Nat.le_of_ble_eq_true rfl) (Nat.le_of_ble_eq_true rfl) (Nat.le_of_ble_eq_true rfl) (Nat.le_of_ble_eq_true rfl) (Nat.le_of_ble_eq_true rfl) (fun _ => ?_)
  refine r_putRT (m := 225) (r := 221) C cl_X7 kd_206 (by decide) (by decide) rfl ⟨rfl, rfl, rfl⟩ (by decide) (Or.inl rfl) rfl (by decide +kernel) q_527 dX7_init_107 ?_
  refine r_aload_n (pc := 110) (j := 0) C dX7_init_110 rfl rfl ?_
  refine r_new (n := 223) C cl_X6 kd_223 q_479 q_156 q_128 dX7_init_111 (by decide) (by decide) ?_
  refine r_dup C dX7_init_114 rfl ?_
  refine r_sipush (v := 320) C dX7_init_115 (by decide) ?_
  refine r_jn (fun q11121 e11122 => ?_)
  refine r_callI (pc := 118) (k := 223) (As := [.int (zi 320)]) (st := [.ref (zad E 223), .ref (zad E 206)]) C (i_X6 (p := 223) (m := 226) (N := 320) kd_223 (by decide) rfl (by decide +kernel) (by decide +kernel) (by decide +kernel) e11122) cal_X6_init q_480 dX7_init_118 rfl rfl (Nat.le_of_ble_eq_true rfl) (Nat.le_of_ble_eq_true rfl) (Nat.le_of_ble_eq_true rfl) (Nat.le_of_ble_eq_true rfl) (Nat.le_of_ble_eq_true rfl) (fun _ => ?_)
  refine r_putRT (m := 227) (r := 223) C cl_X7 kd_206 (by decide) (by decide) rfl ⟨rfl, rfl, rfl⟩ (by decide) (Or.inl rfl) rfl (by decide +kernel) q_529 dX7_init_121 ?_
  refine r_aload_n (pc := 124) (j := 0) C dX7_init_124 rfl rfl ?_
  refine r_new (n := 225) C cl_X6 kd_225 q_479 q_156 q_128 dX7_init_125 (by decide) (by decide) ?_
  refine r_dup C dX7_init_128 rfl ?_
  refine r_sipush (v := 320) C dX7_init_129 (by decide) ?_
  refine r_jn (fun q11123 e11124 => ?_)
  refine r_callI (pc := 132) (k := 225) (As := [.int (zi 320)]) (st := [.ref (zad E 225), .ref (zad E 206)]) C (i_X6 (p := 225) (m := 228) (N := 320) kd_225 (by decide) rfl (by decide +kernel) (by decide +kernel) (by decide +kernel) e11124) cal_X6_init q_480 dX7_init_132 rfl rfl (Nat.le_of_ble_eq_true rfl) (Nat.le_of_ble_eq_true rfl) (Nat.le_of_ble_eq_true rfl) (Nat.le_of_ble_eq_true rfl) (Nat.le_of_ble_eq_true rfl) (fun _ => ?_)
  refine r_putRT (m := 229) (r := 225) C cl_X7 kd_206 (by decide) (by decide) rfl ⟨rfl, rfl, rfl⟩ (by decide) (Or.inl rfl) rfl (by decide +kernel) q_531 dX7_init_135 ?_
  refine r_aload_n (pc := 138) (j := 0) C dX7_init_138 rfl rfl ?_
  refine r_new (n := 227) C cl_X6 kd_227 q_479 q_156 q_128 dX7_init_139 (by decide) (by decide) ?_
  refine r_dup C dX7_init_142 rfl ?_
  refine r_sipush (v := 320) C dX7_init_143 (by decide) ?_
  refine r_jn (fun q11125 e11126 => ?_)
  refine r_callI (pc := 146) (k := 227) (As := [.int (zi 320)]) (st := [.ref (zad E 227), .ref (zad E 206)]) C (i_X6 (p := 227) (m := 230) (N := 320) kd_227 (by decide) rfl (by decide +kernel) (by decide +kernel) (by decide +kernel) e11126) cal_X6_init q_480 dX7_init_146 rfl rfl (Nat.le_of_ble_eq_true rfl) (Nat.le_of_ble_eq_true rfl) (Nat.le_of_ble_eq_true rfl) (Nat.le_of_ble_eq_true rfl) (Nat.le_of_ble_eq_true rfl) (fun _ => ?_)
  refine r_putRT (m := 231) (r := 227) C cl_X7 kd_206 (by decide) (by decide) rfl ⟨rfl, rfl, rfl⟩ (by decide) (Or.inl rfl) rfl (by decide +kernel) q_533 dX7_init_149 ?_
  refine r_aload_n (pc := 152) (j := 0) C dX7_init_152 rfl rfl ?_
  refine r_new (n := 229) C cl_X6 kd_229 q_479 q_156 q_128 dX7_init_153 (by decide) (by decide) ?_
  refine r_dup C dX7_init_156 rfl ?_
  refine r_sipush (v := 320) C dX7_init_157 (by decide) ?_
  refine r_jn (fun q11127 e11128 => ?_)
  refine r_callI (pc := 160) (k := 229) (As := [.int (zi 320)]) (st := [.ref (zad E 229), .ref (zad E 206)]) C (i_X6 (p := 229) (m := 232) (N := 320) kd_229 (by decide) rfl (by decide +kernel) (by decide +kernel) (by decide +kernel) e11128) cal_X6_init q_480 dX7_init_160 rfl rfl (Nat.le_of_ble_eq_true rfl) (Nat.le_of_ble_eq_true rfl) (Nat.le_of_ble_eq_true rfl) (Nat.le_of_ble_eq_true rfl) (Nat.le_of_ble_eq_true rfl) (fun _ => ?_)
  refine r_putRT (m := 233) (r := 229) C cl_X7 kd_206 (by decide) (by decide) rfl ⟨rfl, rfl, rfl⟩ (by decide) (Or.inl rfl) rfl (by decide +kernel) q_535 dX7_init_163 ?_
  refine r_aload_n (pc := 166) (j := 0) C dX7_init_166 rfl rfl ?_
  refine r_new (n := 231) C cl_X6 kd_231 q_479 q_156 q_128 dX7_init_167 (by decide) (by decide) ?_
  refine r_dup C dX7_init_170 rfl ?_
  refine r_sipush (v := 1920) C dX7_init_171 (by decide) ?_
  refine r_jn (fun q11129 e11130 => ?_)
  refine r_callI (pc := 174) (k := 231) (As := [.int (zi 1920)]) (st := [.ref (zad E 231), .ref (zad E 206)]) C (i_X6 (p := 231) (m := 234) (N := 1920) kd_231 (by decide) rfl (by decide +kernel) (by decide +kernel) (by decide +kernel) e11130) cal_X6_init q_480 dX7_init_174 rfl rfl (Nat.le_of_ble_eq_true rfl) (Nat.le_of_ble_eq_true rfl) (Nat.le_of_ble_eq_true rfl) (Nat.le_of_ble_eq_true rfl) (Nat.le_of_ble_eq_true rfl) (fun _ => ?_)
  refine r_putRT (m := 235) (r := 231) C cl_X7 kd_206 (by decide) (by decide) rfl ⟨rfl, rfl, rfl⟩ (by decide) (Or.inl rfl) rfl (by decide +kernel) q_536 dX7_init_177 ?_
  refine r_aload_n (pc := 180) (j := 0) C dX7_init_180 rfl rfl ?_
  refine r_new (n := 233) C cl_X6 kd_233 q_479 q_156 q_128 dX7_init_181 (by decide) (by decide) ?_
  refine r_dup C dX7_init_184 rfl ?_
  refine r_sipush (v := 1920) C dX7_init_185 (by decide) ?_
  refine r_jn (fun q11131 e11132 => ?_)
  refine r_callI (pc := 188) (k := 233) (As := [.int (zi 1920)]) (st := [.ref (zad E 233), .ref (zad E 206)]) C (i_X6 (p := 233) (m := 236) (N := 1920) kd_233 (by decide) rfl (by decide +kernel) (by decide +kernel) (by decide +kernel) e11132) cal_X6_init q_480 dX7_init_188 rfl rfl (Nat.le_of_ble_eq_true rfl) (Nat.le_of_ble_eq_true rfl) (Nat.le_of_ble_eq_true rfl) (Nat.le_of_ble_eq_true rfl) (Nat.le_of_ble_eq_true rfl) (fun _ => ?_)
  refine r_putRT (m := 237) (r := 233) C cl_X7 kd_206 (by decide) (by decide) rfl ⟨rfl, rfl, rfl⟩ (by decide) (Or.inl rfl) rfl (by decide +kernel) q_538 dX7_init_191 ?_
  refine r_aload_n (pc := 194) (j := 0) C dX7_init_194 rfl rfl ?_
  refine r_new (n := 235) C cl_X6 kd_235 q_479 q_156 q_128 dX7_init_195 (by decide) (by decide) ?_
  refine r_dup C dX7_init_198 rfl ?_
  refine r_sipush (v := 1920) C dX7_init_199 (by decide) ?_
  refine r_jn (fun q11133 e11134 => ?_)
  refine r_callI (pc := 202) (k := 235) (As := [.int (zi 1920)]) (st := [.ref (zad E 235), .ref (zad E 206)]) C (i_X6 (p := 235) (m := 238) (N := 1920) kd_235 (by decide) rfl (by decide +kernel) (by decide +kernel) (by decide +kernel) e11134) cal_X6_init q_480 dX7_init_202 rfl rfl (Nat.le_of_ble_eq_true rfl) (Nat.le_of_ble_eq_true rfl) (Nat.le_of_ble_eq_true rfl) (Nat.le_of_ble_eq_true rfl) (Nat.le_of_ble_eq_true rfl) (fun _ => ?_)
  refine r_putRT (m := 239) (r := 235) C cl_X7 kd_206 (by decide) (by decide) rfl ⟨rfl, rfl, rfl⟩ (by decide) (Or.inl rfl) rfl (by decide +kernel) q_540 dX7_init_205 ?_
  refine r_aload_n (pc := 208) (j := 0) C dX7_init_208 rfl rfl ?_
  refine r_new (n := 237) C cl_X6 kd_237 q_479 q_156 q_128 dX7_init_209 (by decide) (by decide) ?_
  refine r_dup C dX7_init_212 rfl ?_
  refine r_bipush (v := 8) C dX7_init_213 (by decide) ?_
  refine r_jn (fun q11135 e11136 => ?_)
  refine r_callI (pc := 215) (k := 237) (As := [.int (zi 8)]) (st := [.ref (zad E 237), .ref (zad E 206)]) C (i_X6 (p := 237) (m := 240) (N := 8) kd_237 (by decide) rfl (by decide +kernel) (by decide +kernel) (by decide +kernel) e11136) cal_X6_init q_480 dX7_init_215 rfl rfl (Nat.le_of_ble_eq_true rfl) (Nat.le_of_ble_eq_true rfl) (Nat.le_of_ble_eq_true rfl) (Nat.le_of_ble_eq_true rfl) (Nat.le_of_ble_eq_true rfl) (fun _ => ?_)
  refine r_putRT (m := 241) (r := 237) C cl_X7 kd_206 (by decide) (by decide) rfl ⟨rfl, rfl, rfl⟩ (by decide) (Or.inl rfl) rfl (by decide +kernel) q_542 dX7_init_218 ?_
  refine r_aload_n (pc := 221) (j := 0) C dX7_init_221 rfl rfl ?_
  refine r_jn (fun q11138 e11139 => ?_)
  refine r_cV0 (pc := 222) (k := 206) (As := []) (st := []) C (m_X7_restart (p := 206) (show gSt 239 (RT 242) 206 from ⟨by decide, by decide, by decide +kernel⟩) e11139) cal_X7_restart cl_X7 kd_206 (by decide) q_481 dX7_init_222 rfl rfl (Nat.le_of_ble_eq_true rfl) (Nat.le_of_ble_eq_true rfl) (Nat.le_of_ble_eq_true rfl) (Nat.le_of_ble_eq_true rfl) (Nat.le_of_ble_eq_true rfl) (fun h11137 => ?_)
  exact r_return C hQ dX7_init_225 (fun e => by subst e; exact ⟨trivial, rfl, rfl, rfl, rfl, rfl⟩)

def f_X0_init_239 (S : Sst) : Sst :=
  jn (f_X6_clear 240 S) fun (q11140 : Sst) =>
  jn (upS q11140 239 1 0) fun (S11142 : Sst) =>
  S11142
set_option maxRecDepth 100000 in
set_option maxHeartbeats 4000000 in
theorem i_X0_init_239 {l : Launch} {E : EwT} {S : Sst} {O : Smo} {q : Sst} (hq : f_X0_init_239 S = q) : MetG l E yX0_init cX0_init 4 none 2 42 2 42 240 (RT 243) S O [.ref (zad E 239), .ref (zad E 29), .ref (zad E 59), .ref (zad E 74)] True none 242 (RT 248) q O := by
  refine ofG (L0 := [(0, .ref (zad E 239)), (1, .ref (zad E 29)), (2, .ref (zad E 59)), (3, .ref (zad E 74))]) hq (by decide +kernel) (Nat.le_of_ble_eq_true rfl) rfl (fun K _ C hQ => ?_)
  unfold f_X0_init_239
  refine r_aload_n (pc := 0) (j := 0) C dX0_init_0 rfl rfl ?_
  refine r_obj (pc := 1) C q_585 q_153 q_154 dX0_init_1 (Nat.le_of_ble_eq_true rfl) (by decide) (by decide) ?_
  refine r_aload_n (pc := 4) (j := 0) C dX0_init_4 rfl rfl ?_
  refine r_aload_n (pc := 5) (j := 1) C dX0_init_5 rfl rfl ?_
  refine r_putRT (m := 243) (r := 29) C cl_X0 kd_239 (by decide) (by decide) rfl ⟨rfl, rfl, rfl⟩ (by decide) (Or.inl rfl) rfl (by decide +kernel) q_592 dX0_init_6 ?_
  refine r_aload_n (pc := 9) (j := 0) C dX0_init_9 rfl rfl ?_
  refine r_aload_n (pc := 10) (j := 2) C dX0_init_10 rfl rfl ?_
  refine r_putRT (m := 244) (r := 59) C cl_X0 kd_239 (by decide) (by decide) rfl ⟨rfl, rfl, rfl⟩ (by decide) (Or.inl rfl) rfl (by decide +kernel) q_593 dX0_init_11 ?_
  refine r_aload_n (pc := 14) (j := 0) C dX0_init_14 rfl rfl ?_
  refine r_aload_n (pc := 15) (j := 3) C dX0_init_15 rfl rfl ?_
  refine r_putRT (m := 245) (r := 74) C cl_X0 kd_239 (by decide) (by decide) rfl ⟨rfl, rfl, rfl⟩ (by decide) (Or.inl rfl) rfl (by decide +kernel) q_594 dX0_init_16 ?_
  refine r_aload_n (pc := 19) (j := 0) C dX0_init_19 rfl rfl ?_
  refine r_new (n := 240) C cl_X6 kd_240 q_586 q_156 q_128 dX0_init_20 (by decide) (by decide) ?_
  refine r_dup C dX0_init_23 rfl ?_
  refine r_bipush (v := 40) C dX0_init_24 (by decide) ?_
  refine r_jn (fun q11140 e11141 => ?_)
  refine r_callI (pc := 26) (k := 240) (As := [.int (zi 40)]) (st := [.ref (zad E 240), .ref (zad E 239)]) C (i_X6 (p := 240) (m := 246) (N := 40) kd_240 (by decide) rfl (by decide +kernel) (by decide +kernel) (by decide +kernel) e11141) cal_X6_init q_587 dX0_init_26 rfl rfl (Nat.le_of_ble_eq_true rfl) (Nat.le_of_ble_eq_true rfl) (Nat.le_of_ble_eq_true rfl) (Nat.le_of_ble_eq_true rfl) (Nat.le_of_ble_eq_true rfl) (fun _ => ?_)
  refine r_putRT (m := 247) (r := 240) C cl_X0 kd_239 (by decide) (by decide) rfl ⟨rfl, rfl, rfl⟩ (by decide) (Or.inl rfl) rfl (by decide +kernel) q_588 dX0_init_29 ?_
  refine r_aload_n (pc := 32) (j := 0) C dX0_init_32 rfl rfl ?_
  refine r_iconst (v := 0) C dX0_init_33 (by decide) ?_
  refine r_putS C cl_X0 kd_239 (by decide) lc_239 (by decide) (by decide) rfl rfl rfl (IRd rfl) q_590 dX0_init_34 (fun S11142 => ?_)
  exact r_return C hQ dX0_init_37 (fun e => by subst e; exact ⟨trivial, rfl, rfl, rfl, rfl, rfl⟩)

def f_X8_init_242 (S : Sst) : Sst :=
  jn (f_X6_clear 243 S) fun (q11143 : Sst) =>
  jn (f_X6_clear 245 q11143) fun (q11145 : Sst) =>
  jn (f_X6_clear 247 q11145) fun (q11147 : Sst) =>
  q11147
set_option maxRecDepth 100000 in
set_option maxHeartbeats 4000000 in
theorem i_X8_init_242 {l : Launch} {E : EwT} {S : Sst} {O : Smo} {q : Sst} (hq : f_X8_init_242 S = q) : MetG l E yX8_init cX8_init 4 none 2 42 6 31 243 (RT 249) S O [.ref (zad E 242), .ref (zad E 29), .ref (zad E 59), .ref (zad E 74)] True none 249 (RT 258) q O := by
  refine ofG (L0 := [(0, .ref (zad E 242)), (1, .ref (zad E 29)), (2, .ref (zad E 59)), (3, .ref (zad E 74))]) hq (by decide +kernel) (Nat.le_of_ble_eq_true rfl) rfl (fun K _ C hQ => ?_)
  unfold f_X8_init_242
  refine r_aload_n (pc := 0) (j := 0) C dX8_init_0 rfl rfl ?_
  refine r_obj (pc := 1) C q_611 q_153 q_154 dX8_init_1 (Nat.le_of_ble_eq_true rfl) (by decide) (by decide) ?_
  refine r_aload_n (pc := 4) (j := 0) C dX8_init_4 rfl rfl ?_
  refine r_aload_n (pc := 5) (j := 1) C dX8_init_5 rfl rfl ?_
  refine r_putRT (m := 249) (r := 29) C cl_X8 kd_242 (by decide) (by decide) rfl ⟨rfl, rfl, rfl⟩ (by decide) (Or.inl rfl) rfl (by decide +kernel) q_624 dX8_init_6 ?_
  refine r_aload_n (pc := 9) (j := 0) C dX8_init_9 rfl rfl ?_
  refine r_aload_n (pc := 10) (j := 2) C dX8_init_10 rfl rfl ?_
  refine r_putRT (m := 250) (r := 59) C cl_X8 kd_242 (by decide) (by decide) rfl ⟨rfl, rfl, rfl⟩ (by decide) (Or.inl rfl) rfl (by decide +kernel) q_625 dX8_init_11 ?_
  refine r_aload_n (pc := 14) (j := 0) C dX8_init_14 rfl rfl ?_
  refine r_aload_n (pc := 15) (j := 3) C dX8_init_15 rfl rfl ?_
  refine r_putRT (m := 251) (r := 74) C cl_X8 kd_242 (by decide) (by decide) rfl ⟨rfl, rfl, rfl⟩ (by decide) (Or.inl rfl) rfl (by decide +kernel) q_626 dX8_init_16 ?_
  refine r_aload_n (pc := 19) (j := 0) C dX8_init_19 rfl rfl ?_
  refine r_new (n := 243) C cl_X6 kd_243 q_612 q_156 q_128 dX8_init_20 (by decide) (by decide) ?_
  refine r_dup C dX8_init_23 rfl ?_
  refine r_bipush (v := 9) C dX8_init_24 (by decide) ?_
  refine r_jn (fun q11143 e11144 => ?_)
  refine r_callI (pc := 26) (k := 243) (As := [.int (zi 9)]) (st := [.ref (zad E 243), .ref (zad E 242)]) C (i_X6 (p := 243) (m := 252) (N := 9) kd_243 (by decide) rfl (by decide +kernel) (by decide +kernel) (by decide +kernel) e11144) cal_X6_init q_613 dX8_init_26 rfl rfl (Nat.le_of_ble_eq_true rfl) (Nat.le_of_ble_eq_true rfl) (Nat.le_of_ble_eq_true rfl) (Nat.le_of_ble_eq_true rfl) (Nat.le_of_ble_eq_true rfl) (fun _ => ?_)
  refine r_putRT (m := 253) (r := 243) C cl_X8 kd_242 (by decide) (by decide) rfl ⟨rfl, rfl, rfl⟩ (by decide) (Or.inl rfl) rfl (by decide +kernel) q_614 dX8_init_29 ?_
  refine r_aload_n (pc := 32) (j := 0) C dX8_init_32 rfl rfl ?_
  refine r_new (n := 245) C cl_X6 kd_245 q_612 q_156 q_128 dX8_init_33 (by decide) (by decide) ?_
  refine r_dup C dX8_init_36 rfl ?_
  refine r_bipush (v := 8) C dX8_init_37 (by decide) ?_
  refine r_jn (fun q11145 e11146 => ?_)
  refine r_callI (pc := 39) (k := 245) (As := [.int (zi 8)]) (st := [.ref (zad E 245), .ref (zad E 242)]) C (i_X6 (p := 245) (m := 254) (N := 8) kd_245 (by decide) rfl (by decide +kernel) (by decide +kernel) (by decide +kernel) e11146) cal_X6_init q_613 dX8_init_39 rfl rfl (Nat.le_of_ble_eq_true rfl) (Nat.le_of_ble_eq_true rfl) (Nat.le_of_ble_eq_true rfl) (Nat.le_of_ble_eq_true rfl) (Nat.le_of_ble_eq_true rfl) (fun _ => ?_)
  refine r_putRT (m := 255) (r := 245) C cl_X8 kd_242 (by decide) (by decide) rfl ⟨rfl, rfl, rfl⟩ (by decide) (Or.inl rfl) rfl (by decide +kernel) q_627 dX8_init_42 ?_
  refine r_aload_n (pc := 45) (j := 0) C dX8_init_45 rfl rfl ?_
  refine r_new (n := 247) C cl_X6 kd_247 q_612 q_156 q_128 dX8_init_46 (by decide) (by decide) ?_
  refine r_dup C dX8_init_49 rfl ?_
  refine r_bipush (v := 8) C dX8_init_50 (by decide) ?_
  refine r_jn (fun q11147 e11148 => ?_)
  refine r_callI (pc := 52) (k := 247) (As := [.int (zi 8)]) (st := [.ref (zad E 247), .ref (zad E 242)]) C (i_X6 (p := 247) (m := 256) (N := 8) kd_247 (by decide) rfl (by decide +kernel) (by decide +kernel) (by decide +kernel) e11148) cal_X6_init q_613 dX8_init_52 rfl rfl (Nat.le_of_ble_eq_true rfl) (Nat.le_of_ble_eq_true rfl) (Nat.le_of_ble_eq_true rfl) (Nat.le_of_ble_eq_true rfl) (Nat.le_of_ble_eq_true rfl) (fun _ => ?_)
  refine r_putRT (m := 257) (r := 247) C cl_X8 kd_242 (by decide) (by decide) rfl ⟨rfl, rfl, rfl⟩ (by decide) (Or.inl rfl) rfl (by decide +kernel) q_628 dX8_init_55 ?_
  exact r_return C hQ dX8_init_58 (fun e => by subst e; exact ⟨trivial, rfl, rfl, rfl, rfl, rfl⟩)

def f_X9_init_249 (S : Sst) : Sst :=
  jn (f_X6_clear 250 S) fun (q11149 : Sst) =>
  jn (f_X6_clear 252 q11149) fun (q11151 : Sst) =>
  jn (f_X6_clear 254 q11151) fun (q11153 : Sst) =>
  jn (f_X6_clear 256 q11153) fun (q11155 : Sst) =>
  jn (f_X6_clear 258 q11155) fun (q11157 : Sst) =>
  jn (f_X6_clear 260 q11157) fun (q11159 : Sst) =>
  jn (upS q11159 249 2 0) fun (S11161 : Sst) =>
  S11161
set_option maxRecDepth 100000 in
set_option maxHeartbeats 4000000 in
theorem i_X9_init_249 {l : Launch} {E : EwT} {S : Sst} {O : Smo} {q : Sst} (hq : f_X9_init_249 S = q) : MetG l E yX9_init cX9_init 2 none 2 42 12 254 250 (RT 259) S O [.ref (zad E 249), .ref (zad E 29)] True none 262 (RT 272) q O := by
  refine ofG (L0 := [(0, .ref (zad E 249)), (1, .ref (zad E 29))]) hq (by decide +kernel) (Nat.le_of_ble_eq_true rfl) rfl (fun K _ C hQ => ?_)
  unfold f_X9_init_249
  refine r_aload_n (pc := 0) (j := 0) C dX9_init_0 rfl rfl ?_
  refine r_obj (pc := 1) C q_655 q_153 q_154 dX9_init_1 (Nat.le_of_ble_eq_true rfl) (by decide) (by decide) ?_
  refine r_aload_n (pc := 4) (j := 0) C dX9_init_4 rfl rfl ?_
  refine r_aload_n (pc := 5) (j := 1) C dX9_init_5 rfl rfl ?_
  refine r_putRT (m := 259) (r := 29) C cl_X9 kd_249 (by decide) (by decide) rfl ⟨rfl, rfl, rfl⟩ (by decide) (Or.inl rfl) rfl (by decide +kernel) q_664 dX9_init_6 ?_
  refine r_aload_n (pc := 9) (j := 0) C dX9_init_9 rfl rfl ?_
  refine r_new (n := 250) C cl_X6 kd_250 q_656 q_156 q_128 dX9_init_10 (by decide) (by decide) ?_
  refine r_dup C dX9_init_13 rfl ?_
  refine r_bipush (v := 61) C dX9_init_14 (by decide) ?_
  refine r_jn (fun q11149 e11150 => ?_)
  refine r_callI (pc := 16) (k := 250) (As := [.int (zi 61)]) (st := [.ref (zad E 250), .ref (zad E 249)]) C (i_X6 (p := 250) (m := 260) (N := 61) kd_250 (by decide) rfl (by decide +kernel) (by decide +kernel) (by decide +kernel) e11150) cal_X6_init q_657 dX9_init_16 rfl rfl (Nat.le_of_ble_eq_true rfl) (Nat.le_of_ble_eq_true rfl) (Nat.le_of_ble_eq_true rfl) (Nat.le_of_ble_eq_true rfl) (Nat.le_of_ble_eq_true rfl) (fun _ => ?_)
  refine r_putRT (m := 261) (r := 250) C cl_X9 kd_249 (by decide) (by decide) rfl ⟨rfl, rfl, rfl⟩ (by decide) (Or.inl rfl) rfl (by decide +kernel) q_658 dX9_init_19 ?_
  refine r_aload_n (pc := 22) (j := 0) C dX9_init_22 rfl rfl ?_
  refine r_new (n := 252) C cl_X6 kd_252 q_656 q_156 q_128 dX9_init_23 (by decide) (by decide) ?_
  refine r_dup C dX9_init_26 rfl ?_
  refine r_bipush (v := 61) C dX9_init_27 (by decide) ?_
  refine r_jn (fun q11151 e11152 => ?_)
  refine r_callI (pc := 29) (k := 252) (As := [.int (zi 61)]) (st := [.ref (zad E 252), .ref (zad E 249)]) C (i_X6 (p := 252) (m := 262) (N := 61) kd_252 (by decide) rfl (by decide +kernel) (by decide +kernel) (by decide +kernel) e11152) cal_X6_init q_657 dX9_init_29 rfl rfl (Nat.le_of_ble_eq_true rfl) (Nat.le_of_ble_eq_true rfl) (Nat.le_of_ble_eq_true rfl) (Nat.le_of_ble_eq_true rfl) (Nat.le_of_ble_eq_true rfl) (fun _ => ?_)
  refine r_putRT (m := 263) (r := 252) C cl_X9 kd_249 (by decide) (by decide) rfl ⟨rfl, rfl, rfl⟩ (by decide) (Or.inl rfl) rfl (by decide +kernel) q_668 dX9_init_32 ?_
  refine r_aload_n (pc := 35) (j := 0) C dX9_init_35 rfl rfl ?_
  refine r_new (n := 254) C cl_X6 kd_254 q_656 q_156 q_128 dX9_init_36 (by decide) (by decide) ?_
  refine r_dup C dX9_init_39 rfl ?_
  refine r_bipush (v := 30) C dX9_init_40 (by decide) ?_
  refine r_jn (fun q11153 e11154 => ?_)
  refine r_callI (pc := 42) (k := 254) (As := [.int (zi 30)]) (st := [.ref (zad E 254), .ref (zad E 249)]) C (i_X6 (p := 254) (m := 264) (N := 30) kd_254 (by decide) rfl (by decide +kernel) (by decide +kernel) (by decide +kernel) e11154) cal_X6_init q_657 dX9_init_42 rfl rfl (Nat.le_of_ble_eq_true rfl) (Nat.le_of_ble_eq_true rfl) (Nat.le_of_ble_eq_true rfl) (Nat.le_of_ble_eq_true rfl) (Nat.le_of_ble_eq_true rfl) (fun _ => ?_)
  refine r_putRT (m := 265) (r := 254) C cl_X9 kd_249 (by decide) (by decide) rfl ⟨rfl, rfl, rfl⟩ (by decide) (Or.inl rfl) rfl (by decide +kernel) q_660 dX9_init_45 ?_
  refine r_aload_n (pc := 48) (j := 0) C dX9_init_48 rfl rfl ?_
  refine r_new (n := 256) C cl_X6 kd_256 q_656 q_156 q_128 dX9_init_49 (by decide) (by decide) ?_
  refine r_dup C dX9_init_52 rfl ?_
  refine r_bipush (v := 30) C dX9_init_53 (by decide) ?_
  refine r_jn (fun q11155 e11156 => ?_)
  refine r_callI (pc := 55) (k := 256) (As := [.int (zi 30)]) (st := [.ref (zad E 256), .ref (zad E 249)]) C (i_X6 (p := 256) (m := 266) (N := 30) kd_256 (by decide) rfl (by decide +kernel) (by decide +kernel) (by decide +kernel) e11156) cal_X6_init q_657 dX9_init_55 rfl rfl (Nat.le_of_ble_eq_true rfl) (Nat.le_of_ble_eq_true rfl) (Nat.le_of_ble_eq_true rfl) (Nat.le_of_ble_eq_true rfl) (Nat.le_of_ble_eq_true rfl) (fun _ => ?_)
  refine r_putRT (m := 267) (r := 256) C cl_X9 kd_249 (by decide) (by decide) rfl ⟨rfl, rfl, rfl⟩ (by decide) (Or.inl rfl) rfl (by decide +kernel) q_665 dX9_init_58 ?_
  refine r_aload_n (pc := 61) (j := 0) C dX9_init_61 rfl rfl ?_
  refine r_new (n := 258) C cl_X6 kd_258 q_656 q_156 q_128 dX9_init_62 (by decide) (by decide) ?_
  refine r_dup C dX9_init_65 rfl ?_
  refine r_bipush (v := 30) C dX9_init_66 (by decide) ?_
  refine r_jn (fun q11157 e11158 => ?_)
  refine r_callI (pc := 68) (k := 258) (As := [.int (zi 30)]) (st := [.ref (zad E 258), .ref (zad E 249)]) C (i_X6 (p := 258) (m := 268) (N := 30) kd_258 (by decide) rfl (by decide +kernel) (by decide +kernel) (by decide +kernel) e11158) cal_X6_init q_657 dX9_init_68 rfl rfl (Nat.le_of_ble_eq_true rfl) (Nat.le_of_ble_eq_true rfl) (Nat.le_of_ble_eq_true rfl) (Nat.le_of_ble_eq_true rfl) (Nat.le_of_ble_eq_true rfl) (fun _ => ?_)
  refine r_putRT (m := 269) (r := 258) C cl_X9 kd_249 (by decide) (by decide) rfl ⟨rfl, rfl, rfl⟩ (by decide) (Or.inl rfl) rfl (by decide +kernel) q_666 dX9_init_71 ?_
  refine r_aload_n (pc := 74) (j := 0) C dX9_init_74 rfl rfl ?_
  refine r_new (n := 260) C cl_X6 kd_260 q_656 q_156 q_128 dX9_init_75 (by decide) (by decide) ?_
  refine r_dup C dX9_init_78 rfl ?_
  refine r_bipush (v := 30) C dX9_init_79 (by decide) ?_
  refine r_jn (fun q11159 e11160 => ?_)
  refine r_callI (pc := 81) (k := 260) (As := [.int (zi 30)]) (st := [.ref (zad E 260), .ref (zad E 249)]) C (i_X6 (p := 260) (m := 270) (N := 30) kd_260 (by decide) rfl (by decide +kernel) (by decide +kernel) (by decide +kernel) e11160) cal_X6_init q_657 dX9_init_81 rfl rfl (Nat.le_of_ble_eq_true rfl) (Nat.le_of_ble_eq_true rfl) (Nat.le_of_ble_eq_true rfl) (Nat.le_of_ble_eq_true rfl) (Nat.le_of_ble_eq_true rfl) (fun _ => ?_)
  refine r_putRT (m := 271) (r := 260) C cl_X9 kd_249 (by decide) (by decide) rfl ⟨rfl, rfl, rfl⟩ (by decide) (Or.inl rfl) rfl (by decide +kernel) q_667 dX9_init_84 ?_
  refine r_aload_n (pc := 87) (j := 0) C dX9_init_87 rfl rfl ?_
  refine r_iconst (v := 0) C dX9_init_88 (by decide) ?_
  refine r_putS C cl_X9 kd_249 (by decide) lc_249 (by decide) (by decide) rfl rfl rfl (IRd rfl) q_662 dX9_init_89 (fun S11161 => ?_)
  exact r_return C hQ dX9_init_92 (fun e => by subst e; exact ⟨trivial, rfl, rfl, rfl, rfl, rfl⟩)

def f_X11_init_0 (S : Sst) : Option Sst :=
  jn (f_X6_clear 1 S) fun (q11162 : Sst) =>
  jn (f_X6_clear 3 q11162) fun (q11164 : Sst) =>
  jn (f_X4_init_5 q11164) fun (q11166 : Sst) =>
  jn (f_X4_init_29 q11166) fun (q11168 : Sst) =>
  Option.bind (f_X3_init_53 q11168) fun (q11170 : Sst) =>
  jn (f_X5_init_55 q11170) fun (q11172 : Sst) =>
  jn (f_X10_init_59 q11172) fun (q11174 : Sst) =>
  jn (f_X7_init_74 q11174) fun (q11176 : Sst) =>
  jn (f_X7_init_107 q11176) fun (q11178 : Sst) =>
  jn (f_X7_init_140 q11178) fun (q11180 : Sst) =>
  jn (f_X7_init_173 q11180) fun (q11182 : Sst) =>
  jn (f_X7_init_206 q11182) fun (q11184 : Sst) =>
  jn (f_X0_init_239 q11184) fun (q11186 : Sst) =>
  jn (f_X8_init_242 q11186) fun (q11188 : Sst) =>
  jn (f_X9_init_249 q11188) fun (q11190 : Sst) =>
  some q11190
set_option maxRecDepth 100000 in
set_option maxHeartbeats 4000000 in
theorem i_X11_init_0 {l : Launch} {E : EwT} {S : Sst} {O : Smo} {q : Sst} (hq : f_X11_init_0 S = some q) : MetG l E yX11_init cX11_init 1 none 6 166 261 43028 1 (RT 0) S O [.ref (zad E 0)] True none 262 (RT 273) q O := by
  refine ofG (L0 := [(0, .ref (zad E 0))]) hq (by decide +kernel) (Nat.le_of_ble_eq_true rfl) rfl (fun K _ C hQ => ?_)
  unfold f_X11_init_0
  refine r_aload_n (pc := 0) (j := 0) C dX11_init_0 rfl rfl ?_
  refine r_obj (pc := 1) C q_152 q_153 q_154 dX11_init_1 (Nat.le_of_ble_eq_true rfl) (by decide) (by decide) ?_
  refine r_aload_n (pc := 4) (j := 0) C dX11_init_4 rfl rfl ?_
  refine r_new (n := 1) C cl_X6 kd_1 q_155 q_156 q_128 dX11_init_5 (by decide) (by decide) ?_
  refine r_dup C dX11_init_8 rfl ?_
  refine r_sipush (v := 1600) C dX11_init_9 (by decide) ?_
  refine r_jn (fun q11162 e11163 => ?_)
  refine r_callI (pc := 12) (k := 1) (As := [.int (zi 1600)]) (st := [.ref (zad E 1), .ref (zad E 0)]) C (i_X6 (p := 1) (m := 0) (N := 1600) kd_1 (by decide) rfl (by decide +kernel) (by decide +kernel) (by decide +kernel) e11163) cal_X6_init q_157 dX11_init_12 rfl rfl (Nat.le_of_ble_eq_true rfl) (Nat.le_of_ble_eq_true rfl) (Nat.le_of_ble_eq_true rfl) (Nat.le_of_ble_eq_true rfl) (Nat.le_of_ble_eq_true rfl) (fun _ => ?_)
  refine r_putRT (m := 1) (r := 1) C cl_X11 kd_0 (by decide) (by decide) rfl ⟨rfl, rfl, rfl⟩ (by decide) (Or.inl rfl) rfl (by decide +kernel) q_686 dX11_init_15 ?_
  refine r_aload_n (pc := 18) (j := 0) C dX11_init_18 rfl rfl ?_
  refine r_new (n := 3) C cl_X6 kd_3 q_155 q_156 q_128 dX11_init_19 (by decide) (by decide) ?_
  refine r_dup C dX11_init_22 rfl ?_
  refine r_bipush (v := 8) C dX11_init_23 (by decide) ?_
  refine r_jn (fun q11164 e11165 => ?_)
  refine r_callI (pc := 25) (k := 3) (As := [.int (zi 8)]) (st := [.ref (zad E 3), .ref (zad E 0)]) C (i_X6 (p := 3) (m := 2) (N := 8) kd_3 (by decide) rfl (by decide +kernel) (by decide +kernel) (by decide +kernel) e11165) cal_X6_init q_157 dX11_init_25 rfl rfl (Nat.le_of_ble_eq_true rfl) (Nat.le_of_ble_eq_true rfl) (Nat.le_of_ble_eq_true rfl) (Nat.le_of_ble_eq_true rfl) (Nat.le_of_ble_eq_true rfl) (fun _ => ?_)
  refine r_putRT (m := 3) (r := 3) C cl_X11 kd_0 (by decide) (by decide) rfl ⟨rfl, rfl, rfl⟩ (by decide) (Or.inl rfl) rfl (by decide +kernel) q_687 dX11_init_28 ?_
  refine r_aload_n (pc := 31) (j := 0) C dX11_init_31 rfl rfl ?_
  refine r_new (n := 5) C cl_X4 kd_5 q_172 q_173 q_130 dX11_init_32 (by decide) (by decide) ?_
  refine r_dup C dX11_init_35 rfl ?_
  refine r_jn (fun q11166 e11167 => ?_)
  refine r_callI (pc := 36) (k := 5) (As := []) (st := [.ref (zad E 5), .ref (zad E 0)]) C (i_X4_init_5 e11167) cal_X4_init q_174 dX11_init_36 rfl rfl (Nat.le_of_ble_eq_true rfl) (Nat.le_of_ble_eq_true rfl) (Nat.le_of_ble_eq_true rfl) (Nat.le_of_ble_eq_true rfl) (Nat.le_of_ble_eq_true rfl) (fun _ => ?_)
  refine r_putRT (m := 27) (r := 5) C cl_X11 kd_0 (by decide) (by decide) rfl ⟨rfl, rfl, rfl⟩ (by decide) (Or.inl rfl) rfl (by decide +kernel) q_688 dX11_init_39 ?_
  refine r_aload_n (pc := 42) (j := 0) C dX11_init_42 rfl rfl ?_
  refine r_new (n := 29) C cl_X4 kd_29 q_172 q_173 q_130 dX11_init_43 (by decide) (by decide) ?_
  refine r_dup C dX11_init_46 rfl ?_
  refine r_jn (fun q11168 e11169 => ?_)
  refine r_callI (pc := 47) (k := 29) (As := []) (st := [.ref (zad E 29), .ref (zad E 0)]) C (i_X4_init_29 e11169) cal_X4_init q_174 dX11_init_47 rfl rfl (Nat.le_of_ble_eq_true rfl) (Nat.le_of_ble_eq_true rfl) (Nat.le_of_ble_eq_true rfl) (Nat.le_of_ble_eq_true rfl) (Nat.le_of_ble_eq_true rfl) (fun _ => ?_)
  refine r_putRT (m := 51) (r := 29) C cl_X11 kd_0 (by decide) (by decide) rfl ⟨rfl, rfl, rfl⟩ (by decide) (Or.inl rfl) rfl (by decide +kernel) q_689 dX11_init_50 ?_
  refine r_aload_n (pc := 53) (j := 0) C dX11_init_53 rfl rfl ?_
  refine r_new (n := 53) C cl_X3 kd_53 q_278 q_279 q_132 dX11_init_54 (by decide) (by decide) ?_
  refine r_dup C dX11_init_57 rfl ?_
  refine r_aload_n (pc := 58) (j := 0) C dX11_init_58 rfl rfl ?_
  refine r_getR (j := 0) (r := 1) C cl_X11 kd_0 (by decide) (by decide) rfl (by decide +kernel) (by decide) q_686 dX11_init_59 ?_
  refine r_bd (fun q11170 e11171 => ?_)
  refine r_callI (pc := 62) (k := 53) (As := [.ref (zad E 1)]) (st := [.ref (zad E 53), .ref (zad E 0)]) C (i_X3_init_53 e11171) cal_X3_init q_280 dX11_init_62 rfl rfl (Nat.le_of_ble_eq_true rfl) (Nat.le_of_ble_eq_true rfl) (Nat.le_of_ble_eq_true rfl) (Nat.le_of_ble_eq_true rfl) (Nat.le_of_ble_eq_true rfl) (fun _ => ?_)
  refine r_putRT (m := 54) (r := 53) C cl_X11 kd_0 (by decide) (by decide) rfl ⟨rfl, rfl, rfl⟩ (by decide) (Or.inl rfl) rfl (by decide +kernel) q_690 dX11_init_65 ?_
  refine r_aload_n (pc := 68) (j := 0) C dX11_init_68 rfl rfl ?_
  refine r_new (n := 55) C cl_X5 kd_55 q_380 q_381 q_137 dX11_init_69 (by decide) (by decide) ?_
  refine r_dup C dX11_init_72 rfl ?_
  refine r_aload_n (pc := 73) (j := 0) C dX11_init_73 rfl rfl ?_
  refine r_getR (j := 4) (r := 53) C cl_X11 kd_0 (by decide) (by decide) rfl (by decide +kernel) (by decide) q_690 dX11_init_74 ?_
  refine r_aload_n (pc := 77) (j := 0) C dX11_init_77 rfl rfl ?_
  refine r_getR (j := 2) (r := 5) C cl_X11 kd_0 (by decide) (by decide) rfl (by decide +kernel) (by decide) q_688 dX11_init_78 ?_
  refine r_jn (fun q11172 e11173 => ?_)
  refine r_callI (pc := 81) (k := 55) (As := [.ref (zad E 53), .ref (zad E 5)]) (st := [.ref (zad E 55), .ref (zad E 0)]) C (i_X5_init_55 e11173) cal_X5_init q_382 dX11_init_81 rfl rfl (Nat.le_of_ble_eq_true rfl) (Nat.le_of_ble_eq_true rfl) (Nat.le_of_ble_eq_true rfl) (Nat.le_of_ble_eq_true rfl) (Nat.le_of_ble_eq_true rfl) (fun _ => ?_)
  refine r_putRT (m := 61) (r := 55) C cl_X11 kd_0 (by decide) (by decide) rfl ⟨rfl, rfl, rfl⟩ (by decide) (Or.inl rfl) rfl (by decide +kernel) q_691 dX11_init_84 ?_
  refine r_aload_n (pc := 87) (j := 0) C dX11_init_87 rfl rfl ?_
  refine r_new (n := 59) C cl_X10 kd_59 q_423 q_424 q_139 dX11_init_88 (by decide) (by decide) ?_
  refine r_dup C dX11_init_91 rfl ?_
  refine r_aload_n (pc := 92) (j := 0) C dX11_init_92 rfl rfl ?_
  refine r_getR (j := 3) (r := 29) C cl_X11 kd_0 (by decide) (by decide) rfl (by decide +kernel) (by decide) q_689 dX11_init_93 ?_
  refine r_jn (fun q11174 e11175 => ?_)
  refine r_callI (pc := 96) (k := 59) (As := [.ref (zad E 29)]) (st := [.ref (zad E 59), .ref (zad E 0)]) C (i_X10_init_59 e11175) cal_X10_init q_425 dX11_init_96 rfl rfl (Nat.le_of_ble_eq_true rfl) (Nat.le_of_ble_eq_true rfl) (Nat.le_of_ble_eq_true rfl) (Nat.le_of_ble_eq_true rfl) (Nat.le_of_ble_eq_true rfl) (fun _ => ?_)
  refine r_putRT (m := 77) (r := 59) C cl_X11 kd_0 (by decide) (by decide) rfl ⟨rfl, rfl, rfl⟩ (by decide) (Or.inl rfl) rfl (by decide +kernel) q_692 dX11_init_99 ?_
  refine r_aload_n (pc := 102) (j := 0) C dX11_init_102 rfl rfl ?_
  refine r_new (n := 74) C cl_X7 kd_74 q_473 q_474 q_140 dX11_init_103 (by decide) (by decide) ?_
  refine r_dup C dX11_init_106 rfl ?_
  refine r_jn (fun q11176 e11177 => ?_)
  refine r_callI (pc := 107) (k := 74) (As := []) (st := [.ref (zad E 74), .ref (zad E 0)]) C (i_X7_init_74 e11177) cal_X7_init q_475 dX11_init_107 rfl rfl (Nat.le_of_ble_eq_true rfl) (Nat.le_of_ble_eq_true rfl) (Nat.le_of_ble_eq_true rfl) (Nat.le_of_ble_eq_true rfl) (Nat.le_of_ble_eq_true rfl) (fun _ => ?_)
  refine r_putRT (m := 110) (r := 74) C cl_X11 kd_0 (by decide) (by decide) rfl ⟨rfl, rfl, rfl⟩ (by decide) (Or.inl rfl) rfl (by decide +kernel) q_693 dX11_init_110 ?_
  refine r_aload_n (pc := 113) (j := 0) C dX11_init_113 rfl rfl ?_
  refine r_new (n := 107) C cl_X7 kd_107 q_473 q_474 q_140 dX11_init_114 (by decide) (by decide) ?_
  refine r_dup C dX11_init_117 rfl ?_
  refine r_jn (fun q11178 e11179 => ?_)
  refine r_callI (pc := 118) (k := 107) (As := []) (st := [.ref (zad E 107), .ref (zad E 0)]) C (i_X7_init_107 e11179) cal_X7_init q_475 dX11_init_118 rfl rfl (Nat.le_of_ble_eq_true rfl) (Nat.le_of_ble_eq_true rfl) (Nat.le_of_ble_eq_true rfl) (Nat.le_of_ble_eq_true rfl) (Nat.le_of_ble_eq_true rfl) (fun _ => ?_)
  refine r_putRT (m := 143) (r := 107) C cl_X11 kd_0 (by decide) (by decide) rfl ⟨rfl, rfl, rfl⟩ (by decide) (Or.inl rfl) rfl (by decide +kernel) q_694 dX11_init_121 ?_
  refine r_aload_n (pc := 124) (j := 0) C dX11_init_124 rfl rfl ?_
  refine r_new (n := 140) C cl_X7 kd_140 q_473 q_474 q_140 dX11_init_125 (by decide) (by decide) ?_
  refine r_dup C dX11_init_128 rfl ?_
  refine r_jn (fun q11180 e11181 => ?_)
  refine r_callI (pc := 129) (k := 140) (As := []) (st := [.ref (zad E 140), .ref (zad E 0)]) C (i_X7_init_140 e11181) cal_X7_init q_475 dX11_init_129 rfl rfl (Nat.le_of_ble_eq_true rfl) (Nat.le_of_ble_eq_true rfl) (Nat.le_of_ble_eq_true rfl) (Nat.le_of_ble_eq_true rfl) (Nat.le_of_ble_eq_true rfl) (fun _ => ?_)
  refine r_putRT (m := 176) (r := 140) C cl_X11 kd_0 (by decide) (by decide) rfl ⟨rfl, rfl, rfl⟩ (by decide) (Or.inl rfl) rfl (by decide +kernel) q_695 dX11_init_132 ?_
  refine r_aload_n (pc := 135) (j := 0) C dX11_init_135 rfl rfl ?_
  refine r_new (n := 173) C cl_X7 kd_173 q_473 q_474 q_140 dX11_init_136 (by decide) (by decide) ?_
  refine r_dup C dX11_init_139 rfl ?_
  refine r_jn (fun q11182 e11183 => ?_)
  refine r_callI (pc := 140) (k := 173) (As := []) (st := [.ref (zad E 173), .ref (zad E 0)]) C (i_X7_init_173 e11183) cal_X7_init q_475 dX11_init_140 rfl rfl (Nat.le_of_ble_eq_true rfl) (Nat.le_of_ble_eq_true rfl) (Nat.le_of_ble_eq_true rfl) (Nat.le_of_ble_eq_true rfl) (Nat.le_of_ble_eq_true rfl) (fun _ => ?_)
  refine r_putRT (m := 209) (r := 173) C cl_X11 kd_0 (by decide) (by decide) rfl ⟨rfl, rfl, rfl⟩ (by decide) (Or.inl rfl) rfl (by decide +kernel) q_696 dX11_init_143 ?_
  refine r_aload_n (pc := 146) (j := 0) C dX11_init_146 rfl rfl ?_
  refine r_new (n := 206) C cl_X7 kd_206 q_473 q_474 q_140 dX11_init_147 (by decide) (by decide) ?_
  refine r_dup C dX11_init_150 rfl ?_
  refine r_jn (fun q11184 e11185 => ?_)
  refine r_callI (pc := 151) (k := 206) (As := []) (st := [.ref (zad E 206), .ref (zad E 0)]) C (i_X7_init_206 e11185) cal_X7_init q_475 dX11_init_151 rfl rfl (Nat.le_of_ble_eq_true rfl) (Nat.le_of_ble_eq_true rfl) (Nat.le_of_ble_eq_true rfl) (Nat.le_of_ble_eq_true rfl) (Nat.le_of_ble_eq_true rfl) (fun _ => ?_)
  refine r_putRT (m := 242) (r := 206) C cl_X11 kd_0 (by decide) (by decide) rfl ⟨rfl, rfl, rfl⟩ (by decide) (Or.inl rfl) rfl (by decide +kernel) q_697 dX11_init_154 ?_
  refine r_aload_n (pc := 157) (j := 0) C dX11_init_157 rfl rfl ?_
  refine r_new (n := 239) C cl_X0 kd_239 q_580 q_581 q_141 dX11_init_158 (by decide) (by decide) ?_
  refine r_dup C dX11_init_161 rfl ?_
  refine r_aload_n (pc := 162) (j := 0) C dX11_init_162 rfl rfl ?_
  refine r_getR (j := 3) (r := 29) C cl_X11 kd_0 (by decide) (by decide) rfl (by decide +kernel) (by decide) q_689 dX11_init_163 ?_
  refine r_aload_n (pc := 166) (j := 0) C dX11_init_166 rfl rfl ?_
  refine r_getR (j := 6) (r := 59) C cl_X11 kd_0 (by decide) (by decide) rfl (by decide +kernel) (by decide) q_692 dX11_init_167 ?_
  refine r_aload_n (pc := 170) (j := 0) C dX11_init_170 rfl rfl ?_
  refine r_getR (j := 7) (r := 74) C cl_X11 kd_0 (by decide) (by decide) rfl (by decide +kernel) (by decide) q_693 dX11_init_171 ?_
  refine r_jn (fun q11186 e11187 => ?_)
  refine r_callI (pc := 174) (k := 239) (As := [.ref (zad E 29), .ref (zad E 59), .ref (zad E 74)]) (st := [.ref (zad E 239), .ref (zad E 0)]) C (i_X0_init_239 e11187) cal_X0_init q_582 dX11_init_174 rfl rfl (Nat.le_of_ble_eq_true rfl) (Nat.le_of_ble_eq_true rfl) (Nat.le_of_ble_eq_true rfl) (Nat.le_of_ble_eq_true rfl) (Nat.le_of_ble_eq_true rfl) (fun _ => ?_)
  refine r_putRT (m := 248) (r := 239) C cl_X11 kd_0 (by decide) (by decide) rfl ⟨rfl, rfl, rfl⟩ (by decide) (Or.inl rfl) rfl (by decide +kernel) q_698 dX11_init_177 ?_
  refine r_aload_n (pc := 180) (j := 0) C dX11_init_180 rfl rfl ?_
  refine r_new (n := 242) C cl_X8 kd_242 q_606 q_607 q_142 dX11_init_181 (by decide) (by decide) ?_
  refine r_dup C dX11_init_184 rfl ?_
  refine r_aload_n (pc := 185) (j := 0) C dX11_init_185 rfl rfl ?_
  refine r_getR (j := 3) (r := 29) C cl_X11 kd_0 (by decide) (by decide) rfl (by decide +kernel) (by decide) q_689 dX11_init_186 ?_
  refine r_aload_n (pc := 189) (j := 0) C dX11_init_189 rfl rfl ?_
  refine r_getR (j := 6) (r := 59) C cl_X11 kd_0 (by decide) (by decide) rfl (by decide +kernel) (by decide) q_692 dX11_init_190 ?_
  refine r_aload_n (pc := 193) (j := 0) C dX11_init_193 rfl rfl ?_
  refine r_getR (j := 7) (r := 74) C cl_X11 kd_0 (by decide) (by decide) rfl (by decide +kernel) (by decide) q_693 dX11_init_194 ?_
  refine r_jn (fun q11188 e11189 => ?_)
  refine r_callI (pc := 197) (k := 242) (As := [.ref (zad E 29), .ref (zad E 59), .ref (zad E 74)]) (st := [.ref (zad E 242), .ref (zad E 0)]) C (i_X8_init_242 e11189) cal_X8_init q_608 dX11_init_197 rfl rfl (Nat.le_of_ble_eq_true rfl) (Nat.le_of_ble_eq_true rfl) (Nat.le_of_ble_eq_true rfl) (Nat.le_of_ble_eq_true rfl) (Nat.le_of_ble_eq_true rfl) (fun _ => ?_)
  refine r_putRT (m := 258) (r := 242) C cl_X11 kd_0 (by decide) (by decide) rfl ⟨rfl, rfl, rfl⟩ (by decide) (Or.inl rfl) rfl (by decide +kernel) q_699 dX11_init_200 ?_
  refine r_aload_n (pc := 203) (j := 0) C dX11_init_203 rfl rfl ?_
  refine r_new (n := 249) C cl_X9 kd_249 q_650 q_651 q_143 dX11_init_204 (by decide) (by decide) ?_
  refine r_dup C dX11_init_207 rfl ?_
  refine r_aload_n (pc := 208) (j := 0) C dX11_init_208 rfl rfl ?_
  refine r_getR (j := 3) (r := 29) C cl_X11 kd_0 (by decide) (by decide) rfl (by decide +kernel) (by decide) q_689 dX11_init_209 ?_
  refine r_jn (fun q11190 e11191 => ?_)
  refine r_callI (pc := 212) (k := 249) (As := [.ref (zad E 29)]) (st := [.ref (zad E 249), .ref (zad E 0)]) C (i_X9_init_249 e11191) cal_X9_init q_652 dX11_init_212 rfl rfl (Nat.le_of_ble_eq_true rfl) (Nat.le_of_ble_eq_true rfl) (Nat.le_of_ble_eq_true rfl) (Nat.le_of_ble_eq_true rfl) (Nat.le_of_ble_eq_true rfl) (fun _ => ?_)
  refine r_putRT (m := 272) (r := 249) C cl_X11 kd_0 (by decide) (by decide) rfl ⟨rfl, rfl, rfl⟩ (by decide) (Or.inl rfl) rfl (by decide +kernel) q_700 dX11_init_215 ?_
  exact r_return C hQ dX11_init_218 (fun e => by cases e; exact ⟨trivial, rfl, rfl, rfl, rfl, rfl⟩)

def f_X12_init_262 (O : Smo) : Smo :=
  jn (up2 O 262 3 (-1)) fun (O11192 : Smo) =>
  jn (up2 O11192 262 40 3) fun (O11193 : Smo) =>
  O11193
set_option maxRecDepth 100000 in
set_option maxHeartbeats 4000000 in
theorem i_X12_init_262 {l : Launch} {E : EwT} {S : Sst} {O : Smo} {q : Smo} (hq : f_X12_init_262 O = q) : MetG l E yX12_init cX12_init 1 none 1 20 44 33842 263 (RT 273) S O [.ref (zad E 262)] True none 307 (RT 317) S q := by
  refine ofG (L0 := [(0, .ref (zad E 262))]) hq (by decide +kernel) (Nat.le_of_ble_eq_true rfl) rfl (fun K _ C hQ => ?_)
  unfold f_X12_init_262
  refine r_aload_n (pc := 0) (j := 0) C dX12_init_0 rfl rfl ?_
  refine r_obj (pc := 1) C q_1552 q_153 q_154 dX12_init_1 (Nat.le_of_ble_eq_true rfl) (by decide) (by decide) ?_
  refine r_aload_n (pc := 4) (j := 0) C dX12_init_4 rfl rfl ?_
  refine r_sipush (v := 1600) C dX12_init_5 (by decide) ?_
  refine r_newiN (n := 263) (N := 1600) (by decide +kernel) C (Or.inl kd_263) rfl q_171 dX12_init_8 (by decide) (by decide) (by decide) ?_
  refine r_putRT (cn := "") (m := 273) (r := 263) C cl_X12 kd_262 (by decide) (by decide) rfl ⟨rfl, rfl, rfl⟩ (by decide) (Or.inr ⟨_, rfl⟩) rfl (by decide +kernel) q_1553 dX12_init_10 ?_
  refine r_aload_n (pc := 13) (j := 0) C dX12_init_13 rfl rfl ?_
  refine r_iconst (v := (-1)) C dX12_init_14 (by decide) ?_
  refine r_putO C cl_X12 kd_262 (by decide) gc_262 (by decide) (by decide) rfl rfl rfl (IRd rfl) q_1556 dX12_init_15 (fun O11192 => ?_)
  refine r_aload_n (pc := 18) (j := 0) C dX12_init_18 rfl rfl ?_
  refine r_sipush (v := 320) C dX12_init_19 (by decide) ?_
  refine r_newiN (n := 264) (N := 320) (by decide +kernel) C (Or.inl kd_264) rfl q_171 dX12_init_22 (by decide) (by decide) (by decide) ?_
  refine r_putRT (cn := "") (m := 274) (r := 264) C cl_X12 kd_262 (by decide) (by decide) rfl ⟨rfl, rfl, rfl⟩ (by decide) (Or.inr ⟨_, rfl⟩) rfl (by decide +kernel) q_1563 dX12_init_24 ?_
  refine r_aload_n (pc := 27) (j := 0) C dX12_init_27 rfl rfl ?_
  refine r_sipush (v := 320) C dX12_init_28 (by decide) ?_
  refine r_newiN (n := 265) (N := 320) (by decide +kernel) C (Or.inl kd_265) rfl q_171 dX12_init_31 (by decide) (by decide) (by decide) ?_
  refine r_putRT (cn := "") (m := 275) (r := 265) C cl_X12 kd_262 (by decide) (by decide) rfl ⟨rfl, rfl, rfl⟩ (by decide) (Or.inr ⟨_, rfl⟩) rfl (by decide +kernel) q_1564 dX12_init_33 ?_
  refine r_aload_n (pc := 36) (j := 0) C dX12_init_36 rfl rfl ?_
  refine r_sipush (v := 320) C dX12_init_37 (by decide) ?_
  refine r_newiN (n := 266) (N := 320) (by decide +kernel) C (Or.inl kd_266) rfl q_171 dX12_init_40 (by decide) (by decide) (by decide) ?_
  refine r_putRT (cn := "") (m := 276) (r := 266) C cl_X12 kd_262 (by decide) (by decide) rfl ⟨rfl, rfl, rfl⟩ (by decide) (Or.inr ⟨_, rfl⟩) rfl (by decide +kernel) q_1565 dX12_init_42 ?_
  refine r_aload_n (pc := 45) (j := 0) C dX12_init_45 rfl rfl ?_
  refine r_sipush (v := 320) C dX12_init_46 (by decide) ?_
  refine r_newiN (n := 267) (N := 320) (by decide +kernel) C (Or.inl kd_267) rfl q_171 dX12_init_49 (by decide) (by decide) (by decide) ?_
  refine r_putRT (cn := "") (m := 277) (r := 267) C cl_X12 kd_262 (by decide) (by decide) rfl ⟨rfl, rfl, rfl⟩ (by decide) (Or.inr ⟨_, rfl⟩) rfl (by decide +kernel) q_1566 dX12_init_51 ?_
  refine r_aload_n (pc := 54) (j := 0) C dX12_init_54 rfl rfl ?_
  refine r_sipush (v := 160) C dX12_init_55 (by decide) ?_
  refine r_newiN (n := 268) (N := 160) (by decide +kernel) C (Or.inl kd_268) rfl q_171 dX12_init_58 (by decide) (by decide) (by decide) ?_
  refine r_putRT (cn := "") (m := 278) (r := 268) C cl_X12 kd_262 (by decide) (by decide) rfl ⟨rfl, rfl, rfl⟩ (by decide) (Or.inr ⟨_, rfl⟩) rfl (by decide +kernel) q_1567 dX12_init_60 ?_
  refine r_aload_n (pc := 63) (j := 0) C dX12_init_63 rfl rfl ?_
  refine r_bipush (v := 64) C dX12_init_64 (by decide) ?_
  refine r_newiN (n := 269) (N := 64) (by decide +kernel) C (Or.inl kd_269) rfl q_171 dX12_init_66 (by decide) (by decide) (by decide) ?_
  refine r_putRT (cn := "") (m := 279) (r := 269) C cl_X12 kd_262 (by decide) (by decide) rfl ⟨rfl, rfl, rfl⟩ (by decide) (Or.inr ⟨_, rfl⟩) rfl (by decide +kernel) q_1568 dX12_init_68 ?_
  refine r_aload_n (pc := 71) (j := 0) C dX12_init_71 rfl rfl ?_
  refine r_iconst (v := 5) C dX12_init_72 (by decide) ?_
  refine r_newiN (n := 270) (N := 5) (by decide +kernel) C (Or.inl kd_270) rfl q_171 dX12_init_73 (by decide) (by decide) (by decide) ?_
  refine r_putRT (cn := "") (m := 280) (r := 270) C cl_X12 kd_262 (by decide) (by decide) rfl ⟨rfl, rfl, rfl⟩ (by decide) (Or.inr ⟨_, rfl⟩) rfl (by decide +kernel) q_1578 dX12_init_75 ?_
  refine r_aload_n (pc := 78) (j := 0) C dX12_init_78 rfl rfl ?_
  refine r_bipush (v := 8) C dX12_init_79 (by decide) ?_
  refine r_newlN (n := 271) (N := 8) (by decide +kernel) C kd_271 rfl q_378 dX12_init_81 (by decide) (by decide) (by decide) ?_
  refine r_putRT (cn := "") (m := 281) (r := 271) C cl_X12 kd_262 (by decide) (by decide) rfl ⟨rfl, rfl, rfl⟩ (by decide) (Or.inr ⟨_, rfl⟩) rfl (by decide +kernel) q_1579 dX12_init_83 ?_
  refine r_aload_n (pc := 86) (j := 0) C dX12_init_86 rfl rfl ?_
  refine r_bipush (v := 8) C dX12_init_87 (by decide) ?_
  refine r_newiN (n := 272) (N := 8) (by decide +kernel) C (Or.inl kd_272) rfl q_171 dX12_init_89 (by decide) (by decide) (by decide) ?_
  refine r_putRT (cn := "") (m := 282) (r := 272) C cl_X12 kd_262 (by decide) (by decide) rfl ⟨rfl, rfl, rfl⟩ (by decide) (Or.inr ⟨_, rfl⟩) rfl (by decide +kernel) q_1580 dX12_init_91 ?_
  refine r_aload_n (pc := 94) (j := 0) C dX12_init_94 rfl rfl ?_
  refine r_bipush (v := 8) C dX12_init_95 (by decide) ?_
  refine r_newiN (n := 273) (N := 8) (by decide +kernel) C (Or.inl kd_273) rfl q_171 dX12_init_97 (by decide) (by decide) (by decide) ?_
  refine r_putRT (cn := "") (m := 283) (r := 273) C cl_X12 kd_262 (by decide) (by decide) rfl ⟨rfl, rfl, rfl⟩ (by decide) (Or.inr ⟨_, rfl⟩) rfl (by decide +kernel) q_1581 dX12_init_99 ?_
  refine r_aload_n (pc := 102) (j := 0) C dX12_init_102 rfl rfl ?_
  refine r_bipush (v := 8) C dX12_init_103 (by decide) ?_
  refine r_newiN (n := 274) (N := 8) (by decide +kernel) C (Or.inl kd_274) rfl q_171 dX12_init_105 (by decide) (by decide) (by decide) ?_
  refine r_putRT (cn := "") (m := 284) (r := 274) C cl_X12 kd_262 (by decide) (by decide) rfl ⟨rfl, rfl, rfl⟩ (by decide) (Or.inr ⟨_, rfl⟩) rfl (by decide +kernel) q_1582 dX12_init_107 ?_
  refine r_aload_n (pc := 110) (j := 0) C dX12_init_110 rfl rfl ?_
  refine r_bipush (v := 8) C dX12_init_111 (by decide) ?_
  refine r_newiN (n := 275) (N := 8) (by decide +kernel) C (Or.inl kd_275) rfl q_171 dX12_init_113 (by decide) (by decide) (by decide) ?_
  refine r_putRT (cn := "") (m := 285) (r := 275) C cl_X12 kd_262 (by decide) (by decide) rfl ⟨rfl, rfl, rfl⟩ (by decide) (Or.inr ⟨_, rfl⟩) rfl (by decide +kernel) q_1583 dX12_init_115 ?_
  refine r_aload_n (pc := 118) (j := 0) C dX12_init_118 rfl rfl ?_
  refine r_bipush (v := 8) C dX12_init_119 (by decide) ?_
  refine r_newiN (n := 276) (N := 8) (by decide +kernel) C (Or.inl kd_276) rfl q_171 dX12_init_121 (by decide) (by decide) (by decide) ?_
  refine r_putRT (cn := "") (m := 286) (r := 276) C cl_X12 kd_262 (by decide) (by decide) rfl ⟨rfl, rfl, rfl⟩ (by decide) (Or.inr ⟨_, rfl⟩) rfl (by decide +kernel) q_1584 dX12_init_123 ?_
  refine r_aload_n (pc := 126) (j := 0) C dX12_init_126 rfl rfl ?_
  refine r_bipush (v := 8) C dX12_init_127 (by decide) ?_
  refine r_newiN (n := 277) (N := 8) (by decide +kernel) C (Or.inl kd_277) rfl q_171 dX12_init_129 (by decide) (by decide) (by decide) ?_
  refine r_putRT (cn := "") (m := 287) (r := 277) C cl_X12 kd_262 (by decide) (by decide) rfl ⟨rfl, rfl, rfl⟩ (by decide) (Or.inr ⟨_, rfl⟩) rfl (by decide +kernel) q_1585 dX12_init_131 ?_
  refine r_aload_n (pc := 134) (j := 0) C dX12_init_134 rfl rfl ?_
  refine r_bipush (v := 8) C dX12_init_135 (by decide) ?_
  refine r_newiN (n := 278) (N := 8) (by decide +kernel) C (Or.inl kd_278) rfl q_171 dX12_init_137 (by decide) (by decide) (by decide) ?_
  refine r_putRT (cn := "") (m := 288) (r := 278) C cl_X12 kd_262 (by decide) (by decide) rfl ⟨rfl, rfl, rfl⟩ (by decide) (Or.inr ⟨_, rfl⟩) rfl (by decide +kernel) q_1586 dX12_init_139 ?_
  refine r_aload_n (pc := 142) (j := 0) C dX12_init_142 rfl rfl ?_
  refine r_bipush (v := 8) C dX12_init_143 (by decide) ?_
  refine r_newiN (n := 279) (N := 8) (by decide +kernel) C (Or.inl kd_279) rfl q_171 dX12_init_145 (by decide) (by decide) (by decide) ?_
  refine r_putRT (cn := "") (m := 289) (r := 279) C cl_X12 kd_262 (by decide) (by decide) rfl ⟨rfl, rfl, rfl⟩ (by decide) (Or.inr ⟨_, rfl⟩) rfl (by decide +kernel) q_1587 dX12_init_147 ?_
  refine r_aload_n (pc := 150) (j := 0) C dX12_init_150 rfl rfl ?_
  refine r_bipush (v := 8) C dX12_init_151 (by decide) ?_
  refine r_newiN (n := 280) (N := 8) (by decide +kernel) C (Or.inl kd_280) rfl q_171 dX12_init_153 (by decide) (by decide) (by decide) ?_
  refine r_putRT (cn := "") (m := 290) (r := 280) C cl_X12 kd_262 (by decide) (by decide) rfl ⟨rfl, rfl, rfl⟩ (by decide) (Or.inr ⟨_, rfl⟩) rfl (by decide +kernel) q_1588 dX12_init_155 ?_
  refine r_aload_n (pc := 158) (j := 0) C dX12_init_158 rfl rfl ?_
  refine r_iconst (v := 3) C dX12_init_159 (by decide) ?_
  refine r_putO C cl_X12 kd_262 (by decide) gc_262 (by decide) (by decide) rfl rfl rfl (IRd rfl) q_1593 dX12_init_160 (fun O11193 => ?_)
  refine r_aload_n (pc := 163) (j := 0) C dX12_init_163 rfl rfl ?_
  refine r_bipush (v := 16) C dX12_init_164 (by decide) ?_
  refine r_newiN (n := 281) (N := 16) (by decide +kernel) C (Or.inl kd_281) rfl q_171 dX12_init_166 (by decide) (by decide) (by decide) ?_
  refine r_putRT (cn := "") (m := 291) (r := 281) C cl_X12 kd_262 (by decide) (by decide) rfl ⟨rfl, rfl, rfl⟩ (by decide) (Or.inr ⟨_, rfl⟩) rfl (by decide +kernel) q_1597 dX12_init_168 ?_
  refine r_aload_n (pc := 171) (j := 0) C dX12_init_171 rfl rfl ?_
  refine r_sipush (v := 7565) C dX12_init_172 (by decide) ?_
  refine r_newiN (n := 282) (N := 7565) (by decide +kernel) C (Or.inl kd_282) rfl q_171 dX12_init_175 (by decide) (by decide) (by decide) ?_
  refine r_putRT (cn := "") (m := 292) (r := 282) C cl_X12 kd_262 (by decide) (by decide) rfl ⟨rfl, rfl, rfl⟩ (by decide) (Or.inr ⟨_, rfl⟩) rfl (by decide +kernel) q_1599 dX12_init_177 ?_
  refine r_aload_n (pc := 180) (j := 0) C dX12_init_180 rfl rfl ?_
  refine r_bipush (v := 8) C dX12_init_181 (by decide) ?_
  refine r_newiN (n := 283) (N := 8) (by decide +kernel) C (Or.inl kd_283) rfl q_171 dX12_init_183 (by decide) (by decide) (by decide) ?_
  refine r_putRT (cn := "") (m := 293) (r := 283) C cl_X12 kd_262 (by decide) (by decide) rfl ⟨rfl, rfl, rfl⟩ (by decide) (Or.inr ⟨_, rfl⟩) rfl (by decide +kernel) q_1603 dX12_init_185 ?_
  refine r_aload_n (pc := 188) (j := 0) C dX12_init_188 rfl rfl ?_
  refine r_bipush (v := 8) C dX12_init_189 (by decide) ?_
  refine r_newiN (n := 284) (N := 8) (by decide +kernel) C (Or.inl kd_284) rfl q_171 dX12_init_191 (by decide) (by decide) (by decide) ?_
  refine r_putRT (cn := "") (m := 294) (r := 284) C cl_X12 kd_262 (by decide) (by decide) rfl ⟨rfl, rfl, rfl⟩ (by decide) (Or.inr ⟨_, rfl⟩) rfl (by decide +kernel) q_1604 dX12_init_193 ?_
  refine r_aload_n (pc := 196) (j := 0) C dX12_init_196 rfl rfl ?_
  refine r_bipush (v := 8) C dX12_init_197 (by decide) ?_
  refine r_newiN (n := 285) (N := 8) (by decide +kernel) C (Or.inl kd_285) rfl q_171 dX12_init_199 (by decide) (by decide) (by decide) ?_
  refine r_putRT (cn := "") (m := 295) (r := 285) C cl_X12 kd_262 (by decide) (by decide) rfl ⟨rfl, rfl, rfl⟩ (by decide) (Or.inr ⟨_, rfl⟩) rfl (by decide +kernel) q_1605 dX12_init_201 ?_
  refine r_aload_n (pc := 204) (j := 0) C dX12_init_204 rfl rfl ?_
  refine r_bipush (v := 8) C dX12_init_205 (by decide) ?_
  refine r_newiN (n := 286) (N := 8) (by decide +kernel) C (Or.inl kd_286) rfl q_171 dX12_init_207 (by decide) (by decide) (by decide) ?_
  refine r_putRT (cn := "") (m := 296) (r := 286) C cl_X12 kd_262 (by decide) (by decide) rfl ⟨rfl, rfl, rfl⟩ (by decide) (Or.inr ⟨_, rfl⟩) rfl (by decide +kernel) q_1606 dX12_init_209 ?_
  refine r_aload_n (pc := 212) (j := 0) C dX12_init_212 rfl rfl ?_
  refine r_bipush (v := 16) C dX12_init_213 (by decide) ?_
  refine r_newiN (n := 287) (N := 16) (by decide +kernel) C (Or.inl kd_287) rfl q_171 dX12_init_215 (by decide) (by decide) (by decide) ?_
  refine r_putRT (cn := "") (m := 297) (r := 287) C cl_X12 kd_262 (by decide) (by decide) rfl ⟨rfl, rfl, rfl⟩ (by decide) (Or.inr ⟨_, rfl⟩) rfl (by decide +kernel) q_1607 dX12_init_217 ?_
  refine r_aload_n (pc := 220) (j := 0) C dX12_init_220 rfl rfl ?_
  refine r_bipush (v := 8) C dX12_init_221 (by decide) ?_
  refine r_newiN (n := 288) (N := 8) (by decide +kernel) C (Or.inl kd_288) rfl q_171 dX12_init_223 (by decide) (by decide) (by decide) ?_
  refine r_putRT (cn := "") (m := 298) (r := 288) C cl_X12 kd_262 (by decide) (by decide) rfl ⟨rfl, rfl, rfl⟩ (by decide) (Or.inr ⟨_, rfl⟩) rfl (by decide +kernel) q_1608 dX12_init_225 ?_
  refine r_aload_n (pc := 228) (j := 0) C dX12_init_228 rfl rfl ?_
  refine r_bipush (v := 8) C dX12_init_229 (by decide) ?_
  refine r_newiN (n := 289) (N := 8) (by decide +kernel) C (Or.inl kd_289) rfl q_171 dX12_init_231 (by decide) (by decide) (by decide) ?_
  refine r_putRT (cn := "") (m := 299) (r := 289) C cl_X12 kd_262 (by decide) (by decide) rfl ⟨rfl, rfl, rfl⟩ (by decide) (Or.inr ⟨_, rfl⟩) rfl (by decide +kernel) q_1609 dX12_init_233 ?_
  refine r_aload_n (pc := 236) (j := 0) C dX12_init_236 rfl rfl ?_
  refine r_bipush (v := 8) C dX12_init_237 (by decide) ?_
  refine r_newiN (n := 290) (N := 8) (by decide +kernel) C (Or.inl kd_290) rfl q_171 dX12_init_239 (by decide) (by decide) (by decide) ?_
  refine r_putRT (cn := "") (m := 300) (r := 290) C cl_X12 kd_262 (by decide) (by decide) rfl ⟨rfl, rfl, rfl⟩ (by decide) (Or.inr ⟨_, rfl⟩) rfl (by decide +kernel) q_1610 dX12_init_241 ?_
  refine r_aload_n (pc := 244) (j := 0) C dX12_init_244 rfl rfl ?_
  refine r_bipush (v := 8) C dX12_init_245 (by decide) ?_
  refine r_newiN (n := 291) (N := 8) (by decide +kernel) C (Or.inl kd_291) rfl q_171 dX12_init_247 (by decide) (by decide) (by decide) ?_
  refine r_putRT (cn := "") (m := 301) (r := 291) C cl_X12 kd_262 (by decide) (by decide) rfl ⟨rfl, rfl, rfl⟩ (by decide) (Or.inr ⟨_, rfl⟩) rfl (by decide +kernel) q_1613 dX12_init_249 ?_
  refine r_aload_n (pc := 252) (j := 0) C dX12_init_252 rfl rfl ?_
  refine r_bipush (v := 8) C dX12_init_253 (by decide) ?_
  refine r_newiN (n := 292) (N := 8) (by decide +kernel) C (Or.inl kd_292) rfl q_171 dX12_init_255 (by decide) (by decide) (by decide) ?_
  refine r_putRT (cn := "") (m := 302) (r := 292) C cl_X12 kd_262 (by decide) (by decide) rfl ⟨rfl, rfl, rfl⟩ (by decide) (Or.inr ⟨_, rfl⟩) rfl (by decide +kernel) q_1614 dX12_init_257 ?_
  refine r_aload_n (pc := 260) (j := 0) C dX12_init_260 rfl rfl ?_
  refine r_bipush (v := 8) C dX12_init_261 (by decide) ?_
  refine r_newiN (n := 293) (N := 8) (by decide +kernel) C (Or.inl kd_293) rfl q_171 dX12_init_263 (by decide) (by decide) (by decide) ?_
  refine r_putRT (cn := "") (m := 303) (r := 293) C cl_X12 kd_262 (by decide) (by decide) rfl ⟨rfl, rfl, rfl⟩ (by decide) (Or.inr ⟨_, rfl⟩) rfl (by decide +kernel) q_1616 dX12_init_265 ?_
  refine r_aload_n (pc := 268) (j := 0) C dX12_init_268 rfl rfl ?_
  refine r_bipush (v := 8) C dX12_init_269 (by decide) ?_
  refine r_newiN (n := 294) (N := 8) (by decide +kernel) C (Or.inl kd_294) rfl q_171 dX12_init_271 (by decide) (by decide) (by decide) ?_
  refine r_putRT (cn := "") (m := 304) (r := 294) C cl_X12 kd_262 (by decide) (by decide) rfl ⟨rfl, rfl, rfl⟩ (by decide) (Or.inr ⟨_, rfl⟩) rfl (by decide +kernel) q_1617 dX12_init_273 ?_
  refine r_aload_n (pc := 276) (j := 0) C dX12_init_276 rfl rfl ?_
  refine r_bipush (v := 8) C dX12_init_277 (by decide) ?_
  refine r_newiN (n := 295) (N := 8) (by decide +kernel) C (Or.inl kd_295) rfl q_171 dX12_init_279 (by decide) (by decide) (by decide) ?_
  refine r_putRT (cn := "") (m := 305) (r := 295) C cl_X12 kd_262 (by decide) (by decide) rfl ⟨rfl, rfl, rfl⟩ (by decide) (Or.inr ⟨_, rfl⟩) rfl (by decide +kernel) q_1618 dX12_init_281 ?_
  refine r_aload_n (pc := 284) (j := 0) C dX12_init_284 rfl rfl ?_
  refine r_bipush (v := 8) C dX12_init_285 (by decide) ?_
  refine r_newiN (n := 296) (N := 8) (by decide +kernel) C (Or.inl kd_296) rfl q_171 dX12_init_287 (by decide) (by decide) (by decide) ?_
  refine r_putRT (cn := "") (m := 306) (r := 296) C cl_X12 kd_262 (by decide) (by decide) rfl ⟨rfl, rfl, rfl⟩ (by decide) (Or.inr ⟨_, rfl⟩) rfl (by decide +kernel) q_1619 dX12_init_289 ?_
  refine r_aload_n (pc := 292) (j := 0) C dX12_init_292 rfl rfl ?_
  refine r_bipush (v := 9) C dX12_init_293 (by decide) ?_
  refine r_newiN (n := 297) (N := 9) (by decide +kernel) C (Or.inl kd_297) rfl q_171 dX12_init_295 (by decide) (by decide) (by decide) ?_
  refine r_putRT (cn := "") (m := 307) (r := 297) C cl_X12 kd_262 (by decide) (by decide) rfl ⟨rfl, rfl, rfl⟩ (by decide) (Or.inr ⟨_, rfl⟩) rfl (by decide +kernel) q_1621 dX12_init_297 ?_
  refine r_aload_n (pc := 300) (j := 0) C dX12_init_300 rfl rfl ?_
  refine r_bipush (v := 30) C dX12_init_301 (by decide) ?_
  refine r_newiN (n := 298) (N := 30) (by decide +kernel) C (Or.inl kd_298) rfl q_171 dX12_init_303 (by decide) (by decide) (by decide) ?_
  refine r_putRT (cn := "") (m := 308) (r := 298) C cl_X12 kd_262 (by decide) (by decide) rfl ⟨rfl, rfl, rfl⟩ (by decide) (Or.inr ⟨_, rfl⟩) rfl (by decide +kernel) q_1622 dX12_init_305 ?_
  refine r_aload_n (pc := 308) (j := 0) C dX12_init_308 rfl rfl ?_
  refine r_bipush (v := 30) C dX12_init_309 (by decide) ?_
  refine r_newiN (n := 299) (N := 30) (by decide +kernel) C (Or.inl kd_299) rfl q_171 dX12_init_311 (by decide) (by decide) (by decide) ?_
  refine r_putRT (cn := "") (m := 309) (r := 299) C cl_X12 kd_262 (by decide) (by decide) rfl ⟨rfl, rfl, rfl⟩ (by decide) (Or.inr ⟨_, rfl⟩) rfl (by decide +kernel) q_1623 dX12_init_313 ?_
  refine r_aload_n (pc := 316) (j := 0) C dX12_init_316 rfl rfl ?_
  refine r_bipush (v := 30) C dX12_init_317 (by decide) ?_
  refine r_newiN (n := 300) (N := 30) (by decide +kernel) C (Or.inl kd_300) rfl q_171 dX12_init_319 (by decide) (by decide) (by decide) ?_
  refine r_putRT (cn := "") (m := 310) (r := 300) C cl_X12 kd_262 (by decide) (by decide) rfl ⟨rfl, rfl, rfl⟩ (by decide) (Or.inr ⟨_, rfl⟩) rfl (by decide +kernel) q_1624 dX12_init_321 ?_
  refine r_aload_n (pc := 324) (j := 0) C dX12_init_324 rfl rfl ?_
  refine r_bipush (v := 30) C dX12_init_325 (by decide) ?_
  refine r_newzN (n := 301) (N := 30) (by decide +kernel) C kd_301 rfl q_1794 dX12_init_327 (by decide) (by decide) (by decide) ?_
  refine r_putRT (cn := "") (m := 311) (r := 301) C cl_X12 kd_262 (by decide) (by decide) rfl ⟨rfl, rfl, rfl⟩ (by decide) (Or.inr ⟨_, rfl⟩) rfl (by decide +kernel) q_1625 dX12_init_329 ?_
  refine r_aload_n (pc := 332) (j := 0) C dX12_init_332 rfl rfl ?_
  refine r_bipush (v := 61) C dX12_init_333 (by decide) ?_
  refine r_newiN (n := 302) (N := 61) (by decide +kernel) C (Or.inl kd_302) rfl q_171 dX12_init_335 (by decide) (by decide) (by decide) ?_
  refine r_putRT (cn := "") (m := 312) (r := 302) C cl_X12 kd_262 (by decide) (by decide) rfl ⟨rfl, rfl, rfl⟩ (by decide) (Or.inr ⟨_, rfl⟩) rfl (by decide +kernel) q_1628 dX12_init_337 ?_
  refine r_aload_n (pc := 340) (j := 0) C dX12_init_340 rfl rfl ?_
  refine r_bipush (v := 61) C dX12_init_341 (by decide) ?_
  refine r_newzN (n := 303) (N := 61) (by decide +kernel) C kd_303 rfl q_1794 dX12_init_343 (by decide) (by decide) (by decide) ?_
  refine r_putRT (cn := "") (m := 313) (r := 303) C cl_X12 kd_262 (by decide) (by decide) rfl ⟨rfl, rfl, rfl⟩ (by decide) (Or.inr ⟨_, rfl⟩) rfl (by decide +kernel) q_1629 dX12_init_345 ?_
  refine r_aload_n (pc := 348) (j := 0) C dX12_init_348 rfl rfl ?_
  refine r_iconst (v := 3) C dX12_init_349 (by decide) ?_
  refine r_newzN (n := 304) (N := 3) (by decide +kernel) C kd_304 rfl q_1794 dX12_init_350 (by decide) (by decide) (by decide) ?_
  refine r_putRT (cn := "") (m := 314) (r := 304) C cl_X12 kd_262 (by decide) (by decide) rfl ⟨rfl, rfl, rfl⟩ (by decide) (Or.inr ⟨_, rfl⟩) rfl (by decide +kernel) q_1630 dX12_init_352 ?_
  refine r_aload_n (pc := 355) (j := 0) C dX12_init_355 rfl rfl ?_
  refine r_sipush (v := 22695) C dX12_init_356 (by decide) ?_
  refine r_newiN (n := 305) (N := 22695) (by decide +kernel) C (Or.inl kd_305) rfl q_171 dX12_init_359 (by decide) (by decide) (by decide) ?_
  refine r_putRT (cn := "") (m := 315) (r := 305) C cl_X12 kd_262 (by decide) (by decide) rfl ⟨rfl, rfl, rfl⟩ (by decide) (Or.inr ⟨_, rfl⟩) rfl (by decide +kernel) q_1631 dX12_init_361 ?_
  refine r_aload_n (pc := 364) (j := 0) C dX12_init_364 rfl rfl ?_
  refine r_iconst (v := 3) C dX12_init_365 (by decide) ?_
  refine r_newiN (n := 306) (N := 3) (by decide +kernel) C (Or.inl kd_306) rfl q_171 dX12_init_366 (by decide) (by decide) (by decide) ?_
  refine r_putRT (cn := "") (m := 316) (r := 306) C cl_X12 kd_262 (by decide) (by decide) rfl ⟨rfl, rfl, rfl⟩ (by decide) (Or.inr ⟨_, rfl⟩) rfl (by decide +kernel) q_1632 dX12_init_368 ?_
  exact r_return C hQ dX12_init_371 (fun e => by subst e; exact ⟨trivial, rfl, rfl, rfl, rfl, rfl⟩)

