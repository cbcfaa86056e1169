/-! the String methods that the class calls, on the two constants -/
theorem zs_len : ∀ i, i < 2 → zLen.getD i 0 = (zstr i).length := by decide +kernel
theorem zs_zl : ∀ i, i < 2 → Int32.ofNat (zLen.getD i 0) = zi (((zstr i).length : Nat) : Int) := by decide +kernel
theorem zs_byt : ∀ i, i < 2 → ∀ j, j < (zstr i).length → (zByt.getD i []).getD j 0 = zi ((zstr i).getD j 0) := by decide +kernel
theorem zs_rng : ∀ i, i < 2 → ∀ j, j < (zstr i).length → 0 ≤ (zstr i).getD j 0 ∧ (zstr i).getD j 0 < 128 := by decide +kernel
theorem zs_mem : ∀ i, i < 2 → ∀ x ∈ zstr i, 0 ≤ x ∧ x < 128 := by decide +kernel
theorem zs_and : ∀ i, i < 2 → ∀ j, j < (zstr i).length → zi2c (zand ((zstr i).getD j 0) 255) = (zstr i).getD j 0 := by decide +kernel
theorem zs_shr : ∀ i, i < 2 → zshr (((zstr i).length : Nat) : Int) 0 = (((zstr i).length : Nat) : Int) := by decide +kernel
theorem zs_L : ∀ i, i < 2 → 0 < (zstr i).length ∧ (zstr i).length < 1000 := by decide +kernel
theorem zs_IR {i : Nat} (hi : i < 2) : IR (((zstr i).length : Nat) : Int) := ⟨by omega, by have := (zs_L i hi).2; omega⟩
def zi2b (x : Int) : Int := (zi x).toInt8.toInt32.toInt
theorem zi2b_IR (x : Int) : IR (zi2b x) := i32_IR _
theorem zi2b_e : ∀ c : Nat, c < 256 → zi2b (c : Int) = if c < 128 then (c : Int) else (c : Int) - 256 := by decide +kernel
theorem zch_n : ∀ c : Nat, c < 128 → narrow .char (.int (zi (c : Int))) = .int (zi (c : Int)) := by decide +kernel
section ROWSS
variable {γ : Type} {E : EwT} {K : KxT} {bf : γ} {n : Nat} {R : Srf} {S : Sst} {O : Smo} {cs sl : Nat} {L : List (Nat × Value)} {pc : Nat} {st : List Value} {t : γ}
variable {y : MethodName} {cc : ByteArray} {nL i idx : Nat} {rm : Room} {ret : Option FieldType}
theorem r_sval (C : Cx E K y cc nL rm ret) (hi : i < 2) (q : Cond.fieldLink y.cls idx "java/lang/String" "value" "[B" ∈ TB) (d : decode cc pc = .ok (.getfield idx, 3)) (g : GG E K bf n R S O cs sl L (pc + 3) (.ref (zX E (i + 2)) :: st) t) : GG E K bf n R S O cs sl L pc (.ref (zX E i) :: st) t :=
  fun e H locs ls hR hS hl => vk_getf C.1 C.2.1 ((C.2.2.2.2.2.1.2.2.2.1).1 i hi).2.2.1 hS C.2.2.2.1 (C.2.2.2.2.1 _ q) (fun _ hx => hx) d (g e H locs ls hR hS hl)
theorem r_scod (C : Cx E K y cc nL rm ret) (hi : i < 2) (q : Cond.fieldLink y.cls idx "java/lang/String" "coder" "B" ∈ TB) (d : decode cc pc = .ok (.getfield idx, 3)) (g : GG E K bf n R S O cs sl L (pc + 3) (.int (zi 0) :: st) t) : GG E K bf n R S O cs sl L pc (.ref (zX E i) :: st) t :=
  fun e H locs ls hR hS hl => vk_getf C.1 C.2.1 ((C.2.2.2.2.2.1.2.2.2.1).1 i hi).2.1 hS C.2.2.2.1 (C.2.2.2.2.1 _ q) (fun _ hx => hx) d (g e H locs ls hR hS hl)
theorem r_scs (C : Cx E K y cc nL rm ret) (q : Cond.fieldLink y.cls idx "java/lang/String" "COMPACT_STRINGS" "Z" ∈ TB) (d : decode cc pc = .ok (.getstatic idx, 3)) (g : GG E K bf n R S O cs sl L (pc + 3) (.int (zi 1) :: st) t) : GG E K bf n R S O cs sl L pc st t :=
  fun e H locs ls hR hS hl => va_gets C.1 C.2.1 C.2.2.2.2.2.1.2.2.2.2.1 hS C.2.2.2.1 (C.2.2.2.2.1 _ q) (fun _ hx => hx) d (g e H locs ls hR hS hl)
theorem r_sfm (C : Cx E K y cc nL rm ret) (q : Cond.fieldLink y.cls idx "jdk/internal/util/Preconditions" "SIOOBE_FORMATTER" "Ljava/util/function/BiFunction;" ∈ TB) (d : decode cc pc = .ok (.getstatic idx, 3)) (g : ∀ v : Value, v.category = 1 → GG E K bf n R S O cs sl L (pc + 3) (v :: st) t) : GG E K bf n R S O cs sl L pc st t :=
  fun e H locs ls hR hS hl => by
    obtain ⟨v, hv, hZ⟩ := C.2.2.2.2.2.1.2.2.2.2.2
    exact va_gets C.1 C.2.1 hZ hS C.2.2.2.1 (C.2.2.2.2.1 _ q) (fun _ hx => hx) d (g v hv e H locs ls hR hS hl)
theorem r_blen (C : Cx E K y cc nL rm ret) (hi : i < 2) (d : decode cc pc = .ok (.arraylength, 1)) (g : GG E K bf n R S O cs sl L (pc + 1) (.int (zi ((zstr i).length : Nat)) :: st) t) : GG E K bf n R S O cs sl L pc (.ref (zX E (i + 2)) :: st) t :=
  fun e H locs ls hR hS hl => va_tlen C.1 C.2.1 ((C.2.2.2.2.2.1.2.2.2.1).1 i hi).2.2.2 hS (zs_zl i hi) d (g e H locs ls hR hS hl)
theorem r_bald {z : Int} (C : Cx E K y cc nL rm ret) (hi : i < 2) (hz : IR z) (h0 : 0 ≤ z) (h1 : z < (zstr i).length) (d : decode cc pc = .ok (.baload, 1)) (g : GG E K bf n R S O cs sl L (pc + 1) (.int (zi ((zstr i).getD z.toNat 0)) :: st) t) : GG E K bf n R S O cs sl L pc (.int (zi z) :: .ref (zX E (i + 2)) :: st) t :=
  fun e H locs ls hR hS hl => va_tb C.1 C.2.1 ((C.2.2.2.2.2.1.2.2.2.1).1 i hi).2.2.2 hS (zi_in hz h0 (by rw [zs_len i hi]; exact h1)) (by
    show Value.int ((zByt.getD i []).getD (zi z).toNatClampNeg 0) = _
    rw [zi_cl hz, zs_byt i hi _ (by omega)]) d (g e H locs ls hR hS hl)
theorem r_i2b {x : Int} (C : Cx E K y cc nL rm ret) (d : decode cc pc = .ok (.i2b, 1)) (g : GG E K bf n R S O cs sl L (pc + 1) (.int (zi (zi2b x)) :: st) t) : GG E K bf n R S O cs sl L pc (.int (zi x) :: st) t :=
  fun e H locs ls hR hS hl => lv_i2b C.1 C.2.1 d (zi_of _).symm (g e H locs ls hR hS hl)
end ROWSS
theorem cal_J0_coder : CalV yJ0_coder_7d493 cJ0_coder_7d493 1 (some .byte) 0 := ⟨q_290, q_291, q_133, q_292, by decide +kernel⟩
theorem cal_J0_isLatin1 : CalV yJ0_isLatin1_aae02 cJ0_isLatin1_aae02 1 (some .boolean) 0 := ⟨q_300, q_301, q_133, q_302, by decide +kernel⟩
theorem cal_J0_indexOf2 : CalV yJ0_indexOf_7cf53 cJ0_indexOf_7cf53 3 (some .int) 2 := ⟨q_802, q_803, q_133, q_804, by decide +kernel⟩
theorem m_J0_coder {l : Launch} {E : EwT} {n : Nat} {R : Srf} {S : Sst} {O : Smo} {i : Nat} (hi : i < 2) : MetG l E yJ0_coder_7d493 cJ0_coder_7d493 1 (some .byte) 0 0 0 0 n R S O [.ref (zX E i)] True (some (.int (zi 0))) n R S O := by
  refine ofG (L0 := [(0, .ref (zX E i))]) (t := (0 : Int)) rfl (by decide +kernel) (Nat.le_of_ble_eq_true rfl) rfl (fun K _ C hQ => ?_)
  refine r_scs (pc := 0) C q_293 dJ0_coder_7d493_0 ?_
  refine r_if_eq (tgt := 13) C (IRd rfl) dJ0_coder_7d493_3 (by decide) (fun c => absurd c (by decide)) (fun _ => ?_)
  refine r_aload_n (pc := 6) (j := 0) C dJ0_coder_7d493_6 rfl rfl ?_
  refine r_scod C hi q_2397 dJ0_coder_7d493_7 ?_
  refine r_goto (tgt := 14) C dJ0_coder_7d493_10 (by decide) ?_
  exact r_ireturn C hQ rfl dJ0_coder_7d493_14 (fun _ => ⟨trivial, rfl, rfl, rfl, rfl, rfl⟩)
theorem m_J0_isLatin1 {l : Launch} {E : EwT} {n : Nat} {R : Srf} {S : Sst} {O : Smo} {i : Nat} (hi : i < 2) : MetG l E yJ0_isLatin1_aae02 cJ0_isLatin1_aae02 1 (some .boolean) 0 0 0 0 n R S O [.ref (zX E i)] True (some (.int (zi 1))) n R S O := by
  refine ofG (L0 := [(0, .ref (zX E i))]) (t := (0 : Int)) rfl (by decide +kernel) (Nat.le_of_ble_eq_true rfl) rfl (fun K _ C hQ => ?_)
  refine r_scs (pc := 0) C q_293 dJ0_isLatin1_aae02_0 ?_
  refine r_if_eq (tgt := 17) C (IRd rfl) dJ0_isLatin1_aae02_3 (by decide) (fun c => absurd c (by decide)) (fun _ => ?_)
  refine r_aload_n (pc := 6) (j := 0) C dJ0_isLatin1_aae02_6 rfl rfl ?_
  refine r_scod C hi q_2397 dJ0_isLatin1_aae02_7 ?_
  refine r_if_ne (tgt := 17) C (IRd rfl) dJ0_isLatin1_aae02_10 (by decide) (fun c => absurd rfl c) (fun _ => ?_)
  refine r_iconst (pc := 13) (v := 1) C dJ0_isLatin1_aae02_13 rfl ?_
  refine r_goto (tgt := 18) C dJ0_isLatin1_aae02_14 (by decide) ?_
  exact r_ireturn C hQ rfl dJ0_isLatin1_aae02_18 (fun _ => ⟨trivial, rfl, rfl, rfl, rfl, rfl⟩)
theorem m_J0_length_8abf5 {l : Launch} {E : EwT} {n : Nat} {R : Srf} {S : Sst} {O : Smo} {i : Nat} (hi : i < 2) {q : Int} (hq : f_J0_length_8abf5 i = q) : MetG l E yJ0_length_8abf5 cJ0_length_8abf5 1 (some .int) 1 20 0 0 n R S O [.ref (zX E i)] (IR q) (some (.int (zi q))) n R S O := by
  refine ofG (L0 := [(0, .ref (zX E i))]) hq (by decide +kernel) (Nat.le_of_ble_eq_true rfl) rfl (fun K _ C hQ => ?_)
  unfold f_J0_length_8abf5
  refine r_aload_n (pc := 0) (j := 0) C dJ0_length_8abf5_0 rfl rfl ?_
  refine r_sval C hi q_2396 dJ0_length_8abf5_1 ?_
  refine r_blen C hi dJ0_length_8abf5_4 ?_
  refine r_aload_n (pc := 5) (j := 0) C dJ0_length_8abf5_5 rfl rfl ?_
  refine r_cStr1 (As := []) hi C (m_J0_coder hi) cal_J0_coder rfl q_289 dJ0_length_8abf5_6 rfl rfl (by simp [Value.category]) (by decide) (by decide) (Nat.le_refl _) (Nat.le_refl _) (fun _ => ?_)
  refine r_ishr C dJ0_length_8abf5_9 ?_
  rw [zs_shr i hi]
  exact r_ireturn C hQ rfl dJ0_length_8abf5_10 (fun e => by subst e; exact ⟨zs_IR hi, rfl, rfl, rfl, rfl, rfl⟩)
theorem cal_J3_checkIndex : CalS yJ3_checkIndex_8e157 cJ3_checkIndex_8e157 3 (some .int) 3 := ⟨q_312, q_135, q_313, by decide +kernel⟩
theorem m_J3_checkIndex {l : Launch} {E : EwT} {n : Nat} {R : Srf} {S : Sst} {O : Smo} {z k : Int} {v : Value} (hv : v.category = 1) (hz : IR z) (hk : IR k) (h0 : 0 ≤ z) (h1 : z < k) : MetG l E yJ3_checkIndex_8e157 cJ3_checkIndex_8e157 3 (some .int) 0 0 0 0 n R S O [.int (zi z), .int (zi k), v] True (some (.int (zi z))) n R S O := by
  refine ofG (L0 := [(0, .int (zi z)), (1, .int (zi k)), (2, v)]) (t := (0 : Int)) rfl (by decide +kernel) (by cases v <;> first | exact Nat.le_of_ble_eq_true rfl | (simp [Value.category] at hv)) (by cases v <;> first | rfl | (simp [Value.category] at hv)) (fun K _ C hQ => ?_)
  refine r_iload_n (pc := 0) (j := 0) C dJ3_checkIndex_8e157_0 rfl rfl ?_
  refine r_if_lt (tgt := 9) C hz dJ3_checkIndex_8e157_1 (by decide) (fun c => absurd c (by omega)) (fun _ => ?_)
  refine r_iload_n (pc := 4) (j := 0) C dJ3_checkIndex_8e157_4 rfl rfl ?_
  refine r_iload_n (pc := 5) (j := 1) C dJ3_checkIndex_8e157_5 rfl rfl ?_
  refine r_icmp_lt (tgt := 16) C hz hk dJ3_checkIndex_8e157_6 (by decide) (fun _ => ?_) (fun c => absurd h1 c)
  refine r_iload_n (pc := 16) (j := 0) C dJ3_checkIndex_8e157_16 rfl rfl ?_
  exact r_ireturn C hQ rfl dJ3_checkIndex_8e157_17 (fun _ => ⟨trivial, rfl, rfl, rfl, rfl, rfl⟩)
theorem cal_J0_checkIndex : CalS yJ0_checkIndex_df160 cJ0_checkIndex_df160 2 none 2 := ⟨q_307, q_133, q_308, by decide +kernel⟩
theorem m_J0_checkIndex {l : Launch} {E : EwT} {n : Nat} {R : Srf} {S : Sst} {O : Smo} {z k : Int} (hz : IR z) (hk : IR k) (h0 : 0 ≤ z) (h1 : z < k) : MetG l E yJ0_checkIndex_df160 cJ0_checkIndex_df160 2 none 1 22 0 0 n R S O [.int (zi z), .int (zi k)] True none n R S O := by
  refine ofG (L0 := [(0, .int (zi z)), (1, .int (zi k))]) (t := (0 : Int)) rfl (by decide +kernel) (Nat.le_of_ble_eq_true rfl) rfl (fun K _ C hQ => ?_)
  refine r_iload_n (pc := 0) (j := 0) C dJ0_checkIndex_df160_0 rfl rfl ?_
  refine r_iload_n (pc := 1) (j := 1) C dJ0_checkIndex_df160_1 rfl rfl ?_
  refine r_sfm (pc := 2) C q_309 dJ0_checkIndex_df160_2 (fun v hv => ?_)
  refine r_cS1 (pc := 5) (As := [.int (zi z), .int (zi k), v]) C (m_J3_checkIndex hv hz hk h0 h1) cal_J3_checkIndex q_311 dJ0_checkIndex_df160_5 rfl rfl (by simp) (by decide) (by decide) (Nat.le_refl _) (Nat.le_refl _) (fun _ => ?_)
  refine r_pop C dJ0_checkIndex_df160_8 rfl ?_
  exact r_return C hQ dJ0_checkIndex_df160_9 (fun _ => ⟨trivial, rfl, rfl, rfl, rfl, rfl⟩)
theorem cal_J1_charAt : CalS yJ1_charAt_3b067 cJ1_charAt_3b067 2 (some .char) 2 := ⟨q_304, q_134, q_305, by decide +kernel⟩
theorem m_J1_charAt {l : Launch} {E : EwT} {n : Nat} {R : Srf} {S : Sst} {O : Smo} {i : Nat} (hi : i < 2) {z : Int} (hz : IR z) (h0 : 0 ≤ z) (h1 : z < (zstr i).length) : MetG l E yJ1_charAt_3b067 cJ1_charAt_3b067 2 (some .char) 2 43 0 0 n R S O [.ref (zX E (i + 2)), .int (zi z)] True (some (.int (zi ((zstr i).getD z.toNat 0)))) n R S O := by
  refine ofG (L0 := [(0, .ref (zX E (i + 2))), (1, .int (zi z))]) (t := (0 : Int)) rfl (by decide +kernel) (Nat.le_of_ble_eq_true rfl) rfl (fun K _ C hQ => ?_)
  refine r_iload_n (pc := 0) (j := 1) C dJ1_charAt_3b067_0 rfl rfl ?_
  refine r_aload_n (pc := 1) (j := 0) C dJ1_charAt_3b067_1 rfl rfl ?_
  refine r_blen C hi dJ1_charAt_3b067_2 ?_
  refine r_callS (pc := 3) (mc := 0) (ms := 0) (rv := none) (As := [.int (zi z), .int (zi ((zstr i).length : Nat))]) C (m_J0_checkIndex hz (zs_IR hi) h0 h1) cal_J0_checkIndex q_306 dJ1_charAt_3b067_3 rfl rfl (by simp) (by decide) (by decide) (Nat.le_refl _) (Nat.le_refl _) (fun _ => ?_)
  refine r_aload_n (pc := 6) (j := 0) C dJ1_charAt_3b067_6 rfl rfl ?_
  refine r_iload_n (pc := 7) (j := 1) C dJ1_charAt_3b067_7 rfl rfl ?_
  refine r_bald C hi hz h0 h1 dJ1_charAt_3b067_8 ?_
  refine r_sipush (pc := 9) (v := 255) C dJ1_charAt_3b067_9 rfl ?_
  refine r_iand C dJ1_charAt_3b067_12 ?_
  refine r_i2c C dJ1_charAt_3b067_13 ?_
  have hj : z.toNat < (zstr i).length := by omega
  rw [zs_and i hi _ hj]
  have hr := zs_rng i hi _ hj
  have hn := zch_n ((zstr i).getD z.toNat 0).toNat (by omega)
  rw [Int.toNat_of_nonneg hr.1] at hn
  exact r_ireturn C hQ hn dJ1_charAt_3b067_14 (fun _ => ⟨trivial, rfl, rfl, rfl, rfl, rfl⟩)
theorem m_J0_charAt_5068e {l : Launch} {E : EwT} {n : Nat} {R : Srf} {S : Sst} {O : Smo} {i : Nat} (hi : i < 2) {a1 : Int} (h1 : IR a1) {q : Int} (hq : f_J0_charAt_5068e i a1 = some q) : MetG l E yJ0_charAt_5068e cJ0_charAt_5068e 2 (some .char) 4 120 0 0 n R S O [.ref (zX E i), .int (zi a1)] (IR q) (some (.int (zi q))) n R S O := by
  unfold f_J0_charAt_5068e at hq
  split at hq
  · rename_i hc
    cases hq
    refine ofG (L0 := [(0, .ref (zX E i)), (1, .int (zi a1))]) (t := (0 : Int)) rfl (by decide +kernel) (Nat.le_of_ble_eq_true rfl) rfl (fun K _ C hQ => ?_)
    refine r_aload_n (pc := 0) (j := 0) C dJ0_charAt_5068e_0 rfl rfl ?_
    refine r_cStr1 (As := []) hi C (m_J0_isLatin1 hi) cal_J0_isLatin1 rfl q_299 dJ0_charAt_5068e_1 rfl rfl (by simp) (by decide) (by decide) (Nat.le_refl _) (Nat.le_refl _) (fun _ => ?_)
    refine r_if_eq (tgt := 16) C (IRd rfl) dJ0_charAt_5068e_4 (by decide) (fun c => absurd c (by decide)) (fun _ => ?_)
    refine r_aload_n (pc := 7) (j := 0) C dJ0_charAt_5068e_7 rfl rfl ?_
    refine r_sval C hi q_2396 dJ0_charAt_5068e_8 ?_
    refine r_iload_n (pc := 11) (j := 1) C dJ0_charAt_5068e_11 rfl rfl ?_
    refine r_cS1 (pc := 12) (As := [.ref (zX E (i + 2)), .int (zi a1)]) C (m_J1_charAt hi h1 hc.1 hc.2) cal_J1_charAt q_303 dJ0_charAt_5068e_12 rfl rfl (by simp) (by decide) (by decide) (Nat.le_refl _) (Nat.le_refl _) (fun _ => ?_)
    have hj : a1.toNat < (zstr i).length := by omega
    have hr := zs_rng i hi _ hj
    have hn := zch_n ((zstr i).getD a1.toNat 0).toNat (by omega)
    rw [Int.toNat_of_nonneg hr.1] at hn
    exact r_ireturn C hQ hn dJ0_charAt_5068e_15 (fun _ => ⟨⟨by omega, by omega⟩, rfl, rfl, rfl, rfl, rfl⟩)
  · cases hq
theorem cal_J1_canEncode : CalS yJ1_canEncode_9a6ad cJ1_canEncode_9a6ad 1 (some .boolean) 1 := ⟨q_810, q_134, q_811, by decide +kernel⟩
theorem m_J1_canEncode {l : Launch} {E : EwT} {n : Nat} {R : Srf} {S : Sst} {O : Smo} {a0 : Int} (h0 : IR a0) {q : Int} (hq : (if 0 ≤ a0 ∧ a0 ≤ 255 then 1 else 0) = q) : MetG l E yJ1_canEncode_9a6ad cJ1_canEncode_9a6ad 1 (some .boolean) 0 0 0 0 n R S O [.int (zi a0)] (BR q) (some (.int (zi q))) n R S O := by
  refine ofG (L0 := [(0, .int (zi a0))]) hq (by decide +kernel) (Nat.le_of_ble_eq_true rfl) rfl (fun K _ C hQ => ?_)
  refine r_cut (0 ≤ a0 ∧ a0 ≤ 255) 11 15 [] (fun c => ?_) (fun c => ?_) (fun gT gF => ?_)
  · refine r_t c ?_
    refine r_iconst (pc := 11) (v := 1) C dJ1_canEncode_9a6ad_11 rfl ?_
    refine r_goto (tgt := 16) C dJ1_canEncode_9a6ad_12 (by decide) ?_
    exact r_ireturn C hQ rfl dJ1_canEncode_9a6ad_16 (fun e => by subst e; exact ⟨BRd rfl, rfl, rfl, rfl, rfl, rfl⟩)
  · refine r_f c ?_
    refine r_iconst (pc := 15) (v := 0) C dJ1_canEncode_9a6ad_15 rfl ?_
    exact r_ireturn C hQ rfl dJ1_canEncode_9a6ad_16 (fun e => by subst e; exact ⟨BRd rfl, rfl, rfl, rfl, rfl, rfl⟩)
  · refine r_iload_n (pc := 0) (j := 0) C dJ1_canEncode_9a6ad_0 rfl rfl ?_
    refine r_if_lt (tgt := 15) C h0 dJ1_canEncode_9a6ad_1 (by decide) (fun c => gF (by omega)) (fun c => ?_)
    refine r_iload_n (pc := 4) (j := 0) C dJ1_canEncode_9a6ad_4 rfl rfl ?_
    refine r_sipush (pc := 5) (v := 255) C dJ1_canEncode_9a6ad_5 rfl ?_
    exact r_icmp_gt (tgt := 15) C h0 (IRd rfl) dJ1_canEncode_9a6ad_8 (by decide) (fun c => gF (by omega)) (fun c => gT (by omega))
theorem sfind_none : ∀ (l : List Int) (c k : Int), (∀ x ∈ l, x ≠ c) → sfind l c k = -1 := by
  intro l
  induction l with
  | nil => intros; rfl
  | cons a l ih =>
    intro c k h
    unfold sfind
    rw [if_neg (h a List.mem_cons_self)]
    exact ih c (k + 1) (fun x hx => h x (List.mem_cons_of_mem _ hx))
theorem drop_cons {l : List Int} {j : Nat} {a : Int} {r : List Int} (h : l.drop j = a :: r) : j < l.length ∧ l.getD j 0 = a ∧ l.drop (j + 1) = r := by
  have hlt : j < l.length := by
    refine Nat.lt_of_not_le (fun q => ?_)
    rw [List.drop_eq_nil_of_le q] at h
    cases h
  refine ⟨hlt, ?_, ?_⟩
  · rw [List.drop_eq_getElem_cons hlt] at h
    rw [List.getD_eq_getElem?_getD, List.getElem?_eq_getElem hlt]
    exact (List.cons.inj h).1
  · rw [List.drop_eq_getElem_cons hlt] at h
    exact (List.cons.inj h).2
theorem cal_J1_indexOfChar : CalS yJ1_indexOfChar_4cfef cJ1_indexOfChar_4cfef 6 (some .int) 4 := ⟨q_815, q_134, q_816, by decide +kernel⟩
theorem m_J1_indexOfChar {l : Launch} {E : EwT} {n : Nat} {R : Srf} {S : Sst} {O : Smo} {i : Nat} (hi : i < 2) {a1 : Int} (h0 : 0 ≤ a1) (h1 : a1 ≤ 255) {q : Int} (hq : f_J0_indexOf_0f7a4 i a1 = q) : MetG l E yJ1_indexOfChar_4cfef cJ1_indexOfChar_4cfef 6 (some .int) 0 0 0 0 n R S O [.ref (zX E (i + 2)), .int (zi a1), .int (zi 0), .int (zi ((zstr i).length : Nat))] (IR q) (some (.int (zi q))) n R S O := by
  refine ofG (L0 := [(0, .ref (zX E (i + 2))), (1, .int (zi a1)), (2, .int (zi 0)), (3, .int (zi ((zstr i).length : Nat)))]) hq (by decide +kernel) (Nat.le_of_ble_eq_true rfl) rfl (fun K _ C hQ => ?_)
  unfold f_J0_indexOf_0f7a4
  have hlen := zs_L i hi
  have loop : ∀ (l : List Int) (j : Nat), (zstr i).drop j = l → j ≤ (zstr i).length → GG E K q n R S O 0 0 [(5, .int (zi (j : Int))), (4, .int (zi (zi2b a1))), (0, .ref (zX E (i + 2))), (1, .int (zi a1)), (2, .int (zi 0)), (3, .int (zi ((zstr i).length : Nat)))] 7 [] (sfind l a1 (j : Int)) := by
    intro l
    induction l with
    | nil =>
      intro j hj hle
      have hlt : (zstr i).length ≤ j := by
        have := congrArg List.length hj
        simp only [List.length_drop, List.length_nil] at this
        omega
      refine r_iload (pc := 7) (j := 0) C dJ1_indexOfChar_4cfef_7 rfl ?_
      refine r_iload_n (pc := 9) (j := 5) C dJ1_indexOfChar_4cfef_9 rfl rfl ?_
      refine r_icmp_ge (tgt := 31) C ⟨by omega, by omega⟩ (zs_IR hi) dJ1_indexOfChar_4cfef_10 (by decide) (fun _ => ?_) (fun c => absurd c (by omega))
      refine r_iconst (pc := 31) (v := -1) C dJ1_indexOfChar_4cfef_31 rfl ?_
      exact r_ireturn C hQ rfl dJ1_indexOfChar_4cfef_32 (fun e => by subst e; exact ⟨IRd rfl, rfl, rfl, rfl, rfl, rfl⟩)
    | cons a r ih =>
      intro j hj hle
      obtain ⟨d1, d2, d3⟩ := drop_cons hj
      have hr := zs_rng i hi j d1
      rw [d2] at hr
      have hb : zi2b a1 = if a1 < 128 then a1 else a1 - 256 := by
        have := zi2b_e a1.toNat (by omega)
        rw [Int.toNat_of_nonneg h0] at this
        rw [this]
        by_cases c : a1 < 128
        · rw [if_pos c, if_pos (by omega)]
        · rw [if_neg c, if_neg (by omega)]
      have hba : a = zi2b a1 ↔ a = a1 := by
        rw [hb]
        split <;> omega
      refine r_iload (pc := 7) (j := 0) C dJ1_indexOfChar_4cfef_7 rfl ?_
      refine r_iload_n (pc := 9) (j := 5) C dJ1_indexOfChar_4cfef_9 rfl rfl ?_
      refine r_icmp_ge (tgt := 31) C ⟨by omega, by omega⟩ (zs_IR hi) dJ1_indexOfChar_4cfef_10 (by decide) (fun c => absurd c (by omega)) (fun _ => ?_)
      refine r_aload_n (pc := 13) (j := 2) C dJ1_indexOfChar_4cfef_13 rfl rfl ?_
      refine r_iload (pc := 14) (j := 0) C dJ1_indexOfChar_4cfef_14 rfl ?_
      refine r_bald C hi ⟨by omega, by omega⟩ (by omega) (by omega) dJ1_indexOfChar_4cfef_16 ?_
      rw [Int.toNat_natCast, d2]
      refine r_iload (pc := 17) (j := 1) C dJ1_indexOfChar_4cfef_17 rfl ?_
      unfold sfind
      refine r_icmp_ne (tgt := 25) C ⟨by omega, by omega⟩ (zi2b_IR _) dJ1_indexOfChar_4cfef_19 (by decide) (fun c => ?_) (fun c => ?_)
      · refine r_f (fun q => c (hba.mpr q)) ?_
        have hw : wr ((j : Int) + 1) = ((j + 1 : Nat) : Int) := by rw [wr_id (by omega) (by omega)]; omega
        refine r_iinc (pc := 25) (j := 0) (L' := [(5, .int (zi ((j + 1 : Nat) : Int))), (4, .int (zi (zi2b a1))), (0, .ref (zX E (i + 2))), (1, .int (zi a1)), (2, .int (zi 0)), (3, .int (zi ((zstr i).length : Nat)))]) C dJ1_indexOfChar_4cfef_25 rfl (by decide) (by rw [hw]; rfl) ?_
        refine r_goto (tgt := 7) C dJ1_indexOfChar_4cfef_28 (by decide) ?_
        have g := ih (j + 1) d3 (by omega)
        rw [show ((j + 1 : Nat) : Int) = (j : Int) + 1 by omega] at g ⊢
        exact g
      · refine r_t (hba.mp c) ?_
        refine r_iload (pc := 22) (j := 0) C dJ1_indexOfChar_4cfef_22 rfl ?_
        exact r_ireturn C hQ rfl dJ1_indexOfChar_4cfef_24 (fun e => by subst e; exact ⟨⟨by omega, by omega⟩, rfl, rfl, rfl, rfl, rfl⟩)
  refine r_iload_n (pc := 0) (j := 1) C dJ1_indexOfChar_4cfef_0 rfl rfl ?_
  refine r_i2b C dJ1_indexOfChar_4cfef_1 ?_
  refine r_istore (pc := 2) C dJ1_indexOfChar_4cfef_2 (by decide) rfl ?_
  refine r_iload_n (pc := 4) (j := 3) C dJ1_indexOfChar_4cfef_4 rfl rfl ?_
  refine r_istore (pc := 5) C dJ1_indexOfChar_4cfef_5 (by decide) rfl ?_
  exact loop (zstr i) 0 rfl (Nat.zero_le _)
theorem cal_J1_indexOf : CalS yJ1_indexOf_4cfef cJ1_indexOf_4cfef 4 (some .int) 4 := ⟨q_807, q_134, q_808, by decide +kernel⟩
theorem m_J1_indexOf {l : Launch} {E : EwT} {n : Nat} {R : Srf} {S : Sst} {O : Smo} {i : Nat} (hi : i < 2) {a1 : Int} (h1 : IR a1) {q : Int} (hq : f_J0_indexOf_0f7a4 i a1 = q) : MetG l E yJ1_indexOf_4cfef cJ1_indexOf_4cfef 4 (some .int) 1 25 0 0 n R S O [.ref (zX E (i + 2)), .int (zi a1), .int (zi 0), .int (zi ((zstr i).length : Nat))] (IR q) (some (.int (zi q))) n R S O := by
  have hlen := zs_L i hi
  have hI := zs_IR hi
  refine ofG (L0 := [(0, .ref (zX E (i + 2))), (1, .int (zi a1)), (2, .int (zi 0)), (3, .int (zi ((zstr i).length : Nat)))]) hq (by decide +kernel) (Nat.le_of_ble_eq_true rfl) rfl (fun K _ C hQ => ?_)
  refine r_iload_n (pc := 0) (j := 1) C dJ1_indexOf_4cfef_0 rfl rfl ?_
  by_cases hc : 0 ≤ a1 ∧ a1 ≤ 255
  · refine r_cS1 (pc := 1) (As := [.int (zi a1)]) C (m_J1_canEncode h1 (if_pos hc)) cal_J1_canEncode q_809 dJ1_indexOf_4cfef_1 rfl rfl (by simp) (by decide) (by decide) (Nat.le_refl _) (Nat.le_refl _) (fun _ => ?_)
    refine r_if_ne (tgt := 9) C (IRd rfl) dJ1_indexOf_4cfef_4 (by decide) (fun _ => ?_) (fun c => absurd c (by decide))
    refine r_iload_n (pc := 9) (j := 2) C dJ1_indexOf_4cfef_9 rfl rfl ?_
    refine r_iconst (pc := 10) (v := 0) C dJ1_indexOf_4cfef_10 rfl ?_
    refine r_cS1 (pc := 11) (As := [.int (zi 0), .int (zi 0)]) C (m_J9_max_7cf53 IR_0 IR_0 (q := 0) rfl) cal_J9_max_7cf53 q_812 dJ1_indexOf_4cfef_11 rfl rfl (by simp) (by decide) (by decide) (Nat.le_refl _) (Nat.le_refl _) (fun _ => ?_)
    refine r_istore_n (pc := 14) C dJ1_indexOf_4cfef_14 rfl (by decide) rfl ?_
    refine r_iload_n (pc := 15) (j := 3) C dJ1_indexOf_4cfef_15 rfl rfl ?_
    refine r_aload_n (pc := 16) (j := 1) C dJ1_indexOf_4cfef_16 rfl rfl ?_
    refine r_blen C hi dJ1_indexOf_4cfef_17 ?_
    refine r_cS1 (pc := 18) (As := [.int (zi ((zstr i).length : Nat)), .int (zi ((zstr i).length : Nat))]) C (m_J9_min_7cf53 hI hI (q := ((zstr i).length : Nat)) (by unfold f_J9_min_7cf53; split <;> rfl)) cal_J9_min_7cf53 q_813 dJ1_indexOf_4cfef_18 rfl rfl (by simp) (by decide) (by decide) (Nat.le_refl _) (Nat.le_refl _) (fun _ => ?_)
    refine r_istore_n (pc := 21) C dJ1_indexOf_4cfef_21 rfl (by decide) rfl ?_
    refine r_iload_n (pc := 22) (j := 1) C dJ1_indexOf_4cfef_22 rfl rfl ?_
    refine r_iload_n (pc := 23) (j := 0) C dJ1_indexOf_4cfef_23 rfl rfl ?_
    refine r_icmp_lt (tgt := 29) C IR_0 hI dJ1_indexOf_4cfef_24 (by decide) (fun _ => ?_) (fun c => absurd c (by omega))
    refine r_aload_n (pc := 29) (j := 2) C dJ1_indexOf_4cfef_29 rfl rfl ?_
    refine r_iload_n (pc := 30) (j := 3) C dJ1_indexOf_4cfef_30 rfl rfl ?_
    refine r_iload_n (pc := 31) (j := 1) C dJ1_indexOf_4cfef_31 rfl rfl ?_
    refine r_iload_n (pc := 32) (j := 0) C dJ1_indexOf_4cfef_32 rfl rfl ?_
    refine r_cS1 (pc := 33) (As := [.ref (zX E (i + 2)), .int (zi a1), .int (zi 0), .int (zi ((zstr i).length : Nat))]) C (m_J1_indexOfChar hi hc.1 hc.2 rfl) cal_J1_indexOfChar q_814 dJ1_indexOf_4cfef_33 rfl rfl (by simp) (by decide) (by decide) (Nat.le_refl _) (Nat.le_refl _) (fun hP => ?_)
    exact r_ireturn C hQ rfl dJ1_indexOf_4cfef_36 (fun e => by subst e; exact ⟨hP, rfl, rfl, rfl, rfl, rfl⟩)
  · refine r_cS1 (pc := 1) (As := [.int (zi a1)]) C (m_J1_canEncode h1 (if_neg hc)) cal_J1_canEncode q_809 dJ1_indexOf_4cfef_1 rfl rfl (by simp) (by decide) (by decide) (Nat.le_refl _) (Nat.le_refl _) (fun _ => ?_)
    refine r_if_ne (tgt := 9) C (IRd rfl) dJ1_indexOf_4cfef_4 (by decide) (fun c => absurd rfl c) (fun _ => ?_)
    refine r_iconst (pc := 7) (v := -1) C dJ1_indexOf_4cfef_7 rfl ?_
    have hs : f_J0_indexOf_0f7a4 i a1 = -1 := sfind_none _ _ _ (fun x hx e => hc (by have := zs_mem i hi x hx; omega))
    rw [hs]
    exact r_ireturn C hQ rfl dJ1_indexOf_4cfef_8 (fun e => by subst e; exact ⟨IRd rfl, rfl, rfl, rfl, rfl, rfl⟩)
theorem m_J0_indexOf2 {l : Launch} {E : EwT} {n : Nat} {R : Srf} {S : Sst} {O : Smo} {i : Nat} (hi : i < 2) {a1 : Int} (h1 : IR a1) {q : Int} (hq : f_J0_indexOf_0f7a4 i a1 = q) : MetG l E yJ0_indexOf_7cf53 cJ0_indexOf_7cf53 3 (some .int) 2 48 0 0 n R S O [.ref (zX E i), .int (zi a1), .int (zi 0)] (IR q) (some (.int (zi q))) n R S O := by
  refine ofG (L0 := [(0, .ref (zX E i)), (1, .int (zi a1)), (2, .int (zi 0))]) hq (by decide +kernel) (Nat.le_of_ble_eq_true rfl) rfl (fun K _ C hQ => ?_)
  refine r_aload_n (pc := 0) (j := 0) C dJ0_indexOf_7cf53_0 rfl rfl ?_
  refine r_cStr1 (As := []) hi C (m_J0_isLatin1 hi) cal_J0_isLatin1 rfl q_299 dJ0_indexOf_7cf53_1 rfl rfl (by simp) (by decide) (by decide) (Nat.le_refl _) (Nat.le_refl _) (fun _ => ?_)
  refine r_if_eq (tgt := 23) C (IRd rfl) dJ0_indexOf_7cf53_4 (by decide) (fun c => absurd c (by decide)) (fun _ => ?_)
  refine r_aload_n (pc := 7) (j := 0) C dJ0_indexOf_7cf53_7 rfl rfl ?_
  refine r_sval C hi q_2396 dJ0_indexOf_7cf53_8 ?_
  refine r_iload_n (pc := 11) (j := 1) C dJ0_indexOf_7cf53_11 rfl rfl ?_
  refine r_iload_n (pc := 12) (j := 2) C dJ0_indexOf_7cf53_12 rfl rfl ?_
  refine r_aload_n (pc := 13) (j := 0) C dJ0_indexOf_7cf53_13 rfl rfl ?_
  refine r_cStr1 (As := []) hi C (m_J0_length_8abf5 hi rfl) cal_J0_length_8abf5 rfl q_805 dJ0_indexOf_7cf53_14 rfl rfl (by simp [Value.category]) (by decide) (by decide) (Nat.le_refl _) (Nat.le_refl _) (fun _ => ?_)
  refine r_cS1 (pc := 17) (As := [.ref (zX E (i + 2)), .int (zi a1), .int (zi 0), .int (zi ((zstr i).length : Nat))]) C (m_J1_indexOf hi h1 rfl) cal_J1_indexOf q_806 dJ0_indexOf_7cf53_17 rfl rfl (by simp) (by decide) (by decide) (Nat.le_refl _) (Nat.le_refl _) (fun hP => ?_)
  refine r_goto (tgt := 36) C dJ0_indexOf_7cf53_20 (by decide) ?_
  exact r_ireturn C hQ rfl dJ0_indexOf_7cf53_36 (fun e => by subst e; exact ⟨hP, rfl, rfl, rfl, rfl, rfl⟩)
theorem m_J0_indexOf_0f7a4 {l : Launch} {E : EwT} {n : Nat} {R : Srf} {S : Sst} {O : Smo} {i : Nat} (hi : i < 2) {a1 : Int} (h1 : IR a1) {q : Int} (hq : f_J0_indexOf_0f7a4 i a1 = q) : MetG l E yJ0_indexOf_0f7a4 cJ0_indexOf_0f7a4 2 (some .int) 5 150 0 0 n R S O [.ref (zX E i), .int (zi a1)] (IR q) (some (.int (zi q))) n R S O := by
  refine ofG (L0 := [(0, .ref (zX E i)), (1, .int (zi a1))]) hq (by decide +kernel) (Nat.le_of_ble_eq_true rfl) rfl (fun K _ C hQ => ?_)
  refine r_aload_n (pc := 0) (j := 0) C dJ0_indexOf_0f7a4_0 rfl rfl ?_
  refine r_iload_n (pc := 1) (j := 1) C dJ0_indexOf_0f7a4_1 rfl rfl ?_
  refine r_iconst (pc := 2) (v := 0) C dJ0_indexOf_0f7a4_2 rfl ?_
  refine r_cStr1 (As := [.int (zi a1), .int (zi 0)]) hi C (m_J0_indexOf2 hi h1 rfl) cal_J0_indexOf2 rfl q_801 dJ0_indexOf_0f7a4_3 rfl rfl (by simp) (by decide) (by decide) (Nat.le_refl _) (Nat.le_refl _) (fun hP => ?_)
  exact r_ireturn C hQ rfl dJ0_indexOf_0f7a4_6 (fun e => by subst e; exact ⟨hP, rfl, rfl, rfl, rfl, rfl⟩)
