/-! the class Row: its methods, the walks written by program -/
def g_X6_size (p : Nat) (S : Sst) : Int :=
  ((S.1 p).length : Int)

theorem e_X6_size (p : Nat) (S : Sst) : g_X6_size p S = f_X6_size p S := rfl

set_option maxRecDepth 100000 in
set_option maxHeartbeats 4000000 in
theorem m_X6_size {l : Launch} {E : EwT} {n : Nat} {R : Srf} {S : Sst} {O : Smo} {p : Nat} (hp : gRw n R p) {q : Int} (hq : f_X6_size p S = q) : MetG l E yX6_size cX6_size 1 (some .int) 0 0 0 0 n R S O [.ref (zad E p)] (IR q) (some (.int (zi q))) n R S O := by
  refine ofG (L0 := [(0, .ref (zad E p))]) hq (by decide +kernel) (Nat.le_of_ble_eq_true rfl) rfl (fun K _ C hQ => ?_)
  refine r_len hp (fun hlen => ?_)
  refine r_eq (e_X6_size p S) ?_
  unfold g_X6_size
  refine r_aload_n (pc := 0) (j := 0) C dX6_size_0 rfl rfl ?_
  refine r_rowCnt C hp q_165 dX6_size_1 (fun h1 => ?_)
  exact r_ireturn C hQ rfl dX6_size_4 (fun e => by subst e; exact ⟨h1, rfl, rfl, rfl, rfl, rfl⟩)

def g_X6_at (p : Nat) (a1 : Int) (S : Sst) : Option (Int) :=
  if ((a1 < 0 ∨ ¬ a1 < ((S.1 p).length : Int)) ∨ ¬ a1 < (Ln (p + 1) : Int)) then
    (some (-1))
  else
    (Option.bind (rget (S.1 p) a1) fun (v6 : Int) =>
    some v6)

theorem e_X6_at {p : Nat} {S : Sst} (a1 : Int) (h : (S.1 p).length ≤ Ln (p + 1)) : g_X6_at p a1 S = some (f_X6_at p a1 S) := by
  unfold g_X6_at f_X6_at
  by_cases c : a1 < 0 ∨ ¬ a1 < ((S.1 p).length : Int)
  · rw [if_pos (Or.inl c)]
    unfold lat
    congr 1
    by_cases c0 : 0 ≤ a1
    · rw [if_pos c0, List.getD_eq_getElem?_getD, List.getElem?_eq_none (by omega)]
      rfl
    · rw [if_neg c0]
  · rw [if_neg (by omega)]
    unfold rget
    rw [if_pos (by omega)]
    rfl

set_option maxRecDepth 100000 in
set_option maxHeartbeats 4000000 in
theorem m_X6_at {l : Launch} {E : EwT} {n : Nat} {R : Srf} {S : Sst} {O : Smo} {p : Nat} (hp : gRw n R p) {a1 : Int} (ha1 : IR a1) {q : Int} (hq : f_X6_at p a1 S = q) : MetG l E yX6_at cX6_at 2 (some .int) 0 0 0 0 n R S O [.ref (zad E p), .int (zi a1)] (IR q) (some (.int (zi q))) n R S O := by
  refine ofG (L0 := [(0, .ref (zad E p)), (1, .int (zi a1))]) hq (by decide +kernel) (Nat.le_of_ble_eq_true rfl) rfl (fun K _ C hQ => ?_)
  refine r_len hp (fun hlen => ?_)
  refine r_conv (e_X6_at a1 hlen) ?_
  unfold g_X6_at
  refine r_iload_n (pc := 0) (j := 1) C dX6_at_0 rfl rfl ?_
  refine r_cut ((a1 < 0 ∨ ¬ a1 < ((S.1 p).length : Int)) ∨ ¬ a1 < (Ln (p + 1) : Int)) 30 21 [] (fun c3 => ?_) (fun c3 => ?_) (fun k4 k5 => ?_)
  · refine r_t c3 ?_
    refine r_iconst (v := (-1)) C dX6_at_30 (by decide) ?_
    exact r_ireturn C hQ rfl dX6_at_31 (fun e => by cases e; exact ⟨(IRd rfl), rfl, rfl, rfl, rfl, rfl⟩)
  · refine r_f c3 ?_
    refine r_aload_n (pc := 21) (j := 0) C dX6_at_21 rfl rfl ?_
    refine r_getR (j := 0) C cl_X6 hp.1 (gRw_k hp).2.1 (by decide) rfl hp.2.2.2 (by omega) q_164 dX6_at_22 ?_
    refine r_iload_n (pc := 25) (j := 1) C dX6_at_25 rfl rfl ?_
    refine r_rowLd C hp ha1 dX6_at_26 (fun v6 h7 => ?_)
    refine r_goto (tgt := 31) C dX6_at_27 (by decide) ?_
    exact r_ireturn C hQ rfl dX6_at_31 (fun e => by cases e; exact ⟨h7, rfl, rfl, rfl, rfl, rfl⟩)
  · refine r_if_lt (tgt := 30) C ha1 dX6_at_1 (by decide) (fun c8 => ?_) (fun c8 => ?_)
    · exact k4 (Or.inl (Or.inl c8))
    · refine r_iload_n (pc := 4) (j := 1) C dX6_at_4 rfl rfl ?_
      refine r_aload_n (pc := 5) (j := 0) C dX6_at_5 rfl rfl ?_
      refine r_rowCnt C hp q_165 dX6_at_6 (fun h2 => ?_)
      refine r_icmp_ge (tgt := 30) C ha1 h2 dX6_at_9 (by decide) (fun c9 => ?_) (fun c9 => ?_)
      · exact k4 (Or.inl (Or.inr c9))
      · refine r_iload_n (pc := 12) (j := 1) C dX6_at_12 rfl rfl ?_
        refine r_aload_n (pc := 13) (j := 0) C dX6_at_13 rfl rfl ?_
        refine r_getR (j := 0) C cl_X6 hp.1 (gRw_k hp).2.1 (by decide) rfl hp.2.2.2 (by omega) q_164 dX6_at_14 ?_
        refine r_rowLen C hp dX6_at_17 ?_
        refine r_icmp_ge (tgt := 30) C ha1 (Ln_IR _) dX6_at_18 (by decide) (fun c10 => ?_) (fun c10 => ?_)
        · exact k4 (Or.inr c10)
        · exact k5 (fun w => w.elim (fun w => w.elim c8 (fun x => x c9)) (fun x => x c10))

def g_X6_put (p : Nat) (a1 : Int) (a2 : Int) (S : Sst) : Option (Sst) :=
  if ((a1 < 0 ∨ ¬ a1 < ((S.1 p).length : Int)) ∨ ¬ a1 < (Ln (p + 1) : Int)) then
    (some S)
  else
    (Option.bind (rset S p a1 a2) fun (S15 : Sst) =>
    some S15)

theorem e_X6_put {p : Nat} {S : Sst} (a1 a2 : Int) (h : (S.1 p).length ≤ Ln (p + 1)) : g_X6_put p a1 a2 S = some (f_X6_put p a1 a2 S) := by
  unfold g_X6_put f_X6_put
  by_cases c : a1 < 0 ∨ ¬ a1 < ((S.1 p).length : Int)
  · rw [if_pos (Or.inl c)]
    congr 1
    by_cases c0 : 0 ≤ a1
    · rw [if_pos c0, List.set_eq_of_length_le (by omega), upR_self]
    · rw [if_neg c0, upR_self]
  · rw [if_neg (by omega)]
    unfold rset
    rw [if_pos (by omega), if_pos (by omega)]
    rfl

set_option maxRecDepth 100000 in
set_option maxHeartbeats 4000000 in
theorem m_X6_put {l : Launch} {E : EwT} {n : Nat} {R : Srf} {S : Sst} {O : Smo} {p : Nat} (hp : gRw n R p) {a1 : Int} (ha1 : IR a1) {a2 : Int} (ha2 : IR a2) {q : Sst} (hq : f_X6_put p a1 a2 S = q) : MetG l E yX6_put cX6_put 3 none 0 0 0 0 n R S O [.ref (zad E p), .int (zi a1), .int (zi a2)] (True) none n R q O := by
  refine ofG (L0 := [(0, .ref (zad E p)), (1, .int (zi a1)), (2, .int (zi a2))]) hq (by decide +kernel) (Nat.le_of_ble_eq_true rfl) rfl (fun K _ C hQ => ?_)
  refine r_len hp (fun hlen => ?_)
  refine r_conv (e_X6_put a1 a2 hlen) ?_
  unfold g_X6_put
  refine r_iload_n (pc := 0) (j := 1) C dX6_put_0 rfl rfl ?_
  refine r_cut ((a1 < 0 ∨ ¬ a1 < ((S.1 p).length : Int)) ∨ ¬ a1 < (Ln (p + 1) : Int)) 28 21 [] (fun c12 => ?_) (fun c12 => ?_) (fun k13 k14 => ?_)
  · refine r_t c12 ?_
    exact r_return C hQ dX6_put_28 (fun e => by cases e; exact ⟨trivial, rfl, rfl, rfl, rfl, rfl⟩)
  · refine r_f c12 ?_
    refine r_aload_n (pc := 21) (j := 0) C dX6_put_21 rfl rfl ?_
    refine r_getR (j := 0) C cl_X6 hp.1 (gRw_k hp).2.1 (by decide) rfl hp.2.2.2 (by omega) q_164 dX6_put_22 ?_
    refine r_iload_n (pc := 25) (j := 1) C dX6_put_25 rfl rfl ?_
    refine r_iload_n (pc := 26) (j := 2) C dX6_put_26 rfl rfl ?_
    refine r_rowSt C hp ha1 ha2 dX6_put_27 (fun S15 => ?_)
    exact r_return C hQ dX6_put_28 (fun e => by cases e; exact ⟨trivial, rfl, rfl, rfl, rfl, rfl⟩)
  · refine r_if_lt (tgt := 28) C ha1 dX6_put_1 (by decide) (fun c16 => ?_) (fun c16 => ?_)
    · exact k13 (Or.inl (Or.inl c16))
    · refine r_iload_n (pc := 4) (j := 1) C dX6_put_4 rfl rfl ?_
      refine r_aload_n (pc := 5) (j := 0) C dX6_put_5 rfl rfl ?_
      refine r_rowCnt C hp q_165 dX6_put_6 (fun h11 => ?_)
      refine r_icmp_ge (tgt := 28) C ha1 h11 dX6_put_9 (by decide) (fun c17 => ?_) (fun c17 => ?_)
      · exact k13 (Or.inl (Or.inr c17))
      · refine r_iload_n (pc := 12) (j := 1) C dX6_put_12 rfl rfl ?_
        refine r_aload_n (pc := 13) (j := 0) C dX6_put_13 rfl rfl ?_
        refine r_getR (j := 0) C cl_X6 hp.1 (gRw_k hp).2.1 (by decide) rfl hp.2.2.2 (by omega) q_164 dX6_put_14 ?_
        refine r_rowLen C hp dX6_put_17 ?_
        refine r_icmp_ge (tgt := 28) C ha1 (Ln_IR _) dX6_put_18 (by decide) (fun c18 => ?_) (fun c18 => ?_)
        · exact k13 (Or.inr c18)
        · exact k14 (fun w => w.elim (fun w => w.elim c16 (fun x => x c17)) (fun x => x c18))

theorem add_up {p : Nat} {S : Sst} (l : List Int) (a : Int) (c : Nat) (hc : Ln (p + 1) = c) : f_X6_add p a (upR S p l) = upR S p (if l.length < c then l ++ [a] else l) := by
  unfold f_X6_add
  rw [upR_at, upR_up, hc]

set_option maxRecDepth 100000 in
set_option maxHeartbeats 4000000 in
theorem m_X6_add {l : Launch} {E : EwT} {n : Nat} {R : Srf} {S : Sst} {O : Smo} {p : Nat} (hp : gRw n R p) {a1 : Int} (ha1 : IR a1) {q : Sst} (hq : f_X6_add p a1 S = q) : MetG l E yX6_add cX6_add 2 none 0 0 0 0 n R S O [.ref (zad E p), .int (zi a1)] (True) none n R q O := by
  refine ofG (L0 := [(0, .ref (zad E p)), (1, .int (zi a1))]) hq (by decide +kernel) (Nat.le_of_ble_eq_true rfl) rfl (fun K _ C hQ => ?_)
  refine r_len hp (fun hlen => ?_)
  have hsm := Ln_small (p + 1)
  refine r_aload_n (pc := 0) (j := 0) C dX6_add_0 rfl rfl ?_
  refine r_rowCnt C hp q_165 dX6_add_1 (fun h1 => ?_)
  refine r_if_lt (tgt := 39) C h1 dX6_add_4 (by decide) (fun c => ?_) (fun c => ?_)
  · exact absurd c (by omega)
  refine r_aload_n (pc := 7) (j := 0) C dX6_add_7 rfl rfl ?_
  refine r_rowCnt C hp q_165 dX6_add_8 (fun h1 => ?_)
  refine r_aload_n (pc := 11) (j := 0) C dX6_add_11 rfl rfl ?_
  refine r_getR (j := 0) C cl_X6 hp.1 (gRw_k hp).2.1 (by decide) rfl hp.2.2.2 (by omega) q_164 dX6_add_12 ?_
  refine r_rowLen C hp dX6_add_15 ?_
  refine r_icmp_ge (tgt := 39) C h1 (Ln_IR _) dX6_add_16 (by decide) (fun c => ?_) (fun c => ?_)
  · refine r_return C hQ dX6_add_39 (fun e => ?_)
    have e2 : f_X6_add p a1 S = S := by
      unfold f_X6_add
      rw [if_neg (by omega), upR_self]
    exact ⟨trivial, rfl, rfl, rfl, by rw [← e, e2], rfl⟩
  refine r_aload_n (pc := 19) (j := 0) C dX6_add_19 rfl rfl ?_
  refine r_getR (j := 0) C cl_X6 hp.1 (gRw_k hp).2.1 (by decide) rfl hp.2.2.2 (by omega) q_164 dX6_add_20 ?_
  refine r_aload_n (pc := 23) (j := 0) C dX6_add_23 rfl rfl ?_
  refine r_rowCnt C hp q_165 dX6_add_24 (fun h1 => ?_)
  refine r_iload_n (pc := 27) (j := 1) C dX6_add_27 rfl rfl ?_
  intro e H locs ls hR hS hl
  obtain ⟨M, hraw, hag⟩ := hR
  obtain ⟨e1, e2, e3⟩ := (hag p).1 hp.1
  refine rawiast C (Or.inr (Kd6 hp.1)) hp.2.1 h1 (by omega) (by omega) dX6_add_28 hraw.2.1 hS fun H1 locs1 hz1 hcs hS1 => ?_
  have hraw1 := upraw (v := a1) hraw hp.2.1 hz1 hcs (by rw [zty_cells hp.1]; exact ha1)
  refine lv_aload_n C.1 C.2.1 dX6_add_29 rfl (lv_at hl 0 rfl) ?_
  refine lv_dup C.1 C.2.1 dX6_add_30 rfl ?_
  refine rawget C cl_X6 hp.1 (gRw_k hp).2.1 (j := 1) (by decide) q_165 dX6_add_31 hraw1.2.1 ?_
  rw [show zfld E R (up2 M (p + 1) (((S.1 p).length : Int)).toNat a1) p 1 = .int (zi ((S.1 p).length : Int)) by
    rw [zfld, hp.1, show up2 M (p + 1) (((S.1 p).length : Int)).toNat a1 p 1 = M p 1 by simp [up2], e1]; rfl]
  refine lv_iconst (v := 1) C.1 C.2.1 dX6_add_34 (by decide) ?_
  refine lv_iadd C.1 C.2.1 dX6_add_35 ?_
  rw [show zi ((S.1 p).length : Int) + (1 : Int32) = zi (((S.1 p).length : Int) + 1) from (Int32.ofInt_add _ 1).symm]
  refine rawput C cl_X6 hp.1 (gRw_k hp).2.1 (j := 1) (by decide) q_165 dX6_add_36 (Or.inl rfl) rfl rfl hraw1.2.1 hS1 (fun k' h => zcell_up h) (zfld_up (z := ((S.1 p).length : Int) + 1) (by rw [zfld, hp.1]; simp [up2]; rfl)) fun H2 locs2 hz2 hcs2 hS2 => ?_
  have hraw2 := upraw (v := ((S.1 p).length : Int) + 1) hraw1 (gRw_k hp).2.1 hz2 hcs2 (by rw [zty_row hp.1]; exact ⟨by omega, by omega⟩)
  have e4 : f_X6_add p a1 S = upR S p (S.1 p ++ [a1]) := by
    unfold f_X6_add
    rw [if_pos (by omega)]
  refine r_return (S := upR S p (S.1 p ++ [a1])) C hQ dX6_add_39 (fun e => ⟨trivial, rfl, rfl, rfl, by rw [← e, e4], rfl⟩) e H2 locs2 ls ⟨_, hraw2, agrR hag hp.1 (fun a h1 h2 => ?_) ?_ ?_ (fun i hi => ?_)⟩ hS2 hl
  · funext b
    simp [up2, h1, h2]
  · simp [up2]
  · rw [List.length_append]
    simp
    omega
  · have hne : p + 1 ≠ p := by omega
    rw [List.length_append, List.length_singleton] at hi
    by_cases c2 : i = (S.1 p).length
    · subst c2
      simp [up2, hne]
    · have h2 := e3 i (by omega)
      simp only [List.getD_eq_getElem?_getD] at h2 ⊢
      rw [List.getElem?_append_left (by omega), ← h2]
      simp [up2, hne, c2]

def g_X6_addUnlessNone (p : Nat) (a1 : Int) (S : Sst) : Sst :=
  if a1 = (-1) then
    (S)
  else
    (jn (f_X6_add p a1 S) fun (q21 : Sst) =>
    q21)

theorem e_X6_addUnlessNone (p : Nat) (a1 : Int) (S : Sst) : g_X6_addUnlessNone p a1 S = f_X6_addUnlessNone p a1 S := rfl

set_option maxRecDepth 100000 in
set_option maxHeartbeats 4000000 in
theorem m_X6_addUnlessNone {l : Launch} {E : EwT} {n : Nat} {R : Srf} {S : Sst} {O : Smo} {p : Nat} (hp : gRw n R p) {a1 : Int} (ha1 : IR a1) {q : Sst} (hq : f_X6_addUnlessNone p a1 S = q) : MetG l E yX6_addUnlessNone cX6_addUnlessNone 2 none 1 21 0 0 n R S O [.ref (zad E p), .int (zi a1)] (True) none n R q O := by
  refine ofG (L0 := [(0, .ref (zad E p)), (1, .int (zi a1))]) hq (by decide +kernel) (Nat.le_of_ble_eq_true rfl) rfl (fun K _ C hQ => ?_)
  refine r_len hp (fun hlen => ?_)
  refine r_eq (e_X6_addUnlessNone p a1 S) ?_
  unfold g_X6_addUnlessNone
  refine r_iload_n (pc := 0) (j := 1) C dX6_addUnlessNone_0 rfl rfl ?_
  refine r_iconst (v := (-1)) C dX6_addUnlessNone_1 (by decide) ?_
  refine r_icmp_eq (tgt := 10) C ha1 (IRd rfl) dX6_addUnlessNone_2 (by decide) (fun c19 => ?_) (fun c19 => ?_)
  · refine r_t c19 ?_
    exact r_return C hQ dX6_addUnlessNone_10 (fun e => by subst e; exact ⟨trivial, rfl, rfl, rfl, rfl, rfl⟩)
  · refine r_f c19 ?_
    refine r_aload_n (pc := 5) (j := 0) C dX6_addUnlessNone_5 rfl rfl ?_
    refine r_iload_n (pc := 6) (j := 1) C dX6_addUnlessNone_6 rfl rfl ?_
    refine r_jn (fun q21 e22 => ?_)
    refine r_cV0 (pc := 7) (k := p) (As := [.int (zi a1)]) (st := []) C (m_X6_add (p := p) (a1 := a1) hp ha1 e22) cal_X6_add cl_X6 (gRw_k hp).1 (gRw_k hp).2.1 q_501 dX6_addUnlessNone_7 rfl rfl (Nat.le_of_ble_eq_true rfl) (Nat.le_of_ble_eq_true rfl) (Nat.le_of_ble_eq_true rfl) (Nat.le_of_ble_eq_true rfl) (Nat.le_of_ble_eq_true rfl) (fun h20 => ?_)
    exact r_return C hQ dX6_addUnlessNone_10 (fun e => by subst e; exact ⟨trivial, rfl, rfl, rfl, rfl, rfl⟩)

def g_X6_keep (p : Nat) (a1 : Int) (S : Sst) : Option (Sst) :=
  if (a1 < 0 ∨ ¬ a1 < ((S.1 p).length : Int)) then
    (some S)
  else
    (Option.bind (rcnt S p a1) fun (S27 : Sst) =>
    some S27)

theorem e_X6_keep {p : Nat} {S : Sst} (a1 : Int) (h : (S.1 p).length ≤ Ln (p + 1)) : g_X6_keep p a1 S = some (f_X6_keep p a1 S) := by
  unfold g_X6_keep f_X6_keep
  by_cases c : a1 < 0 ∨ ¬ a1 < ((S.1 p).length : Int)
  · rw [if_pos c]
    congr 1
    by_cases c0 : 0 ≤ a1
    · rw [if_pos c0, List.take_of_length_le (by omega), upR_self]
    · rw [if_neg c0, upR_self]
  · rw [if_neg c]
    unfold rcnt
    rw [if_pos (by omega), if_pos (by omega)]
    rfl

set_option maxRecDepth 100000 in
set_option maxHeartbeats 4000000 in
theorem m_X6_keep {l : Launch} {E : EwT} {n : Nat} {R : Srf} {S : Sst} {O : Smo} {p : Nat} (hp : gRw n R p) {a1 : Int} (ha1 : IR a1) {q : Sst} (hq : f_X6_keep p a1 S = q) : MetG l E yX6_keep cX6_keep 2 none 0 0 0 0 n R S O [.ref (zad E p), .int (zi a1)] (True) none n R q O := by
  refine ofG (L0 := [(0, .ref (zad E p)), (1, .int (zi a1))]) hq (by decide +kernel) (Nat.le_of_ble_eq_true rfl) rfl (fun K _ C hQ => ?_)
  refine r_len hp (fun hlen => ?_)
  refine r_conv (e_X6_keep a1 hlen) ?_
  unfold g_X6_keep
  refine r_iload_n (pc := 0) (j := 1) C dX6_keep_0 rfl rfl ?_
  refine r_cut (a1 < 0 ∨ ¬ a1 < ((S.1 p).length : Int)) 17 12 [] (fun c24 => ?_) (fun c24 => ?_) (fun k25 k26 => ?_)
  · refine r_t c24 ?_
    exact r_return C hQ dX6_keep_17 (fun e => by cases e; exact ⟨trivial, rfl, rfl, rfl, rfl, rfl⟩)
  · refine r_f c24 ?_
    refine r_aload_n (pc := 12) (j := 0) C dX6_keep_12 rfl rfl ?_
    refine r_iload_n (pc := 13) (j := 1) C dX6_keep_13 rfl rfl ?_
    refine r_rowPut C hp ha1 q_165 dX6_keep_14 (fun S27 => ?_)
    exact r_return C hQ dX6_keep_17 (fun e => by cases e; exact ⟨trivial, rfl, rfl, rfl, rfl, rfl⟩)
  · refine r_if_lt (tgt := 17) C ha1 dX6_keep_1 (by decide) (fun c28 => ?_) (fun c28 => ?_)
    · exact k25 (Or.inl c28)
    · refine r_iload_n (pc := 4) (j := 1) C dX6_keep_4 rfl rfl ?_
      refine r_aload_n (pc := 5) (j := 0) C dX6_keep_5 rfl rfl ?_
      refine r_rowCnt C hp q_165 dX6_keep_6 (fun h23 => ?_)
      refine r_icmp_ge (tgt := 17) C ha1 h23 dX6_keep_9 (by decide) (fun c29 => ?_) (fun c29 => ?_)
      · exact k25 (Or.inr c29)
      · exact k26 (fun w => w.elim c28 (fun x => x c29))

theorem wr_len {p : Nat} {S : Sst} (h : (S.1 p).length ≤ Ln (p + 1)) : wr (((S.1 p).length : Int) - 1) = ((S.1 p).length : Int) - 1 := by
  have := Ln_small (p + 1)
  exact wr_id (by omega) (by omega)

def g_X6_last (p : Nat) (S : Sst) : Int :=
  f_X6_at p (wr (((S.1 p).length : Int) - 1)) S

theorem e_X6_last {p : Nat} {S : Sst} (h : (S.1 p).length ≤ Ln (p + 1)) : g_X6_last p S = f_X6_last p S := by
  unfold g_X6_last f_X6_last f_X6_at
  rw [wr_len h]

set_option maxRecDepth 100000 in
set_option maxHeartbeats 4000000 in
theorem m_X6_last {l : Launch} {E : EwT} {n : Nat} {R : Srf} {S : Sst} {O : Smo} {p : Nat} (hp : gRw n R p) {q : Int} (hq : f_X6_last p S = q) : MetG l E yX6_last cX6_last 1 (some .int) 1 21 0 0 n R S O [.ref (zad E p)] (IR q) (some (.int (zi q))) n R S O := by
  refine ofG (L0 := [(0, .ref (zad E p))]) hq (by decide +kernel) (Nat.le_of_ble_eq_true rfl) rfl (fun K _ C hQ => ?_)
  refine r_len hp (fun hlen => ?_)
  refine r_eq (e_X6_last hlen) ?_
  unfold g_X6_last
  refine r_aload_n (pc := 0) (j := 0) C dX6_last_0 rfl rfl ?_
  refine r_aload_n (pc := 1) (j := 0) C dX6_last_1 rfl rfl ?_
  refine r_rowCnt C hp q_165 dX6_last_2 (fun h30 => ?_)
  refine r_iconst (v := 1) C dX6_last_5 (by decide) ?_
  refine r_isub C dX6_last_6 ?_
  refine r_cV1 (pc := 7) (k := p) (As := [.int (zi (wr (((S.1 p).length : Int) - 1)))]) (st := []) C (m_X6_at (p := p) (a1 := wr (((S.1 p).length : Int) - 1)) hp (IR_wr _) rfl) cal_X6_at cl_X6 (gRw_k hp).1 (gRw_k hp).2.1 q_939 dX6_last_7 rfl rfl (Nat.le_of_ble_eq_true rfl) (Nat.le_of_ble_eq_true rfl) (Nat.le_of_ble_eq_true rfl) (Nat.le_of_ble_eq_true rfl) (Nat.le_of_ble_eq_true rfl) (fun h31 => ?_)
  exact r_ireturn C hQ rfl dX6_last_10 (fun e => by subst e; exact ⟨h31, rfl, rfl, rfl, rfl, rfl⟩)

def g_X6_takeLast (p : Nat) (S : Sst) : Int × Sst :=
  jn (f_X6_at p (wr (((S.1 p).length : Int) - 1)) S) fun (v34 : Int) =>
  jn (f_X6_keep p (wr (((S.1 p).length : Int) - 1)) S) fun (q38 : Sst) =>
  (v34, q38)

theorem e_X6_takeLast {p : Nat} {S : Sst} (h : (S.1 p).length ≤ Ln (p + 1)) : g_X6_takeLast p S = f_X6_takeLast p S := by
  unfold g_X6_takeLast f_X6_takeLast f_X6_at f_X6_keep jn
  rw [wr_len h]
  congr 2
  rw [List.dropLast_eq_take]
  by_cases c : 0 ≤ ((S.1 p).length : Int) - 1
  · rw [if_pos c, show (((S.1 p).length : Int) - 1).toNat = (S.1 p).length - 1 by omega]
  · rw [if_neg c]
    have : (S.1 p).length = 0 := by omega
    rw [List.take_of_length_le (by omega)]

set_option maxRecDepth 100000 in
set_option maxHeartbeats 4000000 in
theorem m_X6_takeLast {l : Launch} {E : EwT} {n : Nat} {R : Srf} {S : Sst} {O : Smo} {p : Nat} (hp : gRw n R p) {q : Int × Sst} (hq : f_X6_takeLast p S = q) : MetG l E yX6_takeLast cX6_takeLast 2 (some .int) 1 21 0 0 n R S O [.ref (zad E p)] (IR q.1) (some (.int (zi q.1))) n R q.2 O := by
  refine ofG (L0 := [(0, .ref (zad E p))]) hq (by decide +kernel) (Nat.le_of_ble_eq_true rfl) rfl (fun K _ C hQ => ?_)
  refine r_len hp (fun hlen => ?_)
  refine r_eq (e_X6_takeLast hlen) ?_
  unfold g_X6_takeLast
  refine r_aload_n (pc := 0) (j := 0) C dX6_takeLast_0 rfl rfl ?_
  refine r_aload_n (pc := 1) (j := 0) C dX6_takeLast_1 rfl rfl ?_
  refine r_rowCnt C hp q_165 dX6_takeLast_2 (fun h32 => ?_)
  refine r_iconst (v := 1) C dX6_takeLast_5 (by decide) ?_
  refine r_isub C dX6_takeLast_6 ?_
  refine r_cV1 (pc := 7) (k := p) (As := [.int (zi (wr (((S.1 p).length : Int) - 1)))]) (st := []) C (m_X6_at (p := p) (a1 := wr (((S.1 p).length : Int) - 1)) hp (IR_wr _) rfl) cal_X6_at cl_X6 (gRw_k hp).1 (gRw_k hp).2.1 q_939 dX6_takeLast_7 rfl rfl (Nat.le_of_ble_eq_true rfl) (Nat.le_of_ble_eq_true rfl) (Nat.le_of_ble_eq_true rfl) (Nat.le_of_ble_eq_true rfl) (Nat.le_of_ble_eq_true rfl) (fun h33 => ?_)
  refine r_jv h33 (fun v34 h35 => ?_)
  refine r_istore_n (L' := [(1, .int (zi v34)), (0, .ref (zad E p))]) C dX6_takeLast_10 rfl (by decide) rfl ?_
  refine r_aload_n (pc := 11) (j := 1) C dX6_takeLast_11 rfl rfl ?_
  refine r_aload_n (pc := 12) (j := 1) C dX6_takeLast_12 rfl rfl ?_
  refine r_rowCnt C hp q_165 dX6_takeLast_13 (fun h36 => ?_)
  refine r_iconst (v := 1) C dX6_takeLast_16 (by decide) ?_
  refine r_isub C dX6_takeLast_17 ?_
  refine r_jn (fun q38 e39 => ?_)
  refine r_cV0 (pc := 18) (k := p) (As := [.int (zi (wr (((S.1 p).length : Int) - 1)))]) (st := []) C (m_X6_keep (p := p) (a1 := wr (((S.1 p).length : Int) - 1)) hp (IR_wr _) e39) cal_X6_keep cl_X6 (gRw_k hp).1 (gRw_k hp).2.1 q_944 dX6_takeLast_18 rfl rfl (Nat.le_of_ble_eq_true rfl) (Nat.le_of_ble_eq_true rfl) (Nat.le_of_ble_eq_true rfl) (Nat.le_of_ble_eq_true rfl) (Nat.le_of_ble_eq_true rfl) (fun h37 => ?_)
  refine r_iload_n (pc := 21) (j := 0) C dX6_takeLast_21 rfl rfl ?_
  exact r_ireturn C hQ rfl dX6_takeLast_22 (fun e => by subst e; exact ⟨h35, rfl, rfl, rfl, rfl, rfl⟩)

def g_X6_clear (p : Nat) (S : Sst) : Option (Sst) :=
  Option.bind (rcnt S p 0) fun (S40 : Sst) =>
  some S40

theorem e_X6_clear {p : Nat} {S : Sst} : g_X6_clear p S = some (f_X6_clear p S) := by
  unfold g_X6_clear f_X6_clear rcnt
  rw [if_pos (by omega)]
  rfl

set_option maxRecDepth 100000 in
set_option maxHeartbeats 4000000 in
theorem m_X6_clear {l : Launch} {E : EwT} {n : Nat} {R : Srf} {S : Sst} {O : Smo} {p : Nat} (hp : gRw n R p) {q : Sst} (hq : f_X6_clear p S = q) : MetG l E yX6_clear cX6_clear 1 none 0 0 0 0 n R S O [.ref (zad E p)] (True) none n R q O := by
  refine ofG (L0 := [(0, .ref (zad E p))]) hq (by decide +kernel) (Nat.le_of_ble_eq_true rfl) rfl (fun K _ C hQ => ?_)
  refine r_len hp (fun hlen => ?_)
  refine r_conv (e_X6_clear ) ?_
  unfold g_X6_clear
  refine r_aload_n (pc := 0) (j := 0) C dX6_clear_0 rfl rfl ?_
  refine r_iconst (v := 0) C dX6_clear_1 (by decide) ?_
  refine r_rowPut C hp (IRd rfl) q_165 dX6_clear_2 (fun S40 => ?_)
  exact r_return C hQ dX6_clear_5 (fun e => by cases e; exact ⟨trivial, rfl, rfl, rfl, rfl, rfl⟩)

def g_X6_fill (p : Nat) (a1 : Int) (a2 : Int) (S : Sst) : Option (Sst) :=
  Option.bind (rcnt S p 0) fun (S52 : Sst) =>
  Option.bind (lp (fun (s53 : Int × Sst) =>
    if s53.1 < a1 then
      (jn (f_X6_add p a2 s53.2) fun (q61 : Sst) =>
      some (Sum.inl (wr (s53.1 + 1), q61)))
    else
      (some (Sum.inr s53.2))) FU (0, S52)) fun (r63 : Sst) =>
  some r63

theorem e_X6_fill {p : Nat} {S : Sst} {a1 : Int} (ha : IR a1) (a2 : Int) : g_X6_fill p a1 a2 S = some (f_X6_fill p a1 a2 S) := by
  unfold g_X6_fill f_X6_fill rcnt
  rw [if_pos (by omega)]
  show Option.bind (lp _ FU (0, upR S p [])) _ = _
  have h2 := ha.2
  rw [lp_to (fun i => ((i : Int), upR S p (List.replicate (min i (Ln (p + 1))) a2))) (upR S p (List.replicate (min a1.toNat (Ln (p + 1))) a2)) a1.toNat (by simp) (by unfold FU; omega)]
  · rfl
  · intro i hi
    show (if (i : Int) < a1 then jn _ _ else _) = _
    rw [if_pos (by omega)]
    unfold jn
    rw [add_up _ _ _ rfl, wr_id (by omega) (by omega)]
    congr 3
    rw [List.length_replicate]
    by_cases c : min i (Ln (p + 1)) < Ln (p + 1)
    · rw [if_pos c, show min (i + 1) (Ln (p + 1)) = min i (Ln (p + 1)) + 1 by omega, List.replicate_succ']
    · rw [if_neg c, show min (i + 1) (Ln (p + 1)) = min i (Ln (p + 1)) by omega]
  · show (if ((a1.toNat : Nat) : Int) < a1 then _ else _) = _
    rw [if_neg (by omega)]

set_option maxRecDepth 100000 in
set_option maxHeartbeats 4000000 in
theorem m_X6_fill {l : Launch} {E : EwT} {n : Nat} {R : Srf} {S : Sst} {O : Smo} {p : Nat} (hp : gRw n R p) {a1 : Int} (ha1 : IR a1) {a2 : Int} (ha2 : IR a2) {q : Sst} (hq : f_X6_fill p a1 a2 S = q) : MetG l E yX6_fill cX6_fill 4 none 1 21 0 0 n R S O [.ref (zad E p), .int (zi a1), .int (zi a2)] (True) none n R q O := by
  refine ofG (L0 := [(0, .ref (zad E p)), (1, .int (zi a1)), (2, .int (zi a2))]) hq (by decide +kernel) (Nat.le_of_ble_eq_true rfl) rfl (fun K _ C hQ => ?_)
  refine r_len hp (fun hlen => ?_)
  refine r_conv (e_X6_fill ha1 a2) ?_
  unfold g_X6_fill
  refine r_aload_n (pc := 0) (j := 0) C dX6_fill_0 rfl rfl ?_
  refine r_iconst (v := 0) C dX6_fill_1 (by decide) ?_
  refine r_rowPut C hp (IRd rfl) q_165 dX6_fill_2 (fun S52 => ?_)
  refine r_iconst (v := 0) C dX6_fill_5 (by decide) ?_
  refine r_istore_n (L' := [(3, .int (zi 0)), (0, .ref (zad E p)), (1, .int (zi a1)), (2, .int (zi a2))]) C dX6_fill_6 rfl (by decide) rfl ?_
  refine r_L (L' := [(0, .ref (zad E p)), (1, .int (zi a1)), (2, .int (zi a2)), (3, .int (zi 0))]) [1, 2, 3, 0] rfl ?_
  refine r_loop1 (fun s53 : Int × Sst => IR s53.1) (fun s53 => s53.2) (fun s53 => O) (fun s53 => [(0, .ref (zad E p)), (1, .int (zi a1)), (2, .int (zi a2)), (3, .int (zi s53.1))]) [] (fun r63 : Sst => True) (fun r63 => r63) (fun r63 => O) (fun r63 => []) 23 (fun r63 h64 => ?_) (fun k55 k57 k56 k58 s53 h54 => ?_) (IRd rfl)
  · exact r_return C hQ dX6_fill_23 (fun e => by cases e; exact ⟨trivial, rfl, rfl, rfl, rfl, rfl⟩)
  · refine r_iload_n (pc := 7) (j := 3) C dX6_fill_7 rfl rfl ?_
    refine r_iload_n (pc := 8) (j := 1) C dX6_fill_8 rfl rfl ?_
    refine r_icmp_ge (tgt := 23) C h54 ha1 dX6_fill_9 (by decide) (fun c59 => ?_) (fun c59 => ?_)
    · refine r_bf c59 ?_
      refine r_L (L' := []) [] rfl ?_
      exact k58 s53.2 trivial
    · refine r_bt c59 ?_
      refine r_aload_n (pc := 12) (j := 0) C dX6_fill_12 rfl rfl ?_
      refine r_iload_n (pc := 13) (j := 2) C dX6_fill_13 rfl rfl ?_
      refine r_bj ?_
      refine r_jn (fun q61 e62 => ?_)
      refine r_cV0 (pc := 14) (k := p) (As := [.int (zi a2)]) (st := []) C (m_X6_add (p := p) (a1 := a2) hp ha2 e62) cal_X6_add cl_X6 (gRw_k hp).1 (gRw_k hp).2.1 q_501 dX6_fill_14 rfl rfl (Nat.le_of_ble_eq_true rfl) (Nat.le_of_ble_eq_true rfl) (Nat.le_of_ble_eq_true rfl) (Nat.le_of_ble_eq_true rfl) (Nat.le_of_ble_eq_true rfl) (fun h60 => ?_)
      refine r_iinc (j := 3) (L' := [(3, .int (zi (wr (s53.1 + 1)))), (0, .ref (zad E p)), (1, .int (zi a1)), (2, .int (zi a2))]) C dX6_fill_17 rfl (by decide) rfl ?_
      refine r_goto (tgt := 7) C dX6_fill_20 (by decide) ?_
      refine r_L (L' := [(0, .ref (zad E p)), (1, .int (zi a1)), (2, .int (zi a2)), (3, .int (zi (wr (s53.1 + 1))))]) [1, 2, 3, 0] rfl ?_
      exact k56 (wr (s53.1 + 1), q61) (IR_wr _)

def g_X6_takeFrom (p : Nat) (o1 : Nat) (S : Sst) : Option (Sst) :=
  Option.bind (rcnt S p 0) fun (S78 : Sst) =>
  Option.bind (lp (fun (s79 : Int × Sst) =>
    if s79.1 < ((s79.2.1 o1).length : Int) then
      (jn (f_X6_add p (f_X6_at o1 s79.1 s79.2) s79.2) fun (q89 : Sst) =>
      some (Sum.inl (wr (s79.1 + 1), q89)))
    else
      (some (Sum.inr s79.2))) FU (0, S78)) fun (r91 : Sst) =>
  some r91

theorem e_X6_takeFrom {p o1 : Nat} {S : Sst} (h : (S.1 o1).length ≤ Ln (o1 + 1)) : g_X6_takeFrom p o1 S = some (f_X6_takeFrom p o1 S) := by
  have hs := Ln_small (o1 + 1)
  unfold g_X6_takeFrom f_X6_takeFrom rcnt
  rw [if_pos (by omega)]
  show Option.bind (lp _ FU (0, upR S p [])) _ = _
  by_cases c : p = o1
  · subst c
    rw [if_pos rfl, lp_to (fun i => ((i : Int), upR S p [])) (upR S p []) 0 (by simp) (by unfold FU; omega) (fun i hi => by omega)]
    · rfl
    · show (if ((0 : Nat) : Int) < (((upR S p []).1 p).length : Int) then _ else _) = _
      rw [upR_at, if_neg (by simp)]
  · rw [if_neg c]
    have hne : o1 ≠ p := fun e => c e.symm
    rw [lp_to (fun i => ((i : Int), upR S p ((S.1 o1).take (min i (Ln (p + 1)))))) (upR S p ((S.1 o1).take (Ln (p + 1)))) (S.1 o1).length (by simp) (by unfold FU; omega)]
    · rfl
    · intro i hi
      show (if (i : Int) < (((upR S p _).1 o1).length : Int) then jn _ _ else _) = _
      rw [upR_ne S _ hne, if_pos (by omega)]
      unfold jn
      rw [add_up _ _ _ rfl, wr_id (by omega) (by omega)]
      congr 3
      have e1 : f_X6_at o1 (i : Int) (upR S p ((S.1 o1).take (min i (Ln (p + 1))))) = (S.1 o1)[i] := by
        unfold f_X6_at lat
        rw [upR_ne S _ hne, if_pos (by omega), List.getD_eq_getElem?_getD, show ((i : Int)).toNat = i by omega, List.getElem?_eq_getElem hi]
        rfl
      rw [List.length_take]
      by_cases c2 : min (min i (Ln (p + 1))) (S.1 o1).length < Ln (p + 1)
      · rw [if_pos c2]
        show _ ++ [f_X6_at o1 (i : Int) _] = _
        rw [e1, show min i (Ln (p + 1)) = i by omega, show min (i + 1) (Ln (p + 1)) = i + 1 by omega, List.take_succ_eq_append_getElem hi]
      · rw [if_neg c2, show min i (Ln (p + 1)) = Ln (p + 1) by omega, show min (i + 1) (Ln (p + 1)) = Ln (p + 1) by omega]
    · show (if (((S.1 o1).length : Nat) : Int) < (((upR S p _).1 o1).length : Int) then _ else _) = _
      rw [upR_ne S _ hne, if_neg (by omega)]
      by_cases c2 : (S.1 o1).length ≤ Ln (p + 1)
      · rw [show min (S.1 o1).length (Ln (p + 1)) = (S.1 o1).length by omega, List.take_of_length_le c2, List.take_of_length_le (Nat.le_refl _)]
      · rw [show min (S.1 o1).length (Ln (p + 1)) = Ln (p + 1) by omega]

set_option maxRecDepth 100000 in
set_option maxHeartbeats 4000000 in
theorem m_X6_takeFrom {l : Launch} {E : EwT} {n : Nat} {R : Srf} {S : Sst} {O : Smo} {p : Nat} (hp : gRw n R p) {o1 : Nat} (ho1 : gRw n R o1) {q : Sst} (hq : f_X6_takeFrom p o1 S = q) : MetG l E yX6_takeFrom cX6_takeFrom 3 none 1 21 0 0 n R S O [.ref (zad E p), .ref (zad E o1)] (True) none n R q O := by
  refine ofG (L0 := [(0, .ref (zad E p)), (1, .ref (zad E o1))]) hq (by decide +kernel) (Nat.le_of_ble_eq_true rfl) rfl (fun K _ C hQ => ?_)
  refine r_len hp (fun hlen => ?_)
  refine r_len ho1 (fun hlen2 => ?_)
  refine r_conv (e_X6_takeFrom hlen2) ?_
  unfold g_X6_takeFrom
  refine r_aload_n (pc := 0) (j := 0) C dX6_takeFrom_0 rfl rfl ?_
  refine r_iconst (v := 0) C dX6_takeFrom_1 (by decide) ?_
  refine r_rowPut C hp (IRd rfl) q_165 dX6_takeFrom_2 (fun S78 => ?_)
  refine r_iconst (v := 0) C dX6_takeFrom_5 (by decide) ?_
  refine r_istore_n (L' := [(2, .int (zi 0)), (0, .ref (zad E p)), (1, .ref (zad E o1))]) C dX6_takeFrom_6 rfl (by decide) rfl ?_
  refine r_L (L' := [(0, .ref (zad E p)), (1, .ref (zad E o1)), (2, .int (zi 0))]) [1, 2, 0] rfl ?_
  refine r_loop1 (fun s79 : Int × Sst => IR s79.1) (fun s79 => s79.2) (fun s79 => O) (fun s79 => [(0, .ref (zad E p)), (1, .ref (zad E o1)), (2, .int (zi s79.1))]) [] (fun r91 : Sst => True) (fun r91 => r91) (fun r91 => O) (fun r91 => []) 30 (fun r91 h92 => ?_) (fun k81 k83 k82 k84 s79 h80 => ?_) (IRd rfl)
  · exact r_return C hQ dX6_takeFrom_30 (fun e => by cases e; exact ⟨trivial, rfl, rfl, rfl, rfl, rfl⟩)
  · refine r_iload_n (pc := 7) (j := 2) C dX6_takeFrom_7 rfl rfl ?_
    refine r_aload_n (pc := 8) (j := 1) C dX6_takeFrom_8 rfl rfl ?_
    refine r_rowCnt C ho1 q_165 dX6_takeFrom_9 (fun h85 => ?_)
    refine r_icmp_ge (tgt := 30) C h80 h85 dX6_takeFrom_12 (by decide) (fun c86 => ?_) (fun c86 => ?_)
    · refine r_bf c86 ?_
      refine r_L (L' := []) [] rfl ?_
      exact k84 s79.2 trivial
    · refine r_bt c86 ?_
      refine r_aload_n (pc := 15) (j := 0) C dX6_takeFrom_15 rfl rfl ?_
      refine r_aload_n (pc := 16) (j := 1) C dX6_takeFrom_16 rfl rfl ?_
      refine r_iload_n (pc := 17) (j := 2) C dX6_takeFrom_17 rfl rfl ?_
      refine r_cV1 (pc := 18) (k := o1) (As := [.int (zi s79.1)]) (st := [.ref (zad E p)]) C (m_X6_at (p := o1) (a1 := s79.1) ho1 h80 rfl) cal_X6_at cl_X6 (gRw_k ho1).1 (gRw_k ho1).2.1 q_939 dX6_takeFrom_18 rfl rfl (Nat.le_of_ble_eq_true rfl) (Nat.le_of_ble_eq_true rfl) (Nat.le_of_ble_eq_true rfl) (Nat.le_of_ble_eq_true rfl) (Nat.le_of_ble_eq_true rfl) (fun h87 => ?_)
      refine r_bj ?_
      refine r_jn (fun q89 e90 => ?_)
      refine r_cV0 (pc := 21) (k := p) (As := [.int (zi (f_X6_at o1 s79.1 s79.2))]) (st := []) C (m_X6_add (p := p) (a1 := f_X6_at o1 s79.1 s79.2) hp h87 e90) cal_X6_add cl_X6 (gRw_k hp).1 (gRw_k hp).2.1 q_501 dX6_takeFrom_21 rfl rfl (Nat.le_of_ble_eq_true rfl) (Nat.le_of_ble_eq_true rfl) (Nat.le_of_ble_eq_true rfl) (Nat.le_of_ble_eq_true rfl) (Nat.le_of_ble_eq_true rfl) (fun h88 => ?_)
      refine r_iinc (j := 2) (L' := [(2, .int (zi (wr (s79.1 + 1)))), (0, .ref (zad E p)), (1, .ref (zad E o1))]) C dX6_takeFrom_24 rfl (by decide) rfl ?_
      refine r_goto (tgt := 7) C dX6_takeFrom_27 (by decide) ?_
      refine r_L (L' := [(0, .ref (zad E p)), (1, .ref (zad E o1)), (2, .int (zi (wr (s79.1 + 1))))]) [1, 2, 0] rfl ?_
      exact k82 (wr (s79.1 + 1), q89) (IR_wr _)

