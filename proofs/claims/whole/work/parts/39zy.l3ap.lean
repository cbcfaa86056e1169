/-! LEVEL 3, ap: a formula, on both sides: the loop -/
section FORM2
variable {T : Nat → Int} {nt cn : Nat} {f : Nat → List Int}
def FO2 (T : Nat → Int) (nt cn : Nat) (f : Nat → List Int) (M : Nat) (S' : Sst) (O' : Smo) : Prop :=
  FT S' O' ∨ (∃ (S1 : Sst) (p : Nat) (st rs : List Nat) (U : Nat), OKT T nt cn f S1 O' p ∧ RP O' st rs U ∧ PI U 1 st rs ∧ S' = f_X3_fail 2 S1 ∧ (¬ O' 262 6 = 59 ∨ 40 ∈ st)) ∨
  ∃ (p : Nat) (st rs rs' : List Nat) (U : Nat), OKT T nt cn f S' O' p ∧ O' 262 6 = 59 ∧ RP O' st rs U ∧ PI U 1 st rs ∧ 40 ∉ st ∧ stl 1 st rs = ([], rs') ∧ CP S' [] rs' U ∧ (S'.2 53 9 = (p : Int) ∧ O' 262 4 = (p : Int)) ∧ mz nt O' p ≤ M
theorem FO2_mono {M M' : Nat} {S' : Sst} {O' : Smo} (h : FO2 T nt cn f M S' O') (hM : M ≤ M') : FO2 T nt cn f M' S' O' := by
  rcases h with h | h | ⟨p, st, rs, rs', U, a, b, c, d, e, g, i, j, k⟩
  · exact Or.inl h
  · exact Or.inr (Or.inl h)
  · exact Or.inr (Or.inr ⟨p, st, rs, rs', U, a, b, c, d, e, g, i, j, Nat.le_trans k hM⟩)
/-- what is claimed of the loop -/
def FG (T : Nat → Int) (nt cn : Nat) (f : Nat → List Int) (D : Nat) (S : Sst) (O : Smo) (p k : Nat) : Prop := ∃ (O' : Smo) (n : Nat) (z : Sst ⊕ Sst) (S' : Sst) (m : Nat), n ≤ D + 3 ∧ Rn fM n (1, O) O' ∧ FrP2 O O' ∧ FrP1 S S' ∧ m ≤ mz nt O p + 3 ∧ (z = .inl S' ∨ z = .inr S') ∧ Rn cM m (2, (k : Int), S) z ∧ FO2 T nt cn f (mz nt O p) S' O'
theorem Vw_fr {v i : Nat} {S S1 : Sst} {O : Smo} (hv : Vw v i cn f S O) (f1 : FrF S S1) : Vw v i cn f S1 O := by
  unfold Vw at *
  rw [f1.2 53 0 (by omega) (by omega), f1.2 53 1 (by omega) (by omega), f1.2 53 7 (by omega) (by omega)]
  exact hv
theorem KI_1600 {S : Sst} {O : Smo} {p k : Nat} (h : OKT T nt cn f S O p) (hK : KI O k p) : k ≤ 1600 := by
  have h1 := h.1.2.1
  have h2 := h.2.1
  unfold KI at hK
  split at hK <;> omega
theorem form_rej {D p k v i : Nat} {S S1 : Sst} {O : Smo} {st rs : List Nat} {U : Nat} {x : Int} (h : OKT T nt cn f S O p) (hv : Vw v i cn f S O) (hR : RP O st rs U) (hP : PI U 1 st rs) (hK : KI O k p) (f1 : FrF S S1) (hrs : f_X2_readSign 24 S = some (x, f_X3_fail 2 S1)) (hf : fM (1, O) = some (.inl (0, O))) (hc : ¬ O 262 6 = 59 ∨ 40 ∈ st) : FG T nt cn f D S O p k := by
  have hS1 := OKT_F h f1 (FrO_refl _ _ O)
  obtain ⟨S', O', e1', e2, e3, e4, e5, _, _⟩ := fail_ok hS1.1 (Vw_fr hv f1) hS1.2.2.1 (a := 2) (by decide)
  exact ⟨O, 2, .inl (f_X3_fail 2 S1), f_X3_fail 2 S1, 1, by omega, Rn_go hf (Rn_stop fM_end0), FrO_refl _ _ _, FrP1_trans (FrP1_F f1) (by rw [e1']; exact FrP1_E e4 (by simp)), by omega, Or.inl rfl, Rn_stop ((cM_sign (KI_1600 h hK) hrs).2 (by rw [e1']; exact (FT_0 e3).1)), Or.inr (Or.inl ⟨S1, p, st, rs, U, hS1, hR, hP, rfl, hc⟩)⟩
/-- the reference stops at what is no sign -/
theorem fM_no {v i : Nat} {S : Sst} {O : Smo} (hv : Vw v i cn f S O) (h2 : O 262 2 = 0) (h41 : ¬ O 262 6 = 41) (cO : ¬ ((v = 3 ∧ (i = 6 ∨ i = 7)) ∨ (v = 5 ∧ (i = 60 ∨ i = 62 ∨ i = 61 ∨ i = 43 ∨ i = 45 ∨ i = 42 ∨ i = 47 ∨ i = 37)))) : fM (1, O) = some (.inl (0, O)) := by
  unfold fM
  dsimp only [jn, jk]
  rw [if_neg (c := (1 : Int) = 0 ∨ ¬ O 262 2 = 0) (by omega), sign_v hv, if_neg h41, if_neg (c := v = 3 ∧ i = 7) (fun w => cO (Or.inl ⟨w.1, Or.inr w.2⟩)), if_neg (c := v = 3 ∧ i = 6) (fun w => cO (Or.inl ⟨w.1, Or.inl w.2⟩)), if_neg (c := v = 5 ∧ _) (fun w => cO (Or.inr w)), if_pos rfl]
  rfl
theorem form_59 {D p k : Nat} {S : Sst} {O : Smo} {st rs : List Nat} {U : Nat} (h : OKT T nt cn f S O p) (hv : Vw 5 59 cn f S O) (hp : S.2 53 9 = (p : Int) ∧ O 262 4 = (p : Int)) (hC : CP S st rs U) (hR : RP O st rs U) (hP : PI U 1 st rs) (hK : KI O k p) : FG T nt cn f D S O p k := by
  have hk := Vw_k hv
  have e59 := hk.2.2.2.2.2.2.1 59 (by decide) (by decide)
  have s59 : S.2 53 0 = 59 := e59.2.mpr ⟨rfl, rfl⟩
  have o59 : O 262 6 = 59 := e59.1.mpr ⟨rfl, rfl⟩
  have h0 : O 262 2 = 0 := h.1.2.2.2.2.2.1.2.1
  have hf : fM (1, O) = some (.inl (0, O)) := fM_no hv h0 (by rw [o59]; decide) (by decide)
  obtain ⟨S1, c1, f1, r1, r2⟩ := cl_close59 hP hC s59
  rcases stl_1 st rs hP.1 with ⟨a, b⟩ | ⟨st', a, b⟩
  · have hS1 := OKT_F h f1 (FrO_refl _ _ O)
    refine ⟨O, 2, .inr S1, S1, 2, by omega, Rn_go hf (Rn_stop fM_end0), FrO_refl _ _ _, FrP1_F f1, by omega, Or.inr rfl, Rn_go ((cM_sign (KI_1600 h hK) (r1 a)).1 hS1.1.2.2.2.2.2.1.1) (Rn_stop cM_end), Or.inr (Or.inr ⟨p, st, rs, (stl 1 st rs).2, U, hS1, o59, hR, hP, b, by rw [← a], by rw [← a]; exact c1, ⟨by rw [f1.2 53 9 (by omega) (by omega)]; exact hp.1, hp.2⟩, Nat.le_refl _⟩)⟩
  · exact form_rej h hv hR hP hK f1 (r2 (by rw [a]; simp)) hf (Or.inr b)
theorem form_41 {D p k : Nat} {S : Sst} {O : Smo} {st rs : List Nat} {U : Nat} (ih : ∀ {S : Sst} {O : Smo} {p k : Nat} {st rs : List Nat} {U : Nat}, mz nt O p ≤ D → OKT T nt cn f S O p → CP S st rs U → RP O st rs U → PI U 1 st rs → KI O k p → FG T nt cn f D S O p k)
    (hD : mz nt O p ≤ D + 1) (h : OKT T nt cn f S O p) (hv : Vw 5 41 cn f S O) (hp : S.2 53 9 = (p : Int) ∧ O 262 4 = (p : Int)) (hC : CP S st rs U) (hR : RP O st rs U) (hP : PI U 1 st rs) (hK : KI O k p) : FG T nt cn f (D + 1) S O p k := by
  have hk := Vw_k hv
  have e41 := hk.2.2.2.2.2.2.1 41 (by decide) (by decide)
  have s41 : S.2 53 0 = 41 := e41.2.mpr ⟨rfl, rfl⟩
  have o41 : O 262 6 = 41 := e41.1.mpr ⟨rfl, rfl⟩
  have h0 : O 262 2 = 0 := h.1.2.2.2.2.2.1.2.1
  have hl := PI_len hP
  have hb := rf_hasBr hP.1 (by omega) hR.1 hR.2.1
  obtain ⟨S1, c1, f1, r1, r2⟩ := cl_close41 hP hC s41
  rcases stl_1 st rs hP.1 with ⟨a, b⟩ | ⟨st', a, b⟩
  · have hf : fM (1, O) = some (.inl (0, O)) := by
      unfold fM
      dsimp only [jn, jk]
      rw [if_neg (c := (1 : Int) = 0 ∨ ¬ O 262 2 = 0) (by omega), sign_v hv, if_pos (c := O 262 6 = 41) o41, hb]
      dsimp only [Option.bind_some]
      rw [if_neg b, if_pos rfl, if_neg (c := 5 = 3 ∧ 41 = 7) (by decide), if_neg (c := 5 = 3 ∧ 41 = 6) (by decide), if_neg (c := 5 = 5 ∧ _) (by decide), if_pos rfl]
      rfl
    exact form_rej h hv hR hP hK f1 (r1 a) hf (Or.inl (by omega))
  · have hrs := r2 (by rw [a]; simp)
    have hPs := PI_stl (a := 1) st rs hP
    rw [a] at hPs c1
    obtain ⟨Q1, Q2, Q3, Q4, Q5, Q6, Q7⟩ := hPs
    obtain ⟨y1, y2, y3⟩ := c_cons 40 st'
    rw [y1, if_pos (Or.inl rfl)] at Q2
    rw [y2, if_neg (by decide)] at Q5 Q6 Q7
    rw [y3, if_neg (by decide), if_neg (show ¬ (1 : Nat) = 0 by decide)] at Q7
    have hP' : PI U 1 st' (stl 1 st rs).2 := ⟨fun x hx => Q1 x (List.mem_cons_of_mem _ hx), by omega, Q3, Q4, Q5, Q6, by rw [if_neg (show ¬ (1 : Nat) = 0 by decide)]; omega⟩
    obtain ⟨g1, g2, g3, g4⟩ := c1
    rw [y1, if_pos (Or.inl rfl)] at g4
    have hC2 : CP (upS (upR S1 57 (stR st')) 56 2 (cW st' : Int)) st' (stl 1 st rs).2 U := ⟨upR_at S1 57 (stR st'), by
      show (upR S1 57 (stR st')).1 25 = _
      rw [upR_ne _ _ (by decide)]
      exact g2, by
      rw [upS_ne (Or.inl (by decide))]
      exact g3, by rw [upS_same]⟩
    have hF2 : FrF S (upS (upR S1 57 (stR st')) 56 2 (cW st' : Int)) := FrF_trans f1 ⟨fun j x y => by
      show (upR S1 57 (stR st')).1 j = _
      rw [upR_ne _ _ x], fun j i x y => by rw [upS_ne (by omega)]; rfl⟩
    obtain ⟨O1, r1, r2, r3⟩ := rf_close 0 hP hR
    have r1' : f_X12_close 0 O = some O1 := r1
    rw [stl_01, a] at r2
    obtain ⟨q1, q2, q3, q4, q5, q6, q7, q8⟩ := r2
    rw [List.length_cons] at q1
    rw [y1, if_pos (Or.inl rfl)] at q8
    have x22 : up2 O1 262 18 (st'.length : Int) 262 22 = ((cW st' + 1 : Nat) : Int) := by rw [up2_ne (Or.inr (by decide)), q8]
    have hR2 : RP (up2 (up2 O1 262 18 (st'.length : Int)) 262 22 (cW st' : Int)) st' (stl 1 st rs).2 U := by
      refine ⟨?_, ?_, ?_, ?_, ?_, ?_, ?_, ?_⟩
      · rw [up2_ne (Or.inr (by decide)), up2_same]
      · rw [up2_row (by decide), up2_row (by decide)]; exact q2.2
      · rw [up2_ne (Or.inr (by decide)), up2_ne (Or.inr (by decide)), q3]
      · rw [up2_row (by decide), up2_row (by decide)]; exact q4
      · rw [up2_row (by decide), up2_row (by decide)]; exact q5
      · rw [up2_ne (Or.inr (by decide)), up2_ne (Or.inr (by decide)), q6]
      · rw [up2_ne (Or.inr (by decide)), up2_ne (Or.inr (by decide)), q7]
      · rw [up2_same]
    have hG2 : FrG O (up2 (up2 O1 262 18 (st'.length : Int)) 262 22 (cW st' : Int)) := FrO_trans r3 ⟨fun j x y => by rw [up2_row y, up2_row y], fun j x => by
      simp at x
      rw [up2_ne (Or.inr (by omega)), up2_ne (Or.inr (by omega))]⟩
    obtain ⟨S', O', p', e1', e2, e3, e4, e5, e6, e7, e8, _, e9, _⟩ := push_ok h hp.1 hp.2 hF2 hG2 hC2 hR2
    have g4' : (f_X6_takeLast 57 S1).2.2 56 2 = ((cW st' + 1 : Nat) : Int) := g4
    have hw1 : wr (((cW st' + 1 : Nat) : Int) - 1) = (cW st' : Int) := by rw [wr_id (by omega) (by omega)]; omega
    rw [g4', hw1, take_st g1] at hrs
    dsimp only at hrs
    rw [e1'] at hrs
    have hw2 : wr (((st'.length + 1 : Nat) : Int) - 1) = (st'.length : Int) := by
      have := (stl_mem (a := 1) st rs).2
      rw [a, List.length_cons] at this
      rw [wr_id (by omega) (by omega)]; omega
    have hf : fM (1, O) = some (.inl (1, O')) := by
      unfold fM
      dsimp only [jn, jk]
      rw [if_neg (c := (1 : Int) = 0 ∨ ¬ O 262 2 = 0) (by omega), if_pos (c := O 262 6 = 41) o41, hb]
      dsimp only [Option.bind_some]
      rw [if_pos b, if_neg (show ¬ (1 : Int) = 0 by decide), r1']
      dsimp only [Option.bind_some]
      rw [q1, hw2, x22, hw1, e2]
      rfl
    have hn0 : ¬ O 262 6 = 0 := by omega
    have hm := mz_adv e4 hn0
    obtain ⟨O2, n, z, S2, m, w1, w2, w3, w4, w5, w6, w7, w8⟩ := ih (k := k + 1) (by omega) e3 e5 e6 hP' (KI_adv hK e4 hn0)
    exact ⟨O2, n + 1, z, S2, m + 1, by omega, Rn_go hf w2, FrO_trans e8 w3, FrP1_trans e7 w4, by omega, w6, Rn_go ((cM_sign (KI_1600 h hK) hrs).1 e9) w7, FO2_mono w8 (by omega)⟩
theorem form_op {D p k v i : Nat} {S : Sst} {O : Smo} {st rs : List Nat} {U : Nat} (ih : ∀ {S : Sst} {O : Smo} {p k : Nat} {st rs : List Nat} {U : Nat}, mz nt O p ≤ D → OKT T nt cn f S O p → CP S st rs U → RP O st rs U → PI U 1 st rs → KI O k p → FG T nt cn f D S O p k)
    (hD : mz nt O p ≤ D + 1) (hD2 : D ≤ 3000) (h : OKT T nt cn f S O p) (hv : Vw v i cn f S O) (cO : (v = 3 ∧ (i = 6 ∨ i = 7)) ∨ (v = 5 ∧ (i = 60 ∨ i = 62 ∨ i = 61 ∨ i = 43 ∨ i = 45 ∨ i = 42 ∨ i = 47 ∨ i = 37))) (hp : S.2 53 9 = (p : Int) ∧ O 262 4 = (p : Int)) (hC : CP S st rs U) (hR : RP O st rs U) (hP : PI U 1 st rs) (hK : KI O k p) : FG T nt cn f (D + 1) S O p k := by
  have hk := Vw_k hv
  have h0 : O 262 2 = 0 := h.1.2.2.2.2.2.1.2.1
  have hl := PI_len hP
  have hn0 : ¬ O 262 6 = 0 := fun w => by have := hk.2.2.1.mp w; omega
  have ho41 : ¬ O 262 6 = 41 := fun w => by have := (hk.2.2.2.2.2.2.1 41 (by decide) (by decide)).1.mp w; omega
  have ho59 : ¬ O 262 6 = 59 := fun w => by have := (hk.2.2.2.2.2.2.1 59 (by decide) (by decide)).1.mp w; omega
  obtain ⟨kk, hkk, hkL, hk40, hk108, hsg⟩ := op_v hv cO
  obtain ⟨o1, o2, o3, o4, o5⟩ := LK_op kk hkL hk40 hk108
  obtain ⟨S1, c1, f1, r1, r2⟩ := cl_signO hP hC hkk hkL hk40 hk108
  obtain ⟨t1, t2⟩ := rf_fO hP hR h0 ho41 hsg hkL hk40 hk108
  by_cases cr : rk kk = 4 ∧ hr4 st = true
  · exact form_rej h hv hR hP hK f1 (r1 cr) (t1 cr) (Or.inl ho59)
  · have hrs := r2 cr
    have hfm := t2 cr
    have hsame : stl (rk kk) st rs = stl (if rk kk = 4 then 5 else rk kk) st rs := by
      by_cases z : rk kk = 4
      · rw [if_pos z, z]
        refine stl_45 st rs ?_ hP.1
        by_cases w : hr4 st = true
        · exact absurd ⟨z, w⟩ cr
        · simpa using w
      · rw [if_neg z]
    have hPs := PI_stl (a := if rk kk = 4 then 5 else rk kk) st rs hP
    obtain ⟨O1, r1, r2, r3⟩ := rf_close (rk kk) hP hR
    rw [hsame] at r2
    clear hsame t1 t2
    generalize (stl (if rk kk = 4 then 5 else rk kk) st rs).1 = st1 at *
    generalize (stl (if rk kk = 4 then 5 else rk kk) st rs).2 = rs1 at *
    have hl1 := PI_len hPs
    obtain ⟨Q1, Q2, Q3, Q4, Q5, Q6, Q7⟩ := hPs
    rw [if_neg (show ¬ (1 : Nat) = 0 by decide)] at Q7
    obtain ⟨y1, y2, y3⟩ := c_cons kk st1
    rw [if_neg (by omega)] at y1
    rw [if_pos o4] at y2
    rw [if_neg hk108] at y3
    have hP' : PI U 0 (kk :: st1) rs1 := by
      refine ⟨fun x hx => (List.mem_cons.mp hx).elim (fun e => by rw [e]; exact hkL) (Q1 x), ?_, Q3, by decide, ?_, ?_, ?_⟩
      · rw [y1]; exact Q2
      · rw [y2]; omega
      · rw [y2]; exact Q6
      · rw [y1, y2, y3, if_pos rfl]; omega
    obtain ⟨g1, g2, g3, g4⟩ := c1
    have hC2 : CP (upR S1 57 (stR (kk :: st1))) (kk :: st1) rs1 U := ⟨upR_at _ _ _, by rw [upR_ne _ _ (by decide)]; exact g2, g3, by rw [y1]; exact g4⟩
    have hF2 : FrF S (upR S1 57 (stR (kk :: st1))) := FrF_trans f1 ⟨fun j x y => upR_ne _ _ x, fun j i x y => rfl⟩
    obtain ⟨q1, q2, q3, q4, q5, q6, q7, q8⟩ := r2
    have x18 : up2 O1 268 st1.length (rcS kk) 262 18 = (st1.length : Int) := by rw [up2_ne (Or.inl (by decide)), q1]
    have hR2 : RP (up2 (up2 O1 268 st1.length (rcS kk)) 262 18 ((st1.length : Int) + 1)) (kk :: st1) rs1 U := by
      refine ⟨?_, ?_, ?_, ?_, ?_, ?_, ?_, ?_⟩
      · rw [up2_same, List.length_cons]; omega
      · rw [up2_row (by decide), up2_self]
        exact RSt_push q2
      · rw [up2_ne (Or.inr (by decide)), up2_ne (Or.inl (by decide)), q3]
      · rw [up2_row (by decide), up2_row (by decide)]; exact q4
      · rw [up2_row (by decide), up2_row (by decide)]; exact q5
      · rw [up2_ne (Or.inr (by decide)), up2_ne (Or.inl (by decide)), q6]
      · rw [up2_ne (Or.inr (by decide)), up2_ne (Or.inl (by decide)), q7]
      · rw [up2_ne (Or.inr (by decide)), up2_ne (Or.inl (by decide)), q8, y1]; rfl
    have hG2 : FrG O (up2 (up2 O1 268 st1.length (rcS kk)) 262 18 ((st1.length : Int) + 1)) := FrO_trans r3 ⟨fun j x y => by
      simp at x
      rw [up2_row y, up2_row (by omega)], fun j x => by
      simp at x
      rw [up2_ne (Or.inr (by omega)), up2_ne (Or.inl (by decide))]⟩
    obtain ⟨S', O', p', e1', e2, e3, e4, e5, e6, e7, e8, _, e9, _⟩ := push_ok h hp.1 hp.2 hF2 hG2 hC2 hR2
    have hadd : f_X6_add 57 (kk : Int) S1 = upR S1 57 (stR (kk :: st1)) := add_st g1 (by rw [show 57 + 1 = 58 by rfl, Ln58]; omega)
    have hqq : (if 2 < rk kk then some ((1 : Int), S') else some (0, S')) = some ((if mnB (kk :: st1) = true then (0 : Int) else 1), S') := by
      have hmn : mnB (kk :: st1) = true ↔ rk kk < 4 := by
        unfold mnB
        simp [hk40]
      by_cases z : 2 < rk kk
      · rw [if_pos z, if_neg (fun w => by have := hmn.mp w; omega)]
      · rw [if_neg z, if_pos (hmn.mpr (by omega))]
    rw [hadd, e1'] at hrs
    dsimp only [Option.bind_some] at hrs
    rw [hqq] at hrs
    have hm := mz_adv e4 hn0
    obtain ⟨Ou, nu, O'', u1, u2, u3, u4, S'', mu, u5, u6⟩ := unit_ok (mz nt O' p') (k := k + 1) (q := if mnB (kk :: st1) = true then 0 else 1) (Nat.le_refl _) e3 e5 e6 hP' rfl (KI_adv hK e4 hn0)
    have hunit : f_X12_unit O' = some O'' := by
      rw [unit_eq, u2 FU (by unfold FU; omega)]
      exact u3
    have hw18 : wr ((st1.length : Int) + 1) = (st1.length : Int) + 1 := wr_id (by omega) (by omega)
    have hf : fM (1, O) = some (.inl (1, O'')) := by
      rw [hfm, r1]
      dsimp only [Option.bind_some]
      rw [q1, Ln268, aset_nat (show st1.length < 160 by omega)]
      dsimp only [Option.bind_some]
      rw [x18, hw18, e2]
      dsimp only [Option.bind_some]
      rw [hunit]
      rfl
    have hstep := (cM_sign (KI_1600 h hK) hrs).1 e9
    rcases u6 with ⟨z1, z2, z3⟩ | ⟨p2, k2, st2, rs2, U2, z1, z2, z3, z4, z5, z6, z7, z8, z9⟩
    · exact ⟨O'', 2, .inl S'', S'', mu + 1, by omega, Rn_go hf (Rn_stop (fM_endF (FT_0 z1).2)), FrO_trans e8 u4, FrP1_trans e7 u5, by omega, Or.inl rfl, Rn_go hstep z3, Or.inl z1⟩
    · obtain ⟨O2, n, z, S2, m, w1, w2, w3, w4, w5, w6, w7, w8⟩ := ih (k := k2) (by omega) z1 z2 z3 z4 z5
      exact ⟨O2, n + 1, z, S2, m + mu + 1, by omega, Rn_go hf w2, FrO_trans e8 (FrO_trans u4 w3), FrP1_trans e7 (FrP1_trans u5 w4), by omega, w6, Rn_go hstep (z9 m z w7), FO2_mono w8 (by omega)⟩
theorem form_ok : ∀ (D : Nat), D ≤ 3000 → ∀ {S : Sst} {O : Smo} {p k : Nat} {st rs : List Nat} {U : Nat}, mz nt O p ≤ D → OKT T nt cn f S O p → CP S st rs U → RP O st rs U → PI U 1 st rs → KI O k p → FG T nt cn f D S O p k := by
  intro D
  induction D with
  | zero =>
    intro hD2 S O p k st rs U hD h hC hR hP hK
    obtain ⟨v, i, hv5, hv, hp⟩ := LT_view h.2
    have hk := Vw_k hv
    have h0 : O 262 2 = 0 := h.1.2.2.2.2.2.1.2.1
    have hv1 : v = 1 := by
      refine hk.2.2.1.mp ?_
      by_cases w : O 262 6 = 0
      · exact w
      · unfold mz at hD
        rw [if_neg w] at hD
        have := h.2.1
        omega
    subst hv1
    have o6 : O 262 6 = 0 := hk.2.2.1.mpr rfl
    have s0 : S.2 53 0 = 0 := hk.2.2.2.1.mpr rfl
    obtain ⟨S1, f1, hrs⟩ := cl_signE (a := 0) hP hC (by omega) (by omega) (by rw [s0]; decide) (Or.inl rfl)
    exact form_rej h hv hR hP hK f1 hrs (fM_no hv h0 (by omega) (by omega)) (Or.inl (by omega))
  | succ D ih =>
    intro hD2 S O p k st rs U hD h hC hR hP hK
    obtain ⟨v, i, hv5, hv, hp⟩ := LT_view h.2
    have hk := Vw_k hv
    have h0 : O 262 2 = 0 := h.1.2.2.2.2.2.1.2.1
    have e59 := hk.2.2.2.2.2.2.1 59 (by decide) (by decide)
    have e41 := hk.2.2.2.2.2.2.1 41 (by decide) (by decide)
    by_cases c59 : v = 5 ∧ i = 59
    · obtain ⟨rfl, rfl⟩ := c59
      exact form_59 h hv (hp (by decide)) hC hR hP hK
    · by_cases c41 : v = 5 ∧ i = 41
      · obtain ⟨rfl, rfl⟩ := c41
        exact form_41 (ih (by omega)) hD h hv (hp (by decide)) hC hR hP hK
      · by_cases cO : (v = 3 ∧ (i = 6 ∨ i = 7)) ∨ (v = 5 ∧ (i = 60 ∨ i = 62 ∨ i = 61 ∨ i = 43 ∨ i = 45 ∨ i = 42 ∨ i = 47 ∨ i = 37))
        · exact form_op (ih (by omega)) hD (by omega) h hv cO (hp (by omega)) hC hR hP hK
        · obtain ⟨a, a1, a2⟩ := rank_e hv c59 c41 cO
          obtain ⟨S1, f1, hrs⟩ := cl_signE hP hC (fun w => c59 (e59.2.mp w)) (fun w => c41 (e41.2.mp w)) a1 a2
          exact form_rej h hv hR hP hK f1 hrs (fM_no hv h0 (fun w => c41 (e41.1.mp w)) cO) (Or.inl (fun w => c59 (e59.1.mp w)))
end FORM2
