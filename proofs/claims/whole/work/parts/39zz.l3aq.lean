/-! LEVEL 3, aq: the formula as a whole -/
section FORM3
variable {T : Nat → Int} {nt cn : Nat} {f : Nat → List Int}
theorem OKT_G {S S' : Sst} {O O' : Smo} {p : Nat} (h : OKT T nt cn f S O p) (h1 : S'.1 1 = S.1 1) (h2 : ∀ j, S'.2 53 j = S.2 53 j) (h3 : ∀ j, S'.2 54 j = S.2 54 j) (o1 : O' 263 = O 263) (o2 : O' 271 = O 271) (o3 : ∀ j, j ≤ 9 → O' 262 j = O 262 j) : OKT T nt cn f S' O' p := by
  obtain ⟨a, b⟩ := h
  refine ⟨LB_fr2 a h1 h2 h3 o1 o2 o3, ?_⟩
  obtain ⟨b1, b2, b3⟩ := b
  refine ⟨b1, by rw [h2, o3 7 (by decide)]; exact b2, ?_⟩
  unfold TK at *
  rw [h2, h2, h2, h2, o3 6 (by decide), o3 4 (by decide), o3 8 (by decide), o3 9 (by decide)]
  exact b3
/-- what comes of a formula -/
def FR (T : Nat → Int) (nt cn : Nat) (f : Nat → List Int) (M : Nat) (S' : Sst) (O' : Smo) : Prop :=
  FT S' O' ∨ (∃ (S1 : Sst) (p : Nat), OKT T nt cn f S1 O' p ∧ S' = f_X3_fail 2 S1 ∧ ¬ O' 262 6 = 59) ∨
  ∃ (p : Nat) (rs : List Nat) (U : Nat), OKT T nt cn f S' O' p ∧ O' 262 6 = 59 ∧ CP S' [] rs U ∧ RP O' [] rs U ∧ PI U 1 [] rs ∧ (S'.2 53 9 = (p : Int) ∧ O' 262 4 = (p : Int)) ∧ mz nt O' p ≤ M
/-- the end of the reference's formula -/
theorem fT_ok {M : Nat} {S' : Sst} {O : Smo} (h : FO2 T nt cn f M S' O) : ∃ O', fT O = some O' ∧ FrP2 O O' ∧ FR T nt cn f M S' O' := by
  unfold fT
  rcases h with h | ⟨S1, p, st, rs, U, h1, h2, h3, h4, h5⟩ | ⟨p, st, rs, rs', U, h1, h2, h3, h4, h5, h6, h7, h8, h9⟩
  · have h0 := (FT_0 h).2
    rw [if_neg h0]
    dsimp only [Option.bind_some]
    rw [if_neg h0]
    exact ⟨O, rfl, FrO_refl _ _ _, Or.inl h⟩
  · have h0 : O 262 2 = 0 := h1.1.2.2.2.2.2.1.2.1
    have hl := PI_len h3
    have hb := rf_hasBr h3.1 (by omega) h2.1 h2.2.1
    rw [if_pos h0, hb]
    dsimp only [Option.bind_some, jn]
    by_cases c : 40 ∈ st
    · obtain ⟨v, i, _, hv, _⟩ := LT_view h1.2
      obtain ⟨S'', O', e1, e2, e3, e4, e5, _, _⟩ := fail_ok h1.1 hv h1.2.2.1 (a := 2) (by decide)
      rw [if_pos c, if_neg (show ¬ (1 : Int) = 0 by decide), e2]
      dsimp only [Option.bind_some]
      rw [if_neg (FT_0 e3).2]
      exact ⟨O', rfl, FrP2_O e5 (by simp), Or.inl (by rw [h4, e1]; exact e3)⟩
    · rw [if_neg c, if_pos rfl]
      dsimp only [Option.bind_some]
      rw [if_pos h0]
      obtain ⟨O', r1, r2, r3⟩ := rf_close 0 h3 h2
      have r1' : f_X12_close 0 O = some O' := r1
      rw [r1']
      exact ⟨O', rfl, FrP2_G r3, Or.inr (Or.inl ⟨S1, p, OKT_F h1 (FrF_refl S1) r3, h4, by rw [r3.2 6 (by decide)]; exact h5.resolve_right c⟩)⟩
  · have h0 : O 262 2 = 0 := h1.1.2.2.2.2.2.1.2.1
    have hl := PI_len h4
    have hb := rf_hasBr h4.1 (by omega) h3.1 h3.2.1
    rw [if_pos h0, hb]
    dsimp only [Option.bind_some, jn]
    rw [if_neg h5, if_pos rfl]
    dsimp only [Option.bind_some]
    rw [if_pos h0]
    obtain ⟨O', r1, r2, r3⟩ := rf_close 0 h4 h3
    have r1' : f_X12_close 0 O = some O' := r1
    have hPs := PI_stl (a := 1) st rs h4
    rw [stl_01, h6] at r2
    rw [h6] at hPs
    rw [r1']
    refine ⟨O', rfl, FrP2_G r3, Or.inr (Or.inr ⟨p, rs', U, OKT_F h1 (FrF_refl S') r3, by rw [r3.2 6 (by decide)]; exact h2, h7, r2, hPs, ⟨h8.1, by rw [r3.2 4 (by decide)]; exact h8.2⟩, ?_⟩)⟩
    unfold mz at *
    rw [r3.2 6 (by decide)]
    exact h9
def FrP3 (O O' : Smo) : Prop := FrO [264, 265, 268] [2, 3, 4, 6, 7, 8, 9, 16, 18, 19, 21, 22, 23] O O'
theorem formula_ok {S : Sst} {O : Smo} {p : Nat} (h : OKT T nt cn f S O p) (hp : S.2 53 9 = (p : Int) ∧ O 262 4 = (p : Int)) (hp1 : 1 ≤ p) (h19 : O 262 19 = 0) (hn0 : ¬ O 262 6 = 0) : ∃ S1 S' O' M, f_X3_step S = some S1 ∧ f_X2_readFormula 24 S1 = some S' ∧ f_X12_formula O = some O' ∧ M < mz nt O p ∧ FR T nt cn f M S' O' ∧ FrP1 S S' ∧ FrP3 O O' ∧ O' 262 23 = 1 := by
  obtain ⟨S1, O1, p1, e1, e2, e3, e4, e5, e6⟩ := next_tok h.1 hp.1 hp.2 h.2.1
  have hm := mz_adv e4 hn0
  have hS2 : ∀ S2 : Sst, S2 = upS (f_X6_clear 57 (f_X1_clear 24 S1)) 56 2 0 → CP S2 [] [] 0 ∧ FrF S1 S2 := fun S2 e => by
    subst e
    unfold f_X6_clear f_X1_clear
    dsimp only [jn]
    refine ⟨⟨?_, ?_, ?_, ?_⟩, ⟨fun k a b => ?_, fun k j a b => ?_⟩⟩
    · show (upR (f_X6_clear (24 + 1) (upS S1 24 0 0)) 57 []).1 57 = _
      exact upR_at _ _ _
    · show (upR (f_X6_clear (24 + 1) (upS S1 24 0 0)) 57 []).1 25 = _
      rw [upR_ne _ _ (by decide)]
      exact upR_at _ _ _
    · rw [upS_ne (Or.inl (by decide))]
      show (upS S1 24 0 0).2 24 0 = _
      rw [upS_same]; rfl
    · rw [upS_same]; rfl
    · show (upR (f_X6_clear (24 + 1) (upS S1 24 0 0)) 57 []).1 k = _
      rw [upR_ne _ _ a]
      exact upR_ne _ _ b
    · rw [upS_ne (by omega)]
      show (upS S1 24 0 0).2 k j = _
      rw [upS_ne (by omega)]
  generalize hS2e : upS (f_X6_clear 57 (f_X1_clear 24 S1)) 56 2 0 = S2 at hS2
  obtain ⟨c2, f2⟩ := hS2 S2 rfl
  have hR2 : RP (up2 (up2 (up2 (up2 (up2 O1 262 23 1) 262 16 0) 262 18 0) 262 22 0) 262 21 0) [] [] 0 := by
    refine ⟨?_, trivial, ?_, trivial, trivial, ?_, ?_, ?_⟩
    · rw [up2_ne (Or.inr (by decide)), up2_ne (Or.inr (by decide)), up2_same]; rfl
    · rw [up2_ne (Or.inr (by decide)), up2_ne (Or.inr (by decide)), up2_ne (Or.inr (by decide)), up2_same]; rfl
    · rw [up2_ne (Or.inr (by decide)), up2_ne (Or.inr (by decide)), up2_ne (Or.inr (by decide)), up2_ne (Or.inr (by decide)), up2_ne (Or.inr (by decide)), e6.2 19 (by decide), h19]; rfl
    · rw [up2_same]; rfl
    · rw [up2_ne (Or.inr (by decide)), up2_same]; rfl
  have hG2 : FrO [] [16, 18, 21, 22, 23] O1 (up2 (up2 (up2 (up2 (up2 O1 262 23 1) 262 16 0) 262 18 0) 262 22 0) 262 21 0) := FrO_up (FrO_up (FrO_up (FrO_up (FrO_up (FrO_refl _ _ _) (by simp)) (by simp)) (by simp)) (by simp)) (by simp)
  have h23 : (up2 (up2 (up2 (up2 (up2 O1 262 23 1) 262 16 0) 262 18 0) 262 22 0) 262 21 0) 262 23 = 1 := by
    rw [up2_ne (Or.inr (by decide)), up2_ne (Or.inr (by decide)), up2_ne (Or.inr (by decide)), up2_ne (Or.inr (by decide)), up2_same]
  rw [formula_eq, e2]
  dsimp only [Option.bind_some]
  have hread : f_X2_readFormula 24 S1 = Option.bind (lp cM FU (0, 0, S2)) (fun z => Sum.elim (fun (r : Sst) => some r) (fun (r : Sst) => some r) z) := by rw [readF_eq, hS2e]
  generalize (up2 (up2 (up2 (up2 (up2 O1 262 23 1) 262 16 0) 262 18 0) 262 22 0) 262 21 0) = O2 at *
  have h2 : OKT T nt cn f S2 O2 p1 := OKT_G e3 (f2.1 1 (by decide) (by decide)) (fun j => f2.2 53 j (by omega) (by omega)) (fun j => f2.2 54 j (by omega) (by omega)) (hG2.1 263 (by simp) (by decide)) (hG2.1 271 (by simp) (by decide)) (fun j hj => hG2.2 j (by simp; omega))
  have hmz : mz nt O2 p1 = mz nt O1 p1 := by unfold mz; rw [hG2.2 6 (by decide)]
  have hK : KI O2 0 p1 := by
    obtain ⟨a, b, c⟩ := e4
    unfold KI
    rw [hG2.2 6 (by decide)]
    by_cases q : O1 262 6 = 0
    · rw [if_pos q]; omega
    · rw [if_neg q]; have := c.resolve_left q; omega
  have hP : PI 0 0 [] [] := ⟨fun x hx => (by cases hx), by decide, by decide, by decide, by decide, rfl, by decide⟩
  have hnt := h.1.2.1
  have hmle : mz nt O2 p1 ≤ 1601 := by unfold mz; split <;> omega
  obtain ⟨Ou, nu, O3, u1, u2, u3, u4, S3, mu, u5, u6⟩ := unit_ok (mz nt O2 p1) (k := 0) (q := 0) (Nat.le_refl _) h2 c2 hR2 hP rfl hK
  have hunit : f_X12_unit O2 = some O3 := by
    rw [unit_eq, u2 FU (by unfold FU; omega)]
    exact u3
  rw [hunit]
  dsimp only [Option.bind_some]
  have hfr1 : FrP1 S S2 := FrP1_trans (FrP1_E e5 (by simp)) (FrP1_F f2)
  have hfr2 : FrP3 O O2 := FrO_trans (FrO_mono e6 (by simp) (by simp)) (FrO_mono hG2 (by simp) (by simp))
  have hP23 : ∀ {A B : Smo}, FrP2 A B → FrP3 A B := fun w => FrO_mono w (by simp) (by simp)
  rcases u6 with ⟨z1, z2, z3⟩ | ⟨p2, k2, st2, rs2, U2, z1, z2, z3, z4, z5, z6, z7, z8, z9⟩
  · have hfm : lp fM FU (1, O3) = some O3 := Rn_stop (fM_endF (FT_0 z1).2) FU (by decide)
    rw [hfm]
    dsimp only [Option.bind_some]
    obtain ⟨O', t1, t2, t3⟩ := fT_ok (T := T) (nt := nt) (cn := cn) (f := f) (M := mz nt O2 p1) (Or.inl z1)
    have hcm : lp cM FU (0, 0, S2) = some (.inl S3) := z3 FU (by unfold FU; omega)
    rw [t1]
    exact ⟨S1, S3, O', mz nt O2 p1, e1, by rw [hread, hcm]; rfl, rfl, by omega, t3, FrP1_trans hfr1 u5, FrO_trans hfr2 (FrO_trans (hP23 u4) (hP23 t2)), by rw [t2.2 23 (by decide), u4.2 23 (by decide)]; exact h23⟩
  · obtain ⟨O4, n, z, S4, m, w1, w2, w3, w4, w5, w6, w7, w8⟩ := form_ok (mz nt O3 p2) (by omega) (Nat.le_refl _) z1 z2 z3 z4 z5
    have hfm : lp fM FU (1, O3) = some O4 := w2 FU (by unfold FU; omega)
    rw [hfm]
    dsimp only [Option.bind_some]
    obtain ⟨O', t1, t2, t3⟩ := fT_ok w8
    have hcm : lp cM FU (0, 0, S2) = some z := z9 m z w7 FU (by unfold FU; omega)
    rw [t1]
    have hz : (Option.bind (some z) fun z => Sum.elim (fun (r : Sst) => some r) (fun (r : Sst) => some r) z) = some S4 := by
      rcases w6 with rfl | rfl <;> rfl
    exact ⟨S1, S4, O', mz nt O3 p2, e1, by rw [hread, hcm]; exact hz, rfl, by omega, t3, FrP1_trans hfr1 (FrP1_trans u5 w4), FrO_trans hfr2 (FrO_trans (hP23 u4) (FrO_trans (hP23 w3) (hP23 t2))), by rw [t2.2 23 (by decide), w3.2 23 (by decide), u4.2 23 (by decide)]; exact h23⟩
end FORM3
