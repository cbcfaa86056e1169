/-! LEVEL 3, am: a unit of a formula, on both sides -/
def FrP1 (S S' : Sst) : Prop := (∀ k, k ≠ 57 → k ≠ 25 → S'.1 k = S.1 k) ∧ ∀ k j, ¬ (k = 24 ∧ j = 0) → ¬ (k = 56 ∧ j = 2) → ¬ (k = 53 ∧ j ∈ [0, 1, 2, 3, 7, 8, 9]) → S'.2 k j = S.2 k j
def FrP2 (O O' : Smo) : Prop := FrO [264, 265, 268] [2, 3, 4, 6, 7, 8, 9, 16, 18, 19, 21, 22] O O'
theorem FrP1_refl (S : Sst) : FrP1 S S := ⟨fun _ _ _ => rfl, fun _ _ _ _ _ => rfl⟩
theorem FrP1_trans {S S' S'' : Sst} (h1 : FrP1 S S') (h2 : FrP1 S' S'') : FrP1 S S'' := ⟨fun k a b => (h2.1 k a b).trans (h1.1 k a b), fun k j a b c => (h2.2 k j a b c).trans (h1.2 k j a b c)⟩
theorem FrP1_F {S S' : Sst} (h : FrF S S') : FrP1 S S' := ⟨h.1, fun k j a b _ => h.2 k j a b⟩
theorem FrP1_E {J : List Nat} {S S' : Sst} (h : E53 J S S') (hJ : ∀ j ∈ J, j ∈ [0, 1, 2, 3, 7, 8, 9]) : FrP1 S S' := ⟨fun k _ _ => by rw [h.1], fun k j _ _ c => h.2 k j (fun w => c ⟨w.1, hJ j w.2⟩)⟩
theorem FrP2_G {O O' : Smo} (h : FrG O O') : FrP2 O O' := FrO_mono h (by simp) (by simp)
theorem FrP2_O {J : List Nat} {O O' : Smo} (h : FrO [] J O O') (hJ : ∀ j ∈ J, j ∈ [2, 3, 4, 6, 7, 8, 9, 16, 18, 19, 21, 22]) : FrP2 O O' := FrO_mono h (by simp) hJ
def mz (nt : Nat) (O : Smo) (p : Nat) : Nat := if O 262 6 = 0 then 0 else nt + 1 - p
theorem mz_adv {nt p p' : Nat} {O O' : Smo} (h : Adv nt O' p p') (h0 : ¬ O 262 6 = 0) : mz nt O' p' < mz nt O p := by
  obtain ⟨a, b, c⟩ := h
  unfold mz
  rw [if_neg h0]
  by_cases q : O' 262 6 = 0
  · rw [if_pos q]; omega
  · rw [if_neg q]; have := c.resolve_left q; omega
/-- the machine's count of steps stays behind the text -/
def KI (O : Smo) (k p : Nat) : Prop := k + (if O 262 6 = 0 then 1 else 2) ≤ p
theorem KI_adv {nt k p p' : Nat} {O O' : Smo} (h : KI O k p) (ha : Adv nt O' p p') (h0 : ¬ O 262 6 = 0) : KI O' (k + 1) p' := by
  obtain ⟨a, b, c⟩ := ha
  unfold KI at *
  rw [if_neg h0] at h
  by_cases q : O' 262 6 = 0
  · rw [if_pos q]; omega
  · rw [if_neg q]; have := c.resolve_left q; omega
theorem CP_fr {S S' : Sst} {st rs : List Nat} {U : Nat} {J : List Nat} (h : CP S st rs U) (e : E53 J S S') : CP S' st rs U := by
  obtain ⟨a, b, c, d⟩ := h
  exact ⟨by rw [e.1]; exact a, by rw [e.1]; exact b, by rw [e.2 24 0 (by simp)]; exact c, by rw [e.2 56 2 (by simp)]; exact d⟩
theorem RP_fr {O O' : Smo} {st rs : List Nat} {U : Nat} (h : RP O st rs U) (e : FrO [] [2, 3, 4, 6, 7, 8, 9] O O') : RP O' st rs U := by
  obtain ⟨a, b, c, d, f, g, i, j⟩ := h
  exact ⟨by rw [e.2 18 (by decide)]; exact a, by rw [e.1 268 (by simp) (by decide)]; exact b, by rw [e.2 16 (by decide)]; exact c, by rw [e.1 264 (by simp) (by decide)]; exact d, by rw [e.1 265 (by simp) (by decide)]; exact f, by rw [e.2 19 (by decide)]; exact g, by rw [e.2 21 (by decide)]; exact i, by rw [e.2 22 (by decide)]; exact j⟩
section UNIT
variable {T : Nat → Int} {nt cn : Nat} {f : Nat → List Int}
/-- the formula's rows do not touch what the lexers hold -/
theorem OKT_F {S S' : Sst} {O O' : Smo} {p : Nat} (h : OKT T nt cn f S O p) (h1 : FrF S S') (h2 : FrG O O') : OKT T nt cn f S' O' p := by
  obtain ⟨a, b⟩ := h
  have e1 : ∀ j, S'.2 53 j = S.2 53 j := fun j => h1.2 53 j (by omega) (by omega)
  have e2 : ∀ j, j ≤ 9 → O' 262 j = O 262 j := fun j hj => h2.2 j (by simp; omega)
  refine ⟨LB_fr2 a (h1.1 1 (by decide) (by decide)) e1 (fun j => h1.2 54 j (by omega) (by omega)) (h2.1 263 (by decide) (by decide)) (h2.1 271 (by decide) (by decide)) e2, ?_⟩
  obtain ⟨b1, b2, b3⟩ := b
  refine ⟨b1, by rw [e1, e2 7 (by decide)]; exact b2, ?_⟩
  unfold TK at *
  rw [e1, e1, e1, e1, e2 6 (by decide), e2 4 (by decide), e2 8 (by decide), e2 9 (by decide)]
  exact b3
theorem asked_v {v i : Nat} {S : Sst} {O : Smo} (hv : Vw v i cn f S O) : f_X12_asked O = if v = 3 ∧ 9 ≤ i then (i : Int) - 9 else -1 := by
  have hk := Vw_k hv
  have c9 : (121450625394034 : Int) = W256 9 := rfl
  have c10 : (107079749563251 : Int) = W256 10 := rfl
  have c11 : (512869299304 : Int) = W256 11 := rfl
  have c12 : (1919513445 : Int) = W256 12 := rfl
  have c13 : (1819632491 : Int) = W256 13 := rfl
  unfold f_X12_asked
  rw [c9, c10, c11, c12, c13]
  rcases hv with ⟨rfl, h1, h2⟩ | ⟨rfl, h1, h2⟩ | ⟨rfl, h1, h2, _⟩ | ⟨rfl, h0, h1, h2, h3⟩ | ⟨rfl, h1, h2, _⟩ | ⟨rfl, h0, h1, h2⟩
  · rw [if_neg (by omega), if_neg (by omega)]
  · rw [if_neg (by omega), if_neg (by omega)]
  · rw [if_neg (by omega), if_neg (by omega)]
  · rw [if_pos h1, h2]
    have hj : ∀ j, j < 14 → (zlcmp (W256 i) (W256 j) = 0 ↔ i = j) := fun j hj => ⟨fun w => W256_inj i h0 j hj (zlcmp_0.mp w), fun w => by rw [w]; exact zlcmp_0.mpr rfl⟩
    by_cases q9 : i = 9
    · rw [if_pos ((hj 9 (by decide)).mpr q9), if_pos (by omega), q9]; rfl
    · rw [if_neg (fun w => q9 ((hj 9 (by decide)).mp w))]
      by_cases q10 : i = 10
      · rw [if_pos ((hj 10 (by decide)).mpr q10), if_pos (by omega), q10]; rfl
      · rw [if_neg (fun w => q10 ((hj 10 (by decide)).mp w))]
        by_cases q11 : i = 11
        · rw [if_pos ((hj 11 (by decide)).mpr q11), if_pos (by omega), q11]; rfl
        · rw [if_neg (fun w => q11 ((hj 11 (by decide)).mp w))]
          by_cases q12 : i = 12
          · rw [if_pos ((hj 12 (by decide)).mpr q12), if_pos (by omega), q12]; rfl
          · rw [if_neg (fun w => q12 ((hj 12 (by decide)).mp w))]
            by_cases q13 : i = 13
            · rw [if_pos ((hj 13 (by decide)).mpr q13), if_pos (by omega), q13]; rfl
            · rw [if_neg (fun w => q13 ((hj 13 (by decide)).mp w)), if_neg (by omega)]
  · rw [if_pos h1, if_neg (fun w => h2 9 (by decide) (zlcmp_0.mp w)), if_neg (fun w => h2 10 (by decide) (zlcmp_0.mp w)), if_neg (fun w => h2 11 (by decide) (zlcmp_0.mp w)), if_neg (fun w => h2 12 (by decide) (zlcmp_0.mp w)), if_neg (fun w => h2 13 (by decide) (zlcmp_0.mp w)), if_neg (by omega)]
  · have := SG_l h0
    rw [if_neg (by omega), if_neg (by omega)]
theorem bg_i (k : Int) : f_X2_beginsUnit k = if k = 2 ∨ k = 40 ∨ (109 ≤ k ∧ k ≤ 113) then 1 else 0 := by
  unfold f_X2_beginsUnit
  dsimp only [jn]
  by_cases a : k < 109 ∨ 113 < k
  · rw [if_pos a]
    by_cases b : k = 2 ∨ k = 40
    · rw [if_neg (by omega), if_pos (by omega)]
    · rw [if_pos (by omega), if_neg (by omega)]
  · rw [if_neg a, if_neg (by omega), if_pos (by omega)]
/-- what may begin a unit -/
theorem begins_v {v i : Nat} {S : Sst} {O : Smo} (hv : Vw v i cn f S O) : f_X2_beginsUnit (S.2 53 0) = if v = 2 ∨ (v = 3 ∧ 9 ≤ i) ∨ (v = 5 ∧ i = 40) then 1 else 0 := by
  have key : (S.2 53 0 = 2 ∨ S.2 53 0 = 40 ∨ (109 ≤ S.2 53 0 ∧ S.2 53 0 ≤ 113)) ↔ (v = 2 ∨ (v = 3 ∧ 9 ≤ i) ∨ (v = 5 ∧ i = 40)) := by
    rcases hv with ⟨rfl, h1, h2⟩ | ⟨rfl, h1, h2⟩ | ⟨rfl, h1, h2, _⟩ | ⟨rfl, h0, h1, h2, h3⟩ | ⟨rfl, h1, h2, l, _, _, _, h4⟩ | ⟨rfl, h0, h1, h2⟩
    · omega
    · omega
    · omega
    · omega
    · have h5 : S.2 53 0 = 4 ∨ S.2 53 0 = 3 := h4.imp (fun w => w.1) (fun w => w.1)
      clear h4
      omega
    · have := SG_l h0
      omega
  rw [bg_i]
  by_cases c : v = 2 ∨ (v = 3 ∧ 9 ≤ i) ∨ (v = 5 ∧ i = 40)
  · rw [if_pos c, if_pos (key.mpr c)]
  · rw [if_neg c, if_neg (fun w => c (key.mp w))]
/-- what comes of a unit: both have a fault, or both stand behind it -/
def UO (T : Nat → Int) (nt cn : Nat) (f : Nat → List Int) (S : Sst) (O : Smo) (p : Nat) (q : Int) (k : Nat) (O' : Smo) : Prop := FrP2 O O' ∧ ∃ (S' : Sst) (m : Nat), FrP1 S S' ∧
  ((FT S' O' ∧ m ≤ mz nt O p + 1 ∧ Rn cM m (q, (k : Int), S) (.inl S')) ∨
   ∃ (p' k' : Nat) (st rs : List Nat) (U : Nat), OKT T nt cn f S' O' p' ∧ CP S' st rs U ∧ RP O' st rs U ∧ PI U 1 st rs ∧ KI O' k' p' ∧ p ≤ p' ∧ m + mz nt O' p' ≤ mz nt O p ∧ 0 < m ∧ ∀ (n : Nat) (r : Sst ⊕ Sst), Rn cM n (2, (k' : Int), S') r → Rn cM (n + m) (q, (k : Int), S) r)
/-- a push to the class's waiting row, and a token more -/
theorem push_ok {S : Sst} {O : Smo} {p : Nat} {rs st' : List Nat} {U' : Nat} (h : OKT T nt cn f S O p) (h9 : S.2 53 9 = (p : Int)) (h4 : O 262 4 = (p : Int)) {S1 : Sst} {O1 : Smo} (hF : FrF S S1) (hG : FrG O O1) (hC : CP S1 st' rs U') (hR : RP O1 st' rs U') : ∃ S' O' p', f_X3_step S1 = some S' ∧ f_X12_token O1 = some O' ∧ OKT T nt cn f S' O' p' ∧ Adv nt O' p p' ∧ CP S' st' rs U' ∧ RP O' st' rs U' ∧ FrP1 S S' ∧ FrP2 O O' ∧ O1 262 2 = 0 ∧ S'.2 53 2 = 0 ∧ O' 262 2 = 0 := by
  have h1 := OKT_F h hF hG
  obtain ⟨S', O', p', e1, e2, e3, e4, e5, e6⟩ := next_tok h1.1 (p := p) (by rw [hF.2 53 9 (by omega) (by omega)]; exact h9) (by rw [hG.2 4 (by decide)]; exact h4) h.2.1
  exact ⟨S', O', p', e1, e2, e3, e4, CP_fr hC e5, RP_fr hR e6, FrP1_trans (FrP1_F hF) (FrP1_E e5 (by simp)), FrO_trans (FrP2_G hG) (FrP2_O e6 (by simp)), h1.1.2.2.2.2.2.1.2.1, e3.1.2.2.2.2.2.1.1, e3.1.2.2.2.2.2.1.2.1⟩
end UNIT
