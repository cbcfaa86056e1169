/-! LEVEL 3, ah: a token, on both sides -/
def Wd (l : List Int) : Prop := Ltr l ∧ l.length ≤ 8 ∧ l ≠ []
/-- text, words, no fault -/
def LB (T : Nat → Int) (nt cn : Nat) (f : Nat → List Int) (S : Sst) (O : Smo) : Prop := S.1 1 = rg nt T ∧ nt ≤ 1600 ∧ (∀ i, i < nt → 0 ≤ T i ∧ T i ≤ 255) ∧ O 263 = T ∧ O 262 5 = (nt : Int) ∧ (S.2 53 2 = 0 ∧ O 262 2 = 0 ∧ S.2 53 3 = O 262 3) ∧ (S.2 53 6 = 14 + (cn : Int) ∧ cn ≤ 8 ∧ (∀ i, i < 14 → S.2 54 i = W32 i) ∧ ∀ i, i < cn → Wd (f i) ∧ S.2 54 (14 + i) = d32 (f i) ∧ O 271 i = d256 (f i))
def KW (cn : Nat) (f : Nat → List Int) (l : List Int) (k : Int) : Prop := (∃ i : Nat, i < 14 ∧ l = OW i ∧ k = 100 + (i : Int)) ∨ ((∀ i, i < 14 → l ≠ OW i) ∧ ((k = 4 ∧ ∃ i, i < cn ∧ l = f i) ∨ (k = 3 ∧ ∀ i, i < cn → l ≠ f i)))
def SG (c : Int) : Prop := c ∈ zstr 1
def TK (cn : Nat) (f : Nat → List Int) (S : Sst) (O : Smo) : Prop := (O 262 6 = 0 ∧ S.2 53 0 = 0) ∨ (O 262 6 = 2 ∧ S.2 53 0 = 2 ∧ S.2 53 1 = O 262 8 ∧ 0 ≤ O 262 8 ∧ O 262 8 ≤ 9999) ∨ (O 262 6 = 1 ∧ ∃ l, Wd l ∧ O 262 9 = d256 l ∧ S.2 53 7 = d32 l ∧ KW cn f l (S.2 53 0)) ∨ (SG (O 262 6) ∧ S.2 53 0 = O 262 6)
def LT (nt cn : Nat) (f : Nat → List Int) (S : Sst) (O : Smo) (p : Nat) : Prop := p ≤ nt ∧ S.2 53 8 = O 262 7 ∧ ((O 262 6 = 3 ∧ S.2 53 0 = 1) ∨ (S.2 53 9 = (p : Int) ∧ O 262 4 = (p : Int) ∧ TK cn f S O))
theorem LB_fr {T : Nat → Int} {nt cn : Nat} {f : Nat → List Int} {S S' : Sst} {O O' : Smo} (h : LB T nt cn f S O) (h1 : E53 [0, 1, 7, 8, 9] S S') (h2 : FrO [] [4, 6, 7, 8, 9] O O') : LB T nt cn f S' O' := by
  obtain ⟨a1, a2, a3, a4, a5, ⟨a6, a7, a8⟩, a9, a10, a11, a12⟩ := h
  refine ⟨by rw [h1.1]; exact a1, a2, a3, by rw [h2.1 263 (by simp) (by decide)]; exact a4, by rw [h2.2 5 (by decide)]; exact a5, ⟨by rw [h1.2 53 2 (by simp)]; exact a6, by rw [h2.2 2 (by decide)]; exact a7, by rw [h1.2 53 3 (by simp), h2.2 3 (by decide)]; exact a8⟩, by rw [h1.2 53 6 (by simp)]; exact a9, a10, fun i hi => by rw [h1.2 54 i (by simp)]; exact a11 i hi, fun i hi => ?_⟩
  rw [h1.2 54 _ (by simp), h2.1 271 (by simp) (by decide)]
  exact a12 i hi
theorem zlcmp_0 {a b : Int} : zlcmp a b = 0 ↔ a = b := by
  unfold zlcmp
  by_cases q : b < a
  · rw [if_pos q]; omega
  · rw [if_neg q]
    by_cases w : a = b
    · rw [if_pos w]; exact ⟨fun _ => w, fun _ => rfl⟩
    · rw [if_neg w]; exact ⟨fun e => by omega, fun e => absurd e w⟩
section TOK
variable {T : Nat → Int} {nt cn : Nat} {f : Nat → List Int}
theorem cl_kow {S : Sst} {O : Smo} {l : List Int} (h6 : S.2 53 6 = 14 + (cn : Int)) (hc : cn ≤ 8) (hW : ∀ i, i < 14 → S.2 54 i = W32 i) (hN : ∀ i, i < cn → Wd (f i) ∧ S.2 54 (14 + i) = d32 (f i)) (h7 : S.2 53 7 = d32 l) (hl : Wd l) : Ret (f_X3_kindOfWord S) (fun k => KW cn f l k) := by
  have htab : ∀ j, j < 14 + cn → ∃ w, Ltr w ∧ S.2 54 j = d32 w ∧ (j < 14 → w = OW j) ∧ (14 ≤ j → w = f (j - 14)) := fun j hj => by
    by_cases q : j < 14
    · exact ⟨OW j, (OW_f j q).1, by rw [hW j q, (OW_f j q).2.1], fun _ => rfl, fun w => by omega⟩
    · have := hN (j - 14) (by omega)
      rw [show 14 + (j - 14) = j by omega] at this
      exact ⟨f (j - 14), this.1.1, this.2, fun w => absurd w q, fun _ => rfl⟩
  have hno : (∀ j, j < 14 + cn → S.2 54 j ≠ d32 l) → KW cn f l 3 := fun hn => by
    refine Or.inr ⟨fun i hi e => ?_, Or.inr ⟨rfl, fun i hi e => ?_⟩⟩
    · refine hn i (by omega) ?_
      rw [e, hW i hi, (OW_f i hi).2.1]
    · refine hn (14 + i) (by omega) ?_
      rw [e, (hN i hi).2]
  unfold f_X3_kindOfWord
  refine Ret_bind (P := fun z => (∃ j : Nat, z = Sum.inl (j : Int) ∧ j < 14 + cn ∧ S.2 54 j = d32 l ∧ ∀ i, i < j → S.2 54 i ≠ d32 l) ∨ (z = Sum.inr () ∧ ∀ i, i < 14 + cn → S.2 54 i ≠ d32 l)) (Ret_lpm (fun z => ∃ j : Nat, z = (j : Int) ∧ j ≤ 14 + cn ∧ ∀ i, i < j → S.2 54 i ≠ d32 l) (fun z => 14 + cn - z.toNat) ⟨0, rfl, Nat.zero_le _, fun i hi => by omega⟩ (by omega) (fun z hz => ?_)) (fun z hz => ?_)
  · obtain ⟨j, rfl, hj, hne⟩ := hz
    rw [h6, Ln54]
    by_cases e : j = 14 + cn
    · rw [if_neg (by omega)]
      exact Ret_some (Or.inr ⟨_, rfl, Or.inr ⟨rfl, fun i hi => hne i (by omega)⟩⟩)
    · rw [if_pos (by omega), aget_nat (by omega)]
      dsimp only [Option.bind_some]
      rw [h7]
      by_cases q : zlcmp (S.2 54 j) (d32 l) = 0
      · rw [if_pos q]
        exact Ret_some (Or.inr ⟨_, rfl, Or.inl ⟨j, rfl, by omega, zlcmp_0.mp q, hne⟩⟩)
      · rw [if_neg q, wr_id (by omega) (by omega)]
        refine Ret_some (Or.inl ⟨_, rfl, ⟨j + 1, by omega, by omega, fun i hi => ?_⟩, by omega⟩)
        by_cases w : i = j
        · rw [w]; exact fun x => q (zlcmp_0.mpr x)
        · exact hne i (by omega)
  · rcases hz with ⟨j, rfl, hj, he, hne⟩ | ⟨rfl, hne⟩
    · dsimp only [Sum.elim_inl]
      obtain ⟨w, w1, w2, w3, w4⟩ := htab j hj
      have hlw : l = w := d32_inj _ _ hl.1 w1 (by rw [← w2, he])
      by_cases q : j < 14
      · rw [if_pos (by omega), wr_id (by omega) (by omega)]
        exact Ret_some (Or.inl ⟨j, q, by rw [hlw, w3 q], rfl⟩)
      · rw [if_neg (by omega)]
        refine Ret_some (Or.inr ⟨fun i hi e => ?_, Or.inl ⟨rfl, j - 14, by omega, by rw [hlw, w4 (by omega)]⟩⟩)
        refine hne i (by omega) ?_
        rw [e, hW i hi, (OW_f i hi).2.1]
    · dsimp only [Sum.elim_inr]
      exact Ret_some (hno hne)
theorem if6_pos {α : Type} {M : Smo} {v : Int} {a b : α} (h : v = 3) : (if up2 M 262 6 v 262 6 = 3 then a else b) = a := if_pos (by rw [up2_same]; exact h)
theorem if6_neg {α : Type} {M : Smo} {v : Int} {a b : α} (h : ¬ v = 3) : (if up2 M 262 6 v 262 6 = 3 then a else b) = b := if_neg (by rw [up2_same]; exact h)
theorem sgn_f : ∀ c : Fin 256, (f_J0_indexOf_0f7a4 1 (zi2c (c.val : Int)) < 0 ↔ f_X12_isSign (c.val : Int) = 0) ∧ (f_X12_isSign (c.val : Int) ≠ 0 → (c.val : Int) ∈ zstr 1 ∧ c.val ≠ 3) := by decide +kernel
theorem step_ok {S : Sst} {O : Smo} {p : Nat} (hB : LB T nt cn f S O) (h9 : S.2 53 9 = (p : Int)) (h4 : O 262 4 = (p : Int)) (hp : p ≤ nt) : ∃ S' O' p', f_X3_step S = some S' ∧ f_X12_token O = some O' ∧ LB T nt cn f S' O' ∧ LT nt cn f S' O' p' ∧ p ≤ p' ∧ (O' 262 6 = 0 ∨ p < p') ∧ E53 [0, 1, 7, 8, 9] S S' ∧ FrO [] [4, 6, 7, 8, 9] O O' := by
  obtain ⟨a1, a2, a3, a4, a5, ⟨a6, a7, a8⟩, a9, a10, a11, a12⟩ := id hB
  obtain ⟨m0, b1, b2, b3⟩ := run_ex isBk T nt (by decide) nt p hp (by omega)
  obtain ⟨S1, e1, E1, p1⟩ := cl_blank a1 a2 h9 b1 b2 b3
  obtain ⟨O1, g1, G1, q1⟩ := rf_blank a4 a5 a2 h4 b1 b2 b3
  have p0lt : p + m0 ≤ nt := b1
  generalize hp0 : p + m0 = p0 at *
  dsimp only [jn, jk] at e1 g1
  unfold f_X3_step f_X12_token
  dsimp only [jn, jk]
  rw [if_pos a6, e1, g1]
  dsimp only [Option.bind_some]
  -- the start of the token
  have E2 : E53 [0, 1, 7, 8, 9] S (upS S1 53 8 (S1.2 53 9)) := E53_up (E53_mono E1 (by simp)) (by simp)
  have G2 : FrO [] [4, 6, 7, 8, 9] O (up2 (up2 (up2 O1 262 7 (O1 262 4)) 262 9 0) 262 8 0) := FrO_up (FrO_up (FrO_up (FrO_mono G1 (by simp) (by simp)) (by simp)) (by simp)) (by simp)
  have S29 : (upS S1 53 8 (S1.2 53 9)).2 53 9 = (p0 : Int) := by rw [upS_ne (Or.inr (by decide)), p1]
  have S28 : (upS S1 53 8 (S1.2 53 9)).2 53 8 = (p0 : Int) := by rw [upS_same, p1]
  have S2r : (upS S1 53 8 (S1.2 53 9)).1 1 = rg nt T := by
    show S1.1 1 = _
    rw [E1.1, a1]
  have O24 : (up2 (up2 (up2 O1 262 7 (O1 262 4)) 262 9 0) 262 8 0) 262 4 = (p0 : Int) := by rw [up2_ne (Or.inr (by decide)), up2_ne (Or.inr (by decide)), up2_ne (Or.inr (by decide)), q1]
  have O27 : (up2 (up2 (up2 O1 262 7 (O1 262 4)) 262 9 0) 262 8 0) 262 7 = (p0 : Int) := by rw [up2_ne (Or.inr (by decide)), up2_ne (Or.inr (by decide)), up2_same, q1]
  have O28 : (up2 (up2 (up2 O1 262 7 (O1 262 4)) 262 9 0) 262 8 0) 262 8 = 0 := up2_same _ _ _ _
  have O29 : (up2 (up2 (up2 O1 262 7 (O1 262 4)) 262 9 0) 262 8 0) 262 9 = 0 := by rw [up2_ne (Or.inr (by decide)), up2_same]
  have O263 : (up2 (up2 (up2 O1 262 7 (O1 262 4)) 262 9 0) 262 8 0) 263 = T := by rw [G2.1 263 (by simp) (by decide), a4]
  have O25 : (up2 (up2 (up2 O1 262 7 (O1 262 4)) 262 9 0) 262 8 0) 262 5 = (nt : Int) := by rw [G2.2 5 (by decide), a5]
  have hch := rf_ch (O := up2 O1 262 7 (O1 262 4)) (T := T) (nt := nt) (q := p0) (a := 0) (by rw [up2_row (by decide), G1.1 263 (by simp) (by decide), a4]) (by rw [up2_ne (Or.inr (by decide)), G1.2 5 (by decide), a5]) a2 (by rw [up2_ne (Or.inr (by decide)), q1]) (by omega) (by omega)
  rw [show ((0 : Nat) : Int) = 0 from rfl, Nat.add_zero] at hch
  rw [hch]
  dsimp only [Option.bind_some]
  generalize upS S1 53 8 (S1.2 53 9) = S2 at *
  generalize up2 (up2 (up2 O1 262 7 (O1 262 4)) 262 9 0) 262 8 0 = O2 at *
  rw [S29, cl_ch S2r, size_rg S2r]
  have fin : ∀ (S' : Sst) (O' : Smo) (p' : Nat), E53 [0, 1, 7, 8, 9] S S' → FrO [] [4, 6, 7, 8, 9] O O' → S'.2 53 8 = (p0 : Int) → O' 262 7 = (p0 : Int) → p' ≤ nt → p ≤ p' → (O' 262 6 = 0 ∨ p < p') → ((O' 262 6 = 3 ∧ S'.2 53 0 = 1) ∨ (S'.2 53 9 = (p' : Int) ∧ O' 262 4 = (p' : Int) ∧ TK cn f S' O')) → ∃ S'' O'' p'', some S' = some S'' ∧ some O' = some O'' ∧ LB T nt cn f S'' O'' ∧ LT nt cn f S'' O'' p'' ∧ p ≤ p'' ∧ (O'' 262 6 = 0 ∨ p < p'') ∧ E53 [0, 1, 7, 8, 9] S S'' ∧ FrO [] [4, 6, 7, 8, 9] O O'' := fun S' O' p' x1 x2 x3 x4 x5 x6 x7 x8 => ⟨S', O', p', rfl, rfl, LB_fr hB x1 x2, ⟨x5, by rw [x3, x4], x8⟩, x6, x7, x1, x2⟩
  by_cases hend : p0 = nt
  · have hc : chT T nt p0 = -1 := by
      unfold chT
      rw [if_neg (by omega)]
    rw [hc, if_neg (c := (p0 : Int) < (nt : Int)) (by omega), if_pos (show (-1 : Int) < 0 by decide)]
    dsimp only [Option.bind_some]
    rw [if6_neg (v := 0) (by decide), up2_ne (Or.inr (by decide)), O24, Int.add_zero, wr_id (by omega) (by omega)]
    refine fin _ _ p0 (E53_up E2 (by simp)) (FrO_up (FrO_up G2 (by simp)) (by simp)) ?_ ?_ (by omega) (by omega) (Or.inl ?_) (Or.inr ⟨?_, ?_, Or.inl ⟨?_, ?_⟩⟩)
    · rw [upS_ne (Or.inr (by decide)), S28]
    · rw [up2_ne (Or.inr (by decide)), up2_ne (Or.inr (by decide)), O27]
    · rw [up2_ne (Or.inr (by decide)), up2_same]
    · rw [upS_ne (Or.inr (by decide)), S29]
    · rw [up2_same]
    · rw [up2_ne (Or.inr (by decide)), up2_same]
    · rw [upS_same]
  · have hlt : p0 < nt := by omega
    have hc : chT T nt p0 = T p0 := by
      unfold chT
      rw [if_pos hlt]
    have hcb := a3 p0 hlt
    rw [← hc] at hcb
    rw [if_pos (c := (p0 : Int) < (nt : Int)) (by omega), if_neg (c := chT T nt p0 < 0) (by omega), (f_lt _).1, (f_lt _).2]
    by_cases hL : isLt (chT T nt p0) = true
    · -- a word
      rw [if_pos hL, if_neg (show ¬ (1 : Int) = 0 by decide), if_neg (show ¬ (1 : Int) = 0 by decide)]
      obtain ⟨m, c1, c2, c3⟩ := run_ex isLt T nt (by decide) nt p0 (by omega) (by omega)
      have hm0 : 0 < m := by
        rcases Nat.eq_zero_or_pos m with e | e
        · rw [e, Nat.add_zero, hL] at c3
          exact absurd c3 (by decide)
        · exact e
      unfold f_X3_stepWord
      dsimp only [jn]
      obtain ⟨S3, e3, E3, p3, w3⟩ := cl_wrd (S := upS S2 53 7 0) (T := T) (nt := nt) (p := p0) (m := m) S2r a2 (by rw [upS_ne (Or.inr (by decide)), S29]) (upS_same _ _ _ _) c1 c2 c3
      dsimp only [jn] at e3
      rw [e3]
      obtain ⟨⟨rm, O3⟩, g3, rfl, G3, w3'⟩ := rf_wrd (O := O2) (T := T) (nt := nt) (p := p0) (m := m) O263 O25 a2 O24 O29 c1 c2 c3
      dsimp only [jn] at g3 G3 w3'
      rw [g3]
      dsimp only [Option.bind_some]
      have E4 : E53 [0, 1, 7, 8, 9] S S3 := E53_trans (E53_up E2 (by simp)) (E53_mono E3 (by simp))
      have G4 : FrO [] [4, 6, 7, 8, 9] O O3 := FrO_trans G2 (FrO_mono G3 (by simp) (by simp))
      have S38 : S3.2 53 8 = (p0 : Int) := by rw [E3.2 53 8 (by simp), upS_ne (Or.inr (by decide)), S28]
      have O37 : O3 262 7 = (p0 : Int) := by rw [G3.2 7 (by decide), O27]
      have O34 : O3 262 4 = (p0 : Int) := by rw [G3.2 4 (by decide), O24]
      rw [p3, S38, wr_id (z := ((p0 + m : Nat) : Int) - (p0 : Int)) (by omega) (by omega)]
      by_cases h8 : 8 < m
      · rw [if_pos (c := 8 < ((p0 + m : Nat) : Int) - (p0 : Int)) (by omega), if_pos (c := (8 : Int) < (m : Int)) (by omega)]
        dsimp only [Option.bind_some]
        rw [if6_pos (v := 3) rfl]
        refine fin _ _ nt (E53_up E4 (by simp)) (FrO_up G4 (by simp)) ?_ ?_ (by omega) (by omega) (Or.inr (by omega)) (Or.inl ⟨?_, ?_⟩)
        · rw [upS_ne (Or.inr (by decide)), S38]
        · rw [up2_ne (Or.inr (by decide)), O37]
        · exact up2_same _ _ _ _
        · exact upS_same _ _ _ _
      · have hWd : Wd (sg T nt p0 m) := ⟨sg_ltr m c2, by rw [sg_len]; omega, fun w => by
          have := sg_len T nt p0 m
          rw [w] at this
          simp at this
          omega⟩
        obtain ⟨k, k1, k2⟩ := cl_kow (S := S3) (O := O) (f := f) (cn := cn) (l := sg T nt p0 m) (by rw [E4.2 53 6 (by simp), a9]) a10 (fun i hi => by rw [E4.2 54 i (by simp)]; exact a11 i hi) (fun i hi => ⟨(a12 i hi).1, by rw [E4.2 54 _ (by simp)]; exact (a12 i hi).2.1⟩) (w3 (by omega)) hWd
        rw [if_neg (c := 8 < ((p0 + m : Nat) : Int) - (p0 : Int)) (by omega), if_neg (c := (8 : Int) < (m : Int)) (by omega), k1]
        dsimp only [Option.bind_some]
        rw [if6_neg (v := 1) (by decide), up2_ne (Or.inr (by decide)), O34, show (p0 : Int) + (m : Int) = ((p0 + m : Nat) : Int) by omega, wr_id (by omega) (by omega)]
        refine fin _ _ (p0 + m) (E53_up E4 (by simp)) (FrO_up (FrO_up G4 (by simp)) (by simp)) ?_ ?_ (by omega) (by omega) (Or.inr (by omega)) (Or.inr ⟨?_, ?_, Or.inr (Or.inr (Or.inl ⟨?_, sg T nt p0 m, hWd, ?_, ?_, ?_⟩))⟩)
        · rw [upS_ne (Or.inr (by decide)), S38]
        · rw [up2_ne (Or.inr (by decide)), up2_ne (Or.inr (by decide)), O37]
        · rw [upS_ne (Or.inr (by decide)), p3]
        · rw [up2_same]
        · rw [up2_ne (Or.inr (by decide)), up2_same]
        · rw [up2_ne (Or.inr (by decide)), up2_ne (Or.inr (by decide)), w3' (by omega)]
        · rw [upS_ne (Or.inr (by decide)), w3 (by omega)]
        · rw [upS_same]
          exact k2
    · rw [if_neg hL, if_pos rfl, if_pos rfl, (f_dg _).1, (f_dg _).2]
      by_cases hD : isDg (chT T nt p0) = true
      · -- a number
        rw [if_pos hD, if_neg (show ¬ (1 : Int) = 0 by decide), if_neg (show ¬ (1 : Int) = 0 by decide)]
        obtain ⟨m, c1, c2, c3⟩ := run_ex isDg T nt (by decide) nt p0 (by omega) (by omega)
        have hm0 : 0 < m := by
          rcases Nat.eq_zero_or_pos m with e | e
          · rw [e, Nat.add_zero, hD] at c3
            exact absurd c3 (by decide)
          · exact e
        unfold f_X3_stepNumber
        dsimp only [jn]
        obtain ⟨S3, e3, E3, p3, w3⟩ := cl_num (S := upS S2 53 1 0) (T := T) (nt := nt) (p := p0) (m := m) S2r a2 (by rw [upS_ne (Or.inr (by decide)), S29]) (upS_same _ _ _ _) c1 c2 c3
        dsimp only [jn] at e3
        rw [e3]
        obtain ⟨⟨rm, O3⟩, g3, rfl, G3, w3'⟩ := rf_num (O := O2) (T := T) (nt := nt) (p := p0) (m := m) O263 O25 a2 O24 O28 c1 c2 c3
        dsimp only [jn] at g3 G3 w3'
        rw [g3]
        dsimp only [Option.bind_some]
        have E4 : E53 [0, 1, 7, 8, 9] S S3 := E53_trans (E53_up E2 (by simp)) (E53_mono E3 (by simp))
        have G4 : FrO [] [4, 6, 7, 8, 9] O O3 := FrO_trans G2 (FrO_mono G3 (by simp) (by simp))
        have S38 : S3.2 53 8 = (p0 : Int) := by rw [E3.2 53 8 (by simp), upS_ne (Or.inr (by decide)), S28]
        have O37 : O3 262 7 = (p0 : Int) := by rw [G3.2 7 (by decide), O27]
        have O34 : O3 262 4 = (p0 : Int) := by rw [G3.2 4 (by decide), O24]
        have S3r : S3.1 1 = rg nt T := by rw [E4.1, a1]
        have hn := rf_ch (O := O3) (T := T) (nt := nt) (q := p0) (a := m) (by rw [G4.1 263 (by simp) (by decide), a4]) (by rw [G4.2 5 (by decide), a5]) a2 O34 (by omega) (by omega)
        have hnb := nv_bd (T := T) (nt := nt) (p := p0) m c2
        rw [p3, S38, wr_id (z := ((p0 + m : Nat) : Int) - (p0 : Int)) (by omega) (by omega), cl_ch S3r, (f_lt _).1]
        by_cases h8 : 4 < m
        · rw [if_pos (c := 4 < ((p0 + m : Nat) : Int) - (p0 : Int)) (by omega), if_pos (c := (4 : Int) < (m : Int)) (by omega), if_neg (c := (1 : Int) = 0 ∧ _) (fun w => absurd w.1 (by decide))]
          dsimp only [Option.bind_some]
          rw [if6_pos (v := 3) rfl]
          refine fin _ _ nt (E53_up E4 (by simp)) (FrO_up G4 (by simp)) ?_ ?_ (by omega) (by omega) (Or.inr (by omega)) (Or.inl ⟨?_, ?_⟩)
          · rw [upS_ne (Or.inr (by decide)), S38]
          · rw [up2_ne (Or.inr (by decide)), O37]
          · exact up2_same _ _ _ _
          · exact upS_same _ _ _ _
        · rw [if_neg (c := 4 < ((p0 + m : Nat) : Int) - (p0 : Int)) (by omega), if_neg (c := (4 : Int) < (m : Int)) (by omega), hn]
          dsimp only [Option.bind_some]
          rw [(f_lt _).2]
          by_cases hnl : isLt (chT T nt (p0 + m)) = true
          · rw [if_pos hnl, if_neg (show ¬ (1 : Int) = 0 by decide), if_neg (c := (0 : Int) = 0 ∧ (1 : Int) = 0) (by decide)]
            dsimp only [Option.bind_some]
            rw [if6_pos (v := 3) rfl]
            refine fin _ _ nt (E53_up E4 (by simp)) (FrO_up G4 (by simp)) ?_ ?_ (by omega) (by omega) (Or.inr (by omega)) (Or.inl ⟨?_, ?_⟩)
            · rw [upS_ne (Or.inr (by decide)), S38]
            · rw [up2_ne (Or.inr (by decide)), O37]
            · exact up2_same _ _ _ _
            · exact upS_same _ _ _ _
          · rw [if_neg hnl, if_pos rfl, if_pos (c := (0 : Int) = 0 ∧ (0 : Int) = 0) (by decide)]
            dsimp only [Option.bind_some]
            rw [if6_neg (v := 2) (by decide), up2_ne (Or.inr (by decide)), O34, show (p0 : Int) + (m : Int) = ((p0 + m : Nat) : Int) by omega, wr_id (by omega) (by omega)]
            have hb4 := p10_4 m (by omega)
            refine fin _ _ (p0 + m) (E53_up E4 (by simp)) (FrO_up (FrO_up G4 (by simp)) (by simp)) ?_ ?_ (by omega) (by omega) (Or.inr (by omega)) (Or.inr ⟨?_, ?_, Or.inr (Or.inl ⟨?_, ?_, ?_, ?_, ?_⟩)⟩)
            · rw [upS_ne (Or.inr (by decide)), S38]
            · rw [up2_ne (Or.inr (by decide)), up2_ne (Or.inr (by decide)), O37]
            · rw [upS_ne (Or.inr (by decide)), p3]
            · rw [up2_same]
            · rw [up2_ne (Or.inr (by decide)), up2_same]
            · rw [upS_same]
            · rw [upS_ne (Or.inr (by decide)), up2_ne (Or.inr (by decide)), up2_ne (Or.inr (by decide)), w3 (by omega), w3' (by omega)]
            · rw [up2_ne (Or.inr (by decide)), up2_ne (Or.inr (by decide)), w3' (by omega)]
              omega
            · rw [up2_ne (Or.inr (by decide)), up2_ne (Or.inr (by decide)), w3' (by omega)]
              omega
      · -- a sign
        rw [if_neg hD, if_pos rfl, if_pos rfl]
        obtain ⟨x, hx⟩ : ∃ x : Nat, chT T nt p0 = (x : Int) := ⟨(chT T nt p0).toNat, by omega⟩
        have hx256 : x < 256 := by omega
        obtain ⟨s1, s2⟩ := sgn_f ⟨x, hx256⟩
        dsimp only at s1 s2
        rw [hx]
        by_cases hs : f_X12_isSign (x : Int) = 0
        · rw [if_pos (s1.mpr hs), if_pos hs]
          dsimp only [Option.bind_some]
          rw [if6_pos (v := 3) rfl]
          refine fin _ _ nt (E53_up E2 (by simp)) (FrO_up G2 (by simp)) ?_ ?_ (by omega) (by omega) (Or.inr (by omega)) (Or.inl ⟨?_, ?_⟩)
          · rw [upS_ne (Or.inr (by decide)), S28]
          · rw [up2_ne (Or.inr (by decide)), O27]
          · exact up2_same _ _ _ _
          · exact upS_same _ _ _ _
        · obtain ⟨z1, z2⟩ := s2 hs
          rw [if_neg (fun w => hs (s1.mp w)), if_neg hs]
          dsimp only [Option.bind_some]
          rw [if6_neg (v := (x : Int)) (by omega), up2_ne (Or.inr (by decide)), O24, upS_ne (Or.inr (by decide)), S29, show (p0 : Int) + 1 = ((p0 + 1 : Nat) : Int) by omega, wr_id (by omega) (by omega)]
          refine fin _ _ (p0 + 1) (E53_up (E53_up E2 (by simp)) (by simp)) (FrO_up (FrO_up G2 (by simp)) (by simp)) ?_ ?_ (by omega) (by omega) (Or.inr (by omega)) (Or.inr ⟨?_, ?_, Or.inr (Or.inr (Or.inr ⟨?_, ?_⟩))⟩)
          · rw [upS_ne (Or.inr (by decide)), upS_ne (Or.inr (by decide)), S28]
          · rw [up2_ne (Or.inr (by decide)), up2_ne (Or.inr (by decide)), O27]
          · rw [upS_same]
          · rw [up2_same]
          · rw [up2_ne (Or.inr (by decide)), up2_same]
            exact z1
          · rw [upS_ne (Or.inr (by decide)), upS_same, up2_ne (Or.inr (by decide)), up2_same]
end TOK
