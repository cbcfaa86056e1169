/-! LEVEL 3, az: a line -/
def FrC (S S' : Sst) : Prop := (∀ k, k ≠ 57 → ¬ (6 ≤ k ∧ k ≤ 28) → S'.1 k = S.1 k) ∧ ∀ k j, ¬ (5 ≤ k ∧ k ≤ 28) → ¬ (53 ≤ k ∧ k ≤ 56) → S'.2 k j = S.2 k j
def FrD (O O' : Smo) : Prop := FrO [264, 265, 268, 271, 272, 273, 274, 275] [2, 3, 4, 6, 7, 8, 9, 16, 18, 19, 21, 22, 23, 36, 37, 38, 42, 43] O O'
theorem FrC_refl (S : Sst) : FrC S S := ⟨fun _ _ _ => rfl, fun _ _ _ _ => rfl⟩
theorem FrC_trans {S S' S'' : Sst} (h1 : FrC S S') (h2 : FrC S' S'') : FrC S S'' := ⟨fun k a b => (h2.1 k a b).trans (h1.1 k a b), fun k j a b => (h2.2 k j a b).trans (h1.2 k j a b)⟩
theorem FrC_E {J : List Nat} {S S' : Sst} (h : E53 J S S') : FrC S S' := ⟨fun k _ _ => by rw [h.1], fun k j _ b => h.2 k j (fun w => b (by omega))⟩
theorem FrC_S {S S' : Sst} (h : FrS1 S S') : FrC S S' := ⟨fun k _ b => h.1 k (by simp; omega), fun k j _ b => h.2 k j (by omega) (by omega)⟩
theorem FrC_P {S S' : Sst} (h : FrP1 S S') : FrC S S' := ⟨fun k a b => h.1 k a (by omega), fun k j a b => h.2 k j (by omega) (by omega) (fun w => b (by omega))⟩
/-- the formula as far as it is known -/
def FD (S : Sst) (O : Smo) : Prop := (O 262 23 = 0 ∧ S.1 25 = stR [113] ∧ O 262 19 = 0 ∧ S.2 24 0 = 0) ∨
  (O 262 23 = 1 ∧ ∃ (rs : List Nat) (U : Nat), S.1 25 = stR rs ∧ S.2 24 0 = (U : Int) ∧ O 262 19 = (U : Int) ∧ O 262 16 = (rs.length : Int) ∧ RSt (O 264) dcA rs ∧ RSt (O 265) dcB rs ∧ wfR rs 1 ∧ rs.length ≤ 290)
/-- the draft, without the token -/
def LD (c : Nat) (S : Sst) (O : Smo) : Prop := (RPl 5 S (gN O) c ∧ OkSeg (gN O) c ∧ O 262 36 = (c : Int)) ∧ S.2 55 3 = O 262 23 ∧ S.2 55 4 = O 262 42 ∧ S.2 55 5 = O 262 43 ∧ (S.2 5 11 = O 262 37 ∧ 1 ≤ O 262 37 ∧ O 262 37 ≤ 6) ∧ (S.2 5 12 = O 262 38 ∧ 0 ≤ O 262 38 ∧ O 262 38 ≤ 999) ∧ (S.1 18 = [] ∧ S.1 20 = [] ∧ S.1 22 = []) ∧ FD S O
theorem LD_fr {c : Nat} {J : List Nat} {S S' : Sst} {O O' : Smo} (h : LD c S O) (e : E53 J S S') (g : FrO [] [2, 3, 4, 6, 7, 8, 9] O O') : LD c S' O' := by
  have eO : ∀ j, 10 ≤ j → O' 262 j = O 262 j := fun j hj => g.2 j (by simp; omega)
  have gO : ∀ k, k ≠ 262 → O' k = O k := fun k hk => g.1 k (by simp) hk
  have eS : ∀ k j, k ≠ 53 → S'.2 k j = S.2 k j := fun k j hk => e.2 k j (fun w => hk w.1)
  have hg : gN O' = gN O := by
    unfold gN
    rw [gO 272 (by decide), gO 273 (by decide), gO 274 (by decide), gO 275 (by decide)]
  obtain ⟨⟨a1, a2, a3⟩, a4, a5, a6, a7, a8, a9, a10⟩ := h
  unfold LD
  rw [hg, eO 36 (by decide), eS _ _ (by decide), eS _ _ (by decide), eS _ _ (by decide), eS _ _ (by decide), eS _ _ (by decide), eO 23 (by decide), eO 42 (by decide), eO 43 (by decide), eO 37 (by decide), eO 38 (by decide), e.1]
  refine ⟨⟨?_, a2, a3⟩, a4, a5, a6, a7, a8, a9, ?_⟩
  · unfold RPl at *
    rw [e.1]
    exact a1
  · unfold FD at *
    rw [eO 23 (by decide), eO 19 (by decide), eO 16 (by decide), gO 264 (by decide), gO 265 (by decide), e.1, eS _ _ (by decide)]
    exact a10
section LINE2
variable {T : Nat → Int} {nt : Nat} {f : Nat → List Int}
/-- one goes over the end of the line -/
theorem line_end {c p : Nat} {S : Sst} {O : Smo} (h : OKT T nt c f S O p) (hD : LD c S O) : ∃ S' O', f_X5_expect 59 S = some S' ∧ smR O = some O' ∧ FrC S S' ∧ FrD O O' ∧ (FT S' O' ∨ ∃ p', OKT T nt c f S' O' p' ∧ LD c S' O' ∧ Adv nt O' p p') := by
  obtain ⟨S', O', e1, e2, e3, e4, e5⟩ := semi_ok h
  exact ⟨S', O', e1, e2, FrC_E e4, FrO_mono e5 (by simp) (by simp), e3.imp id (fun ⟨p', a, b⟩ => ⟨p', a, LD_fr hD e4 e5, b⟩)⟩
theorem line_ok {c p : Nat} {S : Sst} {O : Smo} (h : OKT T nt c f S O p) (hD : LD c S O) (hn0 : ¬ O 262 6 = 0) (hp1 : 1 ≤ p) : ∃ S1 S' O', lnC S = some S1 ∧ f_X5_expect 59 S1 = some S' ∧ f_X12_readLine O = some O' ∧ FrC S S' ∧ FrD O O' ∧ (FT S' O' ∨ ∃ c' f' p', OKT T nt c' f' S' O' p' ∧ LD c' S' O' ∧ Adv nt O' p p') := by
  obtain ⟨v, i, hv5, hv, hp⟩ := LT_view h.2
  have hk := Vw_k hv
  obtain ⟨w0, s0⟩ := Vw_own hv (j := 0) (by decide)
  obtain ⟨w3, s3⟩ := Vw_own hv (j := 3) (by decide)
  obtain ⟨w4, s4⟩ := Vw_own hv (j := 4) (by decide)
  obtain ⟨w5, s5⟩ := Vw_own hv (j := 5) (by decide)
  obtain ⟨⟨d1, d2, d3⟩, d4, d5, d6, d7, d8, d9, d10⟩ := id hD
  have s0' : S.2 53 0 = 100 ↔ v = 3 ∧ i = 0 := s0
  have s3' : S.2 53 0 = 103 ↔ v = 3 ∧ i = 3 := s3
  have s4' : S.2 53 0 = 104 ↔ v = 3 ∧ i = 4 := s4
  have s5' : S.2 53 0 = 105 ↔ v = 3 ∧ i = 5 := s5
  have hct : f_X4_count 5 S = (c : Int) := pl_count d1
  have hc8 := d2.1
  -- what both do, given the part
  have fin : ∀ (c' : Nat) (f' : Nat → List Int) (S1 : Sst) (O1 : Smo), lnC S = some S1 → lnR O = some O1 → FrC S S1 → FrD O O1 → (FT S1 O1 ∨ ∃ p1, OKT T nt c' f' S1 O1 p1 ∧ LD c' S1 O1 ∧ p ≤ p1 ∧ (O1 262 6 = 0 ∨ p < p1)) → ∃ S1 S' O', lnC S = some S1 ∧ f_X5_expect 59 S1 = some S' ∧ f_X12_readLine O = some O' ∧ FrC S S' ∧ FrD O O' ∧ (FT S' O' ∨ ∃ c' f' p', OKT T nt c' f' S' O' p' ∧ LD c' S' O' ∧ Adv nt O' p p') := by
    intro c' f' S1 O1 x1 x2 x3 x4 x5
    rw [readLine_eq, x2]
    dsimp only [Option.bind_some]
    rcases x5 with x5 | ⟨p1, y1, y2, y3, y4⟩
    · obtain ⟨z1, z2⟩ := semi_F x5
      exact ⟨S1, S1, O1, x1, z1, z2, x3, x4, Or.inl x5⟩
    · obtain ⟨S', O', z1, z2, z3, z4, z5⟩ := line_end y1 y2
      exact ⟨S1, S', O', x1, z1, z2, FrC_trans x3 z3, FrO_trans x4 z4, z5.imp id (fun ⟨p', a, b, d⟩ => ⟨c', f', p', a, b, Adv_trans (O1 := O') y3 d⟩)⟩
  have hlnR : lnR O = (if (f_X12_isWord (W256 0) O = 0 ∨ ¬ O 262 36 < 8) then
      (if (f_X12_isWord (W256 3) O = 0 ∨ ¬ O 262 23 = 0) then
        (if (f_X12_isWord (W256 4) O = 0 ∨ ¬ O 262 42 = 0) then
          (if (f_X12_isWord (W256 5) O = 0 ∨ ¬ O 262 43 = 0) then some (f_X12_wrong 2 O) else
            (Option.bind (f_X12_told (W256 5) 0 999 (up2 O 262 43 1)) fun (q6268 : Int × Smo) => jn (up2 q6268.2 262 38 q6268.1) fun (O6270 : Smo) => some O6270))
        else (Option.bind (f_X12_told (W256 4) 1 6 (up2 O 262 42 1)) fun (q6268 : Int × Smo) => jn (up2 q6268.2 262 37 q6268.1) fun (O6270 : Smo) => some O6270))
      else Option.bind (f_X12_formula O) (fun q => some q))
    else Option.bind (f_X12_readSegment O) (fun q => some q)) := rfl
  rw [w0, w3, w4, w5, d3] at hlnR
  by_cases cA : (v = 3 ∧ i = 0) ∧ c < 8
  · obtain ⟨⟨rfl, rfl⟩, hc⟩ := cA
    obtain ⟨S1, O1, e1, e2, e3, e4, e5⟩ := seg_ok h (hp (by decide)) hc d1 d2 d3
    have hl : lnC S = some S1 := by
      unfold lnC
      rw [if_pos (c := S.2 53 0 = 100 ∧ f_X4_count 5 S < 8) ⟨s0'.mpr ⟨rfl, rfl⟩, by rw [hct]; omega⟩, e1]
      rfl
    rw [if_neg (c := (if 3 = 3 ∧ 0 = 0 then (1 : Int) else 0) = 0 ∨ ¬ (c : Int) < 8) (fun w => by
      rcases w with w | w
      · exact absurd w (by decide)
      · omega), e2] at hlnR
    rcases e5 with e5 | ⟨f', p', y1, y2, y3, y4, y5⟩
    · exact fin c f S1 O1 hl hlnR (FrC_S e3) (FrO_mono e4 (by simp) (by simp)) (Or.inl e5)
    · refine fin (c + 1) f' S1 O1 hl hlnR (FrC_S e3) (FrO_mono e4 (by simp) (by simp)) (Or.inr ⟨p', y1, ⟨⟨y3, y4, y5⟩, ?_, ?_, ?_, ?_, ?_, ?_, ?_⟩, y2.1, y2.2.2⟩)
      · rw [e3.2 55 3 (by decide) (by decide), e4.2 23 (by decide)]; exact d4
      · rw [e3.2 55 4 (by decide) (by decide), e4.2 42 (by decide)]; exact d5
      · rw [e3.2 55 5 (by decide) (by decide), e4.2 43 (by decide)]; exact d6
      · rw [e3.2 5 11 (by decide) (by decide), e4.2 37 (by decide)]; exact d7
      · rw [e3.2 5 12 (by decide) (by decide), e4.2 38 (by decide)]; exact d8
      · rw [e3.1 18 (by decide), e3.1 20 (by decide), e3.1 22 (by decide)]; exact d9
      · unfold FD at *
        rw [e3.1 25 (by decide), e3.2 24 0 (by decide) (by decide), e4.2 23 (by decide), e4.2 19 (by decide), e4.2 16 (by decide), e4.1 264 (by decide) (by decide), e4.1 265 (by decide) (by decide)]
        exact d10
  · have nA : ¬ (S.2 53 0 = 100 ∧ f_X4_count 5 S < 8) := fun w => cA ⟨s0'.mp w.1, by have := w.2; rw [hct] at this; omega⟩
    rw [if_pos (c := (if v = 3 ∧ i = 0 then (1 : Int) else 0) = 0 ∨ ¬ (c : Int) < 8) (by
      by_cases z : v = 3 ∧ i = 0
      · right; intro w; exact cA ⟨z, by omega⟩
      · left; exact if_neg z)] at hlnR
    by_cases cB : (v = 3 ∧ i = 3) ∧ O 262 23 = 0
    · obtain ⟨⟨rfl, rfl⟩, h23⟩ := cB
      have hpp := hp (by decide)
      have hS1 : OKT T nt c f (upS S 55 3 1) O p := OKT_G h rfl (fun _ => upS_ne (Or.inl (by decide))) (fun _ => upS_ne (Or.inl (by decide))) rfl rfl (fun _ _ => rfl)
      have h19 : O 262 19 = 0 := by
        rcases d10 with ⟨_, _, w, _⟩ | ⟨w, _⟩
        · exact w
        · omega
      obtain ⟨S2, S', O', M, e1, e2, e3, e4, e5, e6, e7, e8⟩ := formula_ok hS1 (by rw [upS_ne (Or.inl (by decide))]; exact hpp) hp1 h19 hn0
      have hl : lnC S = some S' := by
        unfold lnC
        rw [if_neg nA, if_pos (c := S.2 53 0 = 103 ∧ S.2 55 3 = 0) ⟨s3'.mpr ⟨rfl, rfl⟩, by rw [d4]; exact h23⟩]
        dsimp only [jn]
        rw [e1]
        dsimp only [Option.bind_some]
        rw [e2]
        rfl
      rw [if_neg (c := (if 3 = 3 ∧ 3 = 3 then (1 : Int) else 0) = 0 ∨ ¬ O 262 23 = 0) (fun w => by
        rcases w with w | w
        · exact absurd w (by decide)
        · exact w h23), e3] at hlnR
      have f0 : FrC S (upS S 55 3 1) := ⟨fun _ _ _ => rfl, fun k j a b => upS_ne (by omega)⟩
      have fr1 : FrC S S' := FrC_trans f0 (FrC_P e6)
      have fr2 : FrD O O' := FrO_mono e7 (by simp) (by simp)
      rcases e5 with e5 | ⟨Sx, px, y1, y2, y3⟩ | ⟨px, rs, U, y1, y2, y3, y4, y5, y6, y7⟩
      · exact fin c f S' O' hl hlnR fr1 fr2 (Or.inl e5)
      · obtain ⟨vx, ix, _, hvx, _⟩ := LT_view y1.2
        obtain ⟨Sf, Of, z1, z2, z3, z4, z5, _, _⟩ := fail_ok y1.1 hvx y1.2.2.1 (a := 2) (by decide)
        rw [z1] at y2
        have hsm : smR O' = some Of := by
          unfold smR
          dsimp only [jn]
          rw [if_pos (c := O' 262 2 = 0 ∧ ¬ O' 262 6 = 59) ⟨y1.1.2.2.2.2.2.1.2.1, y3⟩, z2, if_neg (FT_0 z3).2]
        rw [readLine_eq, hlnR]
        dsimp only [Option.bind_some]
        refine ⟨S', S', Of, hl, ?_, hsm, fr1, FrO_trans fr2 (FrO_mono z5 (by simp) (by simp)), Or.inl ?_⟩
        · rw [y2]
          exact FT_expect (FT_0 z3).1 _
        · rw [y2]
          exact z3
      · have hpx : p < px := by
          unfold mz at y7 e4
          rw [if_neg (by omega)] at y7
          rw [if_neg hn0] at e4
          have := y1.2.1
          omega
        refine fin c f S' O' hl hlnR fr1 fr2 (Or.inr ⟨px, y1, ⟨?_, ?_, ?_, ?_, ?_, ?_, ?_, ?_⟩, by omega, Or.inr hpx⟩)
        · have hgN : gN O' = gN O := by
            unfold gN
            rw [e7.1 272 (by decide) (by decide), e7.1 273 (by decide) (by decide), e7.1 274 (by decide) (by decide), e7.1 275 (by decide) (by decide)]
          rw [hgN, e7.2 36 (by decide)]
          refine ⟨?_, d2, d3⟩
          unfold RPl at *
          rw [e6.1 _ (by decide) (by decide), e6.1 _ (by decide) (by decide), e6.1 _ (by decide) (by decide), e6.1 _ (by decide) (by decide), e6.1 _ (by decide) (by decide), e6.1 _ (by decide) (by decide)]
          exact d1
        · rw [e6.2 55 3 (by decide) (by decide) (by simp), upS_same, e8]
        · rw [e6.2 55 4 (by decide) (by decide) (by simp), upS_ne (Or.inr (by decide)), e7.2 42 (by decide)]; exact d5
        · rw [e6.2 55 5 (by decide) (by decide) (by simp), upS_ne (Or.inr (by decide)), e7.2 43 (by decide)]; exact d6
        · rw [e6.2 5 11 (by decide) (by decide) (by simp), upS_ne (Or.inl (by decide)), e7.2 37 (by decide)]; exact d7
        · rw [e6.2 5 12 (by decide) (by decide) (by simp), upS_ne (Or.inl (by decide)), e7.2 38 (by decide)]; exact d8
        · rw [e6.1 18 (by decide) (by decide), e6.1 20 (by decide) (by decide), e6.1 22 (by decide) (by decide)]
          exact d9
        · right
          obtain ⟨g1, g2, g3, g4⟩ := y3
          obtain ⟨q1, q2, q3, q4, q5, q6, q7, q8⟩ := y4
          have hlen := PI_len y5
          exact ⟨e8, rs, U, g2, g3, q6, q3, q4, q5, y5.2.2.2.2.2.1, by have := hlen.2.1; simp at this; omega⟩
    · have nB : ¬ (S.2 53 0 = 103 ∧ S.2 55 3 = 0) := fun w => cB ⟨s3'.mp w.1, by rw [← d4]; exact w.2⟩
      rw [if_pos (c := (if v = 3 ∧ i = 3 then (1 : Int) else 0) = 0 ∨ ¬ O 262 23 = 0) (by
        by_cases z : v = 3 ∧ i = 3
        · right; intro w; exact cB ⟨z, w⟩
        · left; exact if_neg z)] at hlnR
      -- a number told
      have num : ∀ (S1 : Sst) (O1 : Smo) (fa fb ra rb : Nat), lnC S = some S1 → lnR O = some O1 → (fa = 4 ∨ fa = 5) → (fb = 11 ∨ fb = 12) → (ra = 42 ∨ ra = 43) → (rb = 37 ∨ rb = 38) → S1.1 = S.1 → (∀ k i, k ≠ 53 → ¬ (k = 55 ∧ i = fa) → ¬ (k = 5 ∧ i = fb) → S1.2 k i = S.2 k i) → FrO [] [2, 3, 4, 6, 7, 8, 9, ra, rb] O O1 →
          (FT S1 O1 ∨ ∃ p', OKT T nt c f S1 O1 p' ∧ Adv nt O1 p p' ∧ S1.2 55 4 = O1 262 42 ∧ S1.2 55 5 = O1 262 43 ∧ (S1.2 5 11 = O1 262 37 ∧ 1 ≤ O1 262 37 ∧ O1 262 37 ≤ 6) ∧ (S1.2 5 12 = O1 262 38 ∧ 0 ≤ O1 262 38 ∧ O1 262 38 ≤ 999)) → ∃ S1 S' O', lnC S = some S1 ∧ f_X5_expect 59 S1 = some S' ∧ f_X12_readLine O = some O' ∧ FrC S S' ∧ FrD O O' ∧ (FT S' O' ∨ ∃ c' f' p', OKT T nt c' f' S' O' p' ∧ LD c' S' O' ∧ Adv nt O' p p') := by
        intro S1 O1 fa fb ra rb x1 x2 q1 q2 q3 q4 x3 x4 x5 x6
        have fr1 : FrC S S1 := ⟨fun _ _ _ => by rw [x3], fun k j a b => x4 k j (by omega) (by omega) (by omega)⟩
        have fr2 : FrD O O1 := FrO_mono x5 (by simp) (by
          intro j hj
          simp at hj ⊢
          omega)
        have gO : ∀ k, k ≠ 262 → O1 k = O k := fun k hk => x5.1 k (by simp) hk
        rcases x6 with x6 | ⟨p', y1, y2, y3, y4, y5, y6⟩
        · exact fin c f S1 O1 x1 x2 fr1 fr2 (Or.inl x6)
        · refine fin c f S1 O1 x1 x2 fr1 fr2 (Or.inr ⟨p', y1, ⟨?_, ?_, y3, y4, y5, y6, ?_, ?_⟩, y2.1, y2.2.2⟩)
          · have hgN : gN O1 = gN O := by
              unfold gN
              rw [gO 272 (by decide), gO 273 (by decide), gO 274 (by decide), gO 275 (by decide)]
            rw [hgN, x5.2 36 (by simp; omega)]
            refine ⟨?_, d2, d3⟩
            unfold RPl at *
            rw [x3]
            exact d1
          · rw [x4 55 3 (by decide) (by omega) (by omega), x5.2 23 (by simp; omega)]; exact d4
          · rw [x3]; exact d9
          · unfold FD at *
            rw [x3, x4 24 0 (by decide) (by omega) (by omega), x5.2 23 (by simp; omega), x5.2 19 (by simp; omega), x5.2 16 (by simp; omega), gO 264 (by decide), gO 265 (by decide)]
            exact d10
      by_cases cC : (v = 3 ∧ i = 4) ∧ O 262 42 = 0
      · obtain ⟨⟨rfl, rfl⟩, h42⟩ := cC
        obtain ⟨S1, O1, e1, e2, e3, e4, e5, e6⟩ := numl (fa := 4) (fb := 11) (ra := 42) (rb := 37) (lo := 1) (hi := 6) h hv (hp (by decide)) (by decide) (by decide) (by decide) (by decide)
        have hl : lnC S = some S1 := by
          unfold lnC
          rw [if_neg nA, if_neg nB, if_pos (c := S.2 53 0 = 104 ∧ S.2 55 4 = 0) ⟨s4'.mpr ⟨rfl, rfl⟩, by rw [d5]; exact h42⟩]
          exact e1
        rw [if_neg (c := (if 3 = 3 ∧ 4 = 4 then (1 : Int) else 0) = 0 ∨ ¬ O 262 42 = 0) (fun w => by
          rcases w with w | w
          · exact absurd w (by decide)
          · exact w h42), e2] at hlnR
        refine num S1 O1 4 11 42 37 hl hlnR (Or.inl rfl) (Or.inl rfl) (Or.inl rfl) (Or.inl rfl) e3 e4 e5 (e6.imp id (fun ⟨p', x, y1, y2, y3, y4, y5, y6, y7, y8⟩ => ⟨p', y1, y2, by rw [y7, y8], ?_, ⟨by rw [y5, y6], by omega, by omega⟩, ?_⟩))
        · rw [e4 55 5 (by decide) (by decide) (by decide), e5.2 43 (by decide)]; exact d6
        · rw [e4 5 12 (by decide) (by decide) (by decide), e5.2 38 (by decide)]; exact d8
      · have nC : ¬ (S.2 53 0 = 104 ∧ S.2 55 4 = 0) := fun w => cC ⟨s4'.mp w.1, by rw [← d5]; exact w.2⟩
        rw [if_pos (c := (if v = 3 ∧ i = 4 then (1 : Int) else 0) = 0 ∨ ¬ O 262 42 = 0) (by
          by_cases z : v = 3 ∧ i = 4
          · right; intro w; exact cC ⟨z, w⟩
          · left; exact if_neg z)] at hlnR
        by_cases cE : (v = 3 ∧ i = 5) ∧ O 262 43 = 0
        · obtain ⟨⟨rfl, rfl⟩, h43⟩ := cE
          obtain ⟨S1, O1, e1, e2, e3, e4, e5, e6⟩ := numl (fa := 5) (fb := 12) (ra := 43) (rb := 38) (lo := 0) (hi := 999) h hv (hp (by decide)) (by decide) (by decide) (by decide) (by decide)
          have hl : lnC S = some S1 := by
            unfold lnC
            rw [if_neg nA, if_neg nB, if_neg nC, if_pos (c := S.2 53 0 = 105 ∧ S.2 55 5 = 0) ⟨s5'.mpr ⟨rfl, rfl⟩, by rw [d6]; exact h43⟩]
            exact e1
          rw [if_neg (c := (if 3 = 3 ∧ 5 = 5 then (1 : Int) else 0) = 0 ∨ ¬ O 262 43 = 0) (fun w => by
            rcases w with w | w
            · exact absurd w (by decide)
            · exact w h43), e2] at hlnR
          refine num S1 O1 5 12 43 38 hl hlnR (Or.inr rfl) (Or.inr rfl) (Or.inr rfl) (Or.inr rfl) e3 e4 e5 (e6.imp id (fun ⟨p', x, y1, y2, y3, y4, y5, y6, y7, y8⟩ => ⟨p', y1, y2, ?_, by rw [y7, y8], ?_, ⟨by rw [y5, y6], by omega, by omega⟩⟩))
          · rw [e4 55 4 (by decide) (by decide) (by decide), e5.2 42 (by decide)]; exact d5
          · rw [e4 5 11 (by decide) (by decide) (by decide), e5.2 37 (by decide)]; exact d7
        · have nE : ¬ (S.2 53 0 = 105 ∧ S.2 55 5 = 0) := fun w => cE ⟨s5'.mp w.1, by rw [← d6]; exact w.2⟩
          rw [if_pos (c := (if v = 3 ∧ i = 5 then (1 : Int) else 0) = 0 ∨ ¬ O 262 43 = 0) (by
            by_cases z : v = 3 ∧ i = 5
            · right; intro w; exact cE ⟨z, w⟩
            · left; exact if_neg z)] at hlnR
          obtain ⟨Sf, Of, z1, z2, z3, z4, z5, _, _⟩ := fail_ok h.1 hv h.2.2.1 (a := 2) (by decide)
          have hl : lnC S = some Sf := by
            unfold lnC
            rw [if_neg nA, if_neg nB, if_neg nC, if_neg nE]
            dsimp only [jn]
            rw [z1]
          rw [z2] at hlnR
          exact fin c f Sf Of hl hlnR (FrC_E z4) (FrO_mono z5 (by simp) (by simp)) (Or.inl z3)
end LINE2
