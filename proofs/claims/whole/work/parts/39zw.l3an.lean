/-! LEVEL 3, an: a unit of a formula -/
section UNITB
variable {T : Nat → Int} {nt cn : Nat} {f : Nat → List Int}
theorem rf_open {O : Smo} {st rs : List Nat} {U k : Nat} (hR : RP O st rs U) (hl : st.length ≤ 100) (hW : cW st ≤ 50) (hk : k = 40 ∨ k = 108) : ∃ O2, f_X12_openUp (rcS k) O = (if O2 262 2 = 0 then Option.bind (f_X12_token O2) (fun q => some q) else some O2) ∧ RP O2 (k :: st) rs U ∧ FrG O O2 ∧ O2 262 2 = O 262 2 := by
  obtain ⟨g1, g2, g3, g4, g5, g6, g7, g8⟩ := hR
  unfold f_X12_openUp
  dsimp only [jn]
  rw [g1, Ln268, aset_nat (show st.length < 160 by omega)]
  dsimp only [Option.bind_some]
  have x18 : up2 O 268 st.length (rcS k) 262 18 = (st.length : Int) := by rw [up2_ne (Or.inl (by decide)), g1]
  rw [x18, wr_id (z := (st.length : Int) + 1) (by omega) (by omega)]
  have x22 : up2 (up2 O 268 st.length (rcS k)) 262 18 ((st.length : Int) + 1) 262 22 = (cW st : Int) := by rw [up2_ne (Or.inr (by decide)), up2_ne (Or.inl (by decide)), g8]
  rw [x22, wr_id (z := (cW st : Int) + 1) (by omega) (by omega)]
  refine ⟨_, rfl, ⟨?_, ?_, ?_, ?_, ?_, ?_, ?_, ?_⟩, ⟨fun j a b => ?_, fun j a => ?_⟩, ?_⟩
  · rw [up2_ne (Or.inr (by decide)), up2_same, List.length_cons]; omega
  · rw [up2_row (by decide), up2_row (by decide), up2_self]
    exact RSt_push g2
  · rw [up2_ne (Or.inr (by decide)), up2_ne (Or.inr (by decide)), up2_ne (Or.inl (by decide)), g3]
  · rw [up2_row (by decide), up2_row (by decide), up2_row (by decide)]; exact g4
  · rw [up2_row (by decide), up2_row (by decide), up2_row (by decide)]; exact g5
  · rw [up2_ne (Or.inr (by decide)), up2_ne (Or.inr (by decide)), up2_ne (Or.inl (by decide)), g6]
  · rw [up2_ne (Or.inr (by decide)), up2_ne (Or.inr (by decide)), up2_ne (Or.inl (by decide)), g7]
  · rw [up2_same, (c_cons k st).1, if_pos hk]; omega
  · simp at a
    rw [up2_row b, up2_row b, up2_row (by omega)]
  · simp at a
    rw [up2_ne (Or.inr (by omega)), up2_ne (Or.inr (by omega)), up2_ne (Or.inl (by decide))]
  · rw [up2_ne (Or.inr (by decide)), up2_ne (Or.inr (by decide)), up2_ne (Or.inl (by decide))]
theorem cl_open {S : Sst} {st rs : List Nat} {U k : Nat} (hC : CP S st rs U) (hl : st.length ≤ 50) (hk : k = 40 ∨ k = 108) (hW : cW st ≤ 6) : ∃ S2, f_X2_open (k : Int) S = Option.bind (f_X3_step S2) (fun q => some q) ∧ CP S2 (k :: st) rs U ∧ FrF S S2 := by
  obtain ⟨g1, g2, g3, g4⟩ := hC
  unfold f_X2_open
  dsimp only [jn]
  rw [g4, if_neg (by omega), wr_id (z := (cW st : Int) + 1) (by omega) (by omega)]
  have g1' : (upS S 56 2 ((cW st : Int) + 1)).1 57 = stR st := g1
  rw [add_st g1' (by rw [show 57 + 1 = 58 by rfl, Ln58]; omega)]
  refine ⟨_, rfl, ⟨upR_at _ _ _, ?_, ?_, ?_⟩, ⟨fun j a b => upR_ne _ _ a, fun j i a b => ?_⟩⟩
  · rw [upR_ne _ _ (by decide)]
    exact g2
  · show (upS S 56 2 ((cW st : Int) + 1)).2 24 0 = _
    rw [upS_ne (Or.inl (by decide)), g3]
  · show (upS S 56 2 ((cW st : Int) + 1)).2 56 2 = _
    rw [upS_same, (c_cons k st).1, if_pos hk]; omega
  · show (upS S 56 2 ((cW st : Int) + 1)).2 j i = _
    rw [upS_ne (by omega)]
theorem cl_openF {S : Sst} {st rs : List Nat} {U k : Nat} (hC : CP S st rs U) (hW : 6 < cW st) : f_X2_open (k : Int) S = some (f_X3_fail 2 S) := by
  unfold f_X2_open
  dsimp only [jn]
  rw [hC.2.2.2, if_pos (by omega)]
theorem rf_count {O : Smo} {st rs : List Nat} {U : Nat} (hR : RP O st rs U) (hU : U ≤ 60) : RP (f_X12_countUnit O) st rs (U + 1) ∧ FrG O (f_X12_countUnit O) := by
  obtain ⟨g1, g2, g3, g4, g5, g6, g7, g8⟩ := hR
  unfold f_X12_countUnit
  dsimp only [jn]
  have x21 : up2 O 262 19 (wr (O 262 19 + 1)) 262 21 = (U : Int) := by rw [up2_ne (Or.inr (by decide)), g7]
  rw [x21, g6, wr_id (by omega) (by omega)]
  refine ⟨⟨?_, ?_, ?_, ?_, ?_, ?_, ?_, ?_⟩, ⟨fun j a b => ?_, fun j a => ?_⟩⟩
  · rw [up2_ne (Or.inr (by decide)), up2_ne (Or.inr (by decide)), g1]
  · rw [up2_row (by decide), up2_row (by decide)]; exact g2
  · rw [up2_ne (Or.inr (by decide)), up2_ne (Or.inr (by decide)), g3]
  · rw [up2_row (by decide), up2_row (by decide)]; exact g4
  · rw [up2_row (by decide), up2_row (by decide)]; exact g5
  · rw [up2_ne (Or.inr (by decide)), up2_same]; omega
  · rw [up2_same]; omega
  · rw [up2_ne (Or.inr (by decide)), up2_ne (Or.inr (by decide)), g8]
  · rw [up2_row b, up2_row b]
  · simp at a
    rw [up2_ne (Or.inr (by omega)), up2_ne (Or.inr (by omega))]
theorem FT_tr {S : Sst} {O O' : Smo} (h : FT S O) (h2 : O' 262 2 = O 262 2) (h3 : O' 262 3 = O 262 3) : FT S O' := by
  obtain ⟨a, b, c, d⟩ := h
  exact ⟨by rw [h2]; exact a, by rw [h2]; exact b, by rw [h3]; exact c, d⟩
theorem FrG_23 {O O' : Smo} (h : FrG O O') : O' 262 2 = O 262 2 ∧ O' 262 3 = O 262 3 := ⟨h.2 2 (by decide), h.2 3 (by decide)⟩
theorem full_v {O : Smo} {st rs : List Nat} {U : Nat} (hR : RP O st rs U) (hU : U ≤ 30) : f_X12_isFull O = if U = 30 then 1 else 0 := by
  unfold f_X12_isFull
  rw [hR.2.2.2.2.2.1, hR.2.2.2.2.2.2.1]
  by_cases q : U = 30
  · rw [if_pos q, if_pos (by omega)]
  · rw [if_neg q, if_neg (by omega)]
/-- neither takes the token: both have a fault -/
theorem unit_rej {S : Sst} {O : Smo} {p k v i : Nat} {q : Int} {st rs : List Nat} {U : Nat} (h : OKT T nt cn f S O p) (hv : Vw v i cn f S O) (hR : RP O st rs U) (hP : PI U 0 st rs) (hq : q = if mnB st = true then 0 else 1) (hK : KI O k p) (hA : ¬ (v = 3 ∧ i = 8 ∧ mnB st = true)) (hB : ¬ (v = 5 ∧ i = 40))
    (hC : ¬ (v = 2 ∨ (v = 3 ∧ 9 ≤ i)) ∨ U = 30) (hS : S.2 24 0 = (U : Int)) : ∃ O1 n O', n ≤ 2 ∧ Rn uM n (1, O) O1 ∧ uT O1 = some O' ∧ UO T nt cn f S O p q k O' := by
  have hk := Vw_k hv
  have how := Vw_own hv (j := 8) (by decide)
  have h0 : O 262 2 = 0 := h.1.2.2.2.2.2.1.2.1
  have hl := PI_len hP
  have hU := hP.2.2.1
  have hp := h.2.1
  have hk1600 : k ≤ 1600 := by
    unfold KI at hK
    have := h.1.2.1
    split at hK <;> omega
  obtain ⟨S', O', e1, e2, e3, e4, e5, _, _⟩ := fail_ok h.1 hv h.2.2.1 (a := 2) (by decide)
  have hcl : f_X2_readUnit 24 q S = some (3, S') := by
    unfold f_X2_readUnit
    dsimp only [jn]
    rw [begins_v hv]
    rw [if_neg (c := S.2 53 0 = 108 ∧ q = 0) (fun w => by
      have := how.2.mp (by rw [w.1]; rfl)
      refine hA ⟨this.1, this.2, ?_⟩
      by_cases z : mnB st = true
      · exact z
      · rw [if_neg z] at hq
        exact absurd w.2 (by omega))]
    rw [if_neg (c := S.2 24 0 < 30 ∧ _) (fun w => by
      rw [hS] at w
      rcases hC with c | c
      · exact w.2 (if_neg (fun z => z.elim (fun y => c (Or.inl y)) (fun z => z.elim (fun y => c (Or.inr y)) hB)))
      · omega), e1]
  have hst : uM (1, O) = some (.inl (0, O)) := by
    unfold uM
    dsimp only [jk]
    rw [if_neg (c := (1 : Int) = 0 ∨ ¬ O 262 2 = 0) (by omega), show (7237492 : Int) = W256 8 from rfl, how.1, rf_mayNot hP.1 (by omega) hR.1 hR.2.1]
    dsimp only [Option.bind_some]
    have h40 : ¬ O 262 6 = 40 := fun w => hB ((hk.2.2.2.2.2.2.1 40 (by decide) (by decide)).1.mp w)
    by_cases a : v = 3 ∧ i = 8
    · rw [if_pos a, if_neg (show ¬ (1 : Int) = 0 by decide), if_neg (c := mnB st = true) (fun w => hA ⟨a.1, a.2, w⟩), if_pos rfl, if_neg h40]
    · rw [if_neg a, if_pos rfl, if_neg h40]
  refine ⟨O, 2, O', Nat.le_refl _, Rn_go hst (Rn_stop uM_end0), ?_, FrP2_O e5 (by simp), S', 1, FrP1_E e4 (by simp), Or.inl ⟨e3, by omega, Rn_stop ((cM_unit hk1600 (by rw [hq]; split <;> omega) hcl).2 (FT_0 e3).1)⟩⟩
  unfold uT
  dsimp only [jn]
  rw [if_neg (by omega), asked_v hv, full_v hR hU]
  have hcond : ¬ ((O 262 6 = 2 ∨ ¬ (if v = 3 ∧ 9 ≤ i then (i : Int) - 9 else -1) < 0) ∧ (if U = 30 then (1 : Int) else 0) = 0) := fun w => by
    obtain ⟨w1, w2⟩ := w
    rcases hC with c | c
    · rcases w1 with w1 | w1
      · exact c (Or.inl (hk.2.2.2.2.1.mp w1))
      · by_cases z : v = 3 ∧ 9 ≤ i
        · exact c (Or.inr z)
        · rw [if_neg z] at w1
          exact w1 (by decide)
    · rw [if_pos c] at w2
      exact absurd w2 (by decide)
  rw [if_neg hcond, e2, if_pos e3.2.1]
theorem unit_ok : ∀ (D : Nat) {S : Sst} {O : Smo} {p k : Nat} {q : Int} {st rs : List Nat} {U : Nat}, mz nt O p ≤ D → OKT T nt cn f S O p → CP S st rs U → RP O st rs U → PI U 0 st rs → (q = if mnB st = true then 0 else 1) → KI O k p → ∃ O1 n O', n ≤ D + 2 ∧ Rn uM n (1, O) O1 ∧ uT O1 = some O' ∧ UO T nt cn f S O p q k O' := by
  intro D
  induction D with
  | zero =>
    intro S O p k q st rs U hD h hC hR hP hq hK
    obtain ⟨v, i, hv5, hv, hp⟩ := LT_view h.2
    have hk := Vw_k hv
    have h1 : v = 1 := by
      refine hk.2.2.1.mp ?_
      by_cases w : O 262 6 = 0
      · exact w
      · unfold mz at hD
        rw [if_neg w] at hD
        have := h.2.1
        omega
    obtain ⟨O1, n, O', a, b, c, d⟩ := unit_rej h hv hR hP hq hK (by omega) (by omega) (Or.inl (by omega)) hC.2.2.1
    exact ⟨O1, n, O', by omega, b, c, d⟩
  | succ D ih =>
    intro S O p k q st rs U hD h hC hR hP hq hK
    obtain ⟨v, i, hv5, hv, hp⟩ := LT_view h.2
    have hk := Vw_k hv
    have how := Vw_own hv (j := 8) (by decide)
    have h0 : O 262 2 = 0 := h.1.2.2.2.2.2.1.2.1
    have hl := PI_len hP
    have hPP := hP
    obtain ⟨P1, P2, P3, P4, P5, P6, P7⟩ := hPP
    rw [if_pos rfl] at P7
    have hk1600 : k ≤ 1600 := by
      unfold KI at hK
      have := h.1.2.1
      have := h.2.1
      split at hK <;> omega
    have hq01 : q = 0 ∨ q = 1 := by rw [hq]; split <;> omega
    -- one goes on: a token taken, and a unit asked for again
    have goOn : ∀ (S' : Sst) (O' : Smo) (p' : Nat) (st' : List Nat) (U' : Nat), OKT T nt cn f S' O' p' → Adv nt O' p p' → CP S' st' rs U' → RP O' st' rs U' → PI U' 0 st' rs → mnB st' = true → FrP1 S S' → FrP2 O O' → ¬ O 262 6 = 0 → uM (1, O) = some (.inl (1, O')) → f_X2_readUnit 24 q S = some (0, S') → S'.2 53 2 = 0 → ∃ O1 n O'', n ≤ D + 1 + 2 ∧ Rn uM n (1, O) O1 ∧ uT O1 = some O'' ∧ UO T nt cn f S O p q k O'' := by
      intro S' O' p' st' U' x1 x2 x3 x4 x5 x6 x7 x8 x9 x10 x11 x12
      have hm := mz_adv x2 x9
      obtain ⟨O1, n, O'', y1, y2, y3, y4, S'', m, y5, y6⟩ := ih (q := 0) (k := k + 1) (by omega) x1 x3 x4 x5 (by rw [if_pos x6]) (KI_adv hK x2 x9)
      have hstep := (cM_unit hk1600 hq01 x11).1 x12
      refine ⟨O1, n + 1, O'', by omega, Rn_go x10 y2, y3, FrO_trans x8 y4, S'', m + 1, FrP1_trans x7 y5, ?_⟩
      rcases y6 with ⟨z1, z2, z3⟩ | ⟨p'', k', st'', rs'', U'', z1, z2, z3, z4, z5, z6, z7, z8, z9⟩
      · exact Or.inl ⟨z1, by omega, Rn_go hstep z3⟩
      · exact Or.inr ⟨p'', k', st'', rs'', U'', z1, z2, z3, z4, z5, Nat.le_trans x2.1 z6, by omega, by omega, fun n r hr => Rn_go hstep (z9 n r hr)⟩
    -- a fault at an opening
    have bad : ∀ (S' : Sst) (O' : Smo) (x : Int), FT S' O' → FrP1 S S' → FrP2 O O' → uM (1, O) = some (.inl (1, O')) → f_X2_readUnit 24 q S = some (x, S') → ∃ O1 n O'', n ≤ D + 1 + 2 ∧ Rn uM n (1, O) O1 ∧ uT O1 = some O'' ∧ UO T nt cn f S O p q k O'' := by
      intro S' O' x x1 x2 x3 x4 x5
      exact ⟨O', 2, O', by omega, Rn_go x4 (Rn_stop (uM_endF (FT_0 x1).2)), uT_F x1.2.1, x3, S', 1, x2, Or.inl ⟨x1, by omega, Rn_stop ((cM_unit hk1600 hq01 x5).2 (FT_0 x1).1)⟩⟩
    by_cases cA : v = 3 ∧ i = 8 ∧ mnB st = true
    · -- not
      obtain ⟨rfl, rfl, hmn⟩ := cA
      obtain ⟨p9, p4⟩ := hp (by decide)
      have hq0 : q = 0 := by rw [hq, if_pos hmn]
      have h108 : S.2 53 0 = 108 := how.2.mpr ⟨rfl, rfl⟩
      have hn0 : ¬ O 262 6 = 0 := fun w => absurd (hk.2.2.1.mp w) (by decide)
      have hcl : f_X2_readUnit 24 q S = Option.bind (f_X2_open 108 S) (fun q => some (0, q)) := by
        unfold f_X2_readUnit
        dsimp only [jn]
        rw [if_pos (c := S.2 53 0 = 108 ∧ q = 0) ⟨h108, hq0⟩, h108]
      have hu : uM (1, O) = Option.bind (f_X12_openUp 21 (if 6 < (cW st : Int) then f_X12_wrong 2 O else O)) (fun q => some (.inl (1, q))) := by
        unfold uM
        dsimp only [jk, jn]
        rw [if_neg (c := (1 : Int) = 0 ∨ ¬ O 262 2 = 0) (by omega), show (7237492 : Int) = W256 8 from rfl, how.1, rf_mayNot hP.1 (by omega) hR.1 hR.2.1]
        dsimp only [Option.bind_some]
        rw [if_pos (c := 3 = 3 ∧ 8 = 8) ⟨rfl, rfl⟩, if_neg (show ¬ (1 : Int) = 0 by decide), if_pos hmn, if_neg (show ¬ (1 : Int) = 0 by decide)]
        have e22 := hR.2.2.2.2.2.2.2
        by_cases z : 6 < (cW st : Int)
        · rw [if_pos z, if_pos (c := 6 < O 262 22) (by rw [e22]; exact z)]
        · rw [if_neg z, if_neg (c := 6 < O 262 22) (by rw [e22]; exact z)]
      by_cases c6 : 6 < cW st
      · obtain ⟨S', O', e1, e2, e3, e4, e5, _, _⟩ := fail_ok h.1 hv h.2.2.1 (a := 2) (by decide)
        rw [if_pos (by omega), e2] at hu
        obtain ⟨O2, g1, g2, g3, g4⟩ := rf_open (k := 108) (O := O') (RP_fr hR (FrO_mono e5 (by simp) (by simp))) (by omega) (by omega) (Or.inr rfl)
        rw [show (21 : Int) = rcS 108 from rfl, g1, if_neg (by rw [g4]; exact (FT_0 e3).2)] at hu
        rw [show (108 : Int) = ((108 : Nat) : Int) from rfl, cl_openF hC c6, e1] at hcl
        exact bad S' O2 0 (FT_tr e3 (FrG_23 g3).1 (FrG_23 g3).2) (FrP1_E e4 (by simp)) (FrO_trans (FrP2_O e5 (by simp)) (FrP2_G g3)) hu hcl
      · rw [if_neg (by omega)] at hu
        obtain ⟨O2, g1, g2, g3, g4⟩ := rf_open (k := 108) hR (by omega) (by omega) (Or.inr rfl)
        obtain ⟨S2, s1, s2, s3⟩ := cl_open (k := 108) hC (by omega) (Or.inr rfl) (by omega)
        obtain ⟨S', O', p', e1, e2, e3, e4, e5, e6, e7, e8, _, e9, _⟩ := push_ok h p9 p4 s3 g3 s2 g2
        rw [show (21 : Int) = rcS 108 from rfl, g1, if_pos (by rw [g4]; exact h0), e2] at hu
        rw [show (108 : Int) = ((108 : Nat) : Int) from rfl, s1, e1] at hcl
        refine goOn S' O' p' _ U e3 e4 e5 e6 ?_ rfl e7 e8 hn0 hu hcl e9
        obtain ⟨y1, y2, y3⟩ := c_cons 108 st
        refine ⟨fun x hx => (List.mem_cons.mp hx).elim (fun e => by rw [e]; decide) (P1 x), ?_, P3, by decide, ?_, ?_, ?_⟩
        · rw [y1, if_pos (Or.inr rfl)]; omega
        · rw [y2, if_neg (by decide)]; exact P5
        · rw [y2, if_neg (by decide)]; exact P6
        · rw [y1, y2, y3, if_pos rfl, if_pos (Or.inr rfl), if_neg (by decide), if_pos rfl]; omega
    · by_cases cB' : v = 5 ∧ i = 40
      · -- a bracket
        obtain ⟨rfl, rfl⟩ := cB'
        obtain ⟨p9, p4⟩ := hp (by decide)
        have h40 : S.2 53 0 = 40 := (hk.2.2.2.2.2.2.1 40 (by decide) (by decide)).2.mpr ⟨rfl, rfl⟩
        have o40 : O 262 6 = 40 := (hk.2.2.2.2.2.2.1 40 (by decide) (by decide)).1.mpr ⟨rfl, rfl⟩
        have hn0 : ¬ O 262 6 = 0 := by omega
        have hu : uM (1, O) = Option.bind (f_X12_openUp 20 (f_X12_countUnit (if f_X12_isFull O = 0 ∧ ¬ 6 < (cW st : Int) then O else f_X12_wrong 2 O))) (fun q => some (.inl (1, q))) := by
          unfold uM
          dsimp only [jk, jn]
          rw [if_neg (c := (1 : Int) = 0 ∨ ¬ O 262 2 = 0) (by omega), show (7237492 : Int) = W256 8 from rfl, how.1, if_neg (c := 5 = 3 ∧ 40 = 8) (by decide), if_pos rfl, if_pos o40, hR.2.2.2.2.2.2.2]
        rw [full_v hR P3] at hu
        have hbad : (U = 30 ∨ 6 < cW st) → ∀ x S1, FrF S S1 → f_X2_readUnit 24 q S = some (x, f_X3_fail 2 S1) → ∃ O1 n O'', n ≤ D + 1 + 2 ∧ Rn uM n (1, O) O1 ∧ uT O1 = some O'' ∧ UO T nt cn f S O p q k O'' := by
          intro hb x S1 hF hcl
          have hS1 := OKT_F h hF (FrO_refl _ _ O)
          have hv1 : Vw 5 40 cn f S1 O := by
            unfold Vw at *
            rw [hF.2 53 0 (by omega) (by omega), hF.2 53 1 (by omega) (by omega), hF.2 53 7 (by omega) (by omega)]
            exact hv
          obtain ⟨S', O', e1, e2, e3, e4, e5, _, _⟩ := fail_ok hS1.1 hv1 hS1.2.2.1 (a := 2) (by decide)
          rw [e1] at hcl
          rw [if_neg (fun w => by
            rcases hb with hb | hb
            · rw [if_pos hb] at w; exact absurd w.1 (by decide)
            · omega), e2] at hu
          have hR' := RP_fr hR (FrO_mono e5 (by simp) (by simp))
          obtain ⟨c1, c2⟩ := rf_count hR' (by omega)
          obtain ⟨O2, g1, g2, g3, g4⟩ := rf_open (k := 40) c1 (by omega) (by omega) (Or.inl rfl)
          rw [show (20 : Int) = rcS 40 from rfl, g1, if_neg (by rw [g4, (FrG_23 c2).1]; exact (FT_0 e3).2)] at hu
          exact bad S' O2 x (FT_tr (FT_tr e3 (FrG_23 c2).1 (FrG_23 c2).2) (FrG_23 g3).1 (FrG_23 g3).2) (FrP1_trans (FrP1_F hF) (FrP1_E e4 (by simp))) (FrO_trans (FrP2_O e5 (by simp)) (FrO_trans (FrP2_G c2) (FrP2_G g3))) hu hcl
        have hrd : f_X2_readUnit 24 q S = if (U : Int) < 30 then Option.bind (f_X2_open 40 (upS S 24 0 ((U : Int) + 1))) (fun q => some (0, q)) else some (3, f_X3_fail 2 S) := by
          unfold f_X2_readUnit
          dsimp only [jn]
          rw [begins_v hv, if_pos (c := 5 = 2 ∨ _) (Or.inr (Or.inr ⟨rfl, rfl⟩)), h40, if_neg (c := (40 : Int) = 108 ∧ q = 0) (by omega), hC.2.2.1]
          by_cases z : (U : Int) < 30
          · rw [if_pos z, if_pos (c := (U : Int) < 30 ∧ _) ⟨z, by decide⟩, if_pos rfl, wr_id (by omega) (by omega)]
          · rw [if_neg z, if_neg (fun w => z w.1)]
        by_cases z : U = 30
        · rw [if_neg (by omega)] at hrd
          exact hbad (Or.inl z) 3 S (FrF_refl S) hrd
        · rw [if_pos (by omega)] at hrd
          have hC1 : CP (upS S 24 0 ((U : Int) + 1)) st rs (U + 1) := by
            obtain ⟨a, b, c, d⟩ := hC
            exact ⟨a, b, by rw [upS_same]; omega, by rw [upS_ne (Or.inl (by decide))]; exact d⟩
          have hF1 : FrF S (upS S 24 0 ((U : Int) + 1)) := ⟨fun _ _ _ => rfl, fun j i a b => upS_ne (by omega)⟩
          by_cases c6 : 6 < cW st
          · rw [show (40 : Int) = ((40 : Nat) : Int) from rfl, cl_openF hC1 c6] at hrd
            exact hbad (Or.inr c6) 0 _ hF1 hrd
          · obtain ⟨S2, s1, s2, s3⟩ := cl_open (k := 40) hC1 (by omega) (Or.inl rfl) (by omega)
            rw [if_pos (show (if U = 30 then (1 : Int) else 0) = 0 ∧ ¬ 6 < (cW st : Int) from ⟨if_neg z, by omega⟩)] at hu
            obtain ⟨c1, c2⟩ := rf_count hR (by omega)
            obtain ⟨O2, g1, g2, g3, g4⟩ := rf_open (k := 40) c1 (by omega) (by omega) (Or.inl rfl)
            obtain ⟨S', O', p', e1, e2, e3, e4, e5, e6, e7, e8, _, e9, _⟩ := push_ok h p9 p4 (FrF_trans hF1 s3) (FrO_trans c2 g3) s2 g2
            rw [show (20 : Int) = rcS 40 from rfl, g1, if_pos (by rw [g4, (FrG_23 c2).1]; exact h0), e2] at hu
            rw [show (40 : Int) = ((40 : Nat) : Int) from rfl, s1, e1] at hrd
            refine goOn S' O' p' _ (U + 1) e3 e4 e5 e6 ?_ rfl e7 e8 hn0 hu hrd e9
            obtain ⟨y1, y2, y3⟩ := c_cons 40 st
            refine ⟨fun x hx => (List.mem_cons.mp hx).elim (fun e => by rw [e]; decide) (P1 x), ?_, by omega, by decide, ?_, ?_, ?_⟩
            · rw [y1, if_pos (Or.inl rfl)]; omega
            · rw [y2, if_neg (by decide)]; omega
            · rw [y2, if_neg (by decide)]; exact P6
            · rw [y1, y2, y3, if_pos rfl, if_pos (Or.inl rfl), if_neg (by decide), if_neg (by decide)]; omega
      · by_cases cC : (v = 2 ∨ (v = 3 ∧ 9 ≤ i)) ∧ ¬ U = 30
        · -- a value
          obtain ⟨cV, hU30⟩ := cC
          obtain ⟨p9, p4⟩ := hp (by omega)
          have hn0 : ¬ O 262 6 = 0 := fun w => by have := hk.2.2.1.mp w; omega
          have h40 : ¬ O 262 6 = 40 := fun w => cB' ((hk.2.2.2.2.2.2.1 40 (by decide) (by decide)).1.mp w)
          have s40 : ¬ S.2 53 0 = 40 := fun w => cB' ((hk.2.2.2.2.2.2.1 40 (by decide) (by decide)).2.mp w)
          have s108 : ¬ S.2 53 0 = 108 := fun w => by have := how.2.mp (by rw [w]; rfl); omega
          have hst : uM (1, O) = some (.inl (0, O)) := by
            unfold uM
            dsimp only [jk]
            rw [if_neg (c := (1 : Int) = 0 ∨ ¬ O 262 2 = 0) (by omega), show (7237492 : Int) = W256 8 from rfl, how.1, if_neg (c := v = 3 ∧ i = 8) (by omega), if_pos rfl, if_neg h40]
          -- the step's code
          obtain ⟨z, hz1, hz2, hz3, hz4⟩ : ∃ z : Nat, ((1000 ≤ z ∧ z < 11000) ∨ (109 ≤ z ∧ z ≤ 113)) ∧ (if S.2 53 0 = 2 then wr (1000 + S.2 53 1) else S.2 53 0) = (z : Int) ∧ dcA z = (if (if v = 3 ∧ 9 ≤ i then (i : Int) - 9 else -1) < 0 then 0 else 1) ∧ dcB z = if (if v = 3 ∧ 9 ≤ i then (i : Int) - 9 else -1) < 0 then O 262 8 else (if v = 3 ∧ 9 ≤ i then (i : Int) - 9 else -1) := by
            rcases hv with ⟨rfl, _⟩ | ⟨rfl, _⟩ | ⟨rfl, g1, g2, g3, g4, g5⟩ | ⟨rfl, g0, g1, g2, g3⟩ | ⟨rfl, _⟩ | ⟨rfl, _⟩
            · omega
            · omega
            · refine ⟨1000 + (O 262 8).toNat, by omega, ?_, ?_, ?_⟩
              · rw [if_pos g2, g3, wr_id (by omega) (by omega)]; omega
              · rw [if_neg (c := 2 = 3 ∧ _) (by omega), if_pos (by decide)]
                unfold dcA
                rw [if_pos (by omega)]
              · rw [if_neg (c := 2 = 3 ∧ _) (by omega), if_pos (by decide)]
                unfold dcB
                rw [if_pos (by omega)]
                omega
            · have hi9 : 9 ≤ i := by omega
              refine ⟨100 + i, by omega, ?_, ?_, ?_⟩
              · rw [if_neg (by omega), g3]; omega
              · rw [if_pos (c := 3 = 3 ∧ 9 ≤ i) ⟨rfl, hi9⟩, if_neg (by omega)]
                unfold dcA
                rw [if_neg (by omega), if_pos (by omega)]
              · rw [if_pos (c := 3 = 3 ∧ 9 ≤ i) ⟨rfl, hi9⟩, if_neg (by omega)]
                unfold dcB
                rw [if_neg (by omega), if_pos (by omega)]
                omega
            · omega
            · omega
          have hlen : rs.length < 300 := by omega
          have hC1 : CP (upS S 24 0 ((U : Int) + 1)) st rs (U + 1) := by
            obtain ⟨a, b, c, d⟩ := hC
            exact ⟨a, b, by rw [upS_same]; omega, by rw [upS_ne (Or.inl (by decide))]; exact d⟩
          have g2' : (upS S 24 0 ((U : Int) + 1)).1 (24 + 1) = stR rs := hC.2.1
          have hrd : f_X2_readUnit 24 q S = Option.bind (f_X3_step (upR (upS S 24 0 ((U : Int) + 1)) 25 (stR (z :: rs)))) (fun q => some (2, q)) := by
            unfold f_X2_readUnit f_X1_add
            dsimp only [jn]
            rw [begins_v hv, if_pos (c := v = 2 ∨ _) (by omega), if_neg (c := S.2 53 0 = 108 ∧ q = 0) (fun w => s108 w.1), hC.2.2.1, if_pos (c := (U : Int) < 30 ∧ _) ⟨by omega, by decide⟩, if_neg s40, wr_id (z := (U : Int) + 1) (by omega) (by omega)]
            have : (upS S 24 0 ((U : Int) + 1)).2 53 1 = S.2 53 1 := upS_ne (Or.inl (by decide))
            rw [this, hz2, add_st g2' (by rw [show 24 + 1 + 1 = 26 by rfl, Ln26]; exact hlen)]
          have hC2 : CP (upR (upS S 24 0 ((U : Int) + 1)) 25 (stR (z :: rs))) st (z :: rs) (U + 1) := by
            obtain ⟨a, b, c, d⟩ := hC1
            exact ⟨by rw [upR_ne _ _ (by decide)]; exact a, upR_at _ _ _, c, d⟩
          have hF2 : FrF S (upR (upS S 24 0 ((U : Int) + 1)) 25 (stR (z :: rs))) := ⟨fun j a b => upR_ne _ _ b, fun j i a b => upS_ne (by omega)⟩
          obtain ⟨c1, c2⟩ := rf_count hR (by omega)
          obtain ⟨r1, r2, r3, r4, r5, r6, r7, r8⟩ := c1
          have x16 : ∀ a b : Int, (up2 (f_X12_countUnit O) 264 rs.length a) 262 16 = (rs.length : Int) := fun a b => by rw [up2_ne (Or.inl (by decide)), r3]
          have hadd : f_X12_add (dcA z) (dcB z) (f_X12_countUnit O) = some (up2 (up2 (up2 (f_X12_countUnit O) 264 rs.length (dcA z)) 265 rs.length (dcB z)) 262 16 ((rs.length : Int) + 1)) := by
            unfold f_X12_add
            dsimp only [jn]
            rw [r3, Ln264, aset_nat (show rs.length < 320 by omega)]
            dsimp only [Option.bind_some]
            rw [up2_ne (Or.inl (by decide)), r3, Ln265, aset_nat (show rs.length < 320 by omega)]
            dsimp only [Option.bind_some]
            rw [up2_ne (Or.inl (by decide)), up2_ne (Or.inl (by decide)), r3, wr_id (by omega) (by omega)]
          have hR2 : RP (up2 (up2 (up2 (f_X12_countUnit O) 264 rs.length (dcA z)) 265 rs.length (dcB z)) 262 16 ((rs.length : Int) + 1)) st (z :: rs) (U + 1) := by
            refine ⟨?_, ?_, ?_, ?_, ?_, ?_, ?_, ?_⟩
            · rw [up2_ne (Or.inr (by decide)), up2_ne (Or.inl (by decide)), up2_ne (Or.inl (by decide)), r1]
            · rw [up2_row (by decide), up2_row (by decide), up2_row (by decide)]; exact r2
            · rw [up2_same, List.length_cons]; omega
            · rw [up2_row (by decide), up2_row (by decide), up2_self]
              exact RSt_push r4
            · rw [up2_row (by decide), up2_self, up2_row (show (265 : Nat) ≠ 264 by decide)]
              exact RSt_push r5
            · rw [up2_ne (Or.inr (by decide)), up2_ne (Or.inl (by decide)), up2_ne (Or.inl (by decide)), r6]
            · rw [up2_ne (Or.inr (by decide)), up2_ne (Or.inl (by decide)), up2_ne (Or.inl (by decide)), r7]
            · rw [up2_ne (Or.inr (by decide)), up2_ne (Or.inl (by decide)), up2_ne (Or.inl (by decide)), r8]
          have hG2 : FrG O (up2 (up2 (up2 (f_X12_countUnit O) 264 rs.length (dcA z)) 265 rs.length (dcB z)) 262 16 ((rs.length : Int) + 1)) := FrO_trans c2 ⟨fun j a b => by
            simp at a
            rw [up2_row b, up2_row (by omega), up2_row (by omega)], fun j a => by
            simp at a
            rw [up2_ne (Or.inr (by omega)), up2_ne (Or.inl (by decide)), up2_ne (Or.inl (by decide))]⟩
          obtain ⟨S', O', p', e1, e2, e3, e4, e5, e6, e7, e8, _, e9, _⟩ := push_ok h p9 p4 hF2 hG2 hC2 hR2
          rw [e1] at hrd
          have hut : uT O = some O' := by
            unfold uT
            dsimp only [jn]
            rw [if_neg (by omega), asked_v hv, full_v hR P3]
            have hcond : (O 262 6 = 2 ∨ ¬ (if v = 3 ∧ 9 ≤ i then (i : Int) - 9 else -1) < 0) ∧ (if U = 30 then (1 : Int) else 0) = 0 := ⟨by
              rcases cV with w | w
              · exact Or.inl (hk.2.2.2.2.1.mpr w)
              · right
                rw [if_pos w]
                omega, if_neg hU30⟩
            rw [if_pos hcond, if_neg (by omega)]
            have x8 : (f_X12_countUnit O) 262 8 = O 262 8 := c2.2 8 (by decide)
            rw [x8, ← hz3, ← hz4, hadd]
            dsimp only [Option.bind_some]
            rw [e2]
            rfl
          have hm := mz_adv e4 hn0
          refine ⟨O, 2, O', by omega, Rn_go hst (Rn_stop uM_end0), hut, e8, S', 1, e7, Or.inr ⟨p', k + 1, st, z :: rs, U + 1, e3, e5, e6, ?_, KI_adv hK e4 hn0, e4.1, by omega, by decide, fun n r hr => ?_⟩⟩
          · refine ⟨P1, P2, by omega, by decide, by omega, Or.inr (Or.inl ⟨hz1, by omega, ?_, ?_⟩), ?_⟩
            · have := c_len st P1
              omega
            · rw [show cB st + 1 - 1 = cB st + 0 by omega]
              exact P6
            · rw [if_neg (show ¬ (1 : Nat) = 0 by decide), List.length_cons]
              omega
          · exact Rn_go ((cM_unit hk1600 hq01 hrd).1 e9) hr
        · obtain ⟨O1, n, O', a, b, c, d⟩ := unit_rej h hv hR hP hq hK cA cB' (by
            by_cases w : v = 2 ∨ (v = 3 ∧ 9 ≤ i)
            · right
              by_cases z : U = 30
              · exact z
              · exact absurd ⟨w, z⟩ cC
            · exact Or.inl w) hC.2.2.1
          exact ⟨O1, n, O', by omega, b, c, d⟩
end UNITB
