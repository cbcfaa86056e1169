/-! LEVEL 3, ar: do two segments meet -/
def gN (O : Smo) : Sg := (O 272, O 273, O 274, O 275)
theorem noM_iff {lo hi D1 D2 a a' b b' : Int} : ((lo < hi → (D1 = 0 → D2 ≠ 0 ∧ a = a') ∧ (D2 = 0 → D1 ≠ 0 ∧ b = b') ∧ (D1 ≠ 0 → D2 ≠ 0 → (0 < D1 ↔ 0 < D2))) ↔ ¬ (lo < hi ∧ ((D1 = 0 ∧ (D2 = 0 ∨ ¬ a = a')) ∨ (¬ D1 = 0 ∧ D2 = 0 ∧ ¬ b = b') ∨ (¬ D1 = 0 ∧ ¬ D2 = 0 ∧ ¬ (0 < D1 ↔ 0 < D2))))) := by
  by_cases c : lo < hi
  · by_cases d : D1 = 0
    · by_cases e : D2 = 0
      · exact ⟨fun w => absurd e ((w c).1 d).1, fun w => absurd ⟨c, Or.inl ⟨d, Or.inl e⟩⟩ w⟩
      · by_cases f : a = a'
        · exact ⟨fun _ w => by rcases w.2 with x | x | x; exact x.2.elim e (fun y => y f); exact x.1 d; exact x.1 d, fun _ _ => ⟨fun _ => ⟨e, f⟩, fun x => absurd x e, fun x => absurd d x⟩⟩
        · exact ⟨fun w => absurd ((w c).1 d).2 f, fun w => absurd ⟨c, Or.inl ⟨d, Or.inr f⟩⟩ w⟩
    · by_cases e : D2 = 0
      · by_cases f : b = b'
        · exact ⟨fun _ w => by rcases w.2 with x | x | x; exact d x.1; exact x.2.2 f; exact x.2.1 e, fun _ _ => ⟨fun x => absurd x d, fun _ => ⟨d, f⟩, fun _ x => absurd e x⟩⟩
        · exact ⟨fun w => absurd ((w c).2.1 e).2 f, fun w => absurd ⟨c, Or.inr (Or.inl ⟨d, e, f⟩)⟩ w⟩
      · exact ⟨fun w x => by rcases x.2 with x | x | x; exact d x.1; exact e x.2.1; exact x.2.2 ((w c).2.2 d e), fun w _ => ⟨fun x => absurd x d, fun x => absurd x e, fun _ _ => Classical.byContradiction (fun x => w ⟨c, Or.inr (Or.inr ⟨d, e, x⟩)⟩)⟩⟩
  · exact ⟨fun _ w => c w.1, fun _ x => absurd x c⟩
def mtB (g : Sg) (i j : Nat) : Prop := gLo g i j < gHi g i j ∧ ((gD g i j (gLo g i j) = 0 ∧ (gD g i j (gHi g i j) = 0 ∨ ¬ sga g i = sga g j)) ∨ (¬ gD g i j (gLo g i j) = 0 ∧ gD g i j (gHi g i j) = 0 ∧ ¬ sgb g i = sgb g j) ∨ (¬ gD g i j (gLo g i j) = 0 ∧ ¬ gD g i j (gHi g i j) = 0 ∧ ¬ (0 < gD g i j (gLo g i j) ↔ 0 < gD g i j (gHi g i j))))
theorem noMeet_mt (g : Sg) (i j : Nat) : noMeet g i j ↔ ¬ mtB g i j := noM_iff
theorem gLoHi_bd {g : Sg} {i j : Nat} (h : SegB g i) (h' : SegB g j) : (0 ≤ gLo g i j ∧ gLo g i j ≤ 60) ∧ 0 ≤ gHi g i j ∧ gHi g i j ≤ 60 := by
  obtain ⟨a1, a2, a3, a4, a5, a6, a7⟩ := h
  obtain ⟨b1, b2, b3, b4, b5, b6, b7⟩ := h'
  unfold gLo gHi
  refine ⟨?_, ?_⟩
  · split <;> omega
  · split <;> omega
theorem cl_meet {p n i j : Nat} {S : Sst} {g : Sg} (h : RPl p S g n) (hi : i < n) (hj : j < n) (hb : SegB g i) (hb' : SegB g j) : ∃ q : Int, f_X4_meet p i j S = q ∧ (q = 0 ∨ q = 1) ∧ (q = 0 ↔ noMeet g i j) := by
  obtain ⟨h1, h2⟩ := gLoHi_bd hb hb'
  rw [noMeet_mt]
  unfold f_X4_meet mtB
  dsimp only [jn]
  rw [at_nat h.1 hi, at_nat h.1 hj, at_nat h.2.2.1 hi, at_nat h.2.2.1 hj, max_lo, min_hi, pl_cmp h hi hj hb hb' h1, pl_cmp h hi hj hb hb' h2]
  generalize gD g i j (gLo g i j) = D1
  generalize gD g i j (gHi g i j) = D2
  generalize gLo g i j = lo
  generalize gHi g i j = hi
  generalize sga g i = a
  generalize sga g j = a'
  generalize sgb g i = b
  generalize sgb g j = b'
  refine ⟨_, rfl, ?_, ?_⟩
  · (repeat' split) <;> omega
  · by_cases c : lo < hi
    · rw [if_pos c]
      by_cases d : D1 = 0
      · subst d
        rw [if_neg (show ¬ (0 : Int) < 0 by decide), if_pos rfl, if_pos rfl]
        by_cases e : D2 = 0
        · subst e
          rw [if_neg (show ¬ (0 : Int) < 0 by decide), if_pos rfl, if_pos (Or.inl rfl)]
          exact ⟨fun w => absurd w (by decide), fun w => absurd ⟨c, Or.inl ⟨rfl, Or.inl rfl⟩⟩ w⟩
        · by_cases f : a = a'
          · have he : ¬ (if D2 < 0 then (-1 : Int) else if D2 = 0 then 0 else 1) = 0 := by
              by_cases x : D2 < 0
              · rw [if_pos x]; decide
              · rw [if_neg x, if_neg e]; decide
            rw [if_neg (fun w => w.elim he (fun y => y f))]
            refine ⟨fun _ w => ?_, fun _ => rfl⟩
            omega
          · rw [if_pos (Or.inr f)]
            exact ⟨fun w => absurd w (by decide), fun w => absurd ⟨c, Or.inl ⟨rfl, Or.inr f⟩⟩ w⟩
      · have hd : ¬ (if D1 < 0 then (-1 : Int) else if D1 = 0 then 0 else 1) = 0 := by
          by_cases x : D1 < 0
          · rw [if_pos x]; decide
          · rw [if_neg x, if_neg d]; decide
        rw [if_neg hd]
        by_cases e : D2 = 0
        · subst e
          rw [if_neg (show ¬ (0 : Int) < 0 by decide), if_pos rfl, if_pos rfl]
          by_cases f : b = b'
          · rw [if_pos f]
            refine ⟨fun _ w => ?_, fun _ => rfl⟩
            omega
          · rw [if_neg f]
            exact ⟨fun w => absurd w (by decide), fun w => absurd ⟨c, Or.inr (Or.inl ⟨d, rfl, f⟩)⟩ w⟩
        · have he : ¬ (if D2 < 0 then (-1 : Int) else if D2 = 0 then 0 else 1) = 0 := by
            by_cases x : D2 < 0
            · rw [if_pos x]; decide
            · rw [if_neg x, if_neg e]; decide
          rw [if_neg he]
          by_cases x : D1 < 0
          · rw [if_pos x]
            by_cases y : D2 < 0
            · rw [if_pos y, if_pos rfl]
              refine ⟨fun _ w => ?_, fun _ => rfl⟩
              omega
            · rw [if_neg y, if_neg e, if_neg (by decide)]
              exact ⟨fun w => absurd w (by decide), fun w => absurd ⟨c, Or.inr (Or.inr ⟨d, e, by omega⟩)⟩ w⟩
          · rw [if_neg x, if_neg d]
            by_cases y : D2 < 0
            · rw [if_pos y, if_neg (by decide)]
              exact ⟨fun w => absurd w (by decide), fun w => absurd ⟨c, Or.inr (Or.inr ⟨d, e, by omega⟩)⟩ w⟩
            · rw [if_neg y, if_neg e, if_pos rfl]
              refine ⟨fun _ w => ?_, fun _ => rfl⟩
              omega
    · rw [if_neg c]
      exact ⟨fun _ w => c w.1, fun _ => rfl⟩
theorem rf_nFar {O : Smo} {i j : Nat} (hi : i < 8) (hj : j < 8) (hb : SegB (gN O) i) (hb' : SegB (gN O) j) {x : Int} (hx : 0 ≤ x ∧ x ≤ 60) : f_X12_nFarther i j x O = some (gD (gN O) i j x) := by
  have w1 := gW_pos hb
  have w2 := gW_pos hb'
  have r1 := gR_bd hb
  have r2 := gR_bd hb'
  have f1 := gF_bd hb hx
  have f2 := gF_bd hb' hx
  have g1 := gFW_bd hb hb' hx
  have g2 := gFW_bd hb' hb hx
  have bb := hb
  have bb' := hb'
  unfold SegB at bb bb'
  have p1 := mbd (x := sgu (gN O) i) (y := gW (gN O) i) (c := 60) (d := 60) (by omega) (by omega)
  have p2 := mbd (x := sgu (gN O) j) (y := gW (gN O) j) (c := 60) (d := 60) (by omega) (by omega)
  have p3 := mbd (x := gR (gN O) i) (y := x - sga (gN O) i) (c := 60) (d := 60) (by omega) (by omega)
  have p4 := mbd (x := gR (gN O) j) (y := x - sga (gN O) j) (c := 60) (d := 60) (by omega) (by omega)
  unfold f_X12_nFarther
  rw [Ln272, Ln273, Ln274, Ln275, aget_nat hi, aget_nat hi, aget_nat hi, aget_nat hi, aget_nat hj, aget_nat hj, aget_nat hj, aget_nat hj]
  dsimp only [Option.bind_some, jn]
  have e1 : O 274 i - O 272 i = gW (gN O) i := rfl
  have e2 : O 274 j - O 272 j = gW (gN O) j := rfl
  have e3 : O 275 i - O 273 i = gR (gN O) i := rfl
  have e4 : O 275 j - O 273 j = gR (gN O) j := rfl
  have e5 : O 273 i = sgu (gN O) i := rfl
  have e6 : O 273 j = sgu (gN O) j := rfl
  have e7 : O 272 i = sga (gN O) i := rfl
  have e8 : O 272 j = sga (gN O) j := rfl
  rw [e1, e2, e3, e4, e5, e6, e7, e8]
  rw [wr_id (z := gW (gN O) i) (by omega) (by omega), wr_id (z := gW (gN O) j) (by omega) (by omega), wr_id (z := gR (gN O) i) (by omega) (by omega), wr_id (z := gR (gN O) j) (by omega) (by omega), wr_id (z := x - sga (gN O) i) (by omega) (by omega), wr_id (z := x - sga (gN O) j) (by omega) (by omega), wr_id (z := sgu (gN O) i * gW (gN O) i) (by omega) (by omega), wr_id (z := sgu (gN O) j * gW (gN O) j) (by omega) (by omega), wr_id (z := gR (gN O) i * (x - sga (gN O) i)) (by omega) (by omega), wr_id (z := gR (gN O) j * (x - sga (gN O) j)) (by omega) (by omega), wr_id (z := sgu (gN O) i * gW (gN O) i + gR (gN O) i * (x - sga (gN O) i)) (by omega) (by omega), wr_id (z := sgu (gN O) j * gW (gN O) j + gR (gN O) j * (x - sga (gN O) j)) (by omega) (by omega)]
  rw [show sgu (gN O) i * gW (gN O) i + gR (gN O) i * (x - sga (gN O) i) = gF (gN O) i x from rfl, show sgu (gN O) j * gW (gN O) j + gR (gN O) j * (x - sga (gN O) j) = gF (gN O) j x from rfl]
  rw [wr_id (z := gF (gN O) i x * gW (gN O) j) (by omega) (by omega), wr_id (z := gF (gN O) j x * gW (gN O) i) (by omega) (by omega), wr_id (by omega) (by omega)]
  rfl
theorem rf_meet {O : Smo} {i j : Nat} (hi : i < 8) (hj : j < 8) (hb : SegB (gN O) i) (hb' : SegB (gN O) j) : ∃ q : Int, f_X12_doMeet i j O = some q ∧ (q = 0 ∨ q = 1) ∧ (q = 0 ↔ noMeet (gN O) i j) := by
  obtain ⟨h1, h2⟩ := gLoHi_bd hb hb'
  rw [noMeet_mt]
  have n1 := rf_nFar hi hj hb hb' h1
  have n2 := rf_nFar hi hj hb hb' h2
  have e1 : f_X12_greater (O 272 i) (O 272 j) = gLo (gN O) i j := by
    show (if O 272 j < O 272 i then O 272 i else O 272 j) = if O 272 i < O 272 j then O 272 j else O 272 i
    by_cases a : O 272 j < O 272 i
    · rw [if_pos a, if_neg (by omega)]
    · rw [if_neg a]
      by_cases b : O 272 i < O 272 j
      · rw [if_pos b]
      · rw [if_neg b]; omega
  have e2 : f_X12_lesser (O 274 i) (O 274 j) = gHi (gN O) i j := by
    show (if O 274 i < O 274 j then O 274 i else O 274 j) = if O 274 j < O 274 i then O 274 j else O 274 i
    by_cases a : O 274 i < O 274 j
    · rw [if_pos a, if_neg (by omega)]
    · rw [if_neg a]
      by_cases b : O 274 j < O 274 i
      · rw [if_pos b]
      · rw [if_neg b]; omega
  unfold f_X12_doMeet mtB
  rw [Ln272, Ln274, aget_nat hi, aget_nat hj, aget_nat hi, aget_nat hj]
  dsimp only [Option.bind_some, jn]
  rw [e1, e2, n1, n2]
  dsimp only [Option.bind_some]
  have a1 : O 272 i = sga (gN O) i := rfl
  have a2 : O 272 j = sga (gN O) j := rfl
  have a3 : O 274 i = sgb (gN O) i := rfl
  have a4 : O 274 j = sgb (gN O) j := rfl
  rw [a1, a2, a3, a4]
  generalize gD (gN O) i j (gLo (gN O) i j) = D1
  generalize gD (gN O) i j (gHi (gN O) i j) = D2
  generalize gLo (gN O) i j = lo
  generalize gHi (gN O) i j = hi
  generalize sga (gN O) i = a
  generalize sga (gN O) j = a'
  generalize sgb (gN O) i = b
  generalize sgb (gN O) j = b'
  by_cases c : lo < hi
  · rw [if_pos c]
    by_cases d : D1 = 0
    · by_cases e : D2 = 0
      · rw [if_pos ⟨d, e⟩]
        exact ⟨1, rfl, Or.inr rfl, fun w => absurd w (by decide), fun w => absurd ⟨c, Or.inl ⟨d, Or.inl e⟩⟩ w⟩
      · rw [if_neg (fun w => e w.2), if_pos d]
        by_cases f : a = a'
        · rw [if_pos f]
          exact ⟨0, rfl, Or.inl rfl, fun _ w => by omega, fun _ => rfl⟩
        · rw [if_neg f]
          exact ⟨1, rfl, Or.inr rfl, fun w => absurd w (by decide), fun w => absurd ⟨c, Or.inl ⟨d, Or.inr f⟩⟩ w⟩
    · rw [if_neg (fun w => d w.1), if_neg d]
      by_cases e : D2 = 0
      · rw [if_pos e]
        by_cases f : b = b'
        · rw [if_pos f]
          exact ⟨0, rfl, Or.inl rfl, fun _ w => by omega, fun _ => rfl⟩
        · rw [if_neg f]
          exact ⟨1, rfl, Or.inr rfl, fun w => absurd w (by decide), fun w => absurd ⟨c, Or.inr (Or.inl ⟨d, e, f⟩)⟩ w⟩
      · rw [if_neg e]
        by_cases x : 0 < D1
        · rw [if_pos x]
          by_cases y : 0 < D2
          · rw [if_pos y, if_pos rfl]
            exact ⟨0, rfl, Or.inl rfl, fun _ w => by omega, fun _ => rfl⟩
          · rw [if_neg y, if_neg (by decide)]
            exact ⟨1, rfl, Or.inr rfl, fun w => absurd w (by decide), fun w => absurd ⟨c, Or.inr (Or.inr ⟨d, e, by omega⟩)⟩ w⟩
        · rw [if_neg x]
          by_cases y : 0 < D2
          · rw [if_pos y, if_neg (by decide)]
            exact ⟨1, rfl, Or.inr rfl, fun w => absurd w (by decide), fun w => absurd ⟨c, Or.inr (Or.inr ⟨d, e, by omega⟩)⟩ w⟩
          · rw [if_neg y, if_pos rfl]
            exact ⟨0, rfl, Or.inl rfl, fun _ w => by omega, fun _ => rfl⟩
  · rw [if_neg c]
    exact ⟨0, rfl, Or.inl rfl, fun _ w => c w.1, fun _ => rfl⟩
