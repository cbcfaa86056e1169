/-! LEVEL 3, ba: all lines are read -/
def FrE (O O' : Smo) : Prop := FrO [264, 265, 268, 271, 272, 273, 274, 275] [1, 2, 3, 4, 5, 6, 7, 8, 9, 16, 18, 19, 21, 22, 23, 36, 37, 38, 42, 43] O O'
theorem cl_clear5 (S : Sst) : (∀ k, k ∈ [6, 8, 10, 12, 14, 16, 18, 20, 22] → (f_X4_clear 5 S).1 k = []) ∧ (f_X4_clear 5 S).1 25 = stR [113] ∧ (∀ k, k ≠ 57 → ¬ (6 ≤ k ∧ k ≤ 28) → (f_X4_clear 5 S).1 k = S.1 k) ∧ (f_X4_clear 5 S).2 24 0 = 0 ∧ (f_X4_clear 5 S).2 5 11 = 3 ∧ (f_X4_clear 5 S).2 5 12 = 0 ∧ ∀ k j, k ≠ 5 → k ≠ 24 → (f_X4_clear 5 S).2 k j = S.2 k j := by
  have key : f_X4_clear 5 S = upS (upS (upS (upR (upS (upR (upR (upR (upR (upR (upR (upR (upR (upR S 6 []) 8 []) 10 []) 12 []) 14 []) 16 []) 18 []) 20 []) 22 []) 24 0 0) 25 [113]) 5 10 0) 5 11 3) 5 12 0 := by
    unfold f_X4_clear f_X1_clear f_X1_add f_X6_clear
    dsimp only [jn]
    rw [add_nil (q := 24 + 1) 113 (upR_at _ _ _) (by rw [show 24 + 1 + 1 = 26 by rfl, Ln26]; decide)]
    rw [upR_up]
  rw [key]
  refine ⟨fun k hk => ?_, ?_, fun k a b => ?_, ?_, ?_, ?_, fun k j a b => ?_⟩
  · simp at hk
    rcases hk with rfl | rfl | rfl | rfl | rfl | rfl | rfl | rfl | rfl <;> simp [upR, upS]
  · simp [upR, upS, stR]
  · have : k ≠ 6 ∧ k ≠ 8 ∧ k ≠ 10 ∧ k ≠ 12 ∧ k ≠ 14 ∧ k ≠ 16 ∧ k ≠ 18 ∧ k ≠ 20 ∧ k ≠ 22 ∧ k ≠ 25 := by omega
    simp [upR, upS, this]
  · simp [upR, upS, up2]
  · simp [upR, upS, up2]
  · simp [upR, upS, up2]
  · simp [upR, upS, up2, a, b]
section READ
theorem read_ok {S : Sst} {O : Smo} {nt : Nat} (h1 : S.1 1 = rg nt (O 263)) (hnt : nt ≤ 1600) (hb : ∀ i, i < nt → 0 ≤ O 263 i ∧ O 263 i ≤ 255) (ho : O 262 1 = (nt : Int)) (hx : ILex S O) : ∃ r q, f_X5_readMap S = (if f_X3_failed r = 0 then (Option.bind (f_X4_settle 5 r) fun (q1474 : Sst) => some q1474) else some r) ∧ f_X12_readAll O = some q ∧ FrC S r ∧ FrE O q ∧ q 262 1 = 0 ∧ (FT r q ∨ ∃ (c : Nat) (f : Nat → List Int) (p : Nat), OKT (O 263) nt c f r q p ∧ LD c r q) := by
  obtain ⟨x1, x2, x3, x4, x5⟩ := hx
  obtain ⟨c1, c2, c3, c4, c5, c6, c7⟩ := cl_clear5 S
  -- the class begins
  have hS0 : ∀ S0 : Sst, S0 = upS (upS (upS (f_X4_clear 5 S) 55 3 0) 55 4 0) 55 5 0 → S0.1 = (f_X4_clear 5 S).1 ∧ S0.2 55 3 = 0 ∧ S0.2 55 4 = 0 ∧ S0.2 55 5 = 0 ∧ ∀ k j, k ≠ 55 → S0.2 k j = (f_X4_clear 5 S).2 k j := fun S0 e => by
    subst e
    refine ⟨rfl, ?_, ?_, ?_, fun k j a => ?_⟩
    · rw [upS_ne (Or.inr (by decide)), upS_ne (Or.inr (by decide)), upS_same]
    · rw [upS_ne (Or.inr (by decide)), upS_same]
    · rw [upS_same]
    · rw [upS_ne (Or.inl a), upS_ne (Or.inl a), upS_ne (Or.inl a)]
  rw [readMap_eq]
  generalize upS (upS (upS (f_X4_clear 5 S) 55 3 0) 55 4 0) 55 5 0 = S0 at hS0
  obtain ⟨a1, a2, a3, a4, a5⟩ := hS0 S0 rfl
  have s536 : S0.2 53 6 = S.2 53 6 := by rw [a5 53 6 (by decide), c7 53 6 (by decide) (by decide)]
  have hmin : f_J9_min_7cf53 (S0.2 53 6) 14 = 14 := by
    rw [s536]
    unfold f_J9_min_7cf53
    by_cases w : 14 < S.2 53 6
    · rw [if_pos w]
    · rw [if_neg w]; omega
  have hS1 : ∀ S1 : Sst, S1 = upS (upS (upS (upS S0 53 6 14) 53 2 0) 53 3 (-1)) 53 9 0 → S1.1 = S0.1 ∧ S1.2 53 6 = 14 ∧ S1.2 53 2 = 0 ∧ S1.2 53 3 = -1 ∧ S1.2 53 9 = 0 ∧ ∀ k j, k ≠ 53 → S1.2 k j = S0.2 k j := fun S1 e => by
    subst e
    refine ⟨rfl, ?_, ?_, ?_, ?_, fun k j a => ?_⟩
    · rw [upS_ne (Or.inr (by decide)), upS_ne (Or.inr (by decide)), upS_ne (Or.inr (by decide)), upS_same]
    · rw [upS_ne (Or.inr (by decide)), upS_ne (Or.inr (by decide)), upS_same]
    · rw [upS_ne (Or.inr (by decide)), upS_same]
    · rw [upS_same]
    · rw [upS_ne (Or.inl a), upS_ne (Or.inl a), upS_ne (Or.inl a), upS_ne (Or.inl a)]
  have hrest : f_X3_restart S0 = Option.bind (f_X3_step (upS (upS (upS (upS S0 53 6 14) 53 2 0) 53 3 (-1)) 53 9 0)) (fun q => some q) := by
    unfold f_X3_restart
    dsimp only [jn]
    rw [hmin]
  rw [hrest]
  generalize upS (upS (upS (upS S0 53 6 14) 53 2 0) 53 3 (-1)) 53 9 0 = S1 at hS1
  obtain ⟨b1, b2, b3, b4, b5, b6⟩ := hS1 S1 rfl
  have rows1 : S1.1 = (f_X4_clear 5 S).1 := by rw [b1, a1]
  -- the reference begins
  have hO1 : ∀ O1 : Smo, O1 = up2 (up2 (up2 (up2 (up2 (up2 (up2 (up2 (up2 (up2 (up2 (up2 O 262 5 (O 262 1)) 262 1 0) 262 4 0) 262 2 0) 262 3 (-1)) 262 36 0) 262 37 3) 262 38 0) 262 42 0) 262 43 0) 262 23 0) 262 19 0 → FrE O O1 ∧ O1 263 = O 263 ∧ O1 262 5 = (nt : Int) ∧ O1 262 1 = 0 ∧ O1 262 4 = 0 ∧ O1 262 2 = 0 ∧ O1 262 3 = -1 ∧ O1 262 36 = 0 ∧ O1 262 37 = 3 ∧ O1 262 38 = 0 ∧ O1 262 42 = 0 ∧ O1 262 43 = 0 ∧ O1 262 23 = 0 ∧ O1 262 19 = 0 := fun O1 e => by
    subst e
    refine ⟨⟨fun k _ b => ?_, fun j hj => ?_⟩, ?_, ?_, ?_, ?_, ?_, ?_, ?_, ?_, ?_, ?_, ?_, ?_, ?_⟩
    · simp only [up2_row b]
    · simp at hj
      simp [up2, hj]
    · simp only [up2_row (show (263 : Nat) ≠ 262 by decide)]
    · simp [up2, ho]
    all_goals simp [up2]
  have hall : f_X12_readAll O = Option.bind (f_X12_token (up2 (up2 (up2 (up2 (up2 (up2 (up2 (up2 (up2 (up2 (up2 (up2 O 262 5 (O 262 1)) 262 1 0) 262 4 0) 262 2 0) 262 3 (-1)) 262 36 0) 262 37 3) 262 38 0) 262 42 0) 262 43 0) 262 23 0) 262 19 0)) (fun (q6323 : Smo) => Option.bind (lp (fun (s6325 : Smo) =>
    if (s6325 262 2 = 0 ∧ ¬ s6325 262 6 = 0) then
      (Option.bind (f_X12_readLine s6325) fun (q6337 : Smo) =>
      some (Sum.inl q6337))
    else
      (some (Sum.inr s6325))) FU q6323) fun (r6341 : Smo) =>
  some r6341) := rfl
  rw [hall]
  generalize up2 (up2 (up2 (up2 (up2 (up2 (up2 (up2 (up2 (up2 (up2 (up2 O 262 5 (O 262 1)) 262 1 0) 262 4 0) 262 2 0) 262 3 (-1)) 262 36 0) 262 37 3) 262 38 0) 262 42 0) 262 43 0) 262 23 0) 262 19 0 = O1 at hO1
  obtain ⟨y0, y1, y2, y3, y4, y5, y6, y7, y8, y9, y10, y11, y12, y13⟩ := hO1 O1 rfl
  have fr1 : FrC S S1 := ⟨fun k a b => by rw [rows1]; exact c3 k a b, fun k j a b => by rw [b6 k j (by omega), a5 k j (by omega), c7 k j (by omega) (by omega)]⟩
  have hB : LB (O 263) nt 0 (fun _ => []) S1 O1 := by
    refine ⟨?_, hnt, hb, y1, y2, ⟨b3, y5, by rw [b4, y6]⟩, by rw [b2]; rfl, by decide, fun i hi => ?_, fun i hi => absurd hi (Nat.not_lt_zero i)⟩
    · rw [rows1, c3 1 (by decide) (by decide), h1]
    · rw [b6 54 i (by decide), a5 54 i (by decide), c7 54 i (by decide) (by decide)]
      exact x5 i hi
  have hD : LD 0 S1 O1 := by
    have hr : ∀ k, k ∈ [6, 8, 10, 12, 14, 16, 18, 20, 22] → S1.1 k = [] := fun k hk => by rw [rows1]; exact c1 k hk
    refine ⟨⟨⟨hr 6 (by decide), hr 8 (by decide), hr 10 (by decide), hr 12 (by decide), hr 14 (by decide), hr 16 (by decide)⟩, ⟨by decide, fun i hi => absurd hi (Nat.not_lt_zero i), fun i j hi => absurd hi (Nat.not_lt_zero i)⟩, y7⟩, ?_, ?_, ?_, ?_, ?_, ⟨hr 18 (by decide), hr 20 (by decide), hr 22 (by decide)⟩, Or.inl ⟨y12, ?_, y13, ?_⟩⟩
    · rw [b6 55 3 (by decide), a2, y12]
    · rw [b6 55 4 (by decide), a3, y10]
    · rw [b6 55 5 (by decide), a4, y11]
    · rw [b6 5 11 (by decide), a5 5 11 (by decide), c5, y8]; decide
    · rw [b6 5 12 (by decide), a5 5 12 (by decide), c6, y9]; decide
    · rw [rows1]; exact c2
    · rw [b6 24 0 (by decide), a5 24 0 (by decide), c4]
  obtain ⟨S2, O2, p2, e1, e2, e3, e4, e5, e6⟩ := next_tok hB (p := 0) b5 y4 (Nat.zero_le _)
  have hD2 : LD 0 S2 O2 := LD_fr hD e5 e6
  rw [e1, e2]
  dsimp only [Option.bind_some]
  have y32 : O2 262 1 = 0 := by rw [e6.2 1 (by decide), y3]
  have fr2 : FrC S S2 := FrC_trans fr1 (FrC_E e5)
  have fo2 : FrE O O2 := FrO_trans y0 (FrO_mono e6 (by simp) (by simp))
  have key : ∃ r q, lp mM FU (if S2.2 53 0 = 0 then 0 else 1, 0, S2) = some r ∧ lp (fun (s6325 : Smo) =>
    if (s6325 262 2 = 0 ∧ ¬ s6325 262 6 = 0) then
      (Option.bind (f_X12_readLine s6325) fun (q6337 : Smo) =>
      some (Sum.inl q6337))
    else
      (some (Sum.inr s6325))) FU O2 = some q ∧ (fun (r : Sst) (q : Smo) => FrC S r ∧ FrE O q ∧ q 262 1 = 0 ∧ (FT r q ∨ ∃ (c : Nat) (f : Nat → List Int) (p : Nat), OKT (O 263) nt c f r q p ∧ LD c r q)) r q := by
    refine lp_2 (fun (s : Int × Int × Sst) (t : Smo) => ∃ k : Nat, s.2.1 = (k : Int) ∧ FrC S s.2.2 ∧ FrE O t ∧ t 262 1 = 0 ∧ ((FT s.2.2 t ∧ s.1 = 0) ∨ ∃ (c : Nat) (f : Nat → List Int) (p : Nat), OKT (O 263) nt c f s.2.2 t p ∧ LD c s.2.2 t ∧ s.1 = (if s.2.2.2 53 0 = 0 then 0 else 1) ∧ (t 262 6 = 0 ∨ k + 1 ≤ p))) (fun s => 1700 - s.2.1.toNat) _ (fun s t hI => ?_) FU _ _ ⟨0, rfl, fr2, fo2, y32, Or.inr ⟨0, _, p2, e3, hD2, rfl, e4.2.2⟩⟩ (by unfold FU; dsimp only; omega)
    obtain ⟨q, kk, Sa⟩ := s
    obtain ⟨k, rfl, ha, hb', hc', hd⟩ := hI
    dsimp only at *
    rw [mM_eq]
    rcases hd with ⟨hd, rfl⟩ | ⟨c, f, p, g1, g2, g3, g4⟩
    · right
      rw [if_pos (c := 1600 < (k : Int) ∨ (0 : Int) = 0) (Or.inr rfl), if_neg (fun w => (FT_0 hd).2 w.1)]
      exact ⟨_, _, rfl, rfl, ha, hb', hc', Or.inl hd⟩
    · obtain ⟨v, i, _, hv, _⟩ := LT_view g1.2
      have hk := Vw_k hv
      have h0 : t 262 2 = 0 := g1.1.2.2.2.2.2.1.2.1
      by_cases cz : t 262 6 = 0
      · right
        have sz : Sa.2 53 0 = 0 := hk.2.2.2.1.mpr (hk.2.2.1.mp cz)
        rw [if_pos sz] at g3
        rw [if_pos (c := 1600 < (k : Int) ∨ q = 0) (Or.inr g3), if_neg (fun w => w.2 cz)]
        exact ⟨_, _, rfl, rfl, ha, hb', hc', Or.inr ⟨c, f, p, g1, g2⟩⟩
      · left
        have sz : ¬ Sa.2 53 0 = 0 := fun w => cz (hk.2.2.1.mpr (hk.2.2.2.1.mp w))
        rw [if_neg sz] at g3
        have hkp := g4.resolve_left cz
        have hpn := g1.2.1
        obtain ⟨Sb, S', O', l1, l2, l3, l4, l5, l6⟩ := line_ok g1 g2 cz (by omega)
        rw [if_neg (c := 1600 < (k : Int) ∨ q = 0) (by omega), if_pos ⟨h0, cz⟩, l1]
        dsimp only [Option.bind_some]
        rw [l2, l3]
        dsimp only [Option.bind_some, jn]
        rw [wr_id (by omega) (by omega)]
        refine ⟨_, _, rfl, rfl, ⟨k + 1, by simp, FrC_trans ha l4, FrO_trans hb' (FrO_mono l5 (by simp) (by simp)), by rw [l5.2 1 (by decide)]; exact hc', ?_⟩, by dsimp only; omega⟩
        unfold f_X3_failed
        rcases l6 with l6 | ⟨c', f', p', m1, m2, m3⟩
        · refine Or.inl ⟨l6, ?_⟩
          dsimp only
          rw [if_neg (FT_0 l6).1, if_neg (fun w => absurd w.1 (by decide))]
        · refine Or.inr ⟨c', f', p', m1, m2, ?_, ?_⟩
          · dsimp only
            rw [if_pos m1.1.2.2.2.2.2.1.1]
            by_cases w : S'.2 53 0 = 0
            · rw [if_pos w, if_neg (fun z => z.2 w)]
            · rw [if_neg w, if_pos ⟨rfl, w⟩]
          · refine m3.2.2.imp id (fun w => ?_)
            omega
  obtain ⟨r, q, k1, k2, k3⟩ := key
  rw [k1, k2]
  exact ⟨r, q, rfl, rfl, k3⟩
end READ
