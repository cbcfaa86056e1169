/-! LEVEL 3, bh: map, on both sides -/
theorem cl_takeP {S : Sst} (hl : ∀ k, k ∈ [6, 8, 10, 12, 14, 16, 18, 20] → (S.1 k).length ≤ 8) (h22 : (S.1 22).length ≤ 16) : (∀ k, k ∈ [6, 8, 10, 12, 14, 16, 18, 20, 22] → (f_X4_takeFrom 29 5 S).1 (k + 24) = S.1 k) ∧ (∀ k, k ∉ [30, 32, 34, 36, 38, 40, 42, 44, 46] → (f_X4_takeFrom 29 5 S).1 k = S.1 k) ∧ (f_X4_takeFrom 29 5 S).2 29 10 = S.2 5 10 ∧ (f_X4_takeFrom 29 5 S).2 29 11 = S.2 5 11 ∧ ∀ k j, k ≠ 29 → (f_X4_takeFrom 29 5 S).2 k j = S.2 k j := by
  have key : f_X4_takeFrom 29 5 S = upS (upS (upR (upR (upR (upR (upR (upR (upR (upR (upR S 30 (S.1 6)) 32 (S.1 8)) 34 (S.1 10)) 36 (S.1 12)) 38 (S.1 14)) 40 (S.1 16)) 42 (S.1 18)) 44 (S.1 20)) 46 (S.1 22)) 29 10 (S.2 5 10)) 29 11 (S.2 5 11) := by
    have t : ∀ (p q m : Nat) (S' : Sst), p ≠ q → S'.1 q = S.1 q → Ln (p + 1) = m → (S.1 q).length ≤ m → f_X6_takeFrom p q S' = upR S' p (S.1 q) := fun p q m S' a b c d => by
      unfold f_X6_takeFrom
      rw [if_neg a, b, c, List.take_of_length_le d]
    unfold f_X4_takeFrom
    dsimp only [jn]
    rw [t (29 + 1) (5 + 1) 8 S (by decide) rfl (by rw [show 29 + 1 + 1 = 31 by rfl, Ln31]) (hl 6 (by decide))]
    rw [t (29 + 3) (5 + 3) 8 _ (by decide) (by simp [upR]) (by rw [show 29 + 3 + 1 = 33 by rfl, Ln33]) (hl 8 (by decide))]
    rw [t (29 + 5) (5 + 5) 8 _ (by decide) (by simp [upR]) (by rw [show 29 + 5 + 1 = 35 by rfl, Ln35]) (hl 10 (by decide))]
    rw [t (29 + 7) (5 + 7) 8 _ (by decide) (by simp [upR]) (by rw [show 29 + 7 + 1 = 37 by rfl, Ln37]) (hl 12 (by decide))]
    rw [t (29 + 9) (5 + 9) 8 _ (by decide) (by simp [upR]) (by rw [show 29 + 9 + 1 = 39 by rfl, Ln39]) (hl 14 (by decide))]
    rw [t (29 + 11) (5 + 11) 8 _ (by decide) (by simp [upR]) (by rw [show 29 + 11 + 1 = 41 by rfl, Ln41]) (hl 16 (by decide))]
    rw [t (29 + 13) (5 + 13) 8 _ (by decide) (by simp [upR]) (by rw [show 29 + 13 + 1 = 43 by rfl, Ln43]) (hl 18 (by decide))]
    rw [t (29 + 15) (5 + 15) 8 _ (by decide) (by simp [upR]) (by rw [show 29 + 15 + 1 = 45 by rfl, Ln45]) (hl 20 (by decide))]
    rw [t (29 + 17) (5 + 17) 16 _ (by decide) (by simp [upR]) (by rw [show 29 + 17 + 1 = 47 by rfl, Ln47]) h22]
    have e : ∀ (M : Sst) (v : Int), (upS M 29 10 v).2 5 11 = M.2 5 11 := fun M v => upS_ne (Or.inl (by decide))
    rw [e]
    rfl
  rw [key]
  refine ⟨fun k hk => ?_, fun k hk => ?_, ?_, ?_, fun k j hk => ?_⟩
  · simp at hk
    rcases hk with rfl | rfl | rfl | rfl | rfl | rfl | rfl | rfl | rfl <;> simp [upR, upS]
  · simp at hk
    simp [upR, upS, hk]
  · simp [upR, upS, up2]
  · simp [upR, upS, up2]
  · simp [upR, upS, up2, hk]
theorem lowB_congr {g g' : Sg} {n i m : Nat} (hi : i < n) (h : ∀ k, k < n → sga g' k = sga g k ∧ sgu g' k = sgu g k ∧ sgb g' k = sgb g k ∧ sgv g' k = sgv g k) (hl : lowB g n i m) : lowB g' n i m := by
  refine ⟨hl.1, fun k => ?_⟩
  rw [hl.2 k]
  constructor
  · rintro ⟨a, b⟩
    have hh := h i hi
    have hk := h k a
    refine ⟨a, b.1, ?_⟩
    have w1 : gW g' i = gW g i := by unfold gW; rw [hh.1, hh.2.2.1]
    have w2 : gW g' k = gW g k := by unfold gW; rw [hk.1, hk.2.2.1]
    have r1 : gR g' i = gR g i := by unfold gR; rw [hh.2.1, hh.2.2.2]
    have r2 : gR g' k = gR g k := by unfold gR; rw [hk.2.1, hk.2.2.2]
    have lo : gLo g' i k = gLo g i k := by unfold gLo; rw [hh.1, hk.1]
    have d : ∀ x, gD g' i k x = gD g i k x := fun x => by unfold gD gF; rw [w1, w2, r1, r2, hh.1, hh.2.1, hk.1, hk.2.1]
    have s : gS g' i k = gS g i k := by unfold gS; rw [w1, w2, r1, r2]
    unfold ovP hiP at *
    rw [lo, d, s, hh.1, hh.2.2.1, hk.1, hk.2.2.1]
    exact b.2
  · rintro ⟨a, b⟩
    have hh := h i hi
    have hk := h k a
    refine ⟨a, b.1, ?_⟩
    have w1 : gW g' i = gW g i := by unfold gW; rw [hh.1, hh.2.2.1]
    have w2 : gW g' k = gW g k := by unfold gW; rw [hk.1, hk.2.2.1]
    have r1 : gR g' i = gR g i := by unfold gR; rw [hh.2.1, hh.2.2.2]
    have r2 : gR g' k = gR g k := by unfold gR; rw [hk.2.1, hk.2.2.2]
    have lo : gLo g' i k = gLo g i k := by unfold gLo; rw [hh.1, hk.1]
    have d : ∀ x, gD g' i k x = gD g i k x := fun x => by unfold gD gF; rw [w1, w2, r1, r2, hh.1, hh.2.1, hk.1, hk.2.1]
    have s : gS g' i k = gS g i k := by unfold gS; rw [w1, w2, r1, r2]
    unfold ovP hiP at *
    rw [lo, d, s, hh.1, hh.2.2.1, hk.1, hk.2.2.1] at b
    exact b.2
/-- the class, from the settled draft on -/
def mapE (S : Sst) : Sst := f_X6_clear 3 (f_X9_forget (f_X0_forget (upS (upS (upS (f_X7_restart 74 (f_X4_takeFrom 29 5 (f_X6_clear 1 S))) 140 16 0) 173 16 0) 206 16 0)))
theorem mapE_ok {S : Sst} {g : Sg} {c ne : Nat} {lo : Nat → Nat} {w ev : Nat → Int} (hR : RPl 5 S g c) (hc : c ≤ 8) (hne : ne ≤ 16) (h18 : S.1 18 = rg c (fun k => (lo k : Int))) (h20 : S.1 20 = rg c w) (h22 : S.1 22 = rg ne ev) : (mapE S).1 1 = [] ∧ (mapE S).1 3 = [] ∧ RPl 29 (mapE S) g c ∧ (mapE S).1 42 = rg c (fun k => (lo k : Int)) ∧ (mapE S).1 44 = rg c w ∧ (mapE S).1 46 = rg ne ev ∧ (mapE S).2 29 10 = S.2 5 10 ∧ (mapE S).2 29 11 = S.2 5 11 ∧ RepD 74 (mapE S) D00 ∧ (∀ j, j < 6 → (mapE S).1 (74 + 1 + 2 * j) = [if j = 4 then -1 else 0]) ∧ (mapE S).1 240 = [] ∧ (mapE S).2 239 1 = 0 ∧ (∀ b, b < 3 → (mapE S).2 (140 + 33 * b) 16 = 0) ∧ ((mapE S).1 254 = [] ∧ (mapE S).1 256 = [] ∧ (mapE S).1 258 = [] ∧ (mapE S).1 260 = []) ∧ ∀ k j, k ≠ 29 → ¬ (k = 140 ∧ j = 16) → ¬ (k = 173 ∧ j = 16) → ¬ (k = 206 ∧ j = 16) → ¬ (k = 239 ∧ j = 1) → (mapE S).2 k j = S.2 k j := by
  obtain ⟨r1, r2, r3, r4, r5, r6⟩ := hR
  have hl : ∀ k, k ∈ [6, 8, 10, 12, 14, 16, 18, 20] → ((f_X6_clear 1 S).1 k).length ≤ 8 := fun k hk => by
    have : (f_X6_clear 1 S).1 k = S.1 k := upR_ne _ _ (fun e => by subst e; revert hk; decide)
    rw [this]
    simp at hk
    rcases hk with rfl | rfl | rfl | rfl | rfl | rfl | rfl | rfl
    · rw [show S.1 6 = _ from r1, rg_len]; exact hc
    · rw [show S.1 8 = _ from r2, rg_len]; exact hc
    · rw [show S.1 10 = _ from r3, rg_len]; exact hc
    · rw [show S.1 12 = _ from r4, rg_len]; exact hc
    · rw [show S.1 14 = _ from r5, rg_len]; exact hc
    · rw [show S.1 16 = _ from r6, rg_len]; exact hc
    · rw [h18, rg_len]; exact hc
    · rw [h20, rg_len]; exact hc
  obtain ⟨t1, t2, t3, t4, t5⟩ := cl_takeP hl (by rw [show (f_X6_clear 1 S).1 22 = S.1 22 from upR_ne _ _ (by decide), h22, rg_len]; exact hne)
  obtain ⟨q1, q2, q3, q4⟩ := cl_restart (p := 74) (by unfold stP; omega) (f_X4_takeFrom 29 5 (f_X6_clear 1 S))
  -- rows behind the forgetting
  have hrow : ∀ k, k ≠ 3 → k ≠ 240 → k ≠ 254 → k ≠ 256 → k ≠ 258 → k ≠ 260 → (mapE S).1 k = (f_X7_restart 74 (f_X4_takeFrom 29 5 (f_X6_clear 1 S))).1 k := fun k a b c d e f => by
    unfold mapE f_X9_forget f_X0_forget f_X6_clear
    dsimp only [jn]
    rw [upR_ne _ _ a, upR_ne _ _ f, upR_ne _ _ e, upR_ne _ _ d, upR_ne _ _ c]
    show (upR _ 240 []).1 k = _
    rw [upR_ne _ _ b]
    rfl
  have hint : ∀ k j, (mapE S).2 k j = (upS (upS (upS (upS (f_X7_restart 74 (f_X4_takeFrom 29 5 (f_X6_clear 1 S))) 140 16 0) 173 16 0) 206 16 0) 239 1 0).2 k j := fun k j => rfl
  have hold : ∀ k, k ∉ [1, 3, 240, 254, 256, 258, 260, 30, 32, 34, 36, 38, 40, 42, 44, 46] → ¬ (75 ≤ k ∧ k ≤ 105) → (mapE S).1 k = S.1 k := fun k hk h74 => by
    have hk' := hk
    simp at hk'
    rw [hrow k (by omega) (by omega) (by omega) (by omega) (by omega) (by omega), q3 k (by omega), t2 k (by simp; omega)]
    exact upR_ne _ _ (by omega)
  have h24 : ∀ k, k ∈ [6, 8, 10, 12, 14, 16, 18, 20, 22] → (mapE S).1 (k + 24) = S.1 k := fun k hk => by
    have hk' := hk
    simp at hk'
    rw [hrow (k + 24) (by omega) (by omega) (by omega) (by omega) (by omega) (by omega), q3 (k + 24) (by omega), t1 k hk]
    exact upR_ne _ _ (by omega)
  refine ⟨?_, upR_at _ _ _, ⟨?_, ?_, ?_, ?_, ?_, ?_⟩, ?_, ?_, ?_, ?_, ?_, ?_, fun j hj => ?_, ?_, ?_, fun b hb => ?_, ⟨?_, ?_, ?_, ?_⟩, fun k j a b c d e => ?_⟩
  · rw [hrow 1 (by decide) (by decide) (by decide) (by decide) (by decide) (by decide), q3 1 (by decide), t2 1 (by decide)]
    exact upR_at _ _ _
  · rw [show 29 + 1 = 6 + 24 by rfl, h24 6 (by decide)]; exact r1
  · rw [show 29 + 3 = 8 + 24 by rfl, h24 8 (by decide)]; exact r2
  · rw [show 29 + 5 = 10 + 24 by rfl, h24 10 (by decide)]; exact r3
  · rw [show 29 + 7 = 12 + 24 by rfl, h24 12 (by decide)]; exact r4
  · rw [show 29 + 9 = 14 + 24 by rfl, h24 14 (by decide)]; exact r5
  · rw [show 29 + 11 = 16 + 24 by rfl, h24 16 (by decide)]; exact r6
  · rw [show 42 = 18 + 24 by rfl, h24 18 (by decide)]; exact h18
  · rw [show 44 = 20 + 24 by rfl, h24 20 (by decide)]; exact h20
  · rw [show 46 = 22 + 24 by rfl, h24 22 (by decide)]; exact h22
  · rw [hint, upS_ne (Or.inl (by decide)), upS_ne (Or.inl (by decide)), upS_ne (Or.inl (by decide)), upS_ne (Or.inl (by decide)), q4, t3]
    rfl
  · rw [hint, upS_ne (Or.inl (by decide)), upS_ne (Or.inl (by decide)), upS_ne (Or.inl (by decide)), upS_ne (Or.inl (by decide)), q4, t4]
    rfl
  · refine ⟨fun j hj => ?_, fun j hj => ?_, ?_⟩
    · rw [hrow _ (by omega) (by omega) (by omega) (by omega) (by omega) (by omega)]; exact q1.1 j hj
    · rw [hrow _ (by omega) (by omega) (by omega) (by omega) (by omega) (by omega)]; exact q1.2.1 j hj
    · rw [hrow _ (by omega) (by omega) (by omega) (by omega) (by omega) (by omega)]; exact q1.2.2
  · rw [hrow _ (by omega) (by omega) (by omega) (by omega) (by omega) (by omega)]; exact q2 j hj
  · unfold mapE f_X9_forget f_X0_forget f_X6_clear
    dsimp only [jn]
    rw [upR_ne _ _ (by decide), upR_ne _ _ (by decide), upR_ne _ _ (by decide), upR_ne _ _ (by decide), upR_ne _ _ (by decide)]
    exact upR_at (upS (upS (upS (f_X7_restart 74 (f_X4_takeFrom 29 5 (upR S 1 []))) 140 16 0) 173 16 0) 206 16 0) 240 []
  · rw [hint, upS_same]
  · rw [hint]
    obtain rfl | rfl | rfl : b = 0 ∨ b = 1 ∨ b = 2 := by omega
    · rw [upS_ne (Or.inl (by decide)), upS_ne (Or.inl (by decide)), upS_ne (Or.inl (by decide)), upS_same]
    · rw [upS_ne (Or.inl (by decide)), upS_ne (Or.inl (by decide)), upS_same]
    · rw [upS_ne (Or.inl (by decide)), upS_same]
  · unfold mapE f_X9_forget f_X6_clear
    dsimp only [jn]
    rw [upR_ne _ _ (by decide), upR_ne _ _ (by decide), upR_ne _ _ (by decide), upR_ne _ _ (by decide), upR_at]
  · unfold mapE f_X9_forget f_X6_clear
    dsimp only [jn]
    rw [upR_ne _ _ (by decide), upR_ne _ _ (by decide), upR_ne _ _ (by decide), upR_at]
  · unfold mapE f_X9_forget f_X6_clear
    dsimp only [jn]
    rw [upR_ne _ _ (by decide), upR_ne _ _ (by decide), upR_at]
  · unfold mapE f_X9_forget f_X6_clear
    dsimp only [jn]
    rw [upR_ne _ _ (by decide), upR_at]
  · rw [hint, upS_ne (by omega), upS_ne (by omega), upS_ne (by omega), upS_ne (by omega), q4, t5 k j a]
    rfl
