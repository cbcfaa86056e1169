/-! LEVEL 3, ad: a store begun anew -/
def D00 : Dt := (0, fun j _ => if j = 9 then -1 else 0)
theorem keep_0 (q : Nat) (S : Sst) : f_X6_keep q 0 S = upR S q [] := by
  unfold f_X6_keep
  simp
theorem add_nil {S : Sst} {q : Nat} (v : Int) (h : S.1 q = []) (hl : 0 < Ln (q + 1)) : f_X6_add q v S = upR S q [v] := by
  unfold f_X6_add
  rw [h, if_pos (by simpa using hl)]
  rfl
theorem cl_restart {p : Nat} (hp : stP p) (S : Sst) : RepD p (f_X7_restart p S) D00 ∧ (∀ j, j < 6 → (f_X7_restart p S).1 (p + 1 + 2 * j) = [if j = 4 then -1 else 0]) ∧ (∀ k, (k < p + 1 ∨ p + 31 < k) → (f_X7_restart p S).1 k = S.1 k) ∧ (f_X7_restart p S).2 = S.2 := by
  obtain ⟨l1, l2, l3, l4⟩ := lnS hp
  have l10 := l1 0 (by decide)
  have l11 := l1 1 (by decide)
  have l12 := l1 2 (by decide)
  have l13 := l1 3 (by decide)
  have l14 := l1 4 (by decide)
  have l15 := l1 5 (by decide)
  have w0 : wr (0 * 6) = 0 := by decide +kernel
  have hf : ∀ S', f_X6_fill (p + 31) 8 (-1) S' = upR S' (p + 31) (rg 8 (fun _ => -1)) := fun S' => by
    unfold f_X6_fill
    rw [l4]
    exact congrArg (upR S' (p + 31)) (rg_rep 8 (-1))
  have key : f_X7_restart p S = upR (upR (upR (upR (upR (upR (upR (upR (upR (upR (upR (upR (upR (upR (upR (upR (upR (upR (upR (upR (upR (upR S (p + 1) []) (p + 3) []) (p + 5) []) (p + 7) []) (p + 9) []) (p + 11) []) (p + 13) []) (p + 15) []) (p + 17) []) (p + 19) []) (p + 21) []) (p + 23) []) (p + 25) []) (p + 27) []) (p + 29) []) (p + 31) (rg 8 (fun _ => -1))) (p + 1) [0]) (p + 3) [0]) (p + 5) [0]) (p + 7) [0]) (p + 9) [-1]) (p + 11) [0] := by
    unfold f_X7_restart f_X7_keepVersions f_X7_keepNodes f_X7_addVersion
    dsimp only [jn]
    rw [w0]
    simp only [keep_0, hf]
    rw [add_nil (q := p + 1) 0 (by simp [upR]) (by rw [show p + 1 + 1 = p + 1 + 2 * 0 + 1 by omega, l10]; decide)]
    rw [add_nil (q := p + 3) 0 (by simp [upR]) (by rw [show p + 3 + 1 = p + 1 + 2 * 1 + 1 by omega, l11]; decide)]
    rw [add_nil (q := p + 5) 0 (by simp [upR]) (by rw [show p + 5 + 1 = p + 1 + 2 * 2 + 1 by omega, l12]; decide)]
    rw [add_nil (q := p + 7) 0 (by simp [upR]) (by rw [show p + 7 + 1 = p + 1 + 2 * 3 + 1 by omega, l13]; decide)]
    rw [add_nil (q := p + 9) (-1) (by simp [upR]) (by rw [show p + 9 + 1 = p + 1 + 2 * 4 + 1 by omega, l14]; decide)]
    rw [add_nil (q := p + 11) 0 (by simp [upR]) (by rw [show p + 11 + 1 = p + 1 + 2 * 5 + 1 by omega, l15]; decide)]
  rw [key]
  refine ⟨⟨fun j hj => ?_, fun j hj => ?_, ?_⟩, fun j hj => ?_, fun k hk => ?_, rfl⟩
  · obtain rfl | rfl | rfl | rfl | rfl | rfl : j = 0 ∨ j = 1 ∨ j = 2 ∨ j = 3 ∨ j = 4 ∨ j = 5 := by omega
    all_goals simp [upR, D00, rg]
  · refine ⟨fun _ => 0, ?_, fun k c hk => absurd hk (Nat.not_lt_zero k)⟩
    obtain rfl | rfl | rfl : j = 0 ∨ j = 1 ∨ j = 2 := by omega
    all_goals simp [upR, D00, rg]
  · simp [upR, D00]
  · obtain rfl | rfl | rfl | rfl | rfl | rfl : j = 0 ∨ j = 1 ∨ j = 2 ∨ j = 3 ∨ j = 4 ∨ j = 5 := by omega
    all_goals simp [upR]
  · repeat (rw [upR_ne _ _ (by omega)])
