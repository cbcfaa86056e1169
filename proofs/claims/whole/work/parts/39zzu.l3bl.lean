/-! LEVEL 3, bl: the law is true -/
def lwB (xs : Nat → Int) (L : Nat) (s : Int × Sst × Smo) : Option ((Int × Sst × Smo) ⊕ ((Sst × Smo) ⊕ Unit)) :=
  if wr ((L : Int) - 6) < s.1 then some (.inr (.inl (s.2.1, s.2.2))) else Option.bind (aget xs L s.1) (fun v => lw_0 xs L s.1 s.2.1 s.2.2 v)
set_option maxRecDepth 100000 in
theorem law_eq (xs : Nat → Int) (L : Nat) (S : Sst) (O : Smo) : f_law xs L S O = Option.bind (f_X11_init_0 S) (fun q => Option.bind (lp (lwB xs L) FU (0, q, f_X12_init_262 O)) (fun z => Sum.elim (fun (_ : Sst × Smo) => some 1) (fun (_ : Unit) => some 0) z)) := rfl
theorem law_all (xs : Nat → Int) (L : Nat) (hL : L ≤ 3072) {S : Sst} {O : Smo} (h1 : ∀ k, S.1 k = []) (h2 : ∀ k j, S.2 k j = 0) (h3 : ∀ k j, O k j = 0) : f_law xs L S O = some 1 := by
  obtain ⟨S', e, hI⟩ := init_ok h1 h2 h3
  rw [law_eq, e]
  dsimp only [Option.bind_some]
  refine Ret_eq (Ret_bind (P := fun z => ∃ p, z = Sum.inl p) (Ret_lpm (fun s => ∃ (i : Nat) (S1 : Sst) (O1 : Smo), s = ((i : Int), S1, O1) ∧ i ≤ 3078 ∧ Inv S1 O1) (fun s => 4000 - s.1.toNat) ⟨0, S', _, rfl, by decide, hI⟩ (by show 4000 - (0:Int).toNat < 4294967296; decide) (fun s hs => ?_)) (fun z hz => ?_))
  · obtain ⟨i, S1, O1, rfl, hi, hInv⟩ := hs
    unfold lwB
    dsimp only
    rw [wr_id (z := (L : Int) - 6) (by omega) (by omega)]
    by_cases c : (L : Int) - 6 < (i : Int)
    · rw [if_pos c]
      exact Ret_some (Or.inr ⟨_, rfl, _, rfl⟩)
    · rw [if_neg c, aget_nat (show i < L by omega)]
      dsimp only [Option.bind_some]
      obtain ⟨q, e1, S2, O2, rfl, h2⟩ := lw_0_ok (xs := xs) (v := xs i) hL (show i + 6 ≤ L by omega) hInv
      rw [e1]
      exact Ret_some (Or.inl ⟨_, rfl, ⟨i + 6, S2, O2, by simp, by omega, h2⟩, by dsimp only; omega⟩)
  · obtain ⟨p, rfl⟩ := hz
    exact Ret_some rfl
