/-! LEVEL 3, bf: map -/
theorem Inv_frE {S S' : Sst} {O O' : Smo} (h : Inv S O) (hS : ∀ k, k ≠ 1 → k ≠ 57 → ¬ (6 ≤ k ∧ k ≤ 28) → S'.1 k = S.1 k) (hS2 : ∀ k j, ¬ (5 ≤ k ∧ k ≤ 28) → ¬ (53 ≤ k ∧ k ≤ 56) → S'.2 k j = S.2 k j) (hO : FrE O O') (hT : ITape S' O') (hX : ILex S' O') : Inv S' O' := by
  obtain ⟨n, ne, slots, lo, v, tp, bs, h1, h2, h3, h4, h5, h6, h7, h8⟩ := h
  have oR : ∀ k, k ≠ 262 → ¬ (264 ≤ k ∧ k ≤ 265) → k ≠ 268 → ¬ (271 ≤ k ∧ k ≤ 275) → O' k = O k := fun k a b c d => hO.1 k (by simp; omega) a
  have o : ∀ k, 276 ≤ k → k ≤ 281 → O' k = O k := fun k a b => oR k (by omega) (by omega) (by omega) (by omega)
  have i : ∀ j, j = 20 ∨ j = 39 ∨ j = 40 ∨ j = 45 ∨ j = 47 ∨ j = 48 ∨ j = 49 ∨ j = 62 ∨ j = 73 ∨ j = 74 → O' 262 j = O 262 j := fun j hj => hO.2 j (by simp; omega)
  exact ⟨n, ne, slots, lo, v, tp, bs, hT, ILie_fr h2 (hS _ (by omega) (by omega) (by omega)) (oR _ (by omega) (by omega) (by omega) (by omega)) (i _ (by omega)), hX,
    IPlan_fr h4 (fun k a b => hS _ (by omega) (by omega) (by omega)) ⟨hS2 _ _ (by omega) (by omega), hS2 _ _ (by omega) (by omega)⟩ o ⟨i _ (by omega), i _ (by omega), i _ (by omega), i _ (by omega)⟩,
    IVer_fr h5 (fun k a b => hS _ (by omega) (by omega) (by omega)) o (oR _ (by omega) (by omega) (by omega) (by omega)) ⟨i _ (by omega), i _ (by omega), i _ (by omega)⟩,
    IAct_fr h6 (hS2 _ _ (by omega) (by omega)) (hS _ (by omega) (by omega) (by omega)) o (oR _ (by omega) (by omega) (by omega) (by omega)),
    IBox_fr h7 (fun k a b => hS _ (by omega) (by omega) (by omega)) (fun b hb => hS2 _ _ (by omega) (by omega)) o (fun k a b => oR _ (by omega) (by omega) (by omega) (by omega)),
    ITold_fr h8 (fun k a b => hS _ (by omega) (by omega) (by omega)) (hS2 _ _ (by omega) (by omega)) (fun k a b => oR _ (by omega) (by omega) (by omega) (by omega)) ⟨i _ (by omega), i _ (by omega)⟩ (fun i _ => by rw [oR 282 (by omega) (by omega) (by omega) (by omega)])⟩
/-- a store with version 0 alone -/
theorem A0_m {A : Nat → Int} (hA : ∀ i, i < 205 → A i = 0) : mA A 0 = 0 ∧ nA A 0 = 0 ∧ cA A 0 = 0 := by
  unfold mA nA cA
  rw [hA _ (by decide), hA _ (by decide), hA _ (by decide)]
  exact ⟨rfl, rfl, rfl⟩
theorem sto0 {A : Nat → Int} (hA : ∀ i, i < 205 → A i = 0) (g : Sg) (n ne slots : Nat) (w ev : Nat → Int) : stoA g n ne w ev slots A 0 := by
  obtain ⟨m1, m2, m3⟩ := A0_m hA
  have nb : ∀ k, ¬ (mA A 0).testBit k = true := fun k => by rw [m1, Nat.zero_testBit]; decide
  refine ⟨⟨fun u hu => ?_, ⟨m2, fun u hu => ?_, fun u hu => by omega⟩, fun k hk => ?_, fun u hu s hs => ?_⟩, fun u hu => by omega, fun u hu => ?_, fun u hu => by omega⟩
  · obtain rfl : u = 0 := by omega
    refine ⟨?_, by rw [m1]; decide, fun k hk => absurd hk (nb k)⟩
    rw [hA _ (by decide), m1]; rfl
  · obtain rfl : u = 0 := by omega
    rw [hA _ (by decide), m2]; rfl
  · rw [m2] at hk; omega
  · obtain rfl : u = 0 := by omega
    exact absurd hs (nb s)
  · obtain rfl : u = 0 := by omega
    refine ⟨⟨⟨by rw [m1]; decide, fun k hk => absurd hk (nb k)⟩, ?_⟩, ?_, by rw [m3]; decide, 0, ?_, Nat.zero_le _, ?_, fun s hs => absurd hs (nb s)⟩
    · rw [hA 0 (by decide)]; decide
    · rw [hA _ (by decide), m3]; rfl
    · rw [hA _ (by decide)]; rfl
    · rw [hA 0 (by decide), if_pos rfl]
theorem rep0 {p : Nat} {S : Sst} {A : Nat → Int} (hA : ∀ i, i < 205 → A i = 0) (hD : RepD p S D00) (hr : ∀ j, j < 6 → S.1 (p + 1 + 2 * j) = [if j = 4 then -1 else 0]) (g : Sg) (w : Nat → Int) (slots : Nat) : RepS p S g w slots A 0 := by
  obtain ⟨m1, m2, m3⟩ := A0_m hA
  have hrow : rowF g (mA A 0) (A 0) = [] := by rw [m1]; rfl
  have h0 := hr 0 (by decide)
  have h1 := hr 1 (by decide)
  have h2 := hr 2 (by decide)
  have h3 := hr 3 (by decide)
  have h4 := hr 4 (by decide)
  have h5 := hr 5 (by decide)
  refine ⟨?_, ?_, ?_, ?_, ?_, ?_, RepD_eq hD ⟨?_, fun k hk => absurd hk (Nat.not_lt_zero k), fun k hk => ?_⟩⟩
  · rw [show p + 1 = p + 1 + 2 * 0 by omega, h0]
    show [(0 : Int)] = [A 0]
    rw [hA 0 (by decide)]
  · rw [show p + 3 = p + 1 + 2 * 1 by omega, h1]
    show [(0 : Int)] = [A (41 + 0)]
    rw [hA _ (by decide)]
  · rw [show p + 5 = p + 1 + 2 * 2 by omega, h2]
    show [(0 : Int)] = [A (82 + 0)]
    rw [hA _ (by decide)]
  · rw [show p + 7 = p + 1 + 2 * 3 by omega, h3]
    show [(0 : Int)] = [A (123 + 0)]
    rw [hA _ (by decide)]
  · rw [show p + 9 = p + 1 + 2 * 4 by omega, h4]
    show [(-1 : Int)] = [rtA g w A 0]
    unfold rtA
    rw [hrow]
    rfl
  · rw [show p + 11 = p + 1 + 2 * 5 by omega, h5]
    rfl
  · show 0 = nA A 0
    exact m2.symm
  · show (if 9 = 9 then (-1 : Int) else 0) = ndA A k 0
    unfold ndA
    rw [if_pos rfl, if_neg (by omega), m1, if_neg (by rw [Nat.zero_testBit]; decide)]
