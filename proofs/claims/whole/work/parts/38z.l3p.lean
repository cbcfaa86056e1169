/-! LEVEL 3, p: the class makes a version -/
def stP (p : Nat) : Prop := p = 74 ∨ p = 107 ∨ p = 140 ∨ p = 173 ∨ p = 206
theorem lnS {p : Nat} (h : stP p) : (∀ j, j < 6 → Ln (p + 1 + 2 * j + 1) = 41) ∧ (∀ j, j < 6 → Ln (p + 13 + 2 * j + 1) = 320) ∧ (∀ j, j < 3 → Ln (p + 25 + 2 * j + 1) = 1920) ∧ Ln (p + 31 + 1) = 8 := by
  rcases h with rfl | rfl | rfl | rfl | rfl <;> decide +kernel
theorem add_row {S : Sst} {q n : Nat} {f : Nat → Int} (v : Int) (h : S.1 q = rg n f) (hn : n < Ln (q + 1)) : ∃ S', f_X6_add q v S = S' ∧ S'.1 q = rg (n + 1) (updI f n v) ∧ (∀ k, k ≠ q → S'.1 k = S.1 k) ∧ S'.2 = S.2 :=
  ⟨_, add_rg h hn, upR_at _ _ _, fun k hk => upR_ne _ _ hk, rfl⟩
theorem put_row {S : Sst} {q n k : Nat} {f : Nat → Int} (v : Int) (h : S.1 q = rg n f) : ∃ S', f_X6_put q (k : Int) v S = S' ∧ S'.1 q = rg n (updI f k v) ∧ (∀ k, k ≠ q → S'.1 k = S.1 k) ∧ S'.2 = S.2 :=
  ⟨_, put_rg h, upR_at _ _ _, fun k hk => upR_ne _ _ hk, rfl⟩
def FrS (p : Nat) (S S' : Sst) : Prop := S'.2 = S.2 ∧ ∀ k, (k < p + 13 ∨ p + 31 < k) → S'.1 k = S.1 k
theorem FrS_refl (p : Nat) (S : Sst) : FrS p S S := ⟨rfl, fun _ _ => rfl⟩
theorem FrS_trans {p : Nat} {S S' S'' : Sst} (h1 : FrS p S S') (h2 : FrS p S' S'') : FrS p S S'' := ⟨h2.1.trans h1.1, fun k hk => (h2.2 k hk).trans (h1.2 k hk)⟩
theorem newest_row {p u : Nat} {S : Sst} (h : (S.1 (p + 1)).length = u + 1) (hu : u ≤ 40) : f_X7_newest p S = (u : Int) := by
  unfold f_X7_newest f_X6_size
  rw [h, wr_id (by omega) (by omega)]
  omega
theorem cl_make {p : Nat} {S : Sst} {D : Dt} {s u : Nat} {l r cp : Int} (hp : stP p) (h : RepD p S D) (hN : D.1 < 320) (h6 : ∀ k, k < D.1 → dUsed D k ≤ 6) (hs : s < 8) (hst : (S.1 (p + 1)).length = u + 1) (hu : u ≤ 40) :
    Ret (f_X7_make p s l r cp S) (fun S' => RepD p S' (mkD D s (u + 1) l r cp) ∧ FrS p S S') := by
  obtain ⟨_, hl1, hl2, hl3⟩ := lnS hp
  obtain ⟨hr, hsl, hh⟩ := h
  have r0 := hr 0 (by decide)
  have r1 := hr 1 (by decide)
  have r2 := hr 2 (by decide)
  have r3 := hr 3 (by decide)
  have r4 := hr 4 (by decide)
  have r5 := hr 5 (by decide)
  have l0 := hl1 0 (by decide)
  have l1 := hl1 1 (by decide)
  have l2 := hl1 2 (by decide)
  have l3 := hl1 3 (by decide)
  have l4 := hl1 4 (by decide)
  have l5 := hl1 5 (by decide)
  have m0 := hl2 0 (by decide)
  have m1 := hl2 1 (by decide)
  have m2 := hl2 2 (by decide)
  simp only [Nat.mul_zero, Nat.add_zero, Nat.mul_one, Nat.reduceMul, Nat.add_assoc, Nat.reduceAdd] at r0 r1 r2 r3 r4 r5 l0 l1 l2 l3 l4 l5 m0 m1 m2
  unfold f_X7_make
  dsimp only [jn]
  rw [size_rg r0]
  obtain ⟨S1, e1, a1, b1, c1⟩ := put_row (k := s) (D.1 : Int) hh
  rw [e1]
  obtain ⟨S2, e2, a2, b2, c2⟩ := add_row (s : Int) (show S1.1 (p + 13) = _ by rw [b1 _ (by omega), r0]) (by rw [Nat.add_assoc, l0]; omega)
  rw [e2]
  have hn2 : f_X7_newest p S2 = (u : Int) := newest_row (by rw [b2 _ (by omega), b1 _ (by omega)]; exact hst) hu
  rw [hn2, wr_id (by omega) (by omega)]
  obtain ⟨S3, e3, a3, b3, c3⟩ := add_row ((u : Int) + 1) (show S2.1 (p + 15) = _ by rw [b2 _ (by omega), b1 _ (by omega), r1]) (by rw [Nat.add_assoc, l1]; omega)
  rw [e3]
  obtain ⟨S4, e4, a4, b4, c4⟩ := add_row l (show S3.1 (p + 17) = _ by rw [b3 _ (by omega), b2 _ (by omega), b1 _ (by omega), r2]) (by rw [Nat.add_assoc, l2]; omega)
  rw [e4]
  obtain ⟨S5, e5, a5, b5, c5⟩ := add_row r (show S4.1 (p + 19) = _ by rw [b4 _ (by omega), b3 _ (by omega), b2 _ (by omega), b1 _ (by omega), r3]) (by rw [Nat.add_assoc, l3]; omega)
  rw [e5]
  obtain ⟨S6, e6, a6, b6, c6⟩ := add_row 0 (show S5.1 (p + 21) = _ by rw [b5 _ (by omega), b4 _ (by omega), b3 _ (by omega), b2 _ (by omega), b1 _ (by omega), r4]) (by rw [Nat.add_assoc, l4]; omega)
  rw [e6]
  obtain ⟨S7, e7, a7, b7, c7⟩ := add_row cp (show S6.1 (p + 23) = _ by rw [b6 _ (by omega), b5 _ (by omega), b4 _ (by omega), b3 _ (by omega), b2 _ (by omega), b1 _ (by omega), r5]) (by rw [Nat.add_assoc, l5]; omega)
  rw [e7]
  have tail : ∀ k, 24 + p ≤ k → k ≤ 30 + p → S7.1 k = S.1 k := fun k h1 h2 => by
    rw [b7 _ (by omega), b6 _ (by omega), b5 _ (by omega), b4 _ (by omega), b3 _ (by omega), b2 _ (by omega), b1 _ (by omega)]
  obtain ⟨f0, g0, k0⟩ := hsl 0 (by decide)
  obtain ⟨f1, g1, k1⟩ := hsl 1 (by decide)
  obtain ⟨f2, g2, k2⟩ := hsl 2 (by decide)
  simp only [Nat.mul_zero, Nat.add_zero, Nat.mul_one, Nat.reduceMul, Nat.add_assoc, Nat.reduceAdd] at g0 g1 g2 k0 k1 k2
  refine Ret_bind (P := fun S' => (∀ k, k ≠ p + 25 → k ≠ p + 27 → k ≠ p + 29 → S'.1 k = S7.1 k) ∧ S'.2 = S7.2 ∧ (∃ f, S'.1 (p + 25) = rg (6 * D.1 + 6) f ∧ ∀ i, i < 6 * D.1 → f i = f0 i) ∧ (∃ f, S'.1 (p + 27) = rg (6 * D.1 + 6) f ∧ ∀ i, i < 6 * D.1 → f i = f1 i) ∧ ∃ f, S'.1 (p + 29) = rg (6 * D.1 + 6) f ∧ ∀ i, i < 6 * D.1 → f i = f2 i)
    (Ret_lp (fun c q => q.1 = (c : Int) ∧ (∀ k, k ≠ p + 25 → k ≠ p + 27 → k ≠ p + 29 → q.2.1 k = S7.1 k) ∧ q.2.2 = S7.2 ∧ (∃ f, q.2.1 (p + 25) = rg (6 * D.1 + c) f ∧ ∀ i, i < 6 * D.1 → f i = f0 i) ∧ (∃ f, q.2.1 (p + 27) = rg (6 * D.1 + c) f ∧ ∀ i, i < 6 * D.1 → f i = f1 i) ∧ ∃ f, q.2.1 (p + 29) = rg (6 * D.1 + c) f ∧ ∀ i, i < 6 * D.1 → f i = f2 i) 6 (by decide)
      ⟨rfl, fun _ _ _ _ => rfl, rfl, ⟨f0, by rw [tail _ (by omega) (by omega)]; exact g0, fun _ _ => rfl⟩, ⟨f1, by rw [tail _ (by omega) (by omega)]; exact g1, fun _ _ => rfl⟩, ⟨f2, by rw [tail _ (by omega) (by omega)]; exact g2, fun _ _ => rfl⟩⟩ (fun c q hc hI => ?_) (fun q hI => ?_)) (fun S8 h8 => ?_)
  · obtain ⟨z, T⟩ := q
    obtain ⟨rfl, i1, i2, ⟨w0, x0, y0⟩, ⟨w1, x1, y1⟩, w2, x2, y2⟩ := hI
    dsimp only at *
    rw [if_pos (by omega)]
    obtain ⟨T1, t1, t2, t3, t4⟩ := add_row (-1) x0 (by rw [Nat.add_assoc, m0]; omega)
    rw [t1]
    obtain ⟨T2, t5, t6, t7, t8⟩ := add_row (-1) (show T1.1 (p + 27) = _ by rw [t3 _ (by omega), x1]) (by rw [Nat.add_assoc, m1]; omega)
    rw [t5]
    obtain ⟨T3, t9, t10, t11, t12⟩ := add_row (-1) (show T2.1 (p + 29) = _ by rw [t7 _ (by omega), t3 _ (by omega), x2]) (by rw [Nat.add_assoc, m2]; omega)
    rw [t9, wr_id (by omega) (by omega)]
    refine Ret_some ⟨_, rfl, by simp, fun k h1 h2 h3 => ?_, ?_, ⟨updI w0 (6 * D.1 + c) (-1), ?_, fun i hi => ?_⟩, ⟨updI w1 (6 * D.1 + c) (-1), ?_, fun i hi => ?_⟩, ⟨updI w2 (6 * D.1 + c) (-1), t10, fun i hi => ?_⟩⟩
    · dsimp only
      rw [t11 _ h3, t7 _ h2, t3 _ h1, i1 k h1 h2 h3]
    · dsimp only
      rw [t12, t8, t4, i2]
    · dsimp only
      rw [t11 _ (by omega), t7 _ (by omega), t2]
      rfl
    · rw [upd_ne (by omega), y0 i hi]
    · dsimp only
      rw [t11 _ (by omega), t6]
      rfl
    · rw [upd_ne (by omega), y1 i hi]
    · rw [upd_ne (by omega), y2 i hi]
  · obtain ⟨z, T⟩ := q
    obtain ⟨rfl, i1, i2, i3⟩ := hI
    dsimp only at *
    rw [if_neg (by omega)]
    exact Ret_some ⟨_, rfl, i1, i2, i3⟩
  · obtain ⟨i1, i2, ⟨w0, x0, y0⟩, ⟨w1, x1, y1⟩, w2, x2, y2⟩ := h8
    have uN : ∀ k c, k < D.1 + 1 → c < dUsed (mkD D s (u + 1) l r cp) k → k < D.1 ∧ c < dUsed D k := fun k c hk hc => by
      rw [mkD_u] at hc
      by_cases e : k = D.1
      · rw [if_pos e] at hc; omega
      · rw [if_neg e] at hc; exact ⟨by omega, hc⟩
    refine Ret_some ⟨⟨fun j hj => ?_, fun j hj => ?_, ?_⟩, ?_, fun k hk => ?_⟩
    · show S8.1 (p + 13 + 2 * j) = rg (D.1 + 1) _
      rw [i1 _ (by omega) (by omega) (by omega)]
      rcases (show j = 0 ∨ j = 1 ∨ j = 2 ∨ j = 3 ∨ j = 4 ∨ j = 5 by omega) with rfl | rfl | rfl | rfl | rfl | rfl
      · rw [b7 _ (by omega), b6 _ (by omega), b5 _ (by omega), b4 _ (by omega), b3 _ (by omega), show p + 13 + 2 * 0 = p + 13 by omega, a2]
        exact rg_ext (fun k _ => by rw [mkD_0]; rfl)
      · rw [b7 _ (by omega), b6 _ (by omega), b5 _ (by omega), b4 _ (by omega), show p + 13 + 2 * 1 = p + 15 by omega, a3]
        exact rg_ext (fun k _ => by rw [mkD_1]; rfl)
      · rw [b7 _ (by omega), b6 _ (by omega), b5 _ (by omega), show p + 13 + 2 * 2 = p + 17 by omega, a4]
        exact rg_ext (fun k _ => by rw [mkD_2]; rfl)
      · rw [b7 _ (by omega), b6 _ (by omega), show p + 13 + 2 * 3 = p + 19 by omega, a5]
        exact rg_ext (fun k _ => by rw [mkD_3]; rfl)
      · rw [b7 _ (by omega), show p + 13 + 2 * 4 = p + 21 by omega, a6]
        exact rg_ext (fun k _ => by rw [mkD_4]; rfl)
      · rw [show p + 13 + 2 * 5 = p + 23 by omega, a7]
        exact rg_ext (fun k _ => by rw [mkD_5]; rfl)
    · show ∃ f, S8.1 (p + 25 + 2 * j) = rg (6 * (D.1 + 1)) f ∧ _
      rw [show 6 * (D.1 + 1) = 6 * D.1 + 6 by omega]
      rcases (show j = 0 ∨ j = 1 ∨ j = 2 by omega) with rfl | rfl | rfl
      · refine ⟨w0, by rw [show p + 25 + 2 * 0 = p + 25 by omega]; exact x0, fun k c hk hc => ?_⟩
        obtain ⟨q1, q2⟩ := uN k c hk hc
        have := h6 k q1
        rw [mkD_s _ _ _ _ _ _ _ _ (by simp), y0 _ (by omega)]
        exact k0 k c q1 q2
      · refine ⟨w1, by rw [show p + 25 + 2 * 1 = p + 27 by omega]; exact x1, fun k c hk hc => ?_⟩
        obtain ⟨q1, q2⟩ := uN k c hk hc
        have := h6 k q1
        rw [mkD_s _ _ _ _ _ _ _ _ (by simp), y1 _ (by omega)]
        exact k1 k c q1 q2
      · refine ⟨w2, by rw [show p + 25 + 2 * 2 = p + 29 by omega]; exact x2, fun k c hk hc => ?_⟩
        obtain ⟨q1, q2⟩ := uN k c hk hc
        have := h6 k q1
        rw [mkD_s _ _ _ _ _ _ _ _ (by simp), y2 _ (by omega)]
        exact k2 k c q1 q2
    · rw [i1 _ (by omega) (by omega) (by omega), b7 _ (by omega), b6 _ (by omega), b5 _ (by omega), b4 _ (by omega), b3 _ (by omega), b2 _ (by omega), a1]
      exact rg_ext (fun k _ => by rw [mkD_9]; rfl)
    · rw [i2, c7, c6, c5, c4, c3, c2, c1]
    · rw [i1 _ (by omega) (by omega) (by omega), b7 _ (by omega), b6 _ (by omega), b5 _ (by omega), b4 _ (by omega), b3 _ (by omega), b2 _ (by omega), b1 _ (by omega)]
