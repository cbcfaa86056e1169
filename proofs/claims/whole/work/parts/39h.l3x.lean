/-! LEVEL 3, x: the class takes a version back; stores copied -/
theorem cl_holder {p : Nat} {S : Sst} {N M m s st : Nat} {own made : Nat → Int} (ho : S.1 (p + 13) = rg N own) (hm : S.1 (p + 15) = rg N made) (hN : N ≤ 320) (hM : M ≤ N) (hmd : ∀ k, k < N → (made k ≤ st ↔ k < M)) (hset : f_X6_at (p + 3) (st : Int) S = (m : Int)) (hm8 : m < 256) (hs : s < 8) :
    f_X7_holderOf p s st S = some (if m.testBit s = true then lastO own s M else -1) := by
  unfold f_X7_holderOf
  dsimp only [jn]
  rw [cl_isIn hset hm8 hs]
  by_cases hb : m.testBit s = true
  · rw [bt_1.mpr hb, if_neg (by decide), if_pos hb, size_rg ho, wr_id (by omega) (by omega)]
    refine Ret_eq (Ret_bind (P := fun z => match z with | .inl r => r = lastO own s M | .inr _ => lastO own s M = -1) (Ret_lpm (fun z => ∃ c : Nat, c ≤ N ∧ z = (c : Int) - 1 ∧ lastO own s M = lastO own s (min M c)) (fun z => (z + 1).toNat) ⟨N, Nat.le_refl _, rfl, by rw [Nat.min_eq_left hM]⟩ (by omega) (fun z hI => ?_)) (fun z hz => ?_))
    · obtain ⟨c, hc, rfl, hl⟩ := hI
      cases c with
      | zero =>
        rw [if_pos (by omega)]
        refine Ret_some (Or.inr ⟨_, rfl, ?_⟩)
        show lastO own s M = -1
        rw [hl, Nat.min_eq_right (Nat.zero_le _)]
        rfl
      | succ c =>
        have ez : (((c + 1 : Nat) : Int)) - 1 = (c : Int) := by omega
        have hmc := hmd c (by omega)
        rw [if_neg (by omega), ez, at_nat ho (by omega), at_nat hm (by omega)]
        by_cases q : own c = (s : Int) ∧ c < M
        · rw [if_pos ⟨q.1, by have := hmc.mpr q.2; omega⟩]
          refine Ret_some (Or.inr ⟨_, rfl, ?_⟩)
          show (c : Int) = lastO own s M
          rw [hl, Nat.min_eq_right (by omega)]
          show (c : Int) = if own c = (s : Int) then (c : Int) else _
          rw [if_pos q.1]
        · rw [if_neg (fun h => q ⟨h.1, by have h2 := h.2; exact hmc.mp (by omega)⟩), wr_id (by omega) (by omega)]
          refine Ret_some (Or.inl ⟨_, rfl, ⟨c, by omega, by omega, ?_⟩, by omega⟩)
          rw [hl]
          by_cases q2 : c < M
          · rw [Nat.min_eq_right (by omega), Nat.min_eq_right (by omega)]
            show (if own c = (s : Int) then (c : Int) else _) = _
            rw [if_neg (fun h => q ⟨h, q2⟩)]
          · rw [Nat.min_eq_left (by omega), Nat.min_eq_left (by omega)]
    · cases z with
      | inl r => exact Ret_some hz
      | inr r =>
        have hz : lastO own s M = -1 := hz
        exact Ret_some hz.symm
  · rw [bt_0.mpr (by simpa using hb), if_pos rfl, if_neg hb]
theorem made_iff {A : Nat → Int} {n slots tp : Nat} (h : okA A n slots tp) {v u : Nat} (hv : v ≤ tp) (hu : u ≤ v) {k : Nat} (hk : k < nA A v) : A (525 + k) ≤ u ↔ k < nA A u := by
  obtain ⟨w, w1, w2, w3, w4, w5⟩ := made_le h hv hk
  rw [w1]
  constructor
  · intro q
    exact Nat.lt_of_lt_of_le w5 (nA_le h (by omega) (by omega))
  · intro q
    by_cases c : w ≤ u
    · omega
    · have := nA_le h (u := u) (v := w - 1) (by omega) (by omega)
      omega
theorem rep_row {p : Nat} {S : Sst} {A : Nat → Int} {v : Nat} (h : RepD p S (vwD A v)) {j : Nat} (hj : j < 4) : S.1 (p + 13 + 2 * j) = rg (nA A v) (fun k => A (205 + 320 * j + k)) := by
  rw [h.1 j (by omega), vwD_n]
  exact rg_ext (fun k hk => vwD_f hj hk)
theorem keep_rg {S : Sst} {q n m : Nat} {f : Nat → Int} (h : S.1 q = rg n f) (hm : m ≤ n) : ∃ S', f_X6_keep q (m : Int) S = S' ∧ S'.1 q = rg m f ∧ (∀ k, k ≠ q → S'.1 k = S.1 k) ∧ S'.2 = S.2 :=
  ⟨_, by unfold f_X6_keep; rw [if_pos (by omega), h, Int.toNat_natCast, rg_take f hm], upR_at _ _ _, fun k hk => upR_ne _ _ hk, rfl⟩
theorem cl_shrink {S : Sst} {g : Sg} {w : Nat → Int} {slots n tp u : Nat} {A : Nat → Int} (hA : okA A n slots tp) (h6 : slots ≤ 6) (hu : u + 1 ≤ tp) (h40 : u < 40) (hR : RepS 74 S g w slots A (u + 1)) : Ret (f_X7_shrink 74 S) (fun S' => RepS 74 S' g w slots A u ∧ S'.2 = S.2 ∧ ∀ k, (k < 75 ∨ 105 < k) → S'.1 k = S.1 k) := by
  obtain ⟨r1, r2, r3, r4, r5, r6, r7⟩ := hR
  have hlt : ∀ k, k < nA A (u + 1) → k < nA A tp := fun k hk => Nat.lt_of_lt_of_le hk (nA_le hA hu (Nat.le_refl _))
  have hnn := nA_le hA (u := u) (v := u + 1) (by omega) hu
  have hn8 := nA_8 hA (u + 1) hu
  have hu6 : ∀ k st, k < nA A (u + 1) → usA A k st ≤ 6 := fun k st hk => by have := us_le hA (hlt k hk) st; omega
  have hmi : ∀ k, k < nA A (u + 1) → (A (525 + k) ≤ u ↔ k < nA A u) := fun k hk => made_iff hA hu (by omega) hk
  have q0 := rep_row r7 (j := 0) (by decide)
  have q1 := rep_row r7 (j := 1) (by decide)
  have q2 := rep_row r7 (j := 2) (by decide)
  have q3 := rep_row r7 (j := 3) (by decide)
  have q4 := r7.1 4 (by decide)
  have q5 := r7.1 5 (by decide)
  obtain ⟨f0, g0, k0⟩ := r7.2.1 0 (by decide)
  obtain ⟨f1, g1, k1⟩ := r7.2.1 1 (by decide)
  obtain ⟨f2, g2, k2⟩ := r7.2.1 2 (by decide)
  have q9 := r7.2.2
  simp only [Nat.reduceMul, Nat.reduceAdd, vwD_n] at q0 q1 q2 q3 q4 q5 g0 g1 g2 k0 k1 k2 q9 r1 r2 r3 r4 r5 r6
  have cs0 : ∀ k c, k < nA A (u + 1) → c < usA A k ((u + 1 : Nat) : Int) → f0 (6 * k + c) = A (1805 + (6 * k + c)) := fun k c hk hc => by
    rw [k0 k c hk (by rw [vwD_u hk]; exact hc)]
    exact vwD_s (j := 0) (by decide) hk hc (hu6 k _ hk)
  unfold f_X7_shrink
  dsimp only [jn]
  have hnew : f_X7_newest 74 S = ((u + 1 : Nat) : Int) := newest_row (by rw [r1, rg_len]) (by omega)
  rw [hnew, if_neg (by omega)]
  refine Ret_bind (P := fun z => z = (nA A u : Int)) (Ret_lp (fun c z => z = (c : Int)) (nA A u) (by omega) rfl (fun c z hc hI => ?_) (fun z hI => ?_)) (fun z hz => ?_)
  · subst hI
    have h89 : S.1 89 = rg (nA A (u + 1)) (fun k => A (525 + k)) := q1
    rw [show f_X6_size (74 + 15) S = (nA A (u + 1) : Int) from size_rg h89, at_nat h89 (by omega)]
    have := (hmi c (by omega)).mpr hc
    rw [if_pos (by omega), wr_id (by omega) (by omega)]
    exact Ret_some ⟨_, rfl, by simp⟩
  · subst hI
    have h89 : S.1 89 = rg (nA A (u + 1)) (fun k => A (525 + k)) := q1
    rw [show f_X6_size (74 + 15) S = (nA A (u + 1) : Int) from size_rg h89]
    by_cases e : nA A u < nA A (u + 1)
    · rw [at_nat h89 e]
      have := hmi (nA A u) e
      rw [if_neg (by omega)]
      exact Ret_some ⟨_, rfl, rfl⟩
    · rw [if_neg (by omega)]
      exact Ret_some ⟨_, rfl, rfl⟩
  · subst hz
    unfold f_X7_keepNodes
    dsimp only [jn]
    rw [show wr ((nA A u : Int) * 6) = ((6 * nA A u : Nat) : Int) by rw [wr_id (by omega) (by omega)]; omega]
    obtain ⟨S1, a1, b1, c1, d1⟩ := keep_rg (S := S) (q := 74 + 13) q0 hnn
    rw [a1]
    obtain ⟨S2, a2, b2, c2, d2⟩ := keep_rg (S := S1) (q := 74 + 15) (show S1.1 89 = _ by rw [c1 _ (by decide)]; exact q1) hnn
    rw [a2]
    obtain ⟨S3, a3, b3, c3, d3⟩ := keep_rg (S := S2) (q := 74 + 17) (show S2.1 91 = _ by rw [c2 _ (by decide), c1 _ (by decide)]; exact q2) hnn
    rw [a3]
    obtain ⟨S4, a4, b4, c4, d4⟩ := keep_rg (S := S3) (q := 74 + 19) (show S3.1 93 = _ by rw [c3 _ (by decide), c2 _ (by decide), c1 _ (by decide)]; exact q3) hnn
    rw [a4]
    obtain ⟨S5, a5, b5, c5, d5⟩ := keep_rg (S := S4) (q := 74 + 21) (show S4.1 95 = _ by rw [c4 _ (by decide), c3 _ (by decide), c2 _ (by decide), c1 _ (by decide)]; exact q4) hnn
    rw [a5]
    obtain ⟨S6, a6, b6, c6, d6⟩ := keep_rg (S := S5) (q := 74 + 23) (show S5.1 97 = _ by rw [c5 _ (by decide), c4 _ (by decide), c3 _ (by decide), c2 _ (by decide), c1 _ (by decide)]; exact q5) hnn
    rw [a6]
    obtain ⟨S7, a7, b7, c7, d7⟩ := keep_rg (S := S6) (q := 74 + 25) (m := 6 * nA A u) (show S6.1 99 = _ by rw [c6 _ (by decide), c5 _ (by decide), c4 _ (by decide), c3 _ (by decide), c2 _ (by decide), c1 _ (by decide)]; exact g0) (by omega)
    rw [a7]
    obtain ⟨S8, a8, b8, c8, d8⟩ := keep_rg (S := S7) (q := 74 + 27) (m := 6 * nA A u) (show S7.1 101 = _ by rw [c7 _ (by decide), c6 _ (by decide), c5 _ (by decide), c4 _ (by decide), c3 _ (by decide), c2 _ (by decide), c1 _ (by decide)]; exact g1) (by omega)
    rw [a8]
    obtain ⟨S9, a9, b9, c9, d9⟩ := keep_rg (S := S8) (q := 74 + 29) (m := 6 * nA A u) (show S8.1 103 = _ by rw [c8 _ (by decide), c7 _ (by decide), c6 _ (by decide), c5 _ (by decide), c4 _ (by decide), c3 _ (by decide), c2 _ (by decide), c1 _ (by decide)]; exact g2) (by omega)
    rw [a9]
    have w87 : S9.1 87 = rg (nA A u) (fun k => A (205 + k)) := by rw [c9 _ (by decide), c8 _ (by decide), c7 _ (by decide), c6 _ (by decide), c5 _ (by decide), c4 _ (by decide), c3 _ (by decide), c2 _ (by decide)]; exact b1
    have w89 : S9.1 89 = rg (nA A u) (fun k => A (525 + k)) := by rw [c9 _ (by decide), c8 _ (by decide), c7 _ (by decide), c6 _ (by decide), c5 _ (by decide), c4 _ (by decide), c3 _ (by decide)]; exact b2
    have w91 : S9.1 91 = rg (nA A u) (fun k => A (845 + k)) := by rw [c9 _ (by decide), c8 _ (by decide), c7 _ (by decide), c6 _ (by decide), c5 _ (by decide), c4 _ (by decide)]; exact b3
    have w93 : S9.1 93 = rg (nA A u) (fun k => A (1165 + k)) := by rw [c9 _ (by decide), c8 _ (by decide), c7 _ (by decide), c6 _ (by decide), c5 _ (by decide)]; exact b4
    have w95 : S9.1 95 = rg (nA A u) ((vwD A (u + 1)).2 4) := by rw [c9 _ (by decide), c8 _ (by decide), c7 _ (by decide), c6 _ (by decide)]; exact b5
    have w97 : S9.1 97 = rg (nA A u) ((vwD A (u + 1)).2 5) := by rw [c9 _ (by decide), c8 _ (by decide), c7 _ (by decide)]; exact b6
    have w99 : S9.1 99 = rg (6 * nA A u) f0 := by rw [c9 _ (by decide), c8 _ (by decide)]; exact b7
    have w101 : S9.1 101 = rg (6 * nA A u) f1 := by rw [c9 _ (by decide)]; exact b8
    have w103 : S9.1 103 = rg (6 * nA A u) f2 := b9
    have wo : ∀ k, k ≠ 87 → k ≠ 89 → k ≠ 91 → k ≠ 93 → k ≠ 95 → k ≠ 97 → k ≠ 99 → k ≠ 101 → k ≠ 103 → S9.1 k = S.1 k := fun k h1 h2 h3 h4 h5 h6 h7 h8 h9 => by
      rw [c9 _ h9, c8 _ h8, c7 _ h7, c6 _ h6, c5 _ h5, c4 _ h4, c3 _ h3, c2 _ h2, c1 _ h1]
    have wi : S9.2 = S.2 := by rw [d9, d8, d7, d6, d5, d4, d3, d2, d1]
    -- slots used
    refine Ret_bind (P := fun T => T.1 95 = rg (nA A u) (fun k => (usA A k u : Int)) ∧ (∀ k, k ≠ 95 → T.1 k = S9.1 k) ∧ T.2 = S9.2) (Ret_lp (fun c q => q.1 = (c : Int) ∧ q.2.1 95 = rg (nA A u) (fun k => if k < c then (usA A k u : Int) else (vwD A (u + 1)).2 4 k) ∧ (∀ k, k ≠ 95 → q.2.1 k = S9.1 k) ∧ q.2.2 = S9.2) (nA A u) (by omega) ⟨rfl, by rw [w95]; exact rg_ext (fun k _ => by rw [if_neg (by omega)]), fun _ _ => rfl, rfl⟩ (fun c q hc hI => ?_) (fun q hI => ?_)) (fun T hT => ?_)
    · obtain ⟨z, T⟩ := q
      obtain ⟨rfl, i1, i2, i3⟩ := hI
      dsimp only at *
      have hcn : c < nA A (u + 1) := by omega
      have t99 : T.1 99 = rg (6 * nA A u) f0 := by rw [i2 _ (by decide)]; exact w99
      have hus := hu6 c ((u + 1 : Nat) : Int) hcn
      have hple : usA A c u ≤ usA A c ((u + 1 : Nat) : Int) := by
        by_cases q : usA A c u ≤ usA A c ((u + 1 : Nat) : Int)
        · exact q
        · exfalso
          have hl : usA A c ((u + 1 : Nat) : Int) < usA A c u := by omega
          have hl2 := us_lt hl
          have a1 := (us_pre hA (hlt c hcn) u hl2).mpr hl
          have a2 := (us_pre hA (hlt c hcn) ((u + 1 : Nat) : Int) hl2).mp (by omega)
          omega
      have hahead : f_X7_usedAhead 74 c ((u + 1 : Nat) : Int) T = some (usA A c u : Int) := by
        unfold f_X7_usedAhead
        have hat : f_X6_at (74 + 21) (c : Int) T = (usA A c ((u + 1 : Nat) : Int) : Int) := by
          rw [at_nat i1 hc, if_neg (by omega), vwD_4 hcn]
        refine Ret_eq (Ret_bind (P := fun r => r = (usA A c u : Int)) (Ret_lp (fun d z => z = (d : Int)) (usA A c u) (by omega) rfl (fun d z hd hz => ?_) (fun z hz => ?_)) (fun r hr => Ret_some hr))
        · subst hz
          have hl := us_lt hd
          have h1 := (us_pre hA (hlt c hcn) u hl).mpr hd
          rw [hat, wr_id (z := (c : Int) * 6) (by omega) (by omega), wr_id (z := (c : Int) * 6 + d) (by omega) (by omega), show (c : Int) * 6 + d = ((6 * c + d : Nat) : Int) by omega, at_nat t99 (by omega), cs0 c d hcn (by omega), if_pos (by omega), wr_id (by omega) (by omega)]
          exact Ret_some ⟨_, rfl, by simp⟩
        · subst hz
          rw [hat]
          by_cases e : usA A c u < usA A c ((u + 1 : Nat) : Int)
          · have hl := us_lt e
            have h1 := us_pre hA (hlt c hcn) (u : Int) hl
            rw [wr_id (z := (c : Int) * 6) (by omega) (by omega), wr_id (z := (c : Int) * 6 + _) (by omega) (by omega), show (c : Int) * 6 + (usA A c u : Int) = ((6 * c + usA A c u : Nat) : Int) by omega, at_nat t99 (by omega), cs0 c _ hcn e]
            have h2 : ¬ A (1805 + (6 * c + usA A c u)) ≤ u := fun q => by have := h1.mp q; omega
            rw [if_neg (by omega)]
            exact Ret_some ⟨_, rfl, rfl⟩
          · rw [if_neg (by omega)]
            exact Ret_some ⟨_, rfl, rfl⟩
      rw [if_pos (by omega), hahead]
      dsimp only [Option.bind_some]
      obtain ⟨T2, t1, t2, t3, t4⟩ := put_row (k := c) (usA A c u : Int) i1
      rw [t1, wr_id (by omega) (by omega)]
      refine Ret_some ⟨_, rfl, by simp, ?_, fun k hk => by dsimp only; rw [t3 k hk, i2 k hk], by dsimp only; rw [t4, i3]⟩
      dsimp only
      rw [t2]
      refine rg_ext (fun k hk => ?_)
      by_cases e : k = c
      · rw [e, upd_same, if_pos (by omega)]
      · rw [upd_ne e]
        by_cases q : k < c
        · rw [if_pos q, if_pos (by omega)]
        · rw [if_neg q, if_neg (by omega)]
    · obtain ⟨z, T⟩ := q
      obtain ⟨rfl, i1, i2, i3⟩ := hI
      dsimp only at *
      rw [if_neg (by omega)]
      refine Ret_some ⟨_, rfl, ?_, i2, i3⟩
      rw [i1]
      exact rg_ext (fun k hk => by rw [if_pos hk])
    · obtain ⟨i1, i2, i3⟩ := hT
      unfold f_X7_keepVersions
      dsimp only [jn]
      have hb : ∀ k, k < 87 → T.1 k = S.1 k := fun k hk => by rw [i2 _ (by omega), wo k (by omega) (by omega) (by omega) (by omega) (by omega) (by omega) (by omega) (by omega) (by omega)]
      obtain ⟨V1, e1, p1, o1, n1⟩ := keep_rg (S := T) (q := 74 + 1) (m := u + 1) (by rw [hb _ (by decide)]; exact r1) (by omega)
      rw [e1]
      obtain ⟨V2, e2, p2, o2, n2⟩ := keep_rg (S := V1) (q := 74 + 3) (m := u + 1) (by rw [o1 _ (by decide), hb _ (by decide)]; exact r2) (by omega)
      rw [e2]
      obtain ⟨V3, e3, p3, o3, n3⟩ := keep_rg (S := V2) (q := 74 + 5) (m := u + 1) (by rw [o2 _ (by decide), o1 _ (by decide), hb _ (by decide)]; exact r3) (by omega)
      rw [e3]
      obtain ⟨V4, e4, p4, o4, n4⟩ := keep_rg (S := V3) (q := 74 + 7) (m := u + 1) (by rw [o3 _ (by decide), o2 _ (by decide), o1 _ (by decide), hb _ (by decide)]; exact r4) (by omega)
      rw [e4]
      obtain ⟨V5, e5, p5, o5, n5⟩ := keep_rg (S := V4) (q := 74 + 9) (m := u + 1) (by rw [o4 _ (by decide), o3 _ (by decide), o2 _ (by decide), o1 _ (by decide), hb _ (by decide)]; exact r5) (by omega)
      rw [e5]
      obtain ⟨V6, e6, p6, o6, n6⟩ := keep_rg (S := V5) (q := 74 + 11) (m := u + 1) (by rw [o5 _ (by decide), o4 _ (by decide), o3 _ (by decide), o2 _ (by decide), o1 _ (by decide), hb _ (by decide)]; exact r6) (by omega)
      rw [e6]
      have v75 : V6.1 75 = rg (u + 1) A := by rw [o6 _ (by decide), o5 _ (by decide), o4 _ (by decide), o3 _ (by decide), o2 _ (by decide)]; exact p1
      have v77 : V6.1 77 = rg (u + 1) (fun i => A (41 + i)) := by rw [o6 _ (by decide), o5 _ (by decide), o4 _ (by decide), o3 _ (by decide)]; exact p2
      have v79 : V6.1 79 = rg (u + 1) (fun i => A (82 + i)) := by rw [o6 _ (by decide), o5 _ (by decide), o4 _ (by decide)]; exact p3
      have v81 : V6.1 81 = rg (u + 1) (fun i => A (123 + i)) := by rw [o6 _ (by decide), o5 _ (by decide)]; exact p4
      have v83 : V6.1 83 = rg (u + 1) (rtA g w A) := by rw [o6 _ (by decide)]; exact p5
      have v85 : V6.1 85 = rg (u + 1) (csA g w slots A) := p6
      have vo : ∀ k, (k < 75 ∨ 85 < k) → V6.1 k = T.1 k := fun k hk => by rw [o6 _ (by omega), o5 _ (by omega), o4 _ (by omega), o3 _ (by omega), o2 _ (by omega), o1 _ (by omega)]
      have vi : V6.2 = S.2 := by rw [n6, n5, n4, n3, n2, n1, i3, wi]
      obtain ⟨am, am8, _⟩ := hA.1 u (by omega)
      have ho : ∀ M : Sst, (∀ k, k ≠ 105 → M.1 k = V6.1 k) → ∀ s : Nat, s < 8 → f_X7_holderOf 74 s (wr (((u + 1 : Nat) : Int) - 1)) M = some (ndA A s u) := fun M hM s hs => by
        rw [show wr (((u + 1 : Nat) : Int) - 1) = (u : Int) by rw [wr_id (by omega) (by omega)]; omega]
        rw [cl_holder (p := 74) (N := nA A u) (M := nA A u) (m := mA A u) (own := fun k => A (205 + k)) (made := fun k => A (525 + k)) (by rw [hM _ (by decide), vo _ (by decide), i2 _ (by decide)]; exact w87) (by rw [hM _ (by decide), vo _ (by decide), i2 _ (by decide)]; exact w89) (by omega) (Nat.le_refl _) (fun k hk => hmi k (by omega)) (by rw [at_nat (n := u + 1) (by rw [hM _ (by decide)]; exact v77) (by omega), am]) am8 hs]
        unfold ndA
        rw [if_neg (c := ((s : Nat) : Int) < 0) (by omega), Int.toNat_natCast]
      refine Ret_bind (P := fun M => M.1 105 = rg 8 (fun s => ndA A s u) ∧ (∀ k, k ≠ 105 → M.1 k = V6.1 k) ∧ M.2 = V6.2) (Ret_lp (fun c q => q.1 = (c : Int) ∧ q.2.1 105 = rg 8 (fun s => if s < c then ndA A s u else (vwD A (u + 1)).2 9 s) ∧ (∀ k, k ≠ 105 → q.2.1 k = V6.1 k) ∧ q.2.2 = V6.2) 8 (by decide) ⟨rfl, ?_, fun _ _ => rfl, rfl⟩ (fun c q hc hI => ?_) (fun q hI => ?_)) (fun M hM => ?_)
      · dsimp only
        rw [vo _ (by decide), i2 _ (by decide), wo _ (by decide) (by decide) (by decide) (by decide) (by decide) (by decide) (by decide) (by decide) (by decide), q9]
        exact rg_ext (fun k _ => by rw [if_neg (by omega)])
      · obtain ⟨z, M⟩ := q
        obtain ⟨rfl, j1, j2, j3⟩ := hI
        dsimp only at *
        rw [if_pos (by omega), ho M j2 c hc]
        dsimp only [Option.bind_some]
        obtain ⟨T2, t1, t2, t3, t4⟩ := put_row (k := c) (ndA A c u) j1
        rw [t1, wr_id (by omega) (by omega)]
        refine Ret_some ⟨_, rfl, by simp, ?_, fun k hk => by dsimp only; rw [t3 k hk, j2 k hk], by dsimp only; rw [t4, j3]⟩
        dsimp only
        rw [t2]
        refine rg_ext (fun k hk => ?_)
        by_cases e : k = c
        · rw [e, upd_same, if_pos (by omega)]
        · rw [upd_ne e]
          by_cases q : k < c
          · rw [if_pos q, if_pos (by omega)]
          · rw [if_neg q, if_neg (by omega)]
      · obtain ⟨z, M⟩ := q
        obtain ⟨rfl, j1, j2, j3⟩ := hI
        dsimp only at *
        rw [if_neg (by omega)]
        refine Ret_some ⟨_, rfl, ?_, j2, j3⟩
        rw [j1]
        exact rg_ext (fun k hk => by rw [if_pos hk])
      · obtain ⟨j1, j2, j3⟩ := hM
        have mo : ∀ k, 86 < k → k ≠ 95 → k ≠ 105 → M.1 k = S9.1 k := fun k h1 h2 h3 => by rw [j2 k h3, vo k (by omega), i2 k h2]
        refine Ret_some ⟨⟨by rw [j2 _ (by decide)]; exact v75, by rw [j2 _ (by decide)]; exact v77, by rw [j2 _ (by decide)]; exact v79, by rw [j2 _ (by decide)]; exact v81, by rw [j2 _ (by decide)]; exact v83, by rw [j2 _ (by decide)]; exact v85, fun j hj => ?_, fun j hj => ?_, ?_⟩, by rw [j3, vi], fun k hk => ?_⟩
        · rw [vwD_n]
          rcases (show j = 0 ∨ j = 1 ∨ j = 2 ∨ j = 3 ∨ j = 4 ∨ j = 5 by omega) with rfl | rfl | rfl | rfl | rfl | rfl
          · show M.1 87 = _
            rw [mo _ (by decide) (by decide) (by decide), w87]
            exact rg_ext (fun k hk => (vwD_f (j := 0) (by decide) hk).symm)
          · show M.1 89 = _
            rw [mo _ (by decide) (by decide) (by decide), w89]
            exact rg_ext (fun k hk => (vwD_f (j := 1) (by decide) hk).symm)
          · show M.1 91 = _
            rw [mo _ (by decide) (by decide) (by decide), w91]
            exact rg_ext (fun k hk => (vwD_f (j := 2) (by decide) hk).symm)
          · show M.1 93 = _
            rw [mo _ (by decide) (by decide) (by decide), w93]
            exact rg_ext (fun k hk => (vwD_f (j := 3) (by decide) hk).symm)
          · show M.1 95 = _
            rw [j2 _ (by decide), vo _ (by decide), i1]
            exact rg_ext (fun k hk => (vwD_4 hk).symm)
          · show M.1 97 = _
            rw [mo _ (by decide) (by decide) (by decide), w97]
            exact rg_ext (fun k hk => by rw [vwD_5 hk, vwD_5 (by omega)])
        · rw [vwD_n]
          have hple : ∀ k c, k < nA A u → c < usA A k u → c < usA A k ((u + 1 : Nat) : Int) := fun k c hk hc => by
            have hl := us_lt hc
            have := (us_pre hA (hlt k (by omega)) u hl).mpr hc
            exact (us_pre hA (hlt k (by omega)) ((u + 1 : Nat) : Int) hl).mp (by omega)
          have slot : ∀ j k c, j < 3 → k < nA A u → c < usA A k u → (vwD A (u + 1)).2 (6 + j) (6 * k + c) = (vwD A u).2 (6 + j) (6 * k + c) := fun j k c hj hk hc => by
            rw [vwD_s hj hk hc (hu6 k u (by omega)), vwD_s hj (show k < nA A (u + 1) by omega) (hple k c hk hc) (hu6 k _ (by omega))]
          rcases (show j = 0 ∨ j = 1 ∨ j = 2 by omega) with rfl | rfl | rfl
          · refine ⟨f0, by show M.1 99 = _; rw [mo _ (by decide) (by decide) (by decide)]; exact w99, fun k c hk hc => ?_⟩
            rw [vwD_u hk] at hc
            rw [← slot 0 k c (by decide) hk hc]
            exact k0 k c (by omega) (by rw [vwD_u (by omega)]; exact hple k c hk hc)
          · refine ⟨f1, by show M.1 101 = _; rw [mo _ (by decide) (by decide) (by decide)]; exact w101, fun k c hk hc => ?_⟩
            rw [vwD_u hk] at hc
            rw [← slot 1 k c (by decide) hk hc]
            exact k1 k c (by omega) (by rw [vwD_u (by omega)]; exact hple k c hk hc)
          · refine ⟨f2, by show M.1 103 = _; rw [mo _ (by decide) (by decide) (by decide)]; exact w103, fun k c hk hc => ?_⟩
            rw [vwD_u hk] at hc
            rw [← slot 2 k c (by decide) hk hc]
            exact k2 k c (by omega) (by rw [vwD_u (by omega)]; exact hple k c hk hc)
        · show M.1 105 = _
          rw [j1]
          exact rg_ext (fun k _ => rfl)
        · rw [j2 _ (by omega), vo _ (by omega), i2 _ (by omega), wo _ (by omega) (by omega) (by omega) (by omega) (by omega) (by omega) (by omega) (by omega) (by omega)]
