/-! LEVEL 3, q: the class makes a version, on -/
theorem n00 : ((0 : Int) = 0) = True := by simp
theorem n10 : ((1 : Int) = 0) = False := by simp
theorem cl_write {p : Nat} {S : Sst} {D : Dt} {k u : Nat} (h : RepD p S D) (hk : k < D.1) (hN : D.1 ≤ 320) (h0 : 0 ≤ D.2 4 k) (hu6 : dUsed D k < 6) (h6 : ∀ k, k < D.1 → dUsed D k ≤ 6) (hst : (S.1 (p + 1)).length = u + 1) (hu : u ≤ 40) (side child : Int) :
    ∃ S', f_X7_write p k side child S = S' ∧ RepD p S' (wrD D k (u + 1) side child) ∧ FrS p S S' := by
  have hus := rep_used h hk h0
  obtain ⟨hr, hsl, hh⟩ := h
  have r4 := hr 4 (by decide)
  obtain ⟨f0, g0, k0⟩ := hsl 0 (by decide)
  obtain ⟨f1, g1, k1⟩ := hsl 1 (by decide)
  obtain ⟨f2, g2, k2⟩ := hsl 2 (by decide)
  simp only [Nat.mul_zero, Nat.add_zero, Nat.mul_one, Nat.reduceMul, Nat.add_assoc, Nat.reduceAdd] at r4 g0 g1 g2 k0 k1 k2
  unfold f_X7_write
  dsimp only [jn]
  rw [hus, newest_row hst hu, wr_id (z := (k : Int) * 6) (by omega) (by omega), wr_id (z := (k : Int) * 6 + _) (by omega) (by omega), show (k : Int) * 6 + (dUsed D k : Int) = ((6 * k + dUsed D k : Nat) : Int) by omega, wr_id (z := (u : Int) + 1) (by omega) (by omega)]
  obtain ⟨S1, e1, a1, b1, c1⟩ := put_row (k := 6 * k + dUsed D k) ((u : Int) + 1) g0
  rw [e1]
  obtain ⟨S2, e2, a2, b2, c2⟩ := put_row (k := 6 * k + dUsed D k) side (show S1.1 (p + 27) = _ by rw [b1 _ (by omega), g1])
  rw [e2]
  obtain ⟨S3, e3, a3, b3, c3⟩ := put_row (k := 6 * k + dUsed D k) child (show S2.1 (p + 29) = _ by rw [b2 _ (by omega), b1 _ (by omega), g2])
  rw [e3]
  have r4' : S3.1 (p + 21) = rg D.1 (D.2 4) := by rw [b3 _ (by omega), b2 _ (by omega), b1 _ (by omega), r4]
  have hus3 : f_X6_at (p + 21) (k : Int) S3 = (dUsed D k : Int) := by
    rw [at_nat r4' hk]
    unfold dUsed
    omega
  rw [hus3, wr_id (by omega) (by omega)]
  obtain ⟨S4, e4, a4, b4, c4⟩ := put_row (k := k) ((dUsed D k : Int) + 1) r4'
  rw [e4]
  have hidx : ∀ k' c, k' < D.1 → c < dUsed (wrD D k (u + 1) side child) k' → (k' = k ∧ c = dUsed D k) ∨ (6 * k' + c ≠ 6 * k + dUsed D k ∧ c < dUsed D k') := fun k' c hk' hc => by
    rw [wrD_u] at hc
    have := h6 k' hk'
    by_cases e : k' = k
    · rw [if_pos e] at hc
      subst e
      by_cases e2 : c = dUsed D k'
      · exact Or.inl ⟨rfl, e2⟩
      · exact Or.inr ⟨by omega, by omega⟩
    · rw [if_neg e] at hc
      exact Or.inr ⟨by omega, hc⟩
  refine ⟨S4, rfl, ⟨fun j hj => ?_, fun j hj => ?_, ?_⟩, ?_, fun q hq => ?_⟩
  · show S4.1 (p + 13 + 2 * j) = rg D.1 _
    rcases (show j = 4 ∨ j ≠ 4 by omega) with rfl | e
    · rw [show p + 13 + 2 * 4 = p + 21 by omega, a4]
      exact rg_ext (fun i _ => by rw [wrD_4]; rfl)
    · rw [b4 _ (by omega), b3 _ (by omega), b2 _ (by omega), b1 _ (by omega), hr j hj]
      exact rg_ext (fun i _ => by rw [wrD_o _ _ _ _ _ _ _ (by omega)])
  · show ∃ f, S4.1 (p + 25 + 2 * j) = rg (6 * D.1) f ∧ _
    rcases (show j = 0 ∨ j = 1 ∨ j = 2 by omega) with rfl | rfl | rfl
    · refine ⟨_, by rw [show p + 25 + 2 * 0 = p + 25 by omega, b4 _ (by omega), b3 _ (by omega), b2 _ (by omega)]; exact a1, fun k' c hk' hc => ?_⟩
      rw [show 6 + 0 = 6 from rfl, wrD_6]
      rcases hidx k' c hk' hc with ⟨rfl, rfl⟩ | ⟨q1, q2⟩
      · rw [if_pos rfl, upd_same]
      · rw [if_neg q1, upd_ne q1]; exact k0 k' c hk' q2
    · refine ⟨_, by rw [show p + 25 + 2 * 1 = p + 27 by omega, b4 _ (by omega), b3 _ (by omega)]; exact a2, fun k' c hk' hc => ?_⟩
      rw [show 6 + 1 = 7 from rfl, wrD_7]
      rcases hidx k' c hk' hc with ⟨rfl, rfl⟩ | ⟨q1, q2⟩
      · rw [if_pos rfl, upd_same]
      · rw [if_neg q1, upd_ne q1]; exact k1 k' c hk' q2
    · refine ⟨_, by rw [show p + 25 + 2 * 2 = p + 29 by omega, b4 _ (by omega)]; exact a3, fun k' c hk' hc => ?_⟩
      rw [show 6 + 2 = 8 from rfl, wrD_8]
      rcases hidx k' c hk' hc with ⟨rfl, rfl⟩ | ⟨q1, q2⟩
      · rw [if_pos rfl, upd_same]
      · rw [if_neg q1, upd_ne q1]; exact k2 k' c hk' q2
  · rw [b4 _ (by omega), b3 _ (by omega), b2 _ (by omega), b1 _ (by omega), hh]
    exact rg_ext (fun i _ => by rw [wrD_o _ _ _ _ _ _ _ (by omega)])
  · rw [c4, c3, c2, c1]
  · rw [b4 _ (by omega), b3 _ (by omega), b2 _ (by omega), b1 _ (by omega)]
theorem cl_isIn {p : Nat} {S : Sst} {m s : Nat} {z : Int} (hm : f_X6_at (p + 3) z S = (m : Int)) (h8 : m < 256) (hs : s < 8) : f_X7_isIn p z s S = bt m s := by
  unfold f_X7_isIn
  rw [hm, bit_n h8 hs]
  rcases bt01 m s with e | e <;> rw [e]
  · rw [if_pos (Or.inr rfl)]
  · rw [if_neg (by omega)]
theorem adD_le (slots u m : Nat) (L R : Nat → Int) (D : Dt) (s : Nat) : (adD slots u m L R D s).1 ≤ 2 := by
  unfold adD neI
  (repeat' split) <;> (dsimp only) <;> omega
theorem cl_adapt {p : Nat} {S : Sst} {D0 D : Dt} {s u m n slots pr : Nat} {L R : Nat → Int} {d : List Nat} (hp : stP p) (h : RepD p S D) (hF : FI D0 u m n slots L R d d pr D) (hN : D.1 < 320) (hsl : slots ≤ 6) (hs : s < 8) (hsd : s ∉ d) (hst : (S.1 (p + 1)).length = u + 1) (hu : u ≤ 40) (hm : f_X6_at (p + 3) (u : Int) S = (m : Int)) (hm8 : m < 256) :
    Ret (f_X7_adapt p s (dHas D (L s)) (dHas D (R s)) slots S) (fun q => q.1 = ((adD slots u m L R D s).1 : Int) ∧ RepD p q.2 (adD slots u m L R D s).2 ∧ FrS p S q.2) := by
  have h6 : ∀ k, k < D.1 → dUsed D k ≤ 6 := fun k hk => by have := (hF.2.1 k hk).2; omega
  unfold f_X7_adapt adD
  dsimp only [jn]
  rw [newest_row hst hu, cl_isIn hm hm8 hs]
  by_cases hb : m.testBit s = true
  · rw [bt_1.mpr hb, if_neg (by decide), if_pos hb]
    obtain ⟨k, q1, q2, q3, q4, q5⟩ := hF.2.2.2.1 s (Or.inr hb)
    have hk0 := q5 hsd
    obtain ⟨b0, b1⟩ := hF.2.1 k q2
    have hat : f_X6_at (p + 31) (s : Int) S = (k : Int) := by rw [at_nat h.2.2 hs, q1]
    rw [hat, q1, Int.toNat_natCast, cl_childOf h q2 (by omega) b0 (h6 k q2), cl_childOf h q2 (by omega) b0 (h6 k q2), rep_used h q2 b0]
    dsimp only [Option.bind_some]
    unfold neI
    by_cases ha : rdD D k 0 u = dHas D (L s) <;> by_cases hb : rdD D k 1 u = dHas D (R s)
    · simp only [if_pos ha, if_pos hb, n00, if_true]
      rw [show wr (0 + 0) = 0 from rfl, if_neg (by omega), if_neg (by omega)]
      exact Ret_some ⟨rfl, h, FrS_refl _ _⟩
    · simp only [if_pos ha, if_neg hb, n00, n10, if_true, if_false]
      rw [show wr (0 + 1) = 1 from rfl, wr_id (by omega) (by omega)]
      by_cases hc : slots < dUsed D k + (0 + 1)
      · rw [if_pos (by omega), if_pos hc]
        refine Ret_bind (cl_make hp h hN h6 hs hst hu) (fun S' hS' => Ret_some ⟨rfl, hS'⟩)
      · rw [if_neg (by omega), if_neg hc]
        obtain ⟨S1, e1, r1, f1⟩ := cl_write h q2 (by omega) b0 (by omega) h6 hst hu 1 (dHas D (R s))
        rw [e1]
        exact Ret_some ⟨rfl, r1, f1⟩
    · simp only [if_neg ha, if_pos hb, n00, n10, if_true, if_false]
      rw [show wr (1 + 0) = 1 from rfl, wr_id (by omega) (by omega)]
      by_cases hc : slots < dUsed D k + (1 + 0)
      · rw [if_pos (by omega), if_pos hc]
        refine Ret_bind (cl_make hp h hN h6 hs hst hu) (fun S' hS' => Ret_some ⟨rfl, hS'⟩)
      · rw [if_neg (by omega), if_neg hc]
        obtain ⟨S1, e1, r1, f1⟩ := cl_write h q2 (by omega) b0 (by omega) h6 hst hu 0 (dHas D (L s))
        rw [e1]
        exact Ret_some ⟨rfl, r1, f1⟩
    · simp only [if_neg ha, if_neg hb, n10, if_false]
      rw [show wr (1 + 1) = 2 from rfl, wr_id (by omega) (by omega)]
      by_cases hc : slots < dUsed D k + (1 + 1)
      · rw [if_pos (by omega), if_pos hc]
        refine Ret_bind (cl_make hp h hN h6 hs hst hu) (fun S' hS' => Ret_some ⟨rfl, hS'⟩)
      · rw [if_neg (by omega), if_neg hc]
        obtain ⟨S1, e1, r1, f1⟩ := cl_write h q2 (by omega) b0 (by omega) h6 hst hu 0 (dHas D (L s))
        rw [e1]
        have u1 : dUsed (wrD D k (u + 1) 0 (dHas D (L s))) k = dUsed D k + 1 := by rw [wrD_u, if_pos rfl]
        obtain ⟨S2, e2, r2, f2⟩ := cl_write (k := k) (u := u) r1 q2 (show D.1 ≤ 320 by omega) (by rw [wrD_4, if_pos rfl]; omega) (by rw [u1]; omega) (fun k' hk' => by
          rw [wrD_u]
          have := h6 k' hk'
          by_cases e : k' = k
          · rw [if_pos e]; omega
          · rw [if_neg e]; exact this) (by rw [f1.2 _ (by omega)]; exact hst) hu 1 (dHas D (R s))
        rw [e2]
        exact Ret_some ⟨rfl, r2, FrS_trans f1 f2⟩
  · rw [bt_0.mpr (by simpa using hb), if_pos rfl, if_neg hb]
    refine Ret_bind (cl_make hp h hN h6 hs hst hu) (fun S' hS' => Ret_some ⟨rfl, hS'⟩)
