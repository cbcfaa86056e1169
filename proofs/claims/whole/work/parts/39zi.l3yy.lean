/-! LEVEL 3, yy: area, largest -/
theorem clTree_fr2 {S S' : Sst} {w : Nat → Int} {r : List Nat} (h : clTree S w r) (e1 : ∀ k, k ≠ 243 → S'.1 k = S.1 k) (e2 : S'.2 = S.2) : clTree S' w r := by
  unfold clTree at *
  rw [e1 _ (by decide), e1 _ (by decide), e1 _ (by decide), e1 _ (by decide), e1 _ (by decide), e2]
  exact h
theorem FrR_297 {O O' : Smo} (h : ∀ k, k ≠ 297 → O' k = O k) : FrR O O' := ⟨fun k _ _ c _ _ => h k (by omega), fun j _ _ _ => by rw [h 262 (by decide)]⟩
theorem q_lay {S : Sst} {O : Smo} {n ne slots v tp bs : Nat} {lo : Nat → Nat} (hC : Core S O n ne slots lo v tp bs) : ∃ r q, f_X8_measure S = some r ∧ f_X12_layAreas O = some q ∧ FrQ S r ∧ FrR O q ∧ ∃ F : Nat → Int, r.1 243 = rg 9 F ∧ (∀ k, k < 8 → q 297 k = F (k + 1)) ∧ q 297 8 = F 0 ∧ ∀ k, k < 9 → 0 ≤ F k ∧ F k ≤ 10000 := by
  have hA : Ret (lp (fun (s9965 : Int × Smo) =>
    if 8 < s9965.1 then
      (some (Sum.inr s9965.2))
    else
      (Option.bind (asetO s9965.2 297 (Ln 297) s9965.1 0) fun (O9972 : Smo) =>
      some (Sum.inl (wr (s9965.1 + 1), O9972)))) FU (0, O)) (fun O' => (∀ k, k ≠ 297 → O' k = O k) ∧ ∀ k, k < 9 → O' 297 k = 0) := by
    refine Ret_lp (fun j q => q.1 = (j : Int) ∧ (∀ k, k ≠ 297 → q.2 k = O k) ∧ ∀ k, k < j → q.2 297 k = 0) 9 (by decide) ⟨rfl, fun _ _ => rfl, fun k hk => by omega⟩ (fun j q hj hI => ?_) (fun q hI => ?_)
    · obtain ⟨z, O1⟩ := q
      obtain ⟨rfl, i1, i2⟩ := hI
      dsimp only at *
      rw [if_neg (by omega), Ln297, aset_nat hj]
      dsimp only [Option.bind_some]
      rw [wr_id (by omega) (by omega)]
      refine Ret_some ⟨_, rfl, by simp, fun k hk => ?_, fun k hk => ?_⟩
      · dsimp only
        rw [up2_row hk, i1 k hk]
      · dsimp only
        by_cases e : k = j
        · subst e
          exact up2_same _ _ _ _
        · rw [up2_ne (Or.inr e)]
          exact i2 k (by omega)
    · obtain ⟨z, O1⟩ := q
      obtain ⟨rfl, i1, i2⟩ := hI
      dsimp only at *
      rw [if_pos (by omega)]
      exact Ret_some ⟨_, rfl, i1, i2⟩
  obtain ⟨OA, eA, fA, zA⟩ := hA
  have hfill : f_X6_fill 243 9 0 S = upR S 243 (rg 9 (fun _ => 0)) := by
    unfold f_X6_fill
    rw [Ln244]
    exact congrArg (upR S 243) (rg_rep 9 0)
  have key : ∃ r q, lp (fun (s4210 : Int × Int × Sst) =>
    if (60 < s4210.2.1 ∨ f_X8_isSwept s4210.2.1 s4210.2.2 = 0) then
      (some (Sum.inr s4210.2.2))
    else
      (Option.bind (f_X8_stampOf s4210.2.1 s4210.2.2) fun (q4221 : Int) =>
      Option.bind (f_X8_showUnlessShown q4221 s4210.1 s4210.2.2) fun (q4224 : Int × Sst) =>
      Option.bind (f_X8_measureAt s4210.2.1 q4224.2) fun (q4227 : Sst) =>
      some (Sum.inl (q4224.1, wr (s4210.2.1 + 1), q4227)))) FU ((-1), 0, f_X6_fill 243 9 0 S) = some r ∧ lp (fun (s9975 : Int × Smo) =>
    if 60 < s9975.1 then
      (some (Sum.inr s9975.2))
    else
      (Option.bind (f_X12_isSwept s9975.1 s9975.2) fun (q9983 : Int) =>
      if q9983 = 0 then
        (some (Sum.inr s9975.2))
      else
        (Option.bind (f_X12_stampAt s9975.1 s9975.2) fun (q9987 : Int) =>
        Option.bind (f_X12_setOf q9987 s9975.2) fun (q9990 : Int) =>
        Option.bind (lp (fun (s9992 : Int × Smo) =>
          if 60 < s9992.1 then
            (some (Sum.inr s9992.2))
          else
            (Option.bind (f_X12_belowOf q9990 s9975.1 s9992.1 s9992.2) fun (q10000 : Int) =>
            jn (
              if q10000 < 0 then
                (8)
              else
                (q10000)) fun (q10002 : Int) =>
            Option.bind (aget (s9992.2 297) (Ln 297) q10002) fun (v10007 : Int) =>
            Option.bind (asetO s9992.2 297 (Ln 297) q10002 (wr (v10007 + 1))) fun (O10009 : Smo) =>
            some (Sum.inl (wr (s9992.1 + 1), O10009)))) FU (0, s9975.2)) fun (r10010 : Smo) =>
        some (Sum.inl (wr (s9975.1 + 1), r10010))))) FU (0, OA) = some q ∧ (fun (r : Sst) (q : Smo) => FrQ S r ∧ (∀ k, k ≠ 297 → q k = O k) ∧ ∃ F : Nat → Int, r.1 243 = rg 9 F ∧ (∀ k, k < 8 → q 297 k = F (k + 1)) ∧ q 297 8 = F 0 ∧ ∀ k, k < 9 → 0 ≤ F k ∧ F k ≤ 10000) r q := by
    refine lp_2 (fun (s : Int × Int × Sst) (t : Int × Smo) => ∃ c : Nat, c ≤ 61 ∧ s.2.1 = (c : Int) ∧ t.1 = (c : Int) ∧ FrQ S s.2.2 ∧ (∀ k, k ≠ 297 → t.2 k = O k) ∧ (∃ F : Nat → Int, s.2.2.1 243 = rg 9 F ∧ (∀ k, k < 8 → t.2 297 k = F (k + 1)) ∧ t.2 297 8 = F 0 ∧ ∀ k, k < 9 → 0 ≤ F k ∧ F k ≤ 61 * (c : Int)) ∧ (s.1 = -1 ∨ ∃ u : Nat, s.1 = (u : Int) ∧ u ≤ v ∧ clTree s.2.2 (t.2 280) (rowV t.2 u))) (fun s => 62 - s.2.1.toNat) _ (fun s t hI => ?_) FU _ _ ⟨0, by decide, rfl, rfl, ?_, fA, ⟨fun _ => 0, ?_, fun k hk => zA k (by omega), zA 8 (by decide), fun k hk => by dsimp only; omega⟩, Or.inl rfl⟩ (by unfold FU; dsimp only; omega)
    · obtain ⟨last, x, S1⟩ := s
      obtain ⟨x', O1⟩ := t
      obtain ⟨c, hc, rfl, rfl, fr, fo, ⟨F, f1, f2, f3, f4⟩, i6⟩ := hI
      dsimp only [jn] at *
      have hC1 := Core_fr hC fr (FrR_297 fo)
      by_cases hc60 : 60 < (c : Int)
      · right
        rw [if_pos (c := 60 < (c : Int) ∨ _) (Or.inl hc60), if_pos hc60]
        exact ⟨_, _, rfl, rfl, fr, fo, F, f1, f2, f3, fun k hk => ⟨(f4 k hk).1, by have := (f4 k hk).2; omega⟩⟩
      · obtain ⟨b, bb, g1, g2, g3⟩ := q_swept hC1 (c : Int) (by omega)
        rw [g1, g2]
        dsimp only [Option.bind_some]
        by_cases hb : b = 0
        · right
          rw [if_pos (c := 60 < (c : Int) ∨ _) (Or.inr hb), if_neg hc60, if_pos hb]
          exact ⟨_, _, rfl, rfl, fr, fo, F, f1, f2, f3, fun k hk => ⟨(f4 k hk).1, by have := (f4 k hk).2; omega⟩⟩
        · left
          have hsw := g3.mp (by omega)
          obtain ⟨u, hu, k1, k2, k3, k4⟩ := q_stampOf hC1 (c : Int)
          have ho := q_over hC1 hsw hu k3 k4
          rw [if_neg (c := 60 < (c : Int) ∨ _) (by omega), if_neg hc60, if_neg hb, k1, k2]
          dsimp only [Option.bind_some]
          rw [(q_set hC1.2 hu).2.1]
          dsimp only [Option.bind_some]
          have hshow : ∃ S2, f_X8_showUnlessShown (u : Int) last S1 = some ((u : Int), S2) ∧ FrQ S1 S2 ∧ S2.1 243 = S1.1 243 ∧ clTree S2 (O1 280) (rowV O1 u) := by
            unfold f_X8_showUnlessShown
            by_cases e : (u : Int) = last
            · rw [if_pos e]
              rcases i6 with e2 | ⟨u', e2, _, hT⟩
              · omega
              · have : u' = u := by omega
                subst this
                exact ⟨S1, rfl, FrQ_refl _, rfl, hT⟩
            · rw [if_neg e]
              have hv := (c_ver hC1 hu).1
              unfold f_X8_show
              rw [(q_set hC1.2 hu).1]
              obtain ⟨S2, e2, f2, T2⟩ := cl_build hC1.1.1.2.1 hC1.1.1.2.2.1 hC1.1.1.2.2.2.2.2 hC1.1.2.1 hv.1
              rw [show f_X10_build _ S1 = _ from e2]
              exact ⟨S2, rfl, ⟨fun k a b c d => f2.1 k (by simp [kTree]; omega), fun k j a b => f2.2 k j (by simp [jTree]; omega)⟩, f2.1 243 (by simp [kTree]), T2⟩
          obtain ⟨S2, e2, fr2, e243, T2⟩ := hshow
          have hC2 := Core_fr hC1 fr2 (FrR_refl O1)
          obtain ⟨S3, e3, m1, m2, m3⟩ := cl_meas hC2 (show c ≤ 60 by omega) hu ho T2.1 (F := F) (by rw [e243, f1]) (fun q hq => ⟨(f4 q hq).1, by have := (f4 q hq).2; omega⟩)
          have hq : ∀ q, q < 9 → 0 ≤ O1 297 q ∧ O1 297 q ≤ 10000 := fun q hq => by
            by_cases e : q = 8
            · subst e
              have := f4 0 (by decide)
              rw [f3]
              omega
            · have := f4 (q + 1) (by omega)
              rw [f2 q (by omega)]
              omega
          obtain ⟨O2, e4, p1, p2⟩ := rf_meas hC2 (show c ≤ 60 by omega) hu ho (O0 := O1) (fun _ _ => rfl) hq
          dsimp only [jn] at e4
          rw [e2]
          dsimp only [Option.bind_some]
          rw [e3, e4]
          dsimp only [Option.bind_some]
          rw [wr_id (by omega) (by omega)]
          have hcn : ∀ z, 0 ≤ (cnA (fun up => blV O1 u (c : Int) (up : Int)) z 61 : Int) ∧ (cnA (fun up => blV O1 u (c : Int) (up : Int)) z 61 : Int) ≤ 61 := fun z => by
            have := cnA_le (fun up => blV O1 u (c : Int) (up : Int)) z 61
            omega
          refine ⟨_, _, rfl, rfl, ⟨c + 1, by omega, by simp, by simp, ?_, fun k hk => by dsimp only; rw [p1 k hk, fo k hk], ⟨_, m1, fun k hk => ?_, ?_, fun k hk => ?_⟩, Or.inr ⟨u, rfl, hu, ?_⟩⟩, by dsimp only; omega⟩
          · exact FrQ_trans (FrQ_trans fr fr2) ⟨fun k _ _ a _ => m2 k (by omega), fun k j _ _ => by dsimp only; rw [m3]⟩
          · dsimp only
            rw [p2 k (by omega), f2 k hk, if_neg (by omega), show ((k + 1 : Nat) : Int) - 1 = (k : Int) by omega]
          · dsimp only
            rw [p2 8 (by omega), f3, if_pos rfl]
            rfl
          · have a := f4 k hk
            have b := hcn ((k : Int) - 1)
            omega
          · dsimp only
            rw [p1 280 (by decide), rowV_fr (FrR_297 p1)]
            exact clTree_fr2 T2 m2 m3
    · rw [hfill]
      exact ⟨fun k _ _ a _ => upR_ne _ _ (by omega), fun _ _ _ _ => rfl⟩
    · dsimp only
      rw [hfill, upR_at]
  obtain ⟨r, q, e1, e2, k0, k1, k2⟩ := key
  refine ⟨r, q, ?_, ?_, k0, FrR_297 k1, k2⟩
  · unfold f_X8_measure
    dsimp only [jn]
    rw [e1]
    rfl
  · unfold f_X12_layAreas
    dsimp only [jn] at e2 ⊢
    rw [eA]
    dsimp only [Option.bind_some]
    rw [e2]
    rfl
theorem op_area {S : Sst} {O : Smo} (h : Inv S O) (z : Int) : Op2 (f_X11_area z S) (f_X12_area z O) := by
  have hI := h
  obtain ⟨n, ne, slots, lo, v, tp, bs, h1, h2, h3, h4, h5, h6, h7, h8⟩ := h
  have hC : Core S O n ne slots lo v tp bs := ⟨h4, h5⟩
  have hn8 := h4.2.1.1
  obtain ⟨r, q, e1, e2, fr, fo, F, f1, f2, f3, f4⟩ := q_lay hC
  unfold f_X11_area f_X12_area
  rw [pl_has h4.1.1, rf_isSeg h4.2.2.2.2.1 hn8]
  by_cases c : z = -1 ∨ (0 ≤ z ∧ z < n)
  · have c' : z = -1 ∨ ¬ (if 0 ≤ z ∧ z < (n : Int) then (1 : Int) else 0) = 0 := by
      rcases c with c | c
      · exact Or.inl c
      · right
        rw [if_pos c]
        decide
    rw [if_pos c', if_pos c', e1, e2]
    dsimp only [Option.bind_some, jn]
    have hv : ∃ k : Nat, (if z < 0 then (8 : Int) else z) = (k : Int) ∧ k < 9 ∧ q 297 k = f_X6_at 243 (wr (z + 1)) r := by
      rcases c with c | c
      · subst c
        exact ⟨8, rfl, by decide, by rw [f3, show wr (-1 + 1) = ((0 : Nat) : Int) by decide +kernel, at_nat f1 (by decide)]⟩
      · obtain ⟨k, rfl⟩ : ∃ k : Nat, z = (k : Int) := ⟨z.toNat, by omega⟩
        exact ⟨k, by rw [if_neg (by omega)], by omega, by rw [f2 k (by omega), wr_id (by omega) (by omega), show (k : Int) + 1 = ((k + 1 : Nat) : Int) by omega, at_nat f1 (by omega)]⟩
    obtain ⟨k, g1, g2, g3⟩ := hv
    rw [g1, Ln297, aget_nat g2, g3]
    exact ⟨_, _, _, rfl, rfl, Inv_fr hI fr fo⟩
  · have c' : ¬ (z = -1 ∨ ¬ (if 0 ≤ z ∧ z < (n : Int) then (1 : Int) else 0) = 0) := fun w => c (by
      rcases w with w | w
      · exact Or.inl w
      · right
        by_cases q : 0 ≤ z ∧ z < (n : Int)
        · exact q
        · exact absurd (if_neg q) w)
    rw [if_neg c', if_neg c']
    exact ⟨_, _, _, rfl, rfl, hI⟩
theorem op_largest {S : Sst} {O : Smo} (h : Inv S O) : Op2 (f_X11_largest S) (f_X12_largest O) := by
  have hI := h
  obtain ⟨n, ne, slots, lo, v, tp, bs, h1, h2, h3, h4, h5, h6, h7, h8⟩ := h
  have hC : Core S O n ne slots lo v tp bs := ⟨h4, h5⟩
  have hn8 := h4.2.1.1
  obtain ⟨r, q, e1, e2, fr, fo, F, f1, f2, f3, f4⟩ := q_lay hC
  have hC1 := Core_fr hC fr fo
  have hct : f_X4_count 29 r = (n : Int) := pl_count hC1.1.1.1
  have h39 : q 262 39 = (n : Int) := hC1.1.2.2.2.2.1
  unfold f_X11_largest f_X12_largest
  rw [e1, e2]
  dsimp only [Option.bind_some]
  have key : ∃ a b, lp (fun (s4268 : Int × Int) =>
    if s4268.2 < f_X4_count 29 r then
      (jn (
        if (s4268.1 = (-1) ∨ f_X6_at 243 (wr (s4268.1 + 1)) r < f_X6_at 243 (wr (s4268.2 + 1)) r) then
          (s4268.2)
        else
          (s4268.1)) fun (q4278 : Int) =>
      some (Sum.inl (q4278, wr (s4268.2 + 1))))
    else
      (some (Sum.inr s4268.1))) FU ((-1), 0) = some a ∧ lp (fun (s10054 : Int × Int) =>
    if s10054.2 < q 262 39 then
      (Option.bind (
        if s10054.1 < 0 then
          (some s10054.2)
        else
          (Option.bind (aget (q 297) (Ln 297) s10054.2) fun (v10067 : Int) =>
          Option.bind (aget (q 297) (Ln 297) s10054.1) fun (v10069 : Int) =>
          if v10069 < v10067 then
            (some s10054.2)
          else
            (some s10054.1))) fun (q10062 : Int) =>
      some (Sum.inl (q10062, wr (s10054.2 + 1))))
    else
      (some (Sum.inr s10054.1))) FU ((-1), 0) = some b ∧ (fun (a b : Int) => a = b) a b := by
    refine lp_i2 (fun (c : Nat) (s : Int × Int) (t : Int × Int) => s = t ∧ s.2 = (c : Int) ∧ (s.1 = -1 ∨ ∃ y : Nat, s.1 = (y : Int) ∧ y < c)) (fun (a b : Int) => a = b) n (by omega) (fun c s t hc hI => ?_) (fun s t hI => ?_) ⟨rfl, rfl, Or.inl rfl⟩
    · obtain ⟨b, z⟩ := s
      obtain ⟨rfl, rfl, hb⟩ := hI
      dsimp only [jn] at *
      rw [if_pos (c := (c : Int) < f_X4_count 29 r) (by rw [hct]; omega), if_pos (c := (c : Int) < q 262 39) (by rw [h39]; omega)]
      have a1 : f_X6_at 243 (wr ((c : Int) + 1)) r = q 297 c := by
        rw [wr_id (by omega) (by omega), show (c : Int) + 1 = ((c + 1 : Nat) : Int) by omega, at_nat f1 (by omega), f2 c (by omega)]
      rw [a1]
      rcases hb with rfl | ⟨y, rfl, hy⟩
      · rw [if_pos (Or.inl rfl), if_pos (by decide)]
        dsimp only [Option.bind_some]
        exact ⟨_, _, rfl, rfl, rfl, by dsimp only; rw [wr_id (by omega) (by omega)]; simp, Or.inr ⟨c, rfl, by omega⟩⟩
      · have a2 : f_X6_at 243 (wr ((y : Int) + 1)) r = q 297 y := by
          rw [wr_id (by omega) (by omega), show (y : Int) + 1 = ((y + 1 : Nat) : Int) by omega, at_nat f1 (by omega), f2 y (by omega)]
        rw [a2, if_neg (c := (y : Int) < 0) (by omega), Ln297, aget_nat (show c < 9 by omega), aget_nat (show y < 9 by omega)]
        dsimp only [Option.bind_some]
        by_cases w : q 297 y < q 297 c
        · rw [if_pos (Or.inr w), if_pos w]
          dsimp only [Option.bind_some]
          exact ⟨_, _, rfl, rfl, rfl, by dsimp only; rw [wr_id (by omega) (by omega)]; simp, Or.inr ⟨c, rfl, by omega⟩⟩
        · rw [if_neg (by omega), if_neg w]
          dsimp only [Option.bind_some]
          exact ⟨_, _, rfl, rfl, rfl, by dsimp only; rw [wr_id (by omega) (by omega)]; simp, Or.inr ⟨y, rfl, by omega⟩⟩
    · obtain ⟨b, z⟩ := s
      obtain ⟨rfl, rfl, hb⟩ := hI
      dsimp only at *
      rw [if_neg (by rw [hct]; omega), if_neg (by rw [h39]; omega)]
      exact ⟨_, _, rfl, rfl, rfl⟩
  obtain ⟨a, b, k1, k2, rfl⟩ := key
  dsimp only [jn] at k1
  dsimp only [jn]
  rw [k1, k2]
  exact ⟨_, _, _, rfl, rfl, Inv_fr hI fr fo⟩
