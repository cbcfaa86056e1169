/-! LEVEL 3, aa: acts -/
def Op2 (c : Option (Int × Sst)) (r : Option (Int × Smo)) : Prop := ∃ (a : Int) (S' : Sst) (O' : Smo), c = some (a, S') ∧ r = some (a, O') ∧ Inv S' O'
theorem do_act {S : Sst} {O : Smo} {n ne slots v tp bs : Nat} {lo : Nat → Nat} (h1 : ITape S O) (h2 : ILie S O) (h3 : ILex S O) (h4 : IPlan S O n ne slots lo) (h5 : IVer S O n ne slots v tp bs) (h6 : IAct S O n ne v tp bs) (h7 : IBox S O n ne slots) (h8 : ITold S O n) (hv : v < 40)
    {act x cut sw : Int} {m' : Nat} (ho : Over (sgO O) n m' x) (hx : 0 ≤ x ∧ x ≤ 60)
    (ha : ∀ A' : Nat → Int, A' v = O 282 v → mA A' v = mA (O 282) v → A' (82 + v) = O 282 (82 + v) → A' (123 + v) = O 282 (123 + v) → A' (v + 1) = x → A' (41 + (v + 1)) = (m' : Int) → A' (82 + (v + 1)) = cut → A' (123 + (v + 1)) = sw → actA (sgO O) n (O 281) ne A' v act ∧ chA ne (O 281) A' v ∧ (mA A' (v + 1) = m' → evA (sgO O) ne (O 281) A' (v + 1))) :
    ∃ (S' : Sst) (O' : Smo), f_X0_doNew act S = some (1, S') ∧ f_X12_goOn x m' cut sw O = some ((pc m' : Int), O') ∧ Inv S' O' ∧ f_X11_countIn S' = (pc m' : Int) := by
  obtain ⟨p1, p2, p3, p4, p5, p6, p7, p8⟩ := h4
  obtain ⟨v1, v2, v3, v4, v5, v6⟩ := h5
  obtain ⟨a1, a2, a3⟩ := h6
  obtain ⟨q, eg, g1, g2, g3, g4, g5, g6, g7, g8, g9, g10, g11⟩ := rf_goOn cut sw v5.1 (show v ≤ tp by omega) hv v1 p5 p2 p7 p3.2 ho hx
  obtain ⟨z, O'⟩ := q
  dsimp only at *
  subst g1
  have lo0 : ∀ b u, (b = 0 ∨ b = 41 ∨ b = 82 ∨ b = 123 ∨ b = 164) → u ≤ v → O' 282 (b + u) = O 282 (b + u) := fun b u hb hu => by
    refine g9 _ ?_ ?_ ?_ ?_ ?_ ?_ <;> omega
  have mlow : mA (O' 282) v = mA (O 282) v := by unfold mA; rw [lo0 41 v (by simp) (Nat.le_refl _)]
  have l0 : O' 282 v = O 282 v := by have := lo0 0 v (by simp) (Nat.le_refl _); simpa using this
  obtain ⟨c1, c2, c3⟩ := ha (O' 282) l0 mlow (lo0 82 v (by simp) (Nat.le_refl _)) (lo0 123 v (by simp) (Nat.le_refl _)) g5 g6 g7 g8
  rw [← g5] at g10 g11 ho
  obtain ⟨s1, s2, s3⟩ := act_step p2 v5 p3.2 (by omega) ho.1 g6 (fun i hi => g9 i (Or.inl hi)) hv g10 g11 ⟨ho, by rw [g5]; exact hx⟩ c3 c2
  have o : ∀ k, 276 ≤ k → k ≤ 281 → O' k = O k := fun k a b => g2.1 k (by simp; omega) (by omega)
  have i : ∀ j, j ≠ 47 → j ≠ 48 → j ≠ 58 → j ≠ 59 → O' 262 j = O 262 j := fun j a b c d => g2.2 j (by simp; omega)
  have hsg := sgO_fr o
  -- the class
  have hnew : f_X7_newest 74 S = (v : Int) := newest_row (by rw [v6.1, rg_len]) (by omega)
  have hk1 : f_X6_keep 240 (S.2 239 1) S = upR S 240 ((S.1 240).take (v - bs)) := by
    unfold f_X6_keep
    rw [a1, if_pos (by omega), show ((v : Int) - bs).toNat = v - bs by omega]
  have hlen : ((S.1 240).take (v - bs)).length = v - bs := by rw [List.length_take]; omega
  have hk2 : f_X6_add 240 act (upR S 240 ((S.1 240).take (v - bs))) = upR S 240 ((S.1 240).take (v - bs) ++ [act]) := by
    unfold f_X6_add
    rw [upR_at, hlen, Ln241, if_pos (by omega), upR_up]
  have e1 : ∀ k, k ≠ 240 → (upR S 240 ((S.1 240).take (v - bs) ++ [act])).1 k = S.1 k := fun k hk => upR_ne _ _ hk
  have e2 : (upR S 240 ((S.1 240).take (v - bs) ++ [act])).1 240 = (S.1 240).take (v - bs) ++ [act] := upR_at _ _ _
  have e3 : (upR S 240 ((S.1 240).take (v - bs) ++ [act])).2 = S.2 := rfl
  have hdo : f_X0_doNew act S = Option.bind (f_X0_perform act (upR S 240 ((S.1 240).take (v - bs) ++ [act]))) fun q => some (1, q) := by
    unfold f_X0_doNew
    dsimp only [jn]
    rw [hnew, if_pos (by omega), hk1, hk2]
  rw [hdo]
  generalize upR S 240 ((S.1 240).take (v - bs) ++ [act]) = S1 at *
  have hR1 : RepS 74 S1 (sgO O) (O 280) slots (O' 282) v := RepS_congr (RepS_row v6 (fun k a b => e1 k (by omega))) (by omega) s2 (fun u hu => ⟨by have := lo0 0 u (by simp) hu; simpa using this, lo0 41 u (by simp) hu, lo0 82 u (by simp) hu, lo0 123 u (by simp) hu⟩)
  have hP1 : PlS S1 (sgO O) n (O 280) (O 281) ne lo slots := by
    obtain ⟨⟨x1, x2, x3, x4, x5, x6⟩, y2, y3, y4, y5, y6⟩ := p1
    exact ⟨⟨by rw [e1 _ (by decide)]; exact x1, by rw [e1 _ (by decide)]; exact x2, by rw [e1 _ (by decide)]; exact x3, by rw [e1 _ (by decide)]; exact x4, by rw [e1 _ (by decide)]; exact x5, by rw [e1 _ (by decide)]; exact x6⟩, by rw [e1 _ (by decide)]; exact y2, by rw [e1 _ (by decide)]; exact y3, by rw [e1 _ (by decide)]; exact y4, by rw [e3]; exact y5, y6⟩
  obtain ⟨S2, ep, r1, r2, r3, r4⟩ := cl_perform hP1 p2 p3.2 s1.1 (show v < v + 1 by omega) hv hR1 (s1.2.1 v (by omega)) (s1.2.2.1 (v + 1) (Nat.le_refl _)).1 c1 (by rw [e3, a1]; omega) p4.1
  rw [ep]
  refine ⟨S2, O', rfl, eg, ⟨n, ne, slots, lo, v + 1, v + 1, bs, ?_, ?_, ?_, ?_, ?_, ?_, ?_, ?_⟩, ?_⟩
  · exact ITape_fr h1 (by rw [r3 _ (by omega), e1 _ (by decide)]) (g2.1 _ (by simp) (by decide)) (i _ (by decide) (by decide) (by decide) (by decide))
  · exact ILie_fr h2 (by rw [r3 _ (by omega), e1 _ (by decide)]) (g2.1 _ (by simp) (by decide)) (i _ (by decide) (by decide) (by decide) (by decide))
  · exact ILex_fr h3 ⟨by rw [r4 _ _ (by simp), e3], by rw [r4 _ _ (by simp), e3], by rw [r4 _ _ (by simp), e3]⟩ (fun k => by rw [r4 _ _ (by simp), e3]) ⟨i _ (by decide) (by decide) (by decide) (by decide), i _ (by decide) (by decide) (by decide) (by decide)⟩
  · exact IPlan_fr ⟨p1, p2, p3, p4, p5, p6, p7, p8⟩ (fun k a b => by rw [r3 _ (by omega), e1 _ (by omega)]) ⟨by rw [r4 _ _ (by simp), e3], by rw [r4 _ _ (by simp), e3]⟩ o ⟨i _ (by decide) (by decide) (by decide) (by decide), i _ (by decide) (by decide) (by decide) (by decide), i _ (by decide) (by decide) (by decide) (by decide), i _ (by decide) (by decide) (by decide) (by decide)⟩
  · refine ⟨g3, g4, by rw [i _ (by decide) (by decide) (by decide) (by decide)]; exact v3, ⟨by omega, Nat.le_refl _, by omega⟩, ?_, ?_⟩
    · rw [hsg, o 280 (by decide) (by decide), o 281 (by decide) (by decide)]; exact s1
    · rw [hsg, o 280 (by decide) (by decide)]; exact r1
  · refine ⟨by rw [r2, e3, a1]; omega, by rw [r3 _ (by omega), e2, List.length_append, hlen]; simp; omega, fun u hu1 hu2 => ?_⟩
    rw [r3 _ (by omega), e2, hsg, o 281 (by decide) (by decide)]
    by_cases q : u = v
    · subst q
      exact ⟨act, by rw [List.getElem?_append_right (by omega), hlen]; simp, c1⟩
    · obtain ⟨ac, b1, b2⟩ := a3 u hu1 (by omega)
      refine ⟨ac, ?_, actA_congr b2 (s2 u (by omega)).2 (fun k hk => ⟨by have := lo0 0 k (by simp) (by omega); simpa using this, lo0 41 k (by simp) (by omega), lo0 82 k (by simp) (by omega), lo0 123 k (by simp) (by omega)⟩)⟩
      rw [List.getElem?_append_left (by omega), List.getElem?_take_of_lt (by omega)]
      exact b1
  · exact IBox_fr h7 (fun k a b => by rw [r3 _ (by omega), e1 _ (by omega)]) (fun b hb => by rw [r4 _ _ (by simp), e3]) o (fun k a b => g2.1 k (by simp; omega) (by omega))
  · exact ITold_fr h8 (fun k a b => by rw [r3 _ (by omega), e1 _ (by omega)]) (by rw [r4 _ _ (by simp), e3]) (fun k a b => g2.1 k (by simp; omega) (by omega)) ⟨i _ (by decide) (by decide) (by decide) (by decide), i _ (by decide) (by decide) (by decide) (by decide)⟩ (fun i hi => g9 i (Or.inr hi) (by omega) (by omega) (by omega) (by omega) (by omega))
  · unfold f_X11_countIn
    have hn2 : f_X7_newest 74 S2 = ((v + 1 : Nat) : Int) := newest_row (by rw [r1.1, rg_len]) (by omega)
    rw [hn2, show (77 : Nat) = 74 + 3 from rfl, at_nat r1.2.1 (show v + 1 < v + 1 + 1 by omega), g6, pc_n ho.1]
theorem rf_has_z {m : Nat} {z : Int} {n : Nat} (hm : m < 256) (hn : n ≤ 8) (h0 : 0 ≤ z) (h1 : z < n) : f_X12_has (m : Int) z = bt m z.toNat := by
  obtain ⟨k, rfl⟩ : ∃ k : Nat, z = (k : Int) := ⟨z.toNat, by omega⟩
  rw [has_n hm (by omega), Int.toNat_natCast]
theorem rf_isSeg {O : Smo} {n : Nat} (h : O 262 39 = (n : Int)) (hn : n ≤ 8) (z : Int) : f_X12_isSegment z O = if 0 ≤ z ∧ z < n then 1 else 0 := by
  unfold f_X12_isSegment f_X12_isIn
  rw [h, wr_id (by omega) (by omega)]
  by_cases c : 0 ≤ z ∧ z < n
  · rw [if_pos c, if_neg (by omega)]
  · rw [if_neg c, if_pos (by omega)]
theorem clr_over {g : Sg} {n m s : Nat} {x : Int} (h : Over g n m x) (hs : s < 8) : Over g n (clr m s) x := ⟨clr_lt h.1 hs, fun k hk => by
  rw [clr_tb h.1 hs] at hk
  simp at hk
  exact h.2 k hk.1⟩
theorem put_over {g : Sg} {n m s : Nat} {x : Int} (h : Over g n m x) (hs : s < 8) (h1 : s < n) (h2 : ovP g s x) : Over g n (put1 m s) x := ⟨put1_lt h.1 hs, fun k hk => by
  rw [put1_tb h.1 hs] at hk
  simp at hk
  rcases hk with hk | hk
  · exact h.2 k hk
  · rw [hk]; exact ⟨h1, h2⟩⟩
theorem op_sweep {S : Sst} {O : Smo} (h : Inv S O) : Op2 (f_X11_sweep S) (f_X12_sweep O) := by
  have hI := h
  obtain ⟨n, ne, slots, lo, v, tp, bs, h1, h2, h3, h4, h5, h6, h7, h8⟩ := h
  have p := h4
  obtain ⟨p1, p2, p3, p4, p5, p6, p7, p8⟩ := p
  have q := h5
  obtain ⟨v1, v2, v3, v4, v5, v6⟩ := q
  obtain ⟨vr, ve⟩ := v5.2.2.1 v (by omega)
  have ve' := ve
  obtain ⟨e1, e2, e, e3, e4, e5, e6⟩ := ve'
  obtain ⟨am, am8, amn⟩ := v5.1.1 v (by omega)
  have hnew : f_X7_newest 74 S = (v : Int) := newest_row (by rw [v6.1, rg_len]) (by omega)
  have c81 : f_X6_at 81 (v : Int) S = (e : Int) := by rw [at_nat v6.2.2.2.1 (show v < v + 1 by omega), e3]
  have c46 : f_X6_size 46 S = (ne : Int) := size_rg p1.2.2.2.1
  have hcan : f_X0_canSweep S = if e < ne then 1 else 0 := by
    unfold f_X0_canSweep
    rw [hnew, c81, c46]
    by_cases c : e < ne
    · rw [if_pos c, if_pos (by omega)]
    · rw [if_neg c, if_neg (by omega)]
  have hsw : f_X12_sweepsNow O = some (e : Int) := by
    unfold f_X12_sweepsNow
    rw [v1, rf_at (i := 123 + v) (by rw [wr_id (by omega) (by omega)]; omega) (by omega), e3]
    rfl
  unfold f_X11_sweep f_X12_sweep
  dsimp only [jk]
  rw [hcan, v1, hsw]
  dsimp only [Option.bind_some]
  by_cases c40 : v = 40
  · rw [if_pos (show ((v : Nat) : Int) = 40 by omega)]
    by_cases c : e < ne
    · rw [if_pos c, if_neg (by decide)]
      have : f_X0_doNew 0 S = some (0, S) := by
        unfold f_X0_doNew
        rw [hnew, if_neg (by omega)]
      rw [this]
      exact ⟨_, _, _, rfl, rfl, hI⟩
    · rw [if_neg c, if_pos rfl]
      exact ⟨_, _, _, rfl, rfl, hI⟩
  · rw [if_neg (show ¬ ((v : Nat) : Int) = 40 by omega), p6]
    by_cases c : e < ne
    · rw [if_pos c, if_neg (by decide), if_neg (by omega)]
      obtain ⟨so, sn⟩ := sweep_over p2 p4 vr ve e3 c
      have hloop : lp (fun (s7941 : Int × Int) =>
        if s7941.2 < O 262 39 then
          (Option.bind (aget (O 278) (Ln 278) s7941.2) fun (v7949 : Int) =>
          Option.bind (aget (O 276) (Ln 276) s7941.2) fun (v7958 : Int) =>
          some (Sum.inl ((if v7958 = O 281 e then zor (if v7949 = O 281 e then zand s7941.1 (zxor (zshl 1 s7941.2) (-1)) else s7941.1) (zshl 1 s7941.2) else (if v7949 = O 281 e then zand s7941.1 (zxor (zshl 1 s7941.2) (-1)) else s7941.1)), wr (s7941.2 + 1))))
        else
          (some (Sum.inr s7941.1))) FU ((mA (O 282) v : Int), 0) = some (swM (sgO O) (mA (O 282) v) (O 281 e) n : Int) := by
        refine Ret_eq (Ret_lp (fun c q => q = ((swM (sgO O) (mA (O 282) v) (O 281 e) c : Int), (c : Int))) n (by have := p2.1; omega) rfl (fun c q hc hI => ?_) (fun q hI => ?_))
        · subst hI
          have hc8 : c < 8 := by have := p2.1; omega
          have hl := swM_lt (g := sgO O) (x := O 281 e) am8 c (by omega)
          dsimp only
          rw [if_pos (by rw [p5]; omega), Ln278, aget_nat hc8, Ln276, aget_nat hc8]
          dsimp only [Option.bind_some]
          refine Ret_some ⟨_, rfl, ?_⟩
          rw [wr_id (by omega) (by omega)]
          have esw : swM (sgO O) (mA (O 282) v) (O 281 e) (c + 1) = if O 276 c = O 281 e then put1 (swM (sgO O) (mA (O 282) v) (O 281 e) c) c else if O 278 c = O 281 e then clr (swM (sgO O) (mA (O 282) v) (O 281 e) c) c else swM (sgO O) (mA (O 282) v) (O 281 e) c := rfl
          rw [esw]
          have hb := p2.2.1 c hc
          unfold SegB at hb
          have hab : O 276 c < O 278 c := hb.2.1
          by_cases q1 : O 276 c = O 281 e
          · rw [if_pos q1, if_pos q1, if_neg (by omega), or_n hl hc8]
            rfl
          · rw [if_neg q1, if_neg q1]
            by_cases q2 : O 278 c = O 281 e
            · rw [if_pos q2, if_pos q2, cl_n hl hc8]; rfl
            · rw [if_neg q2, if_neg q2]; rfl
        · subst hI
          dsimp only
          rw [if_neg (by rw [p5]; omega)]
          exact Ret_some ⟨_, rfl, rfl⟩
      obtain ⟨S', O', d1, d2, d3, d4⟩ := do_act (act := 0) (cut := O 282 (82 + v)) (sw := ((e + 1 : Nat) : Int)) h1 h2 h3 h4 h5 h6 h7 h8 (by omega) so (p4.2.2.1 e c) (fun A' k1 k2 k3 k4 k5 k6 k7 k8 => by
        refine ⟨⟨⟨by unfold cA; rw [k3]; exact e1, by unfold cA; rw [k3]; exact e2, e, by rw [k4]; exact e3, e4⟩, Or.inl ⟨rfl, e, by rw [k4]; exact e3, c, k5, by rw [k6, k2], by rw [k7, k3], by rw [k8]; omega⟩⟩, Or.inr ⟨e, by rw [k4]; exact e3, c, k5, k8⟩, fun hm => ⟨?_, ?_, e + 1, k8, c, by rw [if_neg (by omega)]; exact k5, fun s hs => ?_⟩⟩
        · unfold cA; rw [k7]; exact e1
        · unfold cA; rw [k7]; exact e2
        · rw [hm] at hs
          exact sn s hs)
      rw [d1]
      dsimp only [Option.bind_some]
      rw [if_neg (by decide), d4]
      have he16 : e < 16 := by have := p4.1; omega
      rw [Ln281, aget_nat he16]
      dsimp only [Option.bind_some]
      rw [rf_setOf (by omega), am]
      dsimp only [Option.bind_some, jn]
      rw [hloop]
      dsimp only [Option.bind_some]
      have hcn : f_X12_cutNow O = some (O 282 (82 + v)) := by
        unfold f_X12_cutNow
        rw [v1, rf_at (i := 82 + v) (by rw [wr_id (by omega) (by omega)]; omega) (by omega)]
        rfl
      rw [hcn]
      dsimp only [Option.bind_some]
      rw [show wr ((e : Int) + 1) = ((e + 1 : Nat) : Int) by rw [wr_id (by omega) (by omega)]; omega, d2]
      exact ⟨_, _, _, rfl, rfl, d3⟩
    · rw [if_neg c, if_pos rfl, if_pos (by omega)]
      exact ⟨_, _, _, rfl, rfl, hI⟩
