/-! LEVEL 3, bb: cut, raise, undo, redo -/
theorem upS_ne {S : Sst} {k j a b : Nat} {v : Int} (h : a ≠ k ∨ b ≠ j) : (upS S k j v).2 a b = S.2 a b := up2_ne h
theorem upS_n2 {S T : Sst} {k j a b : Nat} {v : Int} (e : S.2 = T.2) (h : a ≠ k) : (upS S k j v).2 a b = T.2 a b := by rw [upS_ne (Or.inl h), e]
theorem wr16 {z : Int} (h0 : 0 ≤ z) (h1 : z < 8) : wr (16 + z) = 16 + z ∧ wr (32 + z) = 32 + z := ⟨wr_id (by omega) (by omega), wr_id (by omega) (by omega)⟩
theorem op_cut {S : Sst} {O : Smo} (h : Inv S O) (z : Int) : Op2 (f_X11_cut z S) (f_X12_cut z O) := by
  have hI := h
  obtain ⟨n, ne, slots, lo, v, tp, bs, h1, h2, h3, h4, h5, h6, h7, h8⟩ := h
  have p := h4
  obtain ⟨p1, p2, p3, p4, p5, p6, p7, p8⟩ := p
  have q := h5
  obtain ⟨v1, v2, v3, v4, v5, v6⟩ := q
  obtain ⟨vr, ve⟩ := v5.2.2.1 v (by omega)
  have vr' := vr
  obtain ⟨vo, vx⟩ := vr'
  have ve' := ve
  obtain ⟨e1, e2, e, e3, e4, e5, e6⟩ := ve'
  obtain ⟨am, am8, amn⟩ := v5.1.1 v (by omega)
  have hn8 := p2.1
  have hnew : f_X7_newest 74 S = (v : Int) := newest_row (by rw [v6.1, rg_len]) (by omega)
  have c77 : f_X6_at (74 + 3) (v : Int) S = (mA (O 282) v : Int) := by rw [at_nat v6.2.1 (show v < v + 1 by omega), am]
  have hcan : ∀ b : Int, (if 0 ≤ z ∧ z < n then b = f_X7_isIn 74 (v : Int) z S else b = 0) → (b = 0 ∨ b = 1) → f_X0_canCut z S = b := fun b hb hb2 => by
    unfold f_X0_canCut
    rw [pl_has p1.1, hnew]
    by_cases hz : 0 ≤ z ∧ z < n
    · rw [if_pos hz] at hb ⊢
      rw [← hb]
      rcases hb2 with q | q <;> rw [q]
      · rw [if_pos (Or.inr rfl)]
      · rw [if_neg (by simp)]
    · rw [if_neg hz] at hb ⊢
      rw [hb, if_pos (Or.inl rfl)]
  unfold f_X11_cut f_X12_cut
  dsimp only [jk]
  rw [v1]
  by_cases hz : 0 ≤ z ∧ z < n
  · obtain ⟨s, rfl⟩ : ∃ s : Nat, z = (s : Int) := ⟨z.toNat, by omega⟩
    have hs8 : s < 8 := by omega
    have hs : s < n := by omega
    rw [hcan (bt (mA (O 282) v) s) (by rw [if_pos hz, cl_isIn c77 am8 hs8]) (bt01 _ _)]
    have hnow : f_X12_isNow (s : Int) O = some (bt (mA (O 282) v) s) := by
      unfold f_X12_isNow
      dsimp only [jk]
      rw [rf_isSeg p5 hn8, if_pos hz, if_neg (by decide), v1, rf_setOf (by omega), am]
      dsimp only [Option.bind_some]
      rw [has_n am8 hs8]
      rcases bt01 (mA (O 282) v) s with q | q <;> rw [q] <;> rfl
    by_cases hb : (mA (O 282) v).testBit s = true
    · rw [bt_1.mpr hb, if_neg (by decide), (wr16 (by omega) (by omega)).1]
      by_cases c40 : v < 40
      · rw [if_pos (by omega), hnow, bt_1.mpr hb]
        dsimp only [Option.bind_some]
        rw [if_neg (by decide), rf_placeOf (by omega)]
        dsimp only [Option.bind_some]
        rw [rf_setOf (by omega), am]
        dsimp only [Option.bind_some]
        have hcn : f_X12_cutNow O = some (O 282 (82 + v)) := by
          unfold f_X12_cutNow
          rw [v1, rf_at (i := 82 + v) (by rw [wr_id (by omega) (by omega)]; omega) (by omega)]
          rfl
        have hsw : f_X12_sweepsNow O = some (O 282 (123 + v)) := by
          unfold f_X12_sweepsNow
          rw [v1, rf_at (i := 123 + v) (by rw [wr_id (by omega) (by omega)]; omega) (by omega)]
          rfl
        rw [hcn, e1]
        dsimp only [Option.bind_some]
        rw [hsw]
        dsimp only [Option.bind_some]
        rw [cl_n am8 hs8, or_n e2 hs8]
        obtain ⟨S', O', d1, d2, d3, d4⟩ := do_act (act := 16 + (s : Int)) (cut := (put1 (cA (O 282) v) s : Int)) (sw := O 282 (123 + v)) h1 h2 h3 h4 h5 h6 h7 h8 c40 (clr_over vo hs8) vx (fun A' k1 k2 k3 k4 k5 k6 k7 k8 => by
          have kc : cA A' v = cA (O 282) v := by unfold cA; rw [k3]
          refine ⟨⟨⟨by rw [kc, k3]; exact e1, by rw [kc]; exact e2, e, by rw [k4]; exact e3, e4⟩, Or.inr (Or.inl ⟨s, hs, rfl, by rw [k5, k1], by rw [k6, k2], by rw [k7, kc], by rw [k8, k4]⟩)⟩, Or.inl ⟨by rw [k5, k1], by rw [k8, k4]⟩, fun hm => ⟨?_, ?_, e, by rw [k8]; exact e3, e4, by rw [k5]; exact e5, fun j hj => ?_⟩⟩
          · unfold cA; rw [k7]; omega
          · unfold cA; rw [k7]
            have := put1_lt e2 hs8
            omega
          · rw [hm, clr_tb am8 hs8] at hj
            simp at hj
            exact e6 j hj.1)
        rw [d1, d2]
        dsimp only [Option.bind_some]
        rw [if_neg (by decide), d4]
        exact ⟨_, _, _, rfl, rfl, d3⟩
      · rw [if_neg (by omega)]
        have : f_X0_doNew (16 + (s : Int)) S = some (0, S) := by
          unfold f_X0_doNew
          rw [hnew, if_neg (by omega)]
        rw [this]
        exact ⟨_, _, _, rfl, rfl, hI⟩
    · have hb0 : (mA (O 282) v).testBit s = false := by simpa using hb
      rw [bt_0.mpr hb0, if_pos rfl, hnow, bt_0.mpr hb0]
      dsimp only [Option.bind_some]
      rw [if_pos rfl]
      refine ⟨-1, S, O, rfl, ?_, hI⟩
      split <;> rfl
  · rw [hcan 0 (by rw [if_neg hz]) (Or.inl rfl), if_pos rfl]
    have hnow : f_X12_isNow z O = some 0 := by
      unfold f_X12_isNow
      dsimp only [jk]
      rw [rf_isSeg p5 hn8, if_neg hz, if_pos rfl]
    rw [hnow]
    dsimp only [Option.bind_some]
    rw [if_pos rfl]
    refine ⟨-1, S, O, rfl, ?_, hI⟩
    split <;> rfl
theorem op_raise {S : Sst} {O : Smo} (h : Inv S O) (z : Int) : Op2 (f_X11_raise z S) (f_X12_raise z O) := by
  have hI := h
  obtain ⟨n, ne, slots, lo, v, tp, bs, h1, h2, h3, h4, h5, h6, h7, h8⟩ := h
  have p := h4
  obtain ⟨p1, p2, p3, p4, p5, p6, p7, p8⟩ := p
  have q := h5
  obtain ⟨v1, v2, v3, v4, v5, v6⟩ := q
  obtain ⟨vr, ve⟩ := v5.2.2.1 v (by omega)
  have vr' := vr
  obtain ⟨vo, vx⟩ := vr'
  have ve' := ve
  obtain ⟨e1, e2, e, e3, e4, e5, e6⟩ := ve'
  obtain ⟨am, am8, amn⟩ := v5.1.1 v (by omega)
  have hn8 := p2.1
  have hnew : f_X7_newest 74 S = (v : Int) := newest_row (by rw [v6.1, rg_len]) (by omega)
  have c75 : f_X6_at 75 (v : Int) S = O 282 v := at_nat v6.1 (show v < v + 1 by omega)
  have c79 : f_X6_at 79 (v : Int) S = (cA (O 282) v : Int) := by rw [at_nat v6.2.2.1 (show v < v + 1 by omega), e1]
  have hcan : f_X0_canRaise z S = if f_X4_isOver 29 z (O 282 v) S = 0 ∨ zand (zshr (cA (O 282) v : Int) z) 1 = 0 then 0 else 1 := by
    unfold f_X0_canRaise
    dsimp only [jn]
    rw [hnew, c75, c79]
  unfold f_X11_raise f_X12_raise
  dsimp only [jk]
  rw [hcan, rf_isSeg p5 hn8, v1]
  by_cases hz : 0 ≤ z ∧ z < n
  · obtain ⟨s, rfl⟩ : ∃ s : Nat, z = (s : Int) := ⟨z.toNat, by omega⟩
    have hs8 : s < 8 := by omega
    have hs : s < n := by omega
    have hcn : f_X12_cutNow O = some (cA (O 282) v : Int) := by
      unfold f_X12_cutNow
      rw [v1, rf_at (i := 82 + v) (by rw [wr_id (by omega) (by omega)]; omega) (by omega), e1]
      rfl
    rw [pl_over p1.1 hs, if_pos hz, bit_n e2 hs8]
    have hov : f_X12_isOver (s : Int) (O 282 v) O = some (if sga (sgO O) s ≤ O 282 v ∧ O 282 v < sgb (sgO O) s then 1 else 0) := rf_over hs8 _
    by_cases hc : sga (sgO O) s ≤ O 282 v ∧ O 282 v < sgb (sgO O) s
    · rw [if_pos hc]
      rw [if_pos hc] at hov
      by_cases hb : (cA (O 282) v).testBit s = true
      · rw [bt_1.mpr hb, if_neg (by simp), (wr16 (by omega) (by omega)).2]
        by_cases c40 : v < 40
        · rw [if_neg (by omega), hcn]
          dsimp only [Option.bind_some]
          rw [has_n e2 hs8, bt_1.mpr hb, if_neg (by decide), rf_placeOf (by omega)]
          dsimp only [Option.bind_some]
          rw [hov]
          dsimp only [Option.bind_some]
          rw [if_neg (by decide)]
          rw [rf_setOf (by omega), am]
          dsimp only [Option.bind_some]
          have hsw : f_X12_sweepsNow O = some (O 282 (123 + v)) := by
            unfold f_X12_sweepsNow
            rw [v1, rf_at (i := 123 + v) (by rw [wr_id (by omega) (by omega)]; omega) (by omega)]
            rfl
          rw [hsw]
          dsimp only [Option.bind_some]
          rw [or_n am8 hs8, cl_n e2 hs8]
          have hev := ev_next p4 hs (e := e) (by
            by_cases c0 : e = 0
            · exact Or.inl c0
            · refine Or.inr ?_
              rw [e5, if_neg c0] at hc
              exact hc.2) e4
          obtain ⟨S', O', d1, d2, d3, d4⟩ := do_act (act := 32 + (s : Int)) (cut := (clr (cA (O 282) v) s : Int)) (sw := O 282 (123 + v)) h1 h2 h3 h4 h5 h6 h7 h8 c40 (put_over vo hs8 hs hc) vx (fun A' k1 k2 k3 k4 k5 k6 k7 k8 => by
            have kc : cA A' v = cA (O 282) v := by unfold cA; rw [k3]
            refine ⟨⟨⟨by rw [kc, k3]; exact e1, by rw [kc]; exact e2, e, by rw [k4]; exact e3, e4⟩, Or.inr (Or.inr ⟨s, hs, rfl, by rw [k5, k1], by rw [k6, k2], by rw [k7, kc], by rw [k8, k4]⟩)⟩, Or.inl ⟨by rw [k5, k1], by rw [k8, k4]⟩, fun hm => ⟨?_, ?_, e, by rw [k8]; exact e3, e4, by rw [k5]; exact e5, fun j hj => ?_⟩⟩
            · unfold cA; rw [k7]; omega
            · unfold cA; rw [k7]
              have := clr_lt e2 hs8
              omega
            · rw [hm, put1_tb am8 hs8] at hj
              simp at hj
              rcases hj with hj | hj
              · exact e6 j hj
              · rw [hj]; exact hev)
          rw [d1, d2]
          dsimp only [Option.bind_some]
          rw [if_neg (by decide), d4]
          exact ⟨_, _, _, rfl, rfl, d3⟩
        · rw [if_pos (by omega)]
          have : f_X0_doNew (32 + (s : Int)) S = some (0, S) := by
            unfold f_X0_doNew
            rw [hnew, if_neg (by omega)]
          rw [this]
          exact ⟨_, _, _, rfl, rfl, hI⟩
      · have hb0 : (cA (O 282) v).testBit s = false := by simpa using hb
        rw [bt_0.mpr hb0, if_pos (by simp)]
        refine ⟨-1, S, O, rfl, ?_, hI⟩
        rw [hcn]
        dsimp only [Option.bind_some]
        rw [has_n e2 hs8, bt_0.mpr hb0, if_pos (c := (0 : Int) = 0) rfl]
        split <;> rfl
    · rw [if_neg hc]
      rw [if_neg hc] at hov
      rw [if_pos (Or.inl rfl), if_pos rfl]
      refine ⟨-1, S, O, rfl, ?_, hI⟩
      rw [hcn]
      dsimp only [Option.bind_some]
      rw [rf_placeOf (by omega)]
      dsimp only [Option.bind_some]
      rw [hov]
      dsimp only [Option.bind_some]
      rw [if_pos (c := (0 : Int) = 0) rfl]
      (repeat' split) <;> rfl
  · rw [pl_over_out p1.1 hz, if_neg hz, if_pos (Or.inl rfl), if_pos rfl, if_pos (Or.inr rfl)]
    exact ⟨_, _, _, rfl, rfl, hI⟩
theorem op_undo {S : Sst} {O : Smo} (h : Inv S O) : Op2 (f_X11_undo S) (some (f_X12_undo O)) := by
  have hI := h
  obtain ⟨n, ne, slots, lo, v, tp, bs, h1, h2, h3, h4, h5, h6, h7, h8⟩ := h
  obtain ⟨v1, v2, v3, v4, v5, v6⟩ := h5
  obtain ⟨a1, a2, a3⟩ := h6
  unfold f_X11_undo f_X12_undo f_X0_takeBack
  dsimp only [jn]
  rw [a1, v1, v3]
  by_cases c : v = bs
  · rw [if_pos (by omega), if_pos (by omega)]
    exact ⟨_, _, _, rfl, rfl, hI⟩
  · rw [if_neg (by omega), if_neg (by omega)]
    obtain ⟨u, rfl⟩ : ∃ u, v = u + 1 := ⟨v - 1, by omega⟩
    obtain ⟨S', e, r1, r2, r3⟩ := cl_shrink v5.1 h4.2.2.1.2 (by omega) (by omega) v6
    rw [e]
    dsimp only [Option.bind_some]
    rw [show wr (((u + 1 : Nat) : Int) - 1) = (u : Int) by rw [wr_id (by omega) (by omega)]; omega, r2, a1, show wr (((u + 1 : Nat) : Int) - (bs : Int) - 1) = (u : Int) - bs by rw [wr_id (by omega) (by omega)]; omega]
    refine ⟨_, _, _, rfl, rfl, n, ne, slots, lo, u, tp, bs, ?_, ?_, ?_, ?_, ?_, ?_, ?_, ?_⟩
    · exact ITape_fr h1 (by rw [upS_R, r3 _ (by omega)]) (up2_row (by decide)) (up2_ne (Or.inr (by decide)))
    · exact ILie_fr h2 (by rw [upS_R, r3 _ (by omega)]) (up2_row (by decide)) (up2_ne (Or.inr (by decide)))
    · exact ILex_fr h3 ⟨upS_n2 r2 (by decide), upS_n2 r2 (by decide), upS_n2 r2 (by decide)⟩ (fun i => upS_n2 r2 (by decide)) ⟨up2_ne (Or.inr (by decide)), up2_ne (Or.inr (by decide))⟩
    · exact IPlan_fr h4 (fun k a b => by rw [upS_R, r3 _ (by omega)]) ⟨upS_n2 r2 (by decide), upS_n2 r2 (by decide)⟩ (fun k a b => up2_row (by omega)) ⟨up2_ne (Or.inr (by decide)), up2_ne (Or.inr (by decide)), up2_ne (Or.inr (by decide)), up2_ne (Or.inr (by decide))⟩
    · refine ⟨up2_same _ _ _ _, by rw [up2_ne (Or.inr (by decide))]; exact v2, by rw [up2_ne (Or.inr (by decide))]; exact v3, ⟨by omega, by omega, by omega⟩, ?_, ?_⟩
      · rw [sgO_fr (O := O) (fun k a b => up2_row (by omega)), up2_row (by decide), up2_row (by decide), up2_row (by decide)]; exact v5
      · rw [sgO_fr (O := O) (fun k a b => up2_row (by omega)), up2_row (by decide), up2_row (by decide)]
        exact RepS_row r1 (fun k _ _ => upS_R _ _ _ _ _)
    · refine ⟨upS_at _ _ _ _, by rw [upS_R, r3 _ (by omega)]; exact a2, fun w w1 w2 => ?_⟩
      rw [sgO_fr (O := O) (fun k a b => up2_row (by omega)), up2_row (by decide), up2_row (by decide), upS_R, r3 _ (by omega)]
      exact a3 w w1 w2
    · exact IBox_fr h7 (fun k a b => by rw [upS_R, r3 _ (by omega)]) (fun b hb => upS_n2 r2 (by omega)) (fun k a b => up2_row (by omega)) (fun k a b => up2_row (by omega))
    · exact ITold_fr h8 (fun k a b => by rw [upS_R, r3 _ (by omega)]) (upS_n2 r2 (by decide)) (fun k a b => up2_row (by omega)) ⟨up2_ne (Or.inr (by decide)), up2_ne (Or.inr (by decide))⟩ (fun i _ => by rw [up2_row (by decide)])
theorem op_redo {S : Sst} {O : Smo} (h : Inv S O) : Op2 (f_X11_redo S) (some (f_X12_redo O)) := by
  have hI := h
  obtain ⟨n, ne, slots, lo, v, tp, bs, h1, h2, h3, h4, h5, h6, h7, h8⟩ := h
  obtain ⟨v1, v2, v3, v4, v5, v6⟩ := h5
  obtain ⟨a1, a2, a3⟩ := h6
  unfold f_X11_redo f_X12_redo f_X0_doAgain
  dsimp only [jn]
  have hsz : f_X6_size 240 S = (tp : Int) - bs := by
    unfold f_X6_size
    rw [a2]
    omega
  rw [hsz, a1, v1, v2]
  by_cases c : v = tp
  · rw [if_neg (by omega), if_pos (by omega)]
    exact ⟨_, _, _, rfl, rfl, hI⟩
  · rw [if_pos (by omega), if_neg (by omega)]
    obtain ⟨act, b1, b2⟩ := a3 v (by omega) (by omega)
    have hat : f_X6_at 240 ((v : Int) - bs) S = act := by
      unfold f_X6_at lat
      rw [if_pos (by omega), show ((v : Int) - bs).toNat = v - bs by omega, List.getD_eq_getElem?_getD, b1]
      rfl
    rw [hat]
    obtain ⟨S', e, r1, r2, r3, r4⟩ := cl_perform h4.1 h4.2.1 h4.2.2.1.2 v5.1 (show v < tp by omega) (by omega) v6 (v5.2.1 v (by omega)) (v5.2.2.1 (v + 1) (by omega)).1 b2 (by rw [a1]; omega) h4.2.2.2.1.1
    rw [e]
    dsimp only [Option.bind_some]
    rw [show wr ((v : Int) + 1) = ((v + 1 : Nat) : Int) by rw [wr_id (by omega) (by omega)]; omega]
    refine ⟨_, _, _, rfl, rfl, n, ne, slots, lo, v + 1, tp, bs, ?_, ?_, ?_, ?_, ?_, ?_, ?_, ?_⟩
    · exact ITape_fr h1 (r3 _ (by omega)) (up2_row (by decide)) (up2_ne (Or.inr (by decide)))
    · exact ILie_fr h2 (r3 _ (by omega)) (up2_row (by decide)) (up2_ne (Or.inr (by decide)))
    · exact ILex_fr h3 ⟨r4 _ _ (by simp), r4 _ _ (by simp), r4 _ _ (by simp)⟩ (fun i => r4 _ _ (by simp)) ⟨up2_ne (Or.inr (by decide)), up2_ne (Or.inr (by decide))⟩
    · exact IPlan_fr h4 (fun k a b => r3 _ (by omega)) ⟨r4 _ _ (by simp), r4 _ _ (by simp)⟩ (fun k a b => up2_row (by omega)) ⟨up2_ne (Or.inr (by decide)), up2_ne (Or.inr (by decide)), up2_ne (Or.inr (by decide)), up2_ne (Or.inr (by decide))⟩
    · refine ⟨up2_same _ _ _ _, by rw [up2_ne (Or.inr (by decide))]; exact v2, by rw [up2_ne (Or.inr (by decide))]; exact v3, ⟨by omega, by omega, by omega⟩, ?_, ?_⟩
      · rw [sgO_fr (O := O) (fun k a b => up2_row (by omega)), up2_row (by decide), up2_row (by decide), up2_row (by decide)]; exact v5
      · rw [sgO_fr (O := O) (fun k a b => up2_row (by omega)), up2_row (by decide), up2_row (by decide)]
        exact r1
    · refine ⟨by rw [r2, a1]; omega, by rw [r3 _ (by omega)]; exact a2, fun w w1 w2 => ?_⟩
      rw [sgO_fr (O := O) (fun k a b => up2_row (by omega)), up2_row (by decide), up2_row (by decide), r3 _ (by omega)]
      exact a3 w w1 w2
    · exact IBox_fr h7 (fun k a b => r3 _ (by omega)) (fun b hb => r4 _ _ (by simp <;> omega)) (fun k a b => up2_row (by omega)) (fun k a b => up2_row (by omega))
    · exact ITold_fr h8 (fun k a b => r3 _ (by omega)) (r4 _ _ (by simp)) (fun k a b => up2_row (by omega)) ⟨up2_ne (Or.inr (by decide)), up2_ne (Or.inr (by decide))⟩ (fun i _ => by rw [up2_row (by decide)])
