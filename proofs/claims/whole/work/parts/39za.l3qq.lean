/-! LEVEL 3, qq: version, node -/
theorem op_version {S : Sst} {O : Smo} (h : Inv S O) (z a : Int) : Op2 (f_X11_version z a S) (f_X12_version z a O) := by
  have hI := h
  obtain ⟨n, ne, slots, lo, v, tp, bs, h1, h2, h3, h4, h5, h6, h7, h8⟩ := h
  have hC : Core S O n ne slots lo v tp bs := ⟨h4, h5⟩
  unfold f_X11_version f_X12_version
  rw [(q_stamp h5 z).1, (q_stamp h5 z).2]
  by_cases hz : 0 ≤ z ∧ z ≤ v
  · obtain ⟨u, rfl⟩ : ∃ s : Nat, z = (s : Int) := ⟨z.toNat, by omega⟩
    have hu : u ≤ v := by omega
    rw [if_pos hz, if_neg (show ¬ (1 : Int) = 0 by decide), if_neg (show ¬ (1 : Int) = 0 by decide)]
    obtain ⟨O1, e1, r1, t1⟩ := q_tree hC hu
    have hC1 := Core_fr hC (FrQ_refl S) r1
    have hI1 := Inv_fr hI (FrQ_refl S) r1
    obtain ⟨c1, c2, c3, c4, c5⟩ := c_row hC hu
    have hn8 := h4.2.1.1
    rw [e1]
    dsimp only [Option.bind_some]
    by_cases a0 : a = 0
    · rw [if_pos a0, if_pos a0, (q_place h5 hu).1, (q_place hC1.2 hu).2]
      rw [FrR_282 r1]
      exact ⟨_, _, _, rfl, rfl, hI1⟩
    · rw [if_neg a0, if_neg a0]
      by_cases a1 : a = 1
      · rw [if_pos a1, if_pos a1, (q_set h5 hu).1, (q_set hC1.2 hu).2.1, FrR_282 r1]
        exact ⟨_, _, _, rfl, rfl, hI1⟩
      · rw [if_neg a1, if_neg a1]
        by_cases a2 : a = 2
        · rw [if_pos a2, if_pos a2, t1.2.2.2.1]
          have hrt : tRoot (O 280) (rowV O u) < 8 := by
            rcases TT_t c5 with e | ⟨y, e, hy⟩
            · rw [e]; decide
            · rw [e]; have := c4 y hy; omega
          rw [q_node hC1.2 hrt hu, FrR_282 r1, show (83 : Nat) = 74 + 9 from rfl, at_nat h5.2.2.2.2.2.2.2.2.2.1 (show u < v + 1 by omega)]
          have e : rtA (sgO O) (O 280) (O 282) u = ndA (O 282) (tRoot (O 280) (rowV O u)) u := by
            show dHas (vwD (O 282) u) (tRoot (O 280) (rowV O u)) = _
            unfold dHas
            by_cases q : tRoot (O 280) (rowV O u) < 0
            · rw [if_pos q]
              unfold ndA
              rw [if_pos q]
            · rw [if_neg q, vwD_9, show ((tRoot (O 280) (rowV O u)).toNat : Int) = tRoot (O 280) (rowV O u) by omega]
          rw [e]
          exact ⟨_, _, _, rfl, rfl, hI1⟩
        · rw [if_neg a2, if_neg a2]
          by_cases a3 : a = 3
          · rw [if_pos a3, if_pos a3, hb_root t1 c5 (fun y hy => by have := c4 y hy; omega)]
            obtain ⟨S1, e2, r2, t2⟩ := q_show hC hu
            rw [e2]
            dsimp only [Option.bind_some]
            rw [t2.2.2.2.2.2.2]
            exact ⟨_, _, _, rfl, rfl, Inv_fr hI r2 r1⟩
          · rw [if_neg a3, if_neg a3]
            by_cases a4 : a = 4
            · rw [if_pos a4, if_pos a4, (q_cost h4 h5 hu).1, (q_cost hC1.1 hC1.2 hu).2.1, FrR_282 r1, sgO_fr (FrR_o r1), w_fr r1]
              exact ⟨_, _, _, rfl, rfl, hI1⟩
            · rw [if_neg a4, if_neg a4]
              exact ⟨_, _, _, rfl, rfl, hI1⟩
  · rw [if_neg hz, if_pos rfl, if_pos rfl]
    exact ⟨_, _, _, rfl, rfl, hI⟩
