/-! LEVEL 3, ss: node -/
section NODE
variable {S : Sst} {O : Smo} {n ne slots v tp bs : Nat} {lo : Nat → Nat}
theorem nd_row (h : Core S O n ne slots lo v tp bs) {u s k : Nat} (hu : u ≤ v) (hk : ndA (O 282) s u = (k : Int)) : s ∈ rowV O u := by
  refine ((c_row h hu).2.2.1 s).mpr ?_
  unfold ndA at hk
  rw [if_neg (by omega), Int.toNat_natCast] at hk
  by_cases q : (mA (O 282) u).testBit s = true
  · exact q
  · rw [if_neg q] at hk; omega
def isPar (O : Smo) (v k s : Nat) : Prop := s ∈ rowV O v ∧ (ndA (O 282) (tL (O 280) (rowV O v) s) v = (k : Int) ∨ ndA (O 282) (tR (O 280) (rowV O v) s) v = (k : Int))
theorem cl_parent (h : Core S O n ne slots lo v tp bs) (h6 : slots ≤ 6) (hv : 0 < v) (k : Nat) : Ret (f_X7_parentOf 74 (k : Int) S) (fun r => (∃ s, isPar O v k s ∧ r = ndA (O 282) s v) ∨ ((∀ s, ¬ isPar O v k s) ∧ r = -1)) := by
  have hh := h.2.2.2.2.1
  have hn8 := h.1.2.1.1
  unfold f_X7_parentOf
  dsimp only [jn, jk]
  rw [q_new h.2]
  refine Ret_bind (P := fun z => (∃ s, isPar O v k s ∧ z = Sum.inl (ndA (O 282) s v)) ∨ ((∀ s, ¬ isPar O v k s) ∧ z = Sum.inr ())) (Ret_lpm (fun q => ∃ c : Nat, q = (c : Int) ∧ c ≤ 8 ∧ ∀ s, s < c → ¬ isPar O v k s) (fun q => 9 - q.toNat) ⟨0, rfl, by omega, fun s hs => by omega⟩ (by decide) (fun q hI => ?_)) (fun z hz => ?_)
  · obtain ⟨c, rfl, hc, hno⟩ := hI
    by_cases e : c < 8
    · rw [if_pos (by omega), show f_X6_at (74 + 31) (c : Int) S = ndA (O 282) c v from q_has h.2 e, wr_id (by omega) (by omega)]
      have nxt : ¬ isPar O v k c → ∀ s, s < c + 1 → ¬ isPar O v k s := fun hcn s hs => by
        by_cases q : s = c
        · rw [q]; exact hcn
        · exact hno s (by omega)
      rcases nd_bd (s := c) h.2.2.2.2.2.1.1 (show v ≤ tp by omega) with e1 | ⟨j, e1, hj⟩
      · rw [if_pos e1]
        refine Ret_some (Or.inl ⟨_, rfl, ⟨c + 1, by simp, by omega, nxt (fun hp => ?_)⟩, by omega⟩)
        have := (h.2.2.2.2.2.1.1.2.2.2 v (by omega) c (((c_row h (Nat.le_refl _)).2.2.1 c).mp hp.1))
        obtain ⟨k', k1, _⟩ := this
        omega
      · have hrow := nd_row h (Nat.le_refl _) e1
        obtain ⟨u, rfl⟩ : ∃ u, v = u + 1 := ⟨v - 1, by omega⟩
        have ht := nd_tree h.1.2.1 h.2.2.2.2.2.1 h6 (show u + 1 ≤ tp by omega) hrow
        have e0 := (rdA_rd h.2 h6 hj (Nat.le_refl _) 0).2
        have e2 := (rdA_rd h.2 h6 hj (Nat.le_refl _) 1).2
        rw [e1, Int.toNat_natCast] at ht
        rw [ht.1] at e0
        rw [ht.2] at e2
        rw [if_neg (by omega), e1, e0, e2]
        dsimp only [Option.bind_some]
        by_cases p0 : ndA (O 282) (tL (O 280) (rowF (sgO O) (mA (O 282) (u + 1)) (O 282 (u + 1))) c) (u + 1) = (k : Int)
        · rw [if_pos p0]
          exact Ret_some (Or.inr ⟨_, rfl, Or.inl ⟨c, ⟨hrow, Or.inl p0⟩, by rw [e1]⟩⟩)
        · rw [if_neg p0]
          by_cases p1 : ndA (O 282) (tR (O 280) (rowF (sgO O) (mA (O 282) (u + 1)) (O 282 (u + 1))) c) (u + 1) = (k : Int)
          · rw [if_pos p1]
            exact Ret_some (Or.inr ⟨_, rfl, Or.inl ⟨c, ⟨hrow, Or.inr p1⟩, by rw [e1]⟩⟩)
          · rw [if_neg p1]
            refine Ret_some (Or.inl ⟨_, rfl, ⟨c + 1, by simp, by omega, nxt (fun hp => ?_)⟩, by omega⟩)
            rcases hp.2 with q | q
            · exact p0 q
            · exact p1 q
    · rw [if_neg (by omega)]
      refine Ret_some (Or.inr ⟨_, rfl, Or.inr ⟨fun s hp => ?_, rfl⟩⟩)
      have := (c_row h (Nat.le_refl _)).2.2.2.1 s hp.1
      exact hno s (by omega) hp
  · rcases hz with ⟨s, hp, rfl⟩ | ⟨hno, rfl⟩
    · exact Ret_some (Or.inl ⟨s, hp, rfl⟩)
    · exact Ret_some (Or.inr ⟨hno, rfl⟩)
/-- the class changes nothing, the reference may -/
def Op3 (S : Sst) (c : Option Int) (r : Option (Int × Smo)) : Prop := ∃ (a : Int) (O' : Smo), c = some a ∧ r = some (a, O') ∧ Inv S O'
theorem op_node {S : Sst} {O : Smo} (h : Inv S O) (z a : Int) : Op3 S (f_X11_node z a S) (f_X12_node z a O) := by
  have hI := h
  obtain ⟨n, ne, slots, lo, v, tp, bs, h1, h2, h3, h4, h5, h6, h7, h8⟩ := h
  have hC : Core S O n ne slots lo v tp bs := ⟨h4, h5⟩
  have hsl := h4.2.2.1.2
  have hh := h5.2.2.2.1
  unfold f_X11_node f_X12_node
  rw [(q_isNode h5 z).1, (q_isNode h5 z).2]
  dsimp only [Option.bind_some]
  by_cases hz : 0 ≤ z ∧ z < nA (O 282) v
  · obtain ⟨k, rfl⟩ : ∃ s : Nat, z = (s : Int) := ⟨z.toNat, by omega⟩
    have hk : k < nA (O 282) v := by omega
    have hu := q_us h5 hsl hk
    have hk320 := hu.2.2.2.1
    rw [if_pos hz, if_neg (show ¬ (1 : Int) = 0 by decide), if_neg (show ¬ (1 : Int) = 0 by decide)]
    have f0 : f_X6_at 87 (k : Int) S = O 282 (205 + k) := q_field h5 (j := 0) (by decide) hk
    have f1 : f_X6_at 89 (k : Int) S = O 282 (525 + k) := q_field h5 (j := 1) (by decide) hk
    have f2 : f_X6_at 91 (k : Int) S = O 282 (845 + k) := q_field h5 (j := 2) (by decide) hk
    have f3 : f_X6_at 93 (k : Int) S = O 282 (1165 + k) := q_field h5 (j := 3) (by decide) hk
    obtain ⟨y, y1, y2⟩ := (h5.2.2.2.2.1.1.2.2.1 k hu.2.2.2.2).1
    have hy8 : (y : Int) < 8 := by have := h4.2.1.1; omega
    have r0 : aget (O 282) (Ln 282) (wr (205 + (k : Int))) = some (y : Int) := by
      rw [rf_at (i := 205 + k) (by rw [wr_id (by omega) (by omega)]; omega) (by omega), y2]
    have hth : f_X12_isThere (k : Int) O = if ndA (O 282) (y : Int) v = (k : Int) then some 1 else some 0 := by
      unfold f_X12_isThere
      rw [r0, h5.1]
      dsimp only [Option.bind_some]
      rw [q_node h5 hy8 (Nat.le_refl _)]
      rfl
    by_cases a0 : a = 0
    · rw [if_pos a0, if_pos a0, f0, r0, y2]
      exact ⟨_, _, rfl, rfl, hI⟩
    · rw [if_neg a0, if_neg a0]
      by_cases a1 : a = 1
      · rw [if_pos a1, if_pos a1, f1, rf_at (i := 525 + k) (by rw [wr_id (by omega) (by omega)]; omega) (by omega)]
        exact ⟨_, _, rfl, rfl, hI⟩
      · rw [if_neg a1, if_neg a1]
        by_cases a2 : a = 2
        · rw [if_pos a2, if_pos a2, f2, rf_at (i := 845 + k) (by rw [wr_id (by omega) (by omega)]; omega) (by omega)]
          exact ⟨_, _, rfl, rfl, hI⟩
        · rw [if_neg a2, if_neg a2]
          by_cases a3 : a = 3
          · rw [if_pos a3, if_pos a3, f3, rf_at (i := 1165 + k) (by rw [wr_id (by omega) (by omega)]; omega) (by omega)]
            exact ⟨_, _, rfl, rfl, hI⟩
          · rw [if_neg a3, if_neg a3]
            by_cases a4 : a = 4
            · rw [if_pos a4, if_pos a4, hu.1, hu.2.1]
              exact ⟨_, _, rfl, rfl, hI⟩
            · rw [if_neg a4, if_neg a4]
              by_cases a5 : a = 5
              · rw [if_pos a5, if_pos a5]
                have hv : 0 < v := by
                  rcases Nat.eq_zero_or_pos v with e | e
                  · rw [e, h5.2.2.2.2.1.1.2.1.1] at hk; omega
                  · exact e
                obtain ⟨r, er, hr⟩ := cl_parent hC hsl hv k
                have par : ∀ s, isPar O v k s → ndA (O 282) (y : Int) v = (k : Int) ∧ (tL (O 280) (rowV O v) s = (y : Int) ∨ tR (O 280) (rowV O v) s = (y : Int)) := fun s hs => by
                  rcases hs.2 with q | q
                  · have e := (nd_own q).1
                    rw [y2] at e
                    rw [← e] at q
                    exact ⟨q, Or.inl e.symm⟩
                  · have e := (nd_own q).1
                    rw [y2] at e
                    rw [← e] at q
                    exact ⟨q, Or.inr e.symm⟩
                rw [er]
                unfold f_X12_parentAt
                rw [hth]
                by_cases t : ndA (O 282) (y : Int) v = (k : Int)
                · rw [if_pos t]
                  dsimp only [Option.bind_some]
                  rw [if_neg (show ¬ (1 : Int) = 0 by decide), h5.1]
                  obtain ⟨O1, e1, g1, t1⟩ := q_tree hC (Nat.le_refl v)
                  have hC1 := Core_fr hC (FrQ_refl S) g1
                  have hI1 := Inv_fr hI (FrQ_refl S) g1
                  obtain ⟨c1, c2, c3, c4, c5⟩ := c_row hC (Nat.le_refl v)
                  have hyr := nd_row hC (Nat.le_refl _) t
                  rw [e1]
                  dsimp only [Option.bind_some]
                  rw [FrR_282 g1, r0]
                  dsimp only [Option.bind_some]
                  rw [Ln286, aget_nat (show y < 8 by omega)]
                  dsimp only [Option.bind_some]
                  rw [hC1.2.1]
                  rcases TT_ex _ _ _ (Nat.le_refl _) c5 y hyr with e | ⟨p, hp, e⟩
                  · rw [t1.2.2.2.2.2.2.2.2 y e, q_node hC1.2 (by decide) (Nat.le_refl _)]
                    have hr2 : r = -1 := by
                      rcases hr with ⟨s, hs, _⟩ | ⟨_, e3⟩
                      · rw [e] at c5
                        exact absurd (par s hs).2 (TT_root c5 hs.1)
                      · exact e3
                    rw [hr2]
                    exact ⟨_, _, rfl, rfl, hI1⟩
                  · rw [t1.2.2.2.2.2.2.2.1 p hp y e, q_node hC1.2 (by have := c4 p hp; have := h4.2.1.1; omega) (Nat.le_refl _), FrR_282 g1]
                    have hr2 : r = ndA (O 282) (p : Int) v := by
                      rcases hr with ⟨s, hs, e3⟩ | ⟨e3, _⟩
                      · have := TT_par _ _ _ (Nat.le_refl _) c1 c5 s p y hs.1 hp (par s hs).2 e
                        rw [e3, this]
                      · refine absurd ⟨hp, ?_⟩ (e3 p)
                        rcases e with e | e
                        · rw [e]; exact Or.inl t
                        · rw [e]; exact Or.inr t
                    rw [hr2]
                    exact ⟨_, _, rfl, rfl, hI1⟩
                · rw [if_neg t]
                  dsimp only [Option.bind_some]
                  rw [if_pos rfl]
                  have hr2 : r = -1 := by
                    rcases hr with ⟨s, hs, _⟩ | ⟨_, e3⟩
                    · exact absurd (par s hs).1 t
                    · exact e3
                  rw [hr2]
                  exact ⟨_, _, rfl, rfl, hI⟩
              · rw [if_neg a5, if_neg a5]
                by_cases a6 : a = 6
                · rw [if_pos a6, if_pos a6, hth]
                  have hcl : f_X7_isThere 74 (k : Int) S = if ndA (O 282) (y : Int) v = (k : Int) then 1 else 0 := by
                    unfold f_X7_isThere
                    rw [(q_isNode h5 (k : Int)).1, if_pos hz, show f_X6_at (74 + 13) (k : Int) S = (y : Int) by rw [← y2]; exact f0, show f_X6_at (74 + 31) (y : Int) S = ndA (O 282) y v from q_has h5 (by omega)]
                    by_cases t : ndA (O 282) (y : Int) v = (k : Int)
                    · rw [if_pos t, if_neg (by omega)]
                    · rw [if_neg t, if_pos (Or.inr t)]
                  rw [hcl]
                  by_cases t : ndA (O 282) (y : Int) v = (k : Int)
                  · rw [if_pos t, if_pos t, if_neg (show ¬ (1 : Int) = 0 by decide)]
                    exact ⟨_, _, rfl, rfl, hI⟩
                  · rw [if_neg t, if_neg t, if_pos rfl]
                    exact ⟨_, _, rfl, rfl, hI⟩
                · rw [if_neg a6, if_neg a6]
                  exact ⟨_, _, rfl, rfl, hI⟩
  · rw [if_neg hz, if_pos rfl, if_pos rfl]
    exact ⟨_, _, rfl, rfl, hI⟩
end NODE
