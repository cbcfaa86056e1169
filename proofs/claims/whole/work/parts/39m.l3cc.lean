/-! LEVEL 3, cc: simple calls -/
theorem four_ok {S : Sst} {O : Smo} {nt : Nat} (a : Int) (h1 : S.1 1 = rg nt (O 263)) (h2 : nt + 4 ≤ 1600) (h3 : O 262 1 = (nt : Int)) (h4 : ∀ i, i < nt → 0 ≤ O 263 i ∧ O 263 i ≤ 255) :
    ∃ S' O', f_X11_feedNumber a S = some S' ∧ f_X12_four a O = some O' ∧ S'.1 1 = rg (nt + 4) (O' 263) ∧ O' 262 1 = ((nt + 4 : Nat) : Int) ∧ (∀ i, i < nt + 4 → 0 ≤ O' 263 i ∧ O' 263 i ≤ 255) ∧ (∀ k, k ≠ 1 → S'.1 k = S.1 k) ∧ S'.2 = S.2 ∧ (∀ k, k ≠ 262 → k ≠ 263 → O' k = O k) ∧ ∀ j, j ≠ 1 → O' 262 j = O 262 j := by
  unfold f_X11_feedNumber f_X12_four
  dsimp only [jn]
  have key : ∃ r q, lp (fun (s1 : Int × Sst) => if s1.1 < 0 then (some (Sum.inr s1.2) : Option ((Int × Sst) ⊕ Sst)) else some (Sum.inl (wr (s1.1 + (-8)), f_X6_add 1 (zand (zshr a s1.1) 255) s1.2))) FU (24, S) = some r ∧ lp (fun (s4807 : Int × Smo) => if s4807.1 < 0 then (some (Sum.inr s4807.2) : Option ((Int × Smo) ⊕ Smo)) else (Option.bind (asetO s4807.2 263 (Ln 263) (s4807.2 262 1) (zand (zshr a s4807.1) 255)) fun (O4815 : Smo) => some (Sum.inl (wr (s4807.1 + (-8)), up2 O4815 262 1 (wr ((O4815 262 1) + 1)))))) FU (24, O) = some q ∧ (fun (S' : Sst) (O' : Smo) => S'.1 1 = rg (nt + 4) (O' 263) ∧ O' 262 1 = ((nt + 4 : Nat) : Int) ∧ (∀ i, i < nt + 4 → 0 ≤ O' 263 i ∧ O' 263 i ≤ 255) ∧ (∀ k, k ≠ 1 → S'.1 k = S.1 k) ∧ S'.2 = S.2 ∧ (∀ k, k ≠ 262 → k ≠ 263 → O' k = O k) ∧ ∀ j, j ≠ 1 → O' 262 j = O 262 j) r q := by
    refine lp_i2 (fun c s t => s.1 = 24 - 8 * (c : Int) ∧ t.1 = 24 - 8 * (c : Int) ∧ s.2.1 1 = rg (nt + c) (t.2 263) ∧ t.2 262 1 = ((nt + c : Nat) : Int) ∧ (∀ i, i < nt + c → 0 ≤ t.2 263 i ∧ t.2 263 i ≤ 255) ∧ (∀ k, k ≠ 1 → s.2.1 k = S.1 k) ∧ s.2.2 = S.2 ∧ (∀ k, k ≠ 262 → k ≠ 263 → t.2 k = O k) ∧ ∀ j, j ≠ 1 → t.2 262 j = O 262 j) (fun (S' : Sst) (O' : Smo) => S'.1 1 = rg (nt + 4) (O' 263) ∧ O' 262 1 = ((nt + 4 : Nat) : Int) ∧ (∀ i, i < nt + 4 → 0 ≤ O' 263 i ∧ O' 263 i ≤ 255) ∧ (∀ k, k ≠ 1 → S'.1 k = S.1 k) ∧ S'.2 = S.2 ∧ (∀ k, k ≠ 262 → k ≠ 263 → O' k = O k) ∧ ∀ j, j ≠ 1 → O' 262 j = O 262 j) 4 (by decide) (fun c s t hc hI => ?_) (fun s t hI => ?_) ⟨rfl, rfl, h1, h3, h4, fun _ _ => rfl, rfl, fun _ _ _ => rfl, fun _ _ => rfl⟩
    · obtain ⟨z, S1⟩ := s
      obtain ⟨z2, O1⟩ := t
      obtain ⟨rfl, rfl, i1, i2, i3, i4, i5, i6, i7⟩ := hI
      dsimp only at *
      have hb := zand255 (zshr a (24 - 8 * (c : Int)))
      rw [if_neg (by omega), if_neg (by omega), i2, Ln263, aset_nat (show nt + c < 1600 by omega)]
      dsimp only [Option.bind_some]
      rw [wr_id (z := 24 - 8 * (c : Int) + -8) (by omega) (by omega)]
      refine ⟨_, _, rfl, rfl, by dsimp only; omega, by dsimp only; omega, ?_, ?_, fun i hi => ?_, fun k hk => ?_, ?_, fun k h1 h2 => ?_, fun j hj => ?_⟩
      · dsimp only
        rw [add_rg i1 (by rw [Ln2]; omega), upR_at, up2_row (by decide), upd_up2]
        rfl
      · dsimp only
        rw [up2_same, up2_ne (Or.inl (by decide)), i2, wr_id (by omega) (by omega)]
        omega
      · dsimp only
        rw [up2_row (by decide), upd_up2]
        by_cases e : i = nt + c
        · rw [e, upd_same]; exact hb
        · rw [upd_ne e]; exact i3 i (by omega)
      · dsimp only
        rw [add_rg i1 (by rw [Ln2]; omega), upR_ne _ _ hk, i4 k hk]
      · dsimp only
        rw [add_rg i1 (by rw [Ln2]; omega)]
        exact i5
      · dsimp only
        rw [up2_row h1, up2_row h2, i6 k h1 h2]
      · dsimp only
        rw [up2_ne (Or.inr hj), up2_ne (Or.inl (by decide)), i7 j hj]
    · obtain ⟨z, S1⟩ := s
      obtain ⟨z2, O1⟩ := t
      obtain ⟨rfl, rfl, i1, i2, i3, i4, i5, i6, i7⟩ := hI
      dsimp only at *
      rw [if_pos (by omega), if_pos (by omega)]
      exact ⟨_, _, rfl, rfl, i1, i2, i3, i4, i5, i6, i7⟩
  obtain ⟨S', O', e1, e2, r⟩ := key
  exact ⟨S', O', by rw [e1]; rfl, by rw [e2]; rfl, r⟩
theorem Inv_tape {S S' : Sst} {O O' : Smo} (h : Inv S O) (hT : ITape S' O') (e1 : ∀ k, k ≠ 1 → S'.1 k = S.1 k) (e2 : S'.2 = S.2) (e3 : ∀ k, k ≠ 262 → k ≠ 263 → O' k = O k) (e4 : ∀ j, j ≠ 1 → O' 262 j = O 262 j) : Inv S' O' := by
  obtain ⟨n, ne, slots, lo, v, tp, bs, h1, h2, h3, h4, h5, h6, h7, h8⟩ := h
  have o : ∀ k, 276 ≤ k → k ≤ 281 → O' k = O k := fun k a b => e3 k (by omega) (by omega)
  exact ⟨n, ne, slots, lo, v, tp, bs, hT, ILie_fr h2 (e1 _ (by decide)) (e3 _ (by decide) (by decide)) (e4 _ (by decide)), ILex_fr h3 ⟨by rw [e2], by rw [e2], by rw [e2]⟩ (fun _ => by rw [e2]) ⟨e4 _ (by decide), e4 _ (by decide)⟩,
    IPlan_fr h4 (fun k a b => e1 _ (by omega)) ⟨by rw [e2], by rw [e2]⟩ o ⟨e4 _ (by decide), e4 _ (by decide), e4 _ (by decide), e4 _ (by decide)⟩,
    IVer_fr h5 (fun k a b => e1 _ (by omega)) o (e3 _ (by decide) (by decide)) ⟨e4 _ (by decide), e4 _ (by decide), e4 _ (by decide)⟩,
    IAct_fr h6 (by rw [e2]) (e1 _ (by decide)) o (e3 _ (by decide) (by decide)), IBox_fr h7 (fun k a b => e1 _ (by omega)) (fun b hb => by rw [e2]) o (fun k a b => e3 k (by omega) (by omega)),
    ITold_fr h8 (fun k a b => e1 _ (by omega)) (by rw [e2]) (fun k a b => e3 k (by omega) (by omega)) ⟨e4 _ (by decide), e4 _ (by decide)⟩ (fun i _ => by rw [e3 282 (by decide) (by decide)])⟩
theorem op_feed {S : Sst} {O : Smo} (h : Inv S O) (a b c d e : Int) : Op2 (f_X11_feed a b c d e S) (f_X12_feed a b c d e O) := by
  have hI := h
  obtain ⟨n, ne, slots, lo, v, tp, bs, ⟨nt, t1, t2, t3, t4⟩, _⟩ := h
  unfold f_X11_feed f_X12_feed
  rw [size_rg t1, t3, wr_id (by omega) (by omega)]
  by_cases q : 1600 < (nt : Int) + 20
  · rw [if_pos q, if_pos q]
    exact ⟨_, _, _, rfl, rfl, hI⟩
  · rw [if_neg q, if_neg q]
    obtain ⟨S1, O1, a1, b1, c1, d1, e1, f1, g1, h1, i1⟩ := four_ok a t1 (by omega) t3 t4
    rw [a1, b1]
    dsimp only [Option.bind_some]
    obtain ⟨S2, O2, a2, b2, c2, d2, e2, f2, g2, h2, i2⟩ := four_ok b c1 (by omega) d1 e1
    rw [a2, b2]
    dsimp only [Option.bind_some]
    obtain ⟨S3, O3, a3, b3, c3, d3, e3, f3, g3, h3, i3⟩ := four_ok c c2 (by omega) d2 e2
    rw [a3, b3]
    dsimp only [Option.bind_some]
    obtain ⟨S4, O4, a4, b4, c4, d4, e4, f4, g4, h4, i4⟩ := four_ok d c3 (by omega) d3 e3
    rw [a4, b4]
    dsimp only [Option.bind_some]
    obtain ⟨S5, O5, a5, b5, c5, d5, e5, f5, g5, h5, i5⟩ := four_ok e c4 (by omega) d4 e4
    rw [a5, b5]
    dsimp only [Option.bind_some]
    rw [size_rg c5, d5]
    exact ⟨_, _, _, rfl, rfl, Inv_tape hI ⟨_, c5, by omega, d5, e5⟩ (fun k hk => by rw [f5 k hk, f4 k hk, f3 k hk, f2 k hk, f1 k hk]) (by rw [g5, g4, g3, g2, g1]) (fun k p q => by rw [h5 k p q, h4 k p q, h3 k p q, h2 k p q, h1 k p q]) (fun j hj => by rw [i5 j hj, i4 j hj, i3 j hj, i2 j hj, i1 j hj])⟩
theorem op_end {S : Sst} {O : Smo} (h : Inv S O) (a : Int) : Op2 (some (f_X11_end a S)) (some (f_X12_end a O)) := by
  have hI := h
  obtain ⟨n, ne, slots, lo, v, tp, bs, ⟨nt, t1, t2, t3, t4⟩, _⟩ := h
  unfold f_X11_end f_X12_end
  dsimp only [jn]
  rw [size_rg t1, t3]
  by_cases q : a < 0 ∨ (nt : Int) < a
  · rw [if_pos q, if_pos q]
    exact ⟨_, _, _, rfl, rfl, hI⟩
  · rw [if_neg q, if_neg q]
    obtain ⟨k, rfl⟩ : ∃ k : Nat, a = (k : Int) := ⟨a.toNat, by omega⟩
    obtain ⟨S1, a1, b1, c1, d1⟩ := keep_rg (m := k) t1 (by omega)
    rw [a1]
    refine ⟨_, _, _, rfl, rfl, Inv_tape hI ⟨k, by rw [b1, up2_row (by decide)], by omega, up2_same _ _ _ _, fun i hi => by rw [up2_row (by decide)]; exact t4 i (by omega)⟩ c1 d1 (fun k p q => up2_row p) (fun j hj => up2_ne (Or.inr hj))⟩
theorem op_fault {S : Sst} {O : Smo} (h : Inv S O) (a : Int) : f_X11_fault a S = f_X12_fault a O := by
  obtain ⟨n, ne, slots, lo, v, tp, bs, h1, h2, h3, _⟩ := h
  unfold f_X11_fault f_X12_fault
  rw [h3.1, h3.2.1]
theorem cl_higher {S : Sst} {g : Sg} {n : Nat} {lo : Nat → Nat} {x : Int} (h42 : S.1 42 = rg n (fun k => (lo k : Int))) (hlo : ∀ k, k < n → lowB g n k (lo k)) (hg : OkSeg g n) {i j : Nat} (hi : i < n) (hj : j < n) (hij : i ≠ j) (oi : ovP g i x) (oj : ovP g j x) : f_X4_isHigher 29 i j S = if hib g i j x = true then 1 else 0 := by
  have hn8 := hg.1
  have hl := hlo i hi
  unfold f_X4_isHigher
  rw [at_nat h42 hi, bit_n hl.1 (by omega)]
  have key : (lo i).testBit j = true ↔ hib g i j x = true := by
    rw [hl.2 j, hib_iff, hi_lo (hg.2.2 i j hi hj hij) oi oj]
    have := gLo_ov oi oj
    exact ⟨fun h => h.2.2.2.2, fun h => ⟨hj, fun e => hij e.symm, this.1, this.2, h⟩⟩
  by_cases c : (lo i).testBit j = true
  · rw [bt_1.mpr c, if_pos (key.mp c), if_neg (by omega)]
  · rw [bt_0.mpr (by simpa using c), if_neg (fun q => c (key.mpr q)), if_pos (Or.inr rfl)]
theorem rf_hi' {O : Smo} {n : Nat} (hg : OkSeg (sgO O) n) {i j : Nat} (hi : i < n) (hj : j < n) {x : Int} (hx : 0 ≤ x ∧ x ≤ 60) : f_X12_isHigher i j x O = some (if hib (sgO O) i j x = true then 1 else 0) := by
  have hn8 := hg.1
  obtain ⟨q, e, h1, h2⟩ := rf_hi (O := O) (i := i) (j := j) (by omega) (by omega) (hg.2.1 i hi) (hg.2.1 j hj) hx
  rw [e]
  by_cases c : hib (sgO O) i j x = true
  · rw [if_pos c, h2.mpr (hib_iff.mp c)]
  · rw [if_neg c]
    have : q ≠ 1 := fun e => c (hib_iff.mpr (h2.mp e))
    rw [show q = 0 by omega]
theorem op_weight {S : Sst} {O : Smo} (h : Inv S O) (z : Int) : f_X12_weight z O = some (f_X11_weight z S) := by
  obtain ⟨n, ne, slots, lo, v, tp, bs, h1, h2, h3, ⟨p1, p2, p3, p4, p5, p6, p7, p8⟩, _⟩ := h
  have hn8 := p2.1
  unfold f_X12_weight f_X11_weight
  rw [rf_isSeg p5 hn8, pl_has p1.1]
  by_cases hz : 0 ≤ z ∧ z < n
  · obtain ⟨s, rfl⟩ : ∃ s : Nat, z = (s : Int) := ⟨z.toNat, by omega⟩
    rw [if_pos hz, if_neg (by decide), if_neg (by decide), Ln280, aget_nat (show s < 8 by omega), at_nat p1.2.2.1 (show s < n by omega)]
    rfl
  · rw [if_neg hz, if_pos rfl, if_pos rfl]
theorem op_higher {S : Sst} {O : Smo} (h : Inv S O) (a b x : Int) : f_X12_higher a b x O = some (f_X11_higher a b x S) := by
  obtain ⟨n, ne, slots, lo, v, tp, bs, h1, h2, h3, ⟨p1, p2, p3, p4, p5, p6, p7, p8⟩, _⟩ := h
  have hn8 := p2.1
  unfold f_X12_higher f_X11_higher
  dsimp only [jk]
  rw [rf_isSeg p5 hn8, rf_isSeg p5 hn8]
  by_cases ha : 0 ≤ a ∧ a < n
  · by_cases hb : 0 ≤ b ∧ b < n
    · obtain ⟨i, rfl⟩ : ∃ s : Nat, a = (s : Int) := ⟨a.toNat, by omega⟩
      obtain ⟨j, rfl⟩ : ∃ s : Nat, b = (s : Int) := ⟨b.toNat, by omega⟩
      have hi : i < n := by omega
      have hj : j < n := by omega
      rw [if_pos ha, if_pos hb, pl_over p1.1 hi, pl_over p1.1 hj]
      by_cases e : (i : Int) = (j : Int)
      · rw [if_pos (Or.inr e), if_pos (Or.inl (Or.inl e))]
      · rw [if_neg (by simp; omega), rf_over (by omega)]
        dsimp only [Option.bind_some]
        by_cases oi : sga (sgO O) i ≤ x ∧ x < sgb (sgO O) i
        · rw [if_pos oi, if_neg (by decide), rf_over (by omega)]
          dsimp only [Option.bind_some]
          by_cases oj : sga (sgO O) j ≤ x ∧ x < sgb (sgO O) j
          · rw [if_pos oj, if_neg (by decide), if_neg (by simp; omega)]
            have hx : 0 ≤ x ∧ x ≤ 60 := by
              have := p2.2.1 i hi
              unfold SegB at this
              omega
            rw [rf_hi' p2 hi hj hx, cl_higher p1.2.1 p1.2.2.2.2.2 p2 hi hj (by omega) oi oj]
            dsimp only [Option.bind_some]
            by_cases c : hib (sgO O) i j x = true
            · rw [if_pos c]; rfl
            · rw [if_neg c]; rfl
          · rw [if_neg oj, if_pos rfl, if_pos (Or.inr rfl)]
        · rw [if_neg oi, if_pos rfl, if_pos (Or.inl (Or.inr rfl))]
    · rw [if_neg hb, if_pos (Or.inl (Or.inr rfl)), pl_over_out p1.1 hb, if_pos (Or.inr rfl)]
  · rw [if_neg ha, if_pos (Or.inl (Or.inl rfl)), pl_over_out p1.1 ha, if_pos (Or.inl (Or.inr rfl))]
/-- the next event, on both sides -/
theorem nextE {S : Sst} {O : Smo} {n ne slots v tp bs : Nat} {lo : Nat → Nat} (h4 : IPlan S O n ne slots lo) (h5 : IVer S O n ne slots v tp bs) : ∃ e : Nat, O 282 (123 + v) = (e : Int) ∧ e ≤ ne ∧ f_X8_nextEvent S = (if e < ne then O 281 e else -1) ∧ f_X12_nextEvent O = some (if e < ne then O 281 e else -1) := by
  obtain ⟨p1, p2, p3, p4, p5, p6, p7, p8⟩ := h4
  obtain ⟨v1, v2, v3, v4, v5, v6⟩ := h5
  obtain ⟨vr, e1, e2, e, e3, e4, e5, e6⟩ := v5.2.2.1 v (by omega)
  have hne := p4.1
  have hnew : f_X7_newest 74 S = (v : Int) := newest_row (by rw [v6.1, rg_len]) (by omega)
  have c81 : f_X6_at 81 (v : Int) S = (e : Int) := by rw [at_nat v6.2.2.2.1 (show v < v + 1 by omega), e3]
  have hsw : f_X12_sweepsNow O = some (e : Int) := by
    unfold f_X12_sweepsNow
    rw [v1, rf_at (i := 123 + v) (by rw [wr_id (by omega) (by omega)]; omega) (by omega), e3]
    rfl
  refine ⟨e, e3, e4, ?_, ?_⟩
  · unfold f_X8_nextEvent
    rw [hnew, c81]
    by_cases c : e < ne
    · rw [if_pos c, at_nat p1.2.2.2.1 c]
    · rw [if_neg c, at_out p1.2.2.2.1 (by omega)]
  · unfold f_X12_nextEvent
    rw [hsw]
    dsimp only [Option.bind_some]
    rw [p6]
    by_cases c : e < ne
    · rw [if_neg (by omega), if_pos c, Ln281, aget_nat (show e < 16 by omega)]
      rfl
    · rw [if_pos (by omega), if_neg c]
theorem op_next {S : Sst} {O : Smo} (h : Inv S O) : f_X12_next O = some (f_X11_next S) := by
  obtain ⟨n, ne, slots, lo, v, tp, bs, h1, h2, h3, h4, h5, _⟩ := h
  obtain ⟨e, _, _, e1, e2⟩ := nextE h4 h5
  unfold f_X12_next f_X11_next
  rw [e1, e2]
  rfl
theorem op_events {S : Sst} {O : Smo} (h : Inv S O) : f_X11_events S = f_X12_events O := by
  obtain ⟨n, ne, slots, lo, v, tp, bs, h1, h2, h3, ⟨p1, p2, p3, p4, p5, p6, p7, p8⟩, _⟩ := h
  unfold f_X12_events f_X11_events
  rw [p6]
  exact size_rg p1.2.2.2.1
theorem op_lies {S : Sst} {O : Smo} (h : Inv S O) (z : Int) : f_X12_lies z O = some (f_X11_lies z S) := by
  obtain ⟨n, ne, slots, lo, v, tp, bs, h1, ⟨ni, l1, l2, l3⟩, _⟩ := h
  unfold f_X12_lies f_X11_lies f_X12_isIn
  rw [l3, size_rg l1, wr_id (by omega) (by omega)]
  by_cases hz : 0 ≤ z ∧ z < ni
  · obtain ⟨s, rfl⟩ : ∃ s : Nat, z = (s : Int) := ⟨z.toNat, by omega⟩
    rw [if_neg (c := (s : Int) < 0 ∨ _) (by omega), if_neg (by decide), if_neg (by omega), Ln292, aget_nat (show s < 8 by omega), at_nat l1 (show s < ni by omega)]
    rfl
  · rw [if_pos (c := z < 0 ∨ (ni : Int) - 1 < z) (by omega), if_pos rfl, if_pos (by omega)]
theorem Inv_told {S S' : Sst} {O O' : Smo} {n ne slots v tp bs : Nat} {lo : Nat → Nat} (h1 : ITape S O) (h2 : ILie S O) (h3 : ILex S O) (h4 : IPlan S O n ne slots lo) (h5 : IVer S O n ne slots v tp bs) (h6 : IAct S O n ne v tp bs) (h7 : IBox S O n ne slots) (hT : ITold S' O' n) (e1 : ∀ k, k < 254 → S'.1 k = S.1 k) (e2 : ∀ k j, k ≠ 249 → S'.2 k j = S.2 k j) (e3 : ∀ k, k ≠ 262 → ¬ (298 ≤ k ∧ k ≤ 301) → O' k = O k) (e4 : ∀ j, j ≠ 73 → j ≠ 74 → O' 262 j = O 262 j) : Inv S' O' := by
  have o : ∀ k, 276 ≤ k → k ≤ 281 → O' k = O k := fun k a b => e3 k (by omega) (by omega)
  exact ⟨n, ne, slots, lo, v, tp, bs, ITape_fr h1 (e1 _ (by decide)) (e3 _ (by decide) (by decide)) (e4 _ (by decide) (by decide)), ILie_fr h2 (e1 _ (by decide)) (e3 _ (by decide) (by decide)) (e4 _ (by decide) (by decide)), ILex_fr h3 ⟨e2 _ _ (by decide), e2 _ _ (by decide), e2 _ _ (by decide)⟩ (fun _ => e2 _ _ (by decide)) ⟨e4 _ (by decide) (by decide), e4 _ (by decide) (by decide)⟩,
    IPlan_fr h4 (fun k a b => e1 _ (by omega)) ⟨e2 _ _ (by decide), e2 _ _ (by decide)⟩ o ⟨e4 _ (by decide) (by decide), e4 _ (by decide) (by decide), e4 _ (by decide) (by decide), e4 _ (by decide) (by decide)⟩,
    IVer_fr h5 (fun k a b => e1 _ (by omega)) o (e3 _ (by decide) (by decide)) ⟨e4 _ (by decide) (by decide), e4 _ (by decide) (by decide), e4 _ (by decide) (by decide)⟩,
    IAct_fr h6 (e2 _ _ (by decide)) (e1 _ (by decide)) o (e3 _ (by decide) (by decide)), IBox_fr h7 (fun k a b => e1 _ (by omega)) (fun b hb => e2 _ _ (by omega)) o (fun k a b => e3 k (by omega) (by omega)), hT⟩
theorem op_seen {S : Sst} {O : Smo} (h : Inv S O) (z : Int) {b : Int} (hb : b = 0 ∨ b = 1) : Op2 (some (f_X11_seen z b S)) (f_X12_seen z b O) := by
  have hI := h
  obtain ⟨n, ne, slots, lo, v, tp, bs, h1, h2, h3, h4, h5, h6, h7, h8⟩ := h
  have p := h4
  obtain ⟨p1, p2, p3, p4, p5, p6, p7, p8⟩ := p
  obtain ⟨h0, ns, t1, t2, t3, t4, t5, t6, t7, t8, t9⟩ := h8
  unfold f_X11_seen f_X12_seen
  dsimp only [jn]
  rw [pl_has p1.1, rf_isSeg p5 p2.1, t6]
  by_cases hz : z = -1 ∨ (0 ≤ z ∧ z < n)
  · have hz1 : z = -1 ∨ ¬ (if 0 ≤ z ∧ z < (n : Int) then (1 : Int) else 0) = 0 := by
      rcases hz with q | q
      · exact Or.inl q
      · exact Or.inr (by rw [if_pos q]; decide)
    rw [if_pos hz1]
    unfold f_X9_tell
    dsimp only [jn]
    rw [size_rg t1]
    by_cases c : ns < 30
    · rw [if_pos (show (ns : Int) < 30 by omega), if_pos (show (z = -1 ∨ ¬ (if 0 ≤ z ∧ z < (n : Int) then (1 : Int) else 0) = 0) ∧ ¬ (ns : Int) = 30 from ⟨hz1, by omega⟩)]
      obtain ⟨S1, a1, b1, c1, d1⟩ := add_row z t1 (by rw [Ln255]; exact c)
      rw [a1]
      have hq : (if b = 0 then (0 : Int) else 1) = b := by rcases hb with rfl | rfl <;> rfl
      rw [hq]
      obtain ⟨S2, a2, b2, c2, d2⟩ := add_row b (show S1.1 256 = _ by rw [c1 _ (by decide)]; exact t2) (by rw [Ln257]; exact c)
      rw [a2]
      have e24 : S2.2 249 2 = O 262 74 := by rw [d2, d1]; exact t7
      rw [e24]
      obtain ⟨S3, a3, b3, c3, d3⟩ := add_row (O 262 74) (show S2.1 258 = _ by rw [c2 _ (by decide), c1 _ (by decide)]; exact t3) (by rw [Ln259]; exact c)
      rw [a3]
      obtain ⟨S4, a4, b4, c4, d4⟩ := add_row (-1) (show S3.1 260 = _ by rw [c3 _ (by decide), c2 _ (by decide), c1 _ (by decide)]; exact t4) (by rw [Ln261]; exact c)
      rw [a4]
      have w254 : S4.1 254 = rg (ns + 1) (updI (O 298) ns z) := by rw [c4 _ (by decide), c3 _ (by decide), c2 _ (by decide)]; exact b1
      have w256 : S4.1 256 = rg (ns + 1) (updI (O 301) ns b) := by rw [c4 _ (by decide), c3 _ (by decide)]; exact b2
      have w258 : S4.1 258 = rg (ns + 1) (updI (O 299) ns (O 262 74)) := by rw [c4 _ (by decide)]; exact b3
      have w260 : S4.1 260 = rg (ns + 1) (updI (O 300) ns (-1)) := b4
      have wo : ∀ k, k < 254 → S4.1 k = S.1 k := fun k hk => by rw [c4 _ (by omega), c3 _ (by omega), c2 _ (by omega), c1 _ (by omega)]
      have wi : S4.2 = S.2 := by rw [d4, d3, d2, d1]
      rw [size_rg w254]
      obtain ⟨O1, f1, g1, i1⟩ := aset_row (O := O) (k := 298) (i := ns) (z := (ns : Int)) (v := z) rfl (by rw [Ln298]; exact c)
      rw [f1]
      dsimp only [Option.bind_some]
      have n1 : O1 262 73 = (ns : Int) := by rw [i1 _ (by decide)]; exact t6
      obtain ⟨O2, f2, g2, i2⟩ := aset_row (O := O1) (k := 301) (i := ns) (z := O1 262 73) (v := b) n1 (by rw [Ln301]; exact c)
      rw [f2]
      dsimp only [Option.bind_some]
      have n2 : O2 262 73 = (ns : Int) := by rw [i2 _ (by decide)]; exact n1
      have n2t : O2 262 74 = O 262 74 := by rw [i2 _ (by decide), i1 _ (by decide)]
      obtain ⟨O3, f3, g3, i3⟩ := aset_row (O := O2) (k := 299) (i := ns) (z := O2 262 73) (v := O2 262 74) n2 (by rw [Ln299]; exact c)
      rw [f3]
      dsimp only [Option.bind_some]
      have n3 : O3 262 73 = (ns : Int) := by rw [i3 _ (by decide)]; exact n2
      obtain ⟨O4, f4, g4, i4⟩ := aset_row (O := O3) (k := 300) (i := ns) (z := O3 262 73) (v := -1) n3 (by rw [Ln300]; exact c)
      rw [f4]
      dsimp only [Option.bind_some]
      have n4 : O4 262 73 = (ns : Int) := by rw [i4 _ (by decide)]; exact n3
      rw [n4, wr_id (z := (ns : Int) + 1) (by omega) (by omega), up2_same]
      have x298 : up2 O4 262 73 ((ns : Int) + 1) 298 = updI (O 298) ns z := by rw [up2_row (by decide), i4 _ (by decide), i3 _ (by decide), i2 _ (by decide), g1]
      have x301 : up2 O4 262 73 ((ns : Int) + 1) 301 = updI (O 301) ns b := by rw [up2_row (by decide), i4 _ (by decide), i3 _ (by decide), g2, i1 _ (by decide)]
      have x299 : up2 O4 262 73 ((ns : Int) + 1) 299 = updI (O 299) ns (O 262 74) := by rw [up2_row (by decide), i4 _ (by decide), g3, i2 _ (by decide), i1 _ (by decide), n2t]
      have x300 : up2 O4 262 73 ((ns : Int) + 1) 300 = updI (O 300) ns (-1) := by rw [up2_row (by decide), g4, i3 _ (by decide), i2 _ (by decide), i1 _ (by decide)]
      have xo : ∀ k, k ≠ 262 → ¬ (298 ≤ k ∧ k ≤ 301) → up2 O4 262 73 ((ns : Int) + 1) k = O k := fun k h1 h2 => by rw [up2_row h1, i4 _ (by omega), i3 _ (by omega), i2 _ (by omega), i1 _ (by omega)]
      have xi : ∀ j, j ≠ 73 → up2 O4 262 73 ((ns : Int) + 1) 262 j = O 262 j := fun j hj => by rw [up2_ne (Or.inr hj), i4 _ (by decide), i3 _ (by decide), i2 _ (by decide), i1 _ (by decide)]
      refine ⟨_, _, _, rfl, by rw [show wr (((ns + 1 : Nat) : Int) - 1) = wr ((ns : Int) + 1 - 1) by congr 1], Inv_told h1 h2 h3 h4 h5 h6 h7 ⟨fun i hi => by rw [xo 282 (by decide) (by decide)]; exact h0 i hi, ns + 1, by rw [x298]; exact w254, by rw [x301]; exact w256, by rw [x299]; exact w258, by rw [x300]; exact w260, by omega, by rw [up2_same]; omega, by rw [xi 74 (by decide), wi]; exact t7, by rw [xi 74 (by decide)]; exact t8, fun i hi => ?_⟩ wo (fun k j _ => by rw [wi]) xo (fun j hj _ => xi j hj)⟩
      rw [x301, x300, x298]
      by_cases e : i = ns
      · rw [e, upd_same, upd_same, upd_same]
        exact ⟨hb, Or.inl rfl, by omega, by omega⟩
      · rw [upd_ne e, upd_ne e, upd_ne e]
        exact t9 i (by omega)
    · rw [if_neg (by omega), if_neg (fun q => q.2 (by omega))]
      exact ⟨_, _, _, rfl, rfl, hI⟩
  · have hz1 : ¬ (z = -1 ∨ ¬ (if 0 ≤ z ∧ z < (n : Int) then (1 : Int) else 0) = 0) := fun q => by
      rw [if_neg (fun h => hz (Or.inr h))] at q
      rcases q with q | q
      · exact hz (Or.inl q)
      · exact q rfl
    rw [if_neg hz1, if_neg (fun q => hz1 q.1)]
    exact ⟨_, _, _, rfl, rfl, hI⟩
theorem op_untell {S : Sst} {O : Smo} (h : Inv S O) (z : Int) : Op2 (some (f_X11_untell z S)) (f_X12_untell z O) := by
  have hI := h
  obtain ⟨n, ne, slots, lo, v, tp, bs, h1, h2, h3, h4, h5, h6, h7, h8⟩ := h
  obtain ⟨h0, ns, t1, t2, t3, t4, t5, t6, t7, t8, t9⟩ := h8
  unfold f_X11_untell f_X12_untell f_X9_takeBack f_X12_isIn
  dsimp only [jn, jk]
  rw [size_rg t1, t6, wr_id (by omega) (by omega)]
  by_cases hz : 0 ≤ z ∧ z < ns
  · obtain ⟨s, rfl⟩ : ∃ s : Nat, z = (s : Int) := ⟨z.toNat, by omega⟩
    have hs : s < ns := by omega
    have h9 := t9 s hs
    rw [if_neg (c := (s : Int) < 0 ∨ (ns : Int) - 1 < s) (by omega), if_neg (show ¬ (1 : Int) = 0 by decide), at_nat t4 hs, Ln300, aget_nat (show s < 30 by omega)]
    dsimp only [Option.bind_some]
    by_cases c : O 300 s = -1
    · rw [if_neg (by omega), if_pos (show O 300 s < 0 by omega), aset_nat (show s < 30 by omega), t7]
      dsimp only [Option.bind_some]
      obtain ⟨S1, a1, b1, c1, d1⟩ := put_row (k := s) (O 262 74) t4
      rw [a1]
      refine ⟨_, _, _, rfl, rfl, Inv_told h1 h2 h3 h4 h5 h6 h7 ⟨fun i hi => by rw [up2_row (by decide)]; exact h0 i hi, ns, by rw [c1 _ (by decide), up2_row (by decide)]; exact t1, by rw [c1 _ (by decide), up2_row (by decide)]; exact t2, by rw [c1 _ (by decide), up2_row (by decide)]; exact t3, by rw [b1, upd_up2], t5, by rw [up2_row (by decide)]; exact t6, by rw [d1, up2_row (by decide)]; exact t7, by rw [up2_row (by decide)]; exact t8, fun i hi => ?_⟩ (fun k hk => c1 k (by omega)) (fun k j _ => by rw [d1]) (fun k p q => up2_row (by omega)) (fun j _ _ => by rw [up2_row (by decide)])⟩
      have h9' := t9 i hi
      rw [up2_row (a := 301) (by decide), up2_row (a := 298) (by decide), upd_up2]
      by_cases e : i = s
      · rw [e, upd_same]
        rw [e] at h9'
        exact ⟨h9'.1, Or.inr t8.1, h9'.2.2⟩
      · rw [upd_ne e]; exact h9'
    · rw [if_pos (Or.inr c), if_neg (by omega)]
      exact ⟨_, _, _, rfl, rfl, hI⟩
  · rw [if_pos (Or.inl (by omega)), if_pos (c := z < 0 ∨ (ns : Int) - 1 < z) (by omega), if_pos rfl]
    exact ⟨_, _, _, rfl, rfl, hI⟩
theorem op_later {S : Sst} {O : Smo} (h : Inv S O) (z : Int) : Op2 (some (f_X11_later z S)) (some (f_X12_later z O)) := by
  have hI := h
  obtain ⟨n, ne, slots, lo, v, tp, bs, h1, h2, h3, h4, h5, h6, h7, h8⟩ := h
  obtain ⟨h0, ns, t1, t2, t3, t4, t5, t6, t7, t8, t9⟩ := h8
  unfold f_X11_later f_X12_later f_X9_goOn
  dsimp only [jn]
  rw [t7]
  by_cases c : (z < 0 ∨ 1000 < z) ∨ 100000 < wr (O 262 74 + z)
  · rw [if_pos c, if_pos c]
    exact ⟨_, _, _, rfl, rfl, hI⟩
  · have hw : wr (O 262 74 + z) = O 262 74 + z := wr_id (by omega) (by omega)
    rw [if_neg c, if_neg c]
    rw [hw] at c ⊢
    rw [upS_at, up2_same]
    refine ⟨_, _, _, rfl, rfl, Inv_told h1 h2 h3 h4 h5 h6 h7 ⟨fun i hi => by rw [up2_row (by decide)]; exact h0 i hi, ns, by rw [upS_R, up2_row (by decide)]; exact t1, by rw [upS_R, up2_row (by decide)]; exact t2, by rw [upS_R, up2_row (by decide)]; exact t3, by rw [upS_R, up2_row (by decide)]; exact t4, t5, by rw [up2_ne (Or.inr (by decide))]; exact t6, by rw [upS_at, up2_same], by rw [up2_same]; omega, fun i hi => ?_⟩ (fun k _ => upS_R _ _ _ _ _) (fun k j hk => upS_ne (Or.inl hk)) (fun k p _ => up2_row p) (fun j _ hj => up2_ne (Or.inr hj))⟩
    rw [up2_row (a := 301) (by decide), up2_row (a := 300) (by decide), up2_row (a := 298) (by decide)]
    exact t9 i hi
