/-! LEVEL 3, dd: calls that read the rows -/
section RD
variable {S : Sst} {O : Smo} {n ne slots v tp bs : Nat} {lo : Nat → Nat}
theorem q_new (h5 : IVer S O n ne slots v tp bs) : f_X7_newest 74 S = (v : Int) := newest_row (by rw [h5.2.2.2.2.2.1, rg_len]) (by have := h5.2.2.2.1; omega)
theorem q_stamp (h5 : IVer S O n ne slots v tp bs) (z : Int) : f_X7_hasStamp 74 z S = (if 0 ≤ z ∧ z ≤ v then 1 else 0) ∧ f_X12_isStamp z O = (if 0 ≤ z ∧ z ≤ v then 1 else 0) := by
  constructor
  · unfold f_X7_hasStamp
    rw [size_rg h5.2.2.2.2.2.1]
    by_cases c : 0 ≤ z ∧ z ≤ v
    · rw [if_pos c, if_neg (by omega)]
    · rw [if_neg c, if_pos (by omega)]
  · unfold f_X12_isStamp f_X12_isIn
    rw [h5.1]
    by_cases c : 0 ≤ z ∧ z ≤ v
    · rw [if_pos c, if_neg (by omega)]
    · rw [if_neg c, if_pos (by omega)]
theorem q_set (h5 : IVer S O n ne slots v tp bs) {u : Nat} (hu : u ≤ v) : f_X6_at 77 (u : Int) S = (mA (O 282) u : Int) ∧ f_X12_setOf (u : Int) O = some (mA (O 282) u : Int) ∧ mA (O 282) u < 256 := by
  obtain ⟨am, am8, _⟩ := h5.2.2.2.2.1.1.1 u (by have := h5.2.2.2.1; omega)
  refine ⟨?_, ?_, am8⟩
  · rw [show (77 : Nat) = 74 + 3 from rfl, at_nat h5.2.2.2.2.2.2.1 (show u < v + 1 by omega), am]
  · rw [rf_setOf (by have := h5.2.2.2.1; omega), am]
theorem q_place (h5 : IVer S O n ne slots v tp bs) {u : Nat} (hu : u ≤ v) : f_X6_at 75 (u : Int) S = O 282 u ∧ f_X12_placeOf (u : Int) O = some (O 282 u) := ⟨by rw [show (75 : Nat) = 74 + 1 from rfl, at_nat h5.2.2.2.2.2.1 (show u < v + 1 by omega)], rf_placeOf (by have := h5.2.2.2.1; omega)⟩
theorem q_many (h5 : IVer S O n ne slots v tp bs) : f_X12_nodeMany O = some (nA (O 282) v : Int) ∧ f_X6_size 87 S = (nA (O 282) v : Int) ∧ nA (O 282) v ≤ 320 := by
  have h4 := h5.2.2.2.1
  refine ⟨?_, ?_, by have := nA_8 h5.2.2.2.2.1.1 v (by omega); omega⟩
  · unfold f_X12_nodeMany
    rw [h5.1, rf_at (i := 164 + v) (by rw [wr_id (by omega) (by omega)]; omega) (by omega), h5.2.2.2.2.1.1.2.1.2.1 v (by omega)]
    rfl
  · exact size_rg (h5.2.2.2.2.2.2.2.2.2.2.2.1 0 (by decide))
theorem q_rep (h5 : IVer S O n ne slots v tp bs) : RepD 74 S (vwD (O 282) v) := h5.2.2.2.2.2.2.2.2.2.2.2
theorem q_us (h5 : IVer S O n ne slots v tp bs) (h6 : slots ≤ 6) {k : Nat} (hk : k < nA (O 282) v) : f_X12_usedUpTo k (O 262 47) O = some (usA (O 282) k v : Int) ∧ f_X6_at 95 (k : Int) S = (usA (O 282) k v : Int) ∧ usA (O 282) k v ≤ 6 ∧ k < 320 ∧ k < nA (O 282) tp := by
  have h4 := h5.2.2.2.1
  have hm := (q_many h5).2.2
  have hlt : k < nA (O 282) tp := Nat.lt_of_lt_of_le hk (nA_le h5.2.2.2.2.1.1 (by omega) (Nat.le_refl _))
  obtain ⟨b0, b1⟩ := (h5.2.2.2.2.1.1.2.2.1 k hlt).2.2.1
  have hl := us_le h5.2.2.2.2.1.1 hlt (v : Int)
  refine ⟨?_, ?_, by omega, by omega, hlt⟩
  · rw [h5.1, rf_used (by omega) b0 (by omega)]
  · have := (q_rep h5).1 4 (by decide)
    rw [show (95 : Nat) = 74 + 13 + 2 * 4 from rfl, at_nat this hk, vwD_4 hk]
theorem q_field (h5 : IVer S O n ne slots v tp bs) {j k : Nat} (hj : j < 4) (hk : k < nA (O 282) v) : f_X6_at (74 + 13 + 2 * j) (k : Int) S = O 282 (205 + 320 * j + k) := by
  rw [at_nat ((q_rep h5).1 j (by omega)) hk, vwD_f hj hk]
theorem q_node (h5 : IVer S O n ne slots v tp bs) {s : Int} (hs : s < 8) {u : Nat} (hu : u ≤ v) : f_X12_nodeOf s u O = some (ndA (O 282) s u) := by
  have h4 := h5.2.2.2.1
  obtain ⟨am, am8, _⟩ := h5.2.2.2.2.1.1.1 u (by omega)
  have := nA_8 h5.2.2.2.2.1.1 u (by omega)
  exact rf_nodeOf (by omega) hs am am8 (h5.2.2.2.2.1.1.2.1.2.1 u (by omega)) (by omega)
theorem q_has (h5 : IVer S O n ne slots v tp bs) {s : Nat} (hs : s < 8) : f_X6_at 105 (s : Int) S = ndA (O 282) s v := by
  rw [show (105 : Nat) = 74 + 31 from rfl, at_nat (q_rep h5).2.2 hs, vwD_9]
theorem q_isNow (h4 : IPlan S O n ne slots lo) (h5 : IVer S O n ne slots v tp bs) {s : Nat} (hs : s < n) : f_X12_isNow (s : Int) O = some (bt (mA (O 282) v) s) := by
  have hn8 := h4.2.1.1
  have hz : 0 ≤ (s : Int) ∧ (s : Int) < n := by omega
  unfold f_X12_isNow
  dsimp only [jk]
  rw [rf_isSeg h4.2.2.2.2.1 hn8, if_pos hz, if_neg (by decide), h5.1, (q_set h5 (Nat.le_refl _)).2.1]
  dsimp only [Option.bind_some]
  rw [has_n (q_set h5 (Nat.le_refl _)).2.2 (by omega)]
  rcases bt01 (mA (O 282) v) s with q | q <;> rw [q] <;> rfl
theorem q_in (h5 : IVer S O n ne slots v tp bs) {u s : Nat} (hu : u ≤ v) (hs : s < 8) : f_X7_isIn 74 (u : Int) s S = bt (mA (O 282) u) s := cl_isIn (q_set h5 hu).1 (q_set h5 hu).2.2 hs
theorem q_cut (h5 : IVer S O n ne slots v tp bs) : f_X6_at 79 (v : Int) S = (cA (O 282) v : Int) ∧ f_X12_cutNow O = some (cA (O 282) v : Int) ∧ cA (O 282) v < 256 := by
  have h4 := h5.2.2.2.1
  obtain ⟨_, e1, e2, _⟩ := h5.2.2.2.2.1.2.2.1 v (by omega)
  refine ⟨?_, ?_, e2⟩
  · rw [show (79 : Nat) = 74 + 5 from rfl, at_nat h5.2.2.2.2.2.2.2.1 (show v < v + 1 by omega), e1]
  · unfold f_X12_cutNow
    rw [h5.1, rf_at (i := 82 + v) (by rw [wr_id (by omega) (by omega)]; omega) (by omega), e1]
    rfl
end RD
theorem tr_bt (m s : Nat) : f_X12_truth (bt m s) = bt m s := by
  rcases bt01 m s with q | q <;> rw [q] <;> rfl
theorem op_segment {S : Sst} {O : Smo} (h : Inv S O) (z a : Int) : f_X12_segment z a O = some (f_X11_segment z a S) := by
  obtain ⟨n, ne, slots, lo, v, tp, bs, h1, h2, h3, h4, h5, h6, h7, h8⟩ := h
  have hn8 := h4.2.1.1
  have p1 := h4.1.1
  unfold f_X12_segment f_X11_segment
  dsimp only [jn]
  rw [rf_isSeg h4.2.2.2.2.1 hn8, pl_has p1]
  by_cases hz : 0 ≤ z ∧ z < n
  · obtain ⟨s, rfl⟩ : ∃ s : Nat, z = (s : Int) := ⟨z.toNat, by omega⟩
    have hs8 : s < 8 := by omega
    have hs : s < n := by omega
    rw [if_pos hz, if_neg (show ¬ (1 : Int) = 0 by decide), if_neg (show ¬ (1 : Int) = 0 by decide)]
    rw [q_new h5, q_in h5 (Nat.le_refl _) hs8, (q_cut h5).1, (q_cut h5).2.1, q_isNow h4 h5 hs, h5.1, q_node h5 (by omega) (Nat.le_refl _), q_has h5 hs8, bit_n (q_cut h5).2.2 hs8, Ln276, Ln277, Ln278, Ln279, aget_nat hs8, aget_nat hs8, aget_nat hs8, aget_nat hs8]
    rw [show f_X6_at 30 (s : Int) S = O 276 s from at_nat p1.1 hs, show f_X6_at 32 (s : Int) S = O 277 s from at_nat p1.2.1 hs, show f_X6_at 34 (s : Int) S = O 278 s from at_nat p1.2.2.1 hs, show f_X6_at 36 (s : Int) S = O 279 s from at_nat p1.2.2.2.1 hs]
    dsimp only [Option.bind_some]
    rw [has_n (q_cut h5).2.2 hs8, tr_bt, tr_bt]
    have hi : (if bt (mA (O 282) v) s = 0 then (0 : Int) else 1) = bt (mA (O 282) v) s := by
      rcases bt01 (mA (O 282) v) s with q | q <;> rw [q] <;> rfl
    rw [hi]
    simp only [apply_ite (some : Int → Option Int)]
  · rw [if_neg hz, if_pos rfl, if_pos rfl]
theorem op_about {S : Sst} {O : Smo} (h : Inv S O) (a : Int) : f_X12_about a O = some (f_X11_about a S) := by
  obtain ⟨n, ne, slots, lo, v, tp, bs, ⟨nt, t1, _, t3, _⟩, ⟨ni, l1, _, l3⟩, h3, h4, h5, h6, h7, ⟨_, ns, g1, g2, g3, g4, g5, g6, g7, g8, g9⟩⟩ := h
  have hh := h5.2.2.2.1
  unfold f_X12_about f_X11_about
  dsimp only [jn]
  rw [q_new h5, h5.1, (q_place h5 (Nat.le_refl _)).1, (q_place h5 (Nat.le_refl _)).2, (q_set h5 (Nat.le_refl _)).1, (q_set h5 (Nat.le_refl _)).2.1, (q_many h5).1, (q_many h5).2.1, pl_count h4.1.1, h4.2.2.2.2.1, h4.1.2.2.2.2.1, h4.2.2.2.2.2.2.1, h6.1, h5.2.2.1, h5.2.1, g6, size_rg g1, g7, t3, size_rg t1, h4.2.2.2.2.2.2.2, l3, size_rg l1]
  have e : f_X6_size 240 S = ((tp - bs : Nat) : Int) := by unfold f_X6_size; rw [h6.2.1]
  rw [e, show wr ((v : Int) - (bs : Int)) = (v : Int) - bs from wr_id (by omega) (by omega), show wr (((tp - bs : Nat) : Int) - ((v : Int) - bs)) = (tp : Int) - v by rw [wr_id (by omega) (by omega)]; omega, show wr ((tp : Int) - (v : Int)) = (tp : Int) - v from wr_id (by omega) (by omega)]
  dsimp only [Option.bind_some]
  simp only [apply_ite (some : Int → Option Int)]
theorem op_unlike {S : Sst} {O : Smo} (h : Inv S O) (a b : Int) : f_X12_unlike a b O = some (f_X11_unlike a b S) := by
  obtain ⟨n, ne, slots, lo, v, tp, bs, h1, h2, h3, h4, h5, h6, h7, h8⟩ := h
  unfold f_X12_unlike f_X11_unlike
  rw [(q_stamp h5 a).1, (q_stamp h5 a).2, (q_stamp h5 b).1, (q_stamp h5 b).2]
  by_cases ha : 0 ≤ a ∧ a ≤ v
  · by_cases hb : 0 ≤ b ∧ b ≤ v
    · obtain ⟨i, rfl⟩ : ∃ s : Nat, a = (s : Int) := ⟨a.toNat, by omega⟩
      obtain ⟨j, rfl⟩ : ∃ s : Nat, b = (s : Int) := ⟨b.toNat, by omega⟩
      obtain ⟨a1, a2, a3⟩ := q_set h5 (show i ≤ v by omega)
      obtain ⟨b1, b2, b3⟩ := q_set h5 (show j ≤ v by omega)
      rw [if_pos ha, if_pos hb, if_neg (by decide), if_neg (by decide), a1, a2, b1, b2]
      dsimp only [Option.bind_some]
      have hx : mA (O 282) i ^^^ mA (O 282) j < 256 := Nat.xor_lt_two_pow (n := 8) a3 b3
      rw [zxor_n a3 b3, members_n hx, pc_n hx]
      rfl
    · rw [if_neg hb, if_pos (Or.inr rfl), if_pos (Or.inr rfl)]
  · rw [if_neg ha, if_pos (Or.inl rfl), if_pos (Or.inl rfl)]
/-- two loops that do alike -/
theorem lp_same {σ ρ : Type} {f g : σ → Option (σ ⊕ ρ)} (I : Nat → σ → Prop) (Q : ρ → Prop) (n : Nat) (hn : n < 4294967296) {s : σ} (h0 : I 0 s) (h : ∀ c s, c < n → I c s → f s = g s ∧ Ret (g s) (fun q => ∃ s', q = .inl s' ∧ I (c + 1) s')) (he : ∀ s, I n s → f s = g s ∧ Ret (g s) (fun q => ∃ r, q = .inr r ∧ Q r)) : lp f FU s = lp g FU s ∧ Ret (lp g FU s) Q := by
  have key : ∃ r q, lp f FU s = some r ∧ lp g FU s = some q ∧ (r = q ∧ Q q) := by
    refine lp_i2 (fun c s t => s = t ∧ I c t) (fun r q => r = q ∧ Q q) n hn (fun c s t hc hI => ?_) (fun s t hI => ?_) ⟨rfl, h0⟩
    · obtain ⟨rfl, hI⟩ := hI
      obtain ⟨e, q, e2, s', rfl, h2⟩ := h c s hc hI
      exact ⟨s', s', by rw [e, e2], e2, rfl, h2⟩
    · obtain ⟨rfl, hI⟩ := hI
      obtain ⟨e, q, e2, r, rfl, h2⟩ := he s hI
      exact ⟨r, r, by rw [e, e2], e2, rfl, h2⟩
  obtain ⟨r, q, e1, e2, rfl, h3⟩ := key
  exact ⟨by rw [e1, e2], r, e2, h3⟩
/-- a call that only reads on both sides -/
def Op0 (c : Option Int) (r : Option Int) : Prop := ∃ a : Int, c = some a ∧ r = some a
theorem op_stays {S : Sst} {O : Smo} (h : Inv S O) (z : Int) : Op0 (f_X11_stays z S) (f_X12_stays z O) := by
  obtain ⟨n, ne, slots, lo, v, tp, bs, h1, h2, h3, h4, h5, h6, h7, h8⟩ := h
  have hh := h5.2.2.2.1
  have hn8 := h4.2.1.1
  unfold f_X11_stays f_X12_stays
  rw [pl_has h4.1.1, rf_isSeg h4.2.2.2.2.1 hn8]
  by_cases hz : 0 ≤ z ∧ z < n
  · obtain ⟨s, rfl⟩ : ∃ s : Nat, z = (s : Int) := ⟨z.toNat, by omega⟩
    rw [if_pos hz, if_neg (by decide), if_neg (by decide)]
    obtain ⟨e, r, e2, _⟩ := lp_same (f := fun (s3731 : Int × Int) =>
      if f_X7_newest 74 S < s3731.2 then
        (some (Sum.inr s3731.1))
      else
        (jn (
          if f_X7_isIn 74 s3731.2 s S = 0 then
            (0)
          else
            (1)) fun (q3740 : Int) =>
        jn (wr (s3731.1 + q3740)) fun (v3745 : Int) =>
        some (Sum.inl (v3745, wr (s3731.2 + 1))))) (g := fun (s9520 : Int × Int) =>
      if O 262 47 < s9520.2 then
        (some (Sum.inr s9520.1))
      else
        (Option.bind (f_X12_setOf s9520.2 O) fun (q9529 : Int) =>
        jn (wr (s9520.1 + (f_X12_truth (f_X12_has q9529 s)))) fun (v9533 : Int) =>
        some (Sum.inl (v9533, wr (s9520.2 + 1))))) (fun c q => q.2 = (c : Int) ∧ 0 ≤ q.1 ∧ q.1 ≤ c) (fun _ => True) (v + 1) (by omega) (s := (0, 0)) ⟨rfl, Int.le_refl _, Int.le_refl _⟩ (fun c q hc hI => by
          obtain ⟨a, b⟩ := q
          obtain ⟨rfl, k1, k2⟩ := hI
          dsimp only [jn] at *
          have hs8 : s < 8 := by omega
          rw [q_new h5, h5.1, if_neg (show ¬ (v : Int) < (c : Int) by omega), if_neg (show ¬ (v : Int) < (c : Int) by omega), q_in h5 (show c ≤ v by omega) hs8, (q_set h5 (show c ≤ v by omega)).2.1]
          dsimp only [Option.bind_some]
          rw [has_n (q_set h5 (show c ≤ v by omega)).2.2 hs8, tr_bt]
          have hi : (if bt (mA (O 282) c) s = 0 then (0 : Int) else 1) = bt (mA (O 282) c) s := by
            rcases bt01 (mA (O 282) c) s with q | q <;> rw [q] <;> rfl
          rw [hi]
          have := bt01 (mA (O 282) c) s
          rw [wr_id (by omega) (by omega), wr_id (by omega) (by omega)]
          exact ⟨rfl, Ret_some ⟨_, rfl, by dsimp only; omega, by dsimp only; omega, by dsimp only; omega⟩⟩) (fun q hI => by
          obtain ⟨a, b⟩ := q
          obtain ⟨rfl, k1, k2⟩ := hI
          dsimp only [jn] at *
          rw [q_new h5, h5.1, if_pos (show (v : Int) < ((v + 1 : Nat) : Int) by omega), if_pos (show (v : Int) < ((v + 1 : Nat) : Int) by omega)]
          exact ⟨rfl, Ret_some ⟨_, rfl, trivial⟩⟩)
    rw [e, e2]
    exact ⟨_, rfl, rfl⟩
  · rw [if_neg hz, if_pos rfl, if_pos rfl]
    exact ⟨_, rfl, rfl⟩
theorem op_widest {S : Sst} {O : Smo} (h : Inv S O) : Op0 (f_X11_widest S) (f_X12_widest O) := by
  obtain ⟨n, ne, slots, lo, v, tp, bs, h1, h2, h3, h4, h5, h6, h7, h8⟩ := h
  have hh := h5.2.2.2.1
  unfold f_X11_widest f_X12_widest
  obtain ⟨e, r, e2, _⟩ := lp_same (f := fun (s3630 : Int × Int) =>
    if f_X7_newest 74 S < s3630.2 then
      (some (Sum.inr s3630.1))
    else
      (jn (
        if f_J6_bitCount_0f7a4 (f_X6_at 77 s3630.1 S) < f_J6_bitCount_0f7a4 (f_X6_at 77 s3630.2 S) then
          (s3630.2)
        else
          (s3630.1)) fun (q3642 : Int) =>
      some (Sum.inl (q3642, wr (s3630.2 + 1))))) (g := fun (s9415 : Int × Int) =>
    if O 262 47 < s9415.2 then
      (some (Sum.inr s9415.1))
    else
      (Option.bind (f_X12_setOf s9415.2 O) fun (q9424 : Int) =>
      Option.bind (f_X12_members q9424) fun (q9427 : Int) =>
      Option.bind (f_X12_setOf s9415.1 O) fun (q9430 : Int) =>
      Option.bind (f_X12_members q9430) fun (q9433 : Int) =>
      jn (
        if q9433 < q9427 then
          (s9415.2)
        else
          (s9415.1)) fun (q9435 : Int) =>
      some (Sum.inl (q9435, wr (s9415.2 + 1))))) (fun c q => q.2 = (c : Int) + 1 ∧ ∃ b : Nat, q.1 = (b : Int) ∧ b ≤ c) (fun _ => True) v (by omega) (s := (0, 1)) ⟨rfl, 0, rfl, Nat.le_refl _⟩ (fun c q hc hI => by
        obtain ⟨a, b⟩ := q
        obtain ⟨rfl, w, rfl, hw⟩ := hI
        dsimp only [jn] at *
        have ec : (c : Int) + 1 = ((c + 1 : Nat) : Int) := by omega
        obtain ⟨x1, x2, x3⟩ := q_set h5 (show c + 1 ≤ v by omega)
        obtain ⟨y1, y2, y3⟩ := q_set h5 (show w ≤ v by omega)
        rw [ec, q_new h5, h5.1, if_neg (show ¬ (v : Int) < ((c + 1 : Nat) : Int) by omega), if_neg (show ¬ (v : Int) < ((c + 1 : Nat) : Int) by omega), x1, x2, y1, y2]
        dsimp only [Option.bind_some]
        rw [members_n x3, members_n y3, pc_n x3, pc_n y3]
        dsimp only [Option.bind_some]
        rw [wr_id (by omega) (by omega)]
        refine ⟨rfl, Ret_some ⟨_, rfl, by dsimp only <;> omega, ?_⟩⟩
        dsimp only
        split
        · exact ⟨c + 1, rfl, Nat.le_refl _⟩
        · exact ⟨w, rfl, by omega⟩) (fun q hI => by
        obtain ⟨a, b⟩ := q
        obtain ⟨rfl, w, rfl, hw⟩ := hI
        dsimp only [jn] at *
        rw [q_new h5, h5.1, if_pos (show (v : Int) < (v : Int) + 1 by omega), if_pos (show (v : Int) < (v : Int) + 1 by omega)]
        exact ⟨rfl, Ret_some ⟨_, rfl, trivial⟩⟩)
  rw [e, e2]
  exact ⟨_, rfl, rfl⟩
theorem q_isNode {S : Sst} {O : Smo} {n ne slots v tp bs : Nat} (h5 : IVer S O n ne slots v tp bs) (z : Int) : f_X7_hasNode 74 z S = (if 0 ≤ z ∧ z < nA (O 282) v then 1 else 0) ∧ f_X12_isNode z O = some (if 0 ≤ z ∧ z < nA (O 282) v then 1 else 0) := by
  obtain ⟨m1, m2, m3⟩ := q_many h5
  constructor
  · unfold f_X7_hasNode
    rw [show f_X6_size (74 + 13) S = f_X6_size 87 S from rfl, m2]
    by_cases c : 0 ≤ z ∧ z < nA (O 282) v
    · rw [if_pos c, if_neg (by omega)]
    · rw [if_neg c, if_pos (by omega)]
  · unfold f_X12_isNode f_X12_isIn
    rw [m1]
    dsimp only [Option.bind_some]
    rw [wr_id (by omega) (by omega)]
    by_cases c : 0 ≤ z ∧ z < nA (O 282) v
    · rw [if_pos c, if_neg (by omega)]
    · rw [if_neg c, if_pos (by omega)]
theorem op_change {S : Sst} {O : Smo} (h : Inv S O) (z a w : Int) : f_X12_change z a w O = some (f_X11_change z a w S) := by
  obtain ⟨n, ne, slots, lo, v, tp, bs, h1, h2, h3, h4, h5, h6, h7, h8⟩ := h
  have hsl := h4.2.2.1.2
  unfold f_X12_change f_X11_change
  dsimp only [jn, jk]
  rw [(q_isNode h5 z).1, (q_isNode h5 z).2]
  dsimp only [Option.bind_some]
  by_cases hz : 0 ≤ z ∧ z < nA (O 282) v
  · obtain ⟨k, rfl⟩ : ∃ s : Nat, z = (s : Int) := ⟨z.toNat, by omega⟩
    have hk : k < nA (O 282) v := by omega
    obtain ⟨u1, u2, u3, u4, _⟩ := q_us h5 hsl hk
    rw [if_pos hz, if_neg (by decide), u1, u2]
    dsimp only [Option.bind_some]
    unfold f_X12_isIn
    by_cases ha : 0 ≤ a ∧ a < usA (O 282) k v
    · obtain ⟨c, rfl⟩ : ∃ s : Nat, a = (s : Int) := ⟨a.toNat, by omega⟩
      have hc : c < usA (O 282) k v := by omega
      rw [if_neg (c := (c : Int) < 0 ∨ _) (by rw [wr_id (by omega) (by omega)]; omega), if_neg (c := _ ∨ ¬ (c : Int) < (usA (O 282) k v : Int)) (by omega)]
      have hw1 : wr (wr ((k : Int) * 6) + (c : Int)) = ((6 * k + c : Nat) : Int) := by rw [wr_id (z := (k : Int) * 6) (by omega) (by omega), wr_id (by omega) (by omega)]; omega
      have hw2 : wr (wr (6 * (k : Int)) + (c : Int)) = ((6 * k + c : Nat) : Int) := by rw [wr_id (z := 6 * (k : Int)) (by omega) (by omega), wr_id (by omega) (by omega)]; omega
      rw [hw1, hw2]
      have sl : ∀ j, j < 3 → f_X6_at (74 + 25 + 2 * j) ((6 * k + c : Nat) : Int) S = O 282 (1805 + 1920 * j + (6 * k + c)) := fun j hj => by
        rw [rep_slot (q_rep h5) hj (by rw [vwD_n]; exact hk) (by rw [vwD_u hk]; exact hc) (by rw [vwD_u hk]; exact u3), vwD_s hj hk hc u3]
      rw [show f_X6_at 99 ((6 * k + c : Nat) : Int) S = _ from sl 0 (by decide), show f_X6_at 101 ((6 * k + c : Nat) : Int) S = _ from sl 1 (by decide), show f_X6_at 103 ((6 * k + c : Nat) : Int) S = _ from sl 2 (by decide)]
      rw [rf_at (i := 1805 + (6 * k + c)) (by rw [wr_id (by omega) (by omega)]; omega) (by omega), rf_at (i := 3725 + (6 * k + c)) (by rw [wr_id (by omega) (by omega)]; omega) (by omega), rf_at (i := 5645 + (6 * k + c)) (by rw [wr_id (by omega) (by omega)]; omega) (by omega)]
      dsimp only [Option.bind_some]
      by_cases w0 : w = 0
      · rw [if_pos w0, if_pos w0, if_neg (by rw [if_neg (by omega)]; omega)]
      · by_cases w1 : w = 1
        · rw [if_neg w0, if_neg w0, if_pos w1, if_pos w1, if_neg (by rw [if_neg (by omega)]; omega)]
        · by_cases w2 : w = 2
          · rw [if_neg w0, if_neg w0, if_neg w1, if_neg w1, if_pos w2, if_neg (by rw [if_neg (by omega)]; omega)]
          · rw [if_neg w0, if_neg w1, if_neg w2, if_pos (Or.inr (by rw [if_pos (by omega)])), if_neg w0, if_neg w1]
    · rw [if_pos (c := a < 0 ∨ _) (by rw [wr_id (by omega) (by omega)]; omega), if_pos (Or.inl rfl), if_pos (by omega)]
  · rw [if_neg hz, if_pos rfl, if_pos (Or.inl (Or.inl rfl))]
theorem rdC_s (D : Dt) (k : Nat) (side st : Int) (c : Nat) : rdC D k side st (c + 1) = if D.2 7 (6 * k + c) = side ∧ D.2 6 (6 * k + c) ≤ st then D.2 8 (6 * k + c) else rdC D k side st c := rfl
theorem rdA_rd {S : Sst} {O : Smo} {n ne slots v tp bs : Nat} (h5 : IVer S O n ne slots v tp bs) (h6 : slots ≤ 6) {k u : Nat} (hk : k < nA (O 282) v) (hu : u ≤ v) (side : Int) : f_X12_readAt k side u O = some (rdD (vwD (O 282) v) k side u) ∧ f_X7_childOf 74 k side u S = some (rdD (vwD (O 282) v) k side u) := by
  have h4 := h5.2.2.2.1
  obtain ⟨_, _, u3, u4, u5⟩ := q_us h5 h6 hk
  have hA := h5.2.2.2.2.1.1
  obtain ⟨b0, b1⟩ := (hA.2.2.1 k u5).2.2.1
  constructor
  · rw [rf_read u4 b0 (by omega)]
    unfold rdD
    rw [vwD_u hk]
    -- slots up to u, of those up to v
    have hle : usA (O 282) k u ≤ usA (O 282) k v := by
      by_cases q : usA (O 282) k u ≤ usA (O 282) k v
      · exact q
      · exfalso
        have hl : usA (O 282) k v < usA (O 282) k u := by omega
        have hl2 := us_lt hl
        have a1 := (us_pre hA u5 (u : Int) hl2).mpr hl
        have a2 := (us_pre hA u5 (v : Int) hl2).mp (by omega)
        omega
    have hcs : ∀ c, c < usA (O 282) k v → (vwD (O 282) v).2 6 (6 * k + c) = O 282 (1805 + (6 * k + c)) ∧ (vwD (O 282) v).2 7 (6 * k + c) = O 282 (3725 + (6 * k + c)) ∧ (vwD (O 282) v).2 8 (6 * k + c) = O 282 (5645 + (6 * k + c)) := fun c hc => ⟨vwD_s (j := 0) (by decide) hk hc u3, vwD_s (j := 1) (by decide) hk hc u3, vwD_s (j := 2) (by decide) hk hc u3⟩
    have step : ∀ d, usA (O 282) k u + d ≤ usA (O 282) k v → rdC (vwD (O 282) v) k side u (usA (O 282) k u + d) = rdC (vwD (O 282) v) k side u (usA (O 282) k u) := by
      intro d
      induction d with
      | zero => intro _; rfl
      | succ d ih =>
        intro hd
        rw [← ih (by omega)]
        rw [← Nat.add_assoc, rdC_s, if_neg]
        rintro ⟨_, q⟩
        rw [(hcs _ (by omega)).1] at q
        have := (us_pre hA u5 (u : Int) (us_lt (show usA (O 282) k u + d < usA (O 282) k v by omega))).mp q
        omega
    have := step (usA (O 282) k v - usA (O 282) k u) (by omega)
    rw [show usA (O 282) k u + (usA (O 282) k v - usA (O 282) k u) = usA (O 282) k v by omega] at this
    rw [this]
    congr 1
    refine rdA_rdC (by rw [vwD_f (j := 2) (by decide) hk]) (by rw [vwD_f (j := 3) (by decide) hk]) _ (fun i hi => ?_)
    obtain ⟨c1, c2, c3⟩ := hcs i (by omega)
    exact ⟨c2.symm, c3.symm, by rw [c1]; exact (us_pre hA u5 (u : Int) (us_lt hi)).mpr hi⟩
  · exact cl_childOf (q_rep h5) (by rw [vwD_n]; exact hk) (by rw [vwD_n]; exact (q_many h5).2.2) (by rw [vwD_4 hk]; omega) (by rw [vwD_u hk]; exact u3) side u
theorem op_read {S : Sst} {O : Smo} (h : Inv S O) (z a w : Int) : Op0 (f_X11_read z a w S) (f_X12_read z a w O) := by
  obtain ⟨n, ne, slots, lo, v, tp, bs, h1, h2, h3, h4, h5, h6, h7, h8⟩ := h
  have hsl := h4.2.2.1.2
  unfold f_X12_read f_X11_read
  dsimp only [jn, jk]
  rw [(q_isNode h5 z).1, (q_isNode h5 z).2, (q_stamp h5 w).1, (q_stamp h5 w).2]
  dsimp only [Option.bind_some]
  by_cases hz : 0 ≤ z ∧ z < nA (O 282) v
  · by_cases hw : 0 ≤ w ∧ w ≤ v
    · obtain ⟨k, rfl⟩ : ∃ s : Nat, z = (s : Int) := ⟨z.toNat, by omega⟩
      obtain ⟨u, rfl⟩ : ∃ s : Nat, w = (s : Int) := ⟨w.toNat, by omega⟩
      have hk : k < nA (O 282) v := by omega
      have hk320 := (q_us h5 hsl hk).2.2.2.1
      rw [if_pos hz, if_pos hw, show f_X6_at 89 (k : Int) S = O 282 (205 + 320 * 1 + k) from q_field h5 (j := 1) (by decide) hk, rf_at (i := 525 + k) (by rw [wr_id (by omega) (by omega)]; omega) (by omega)]
      dsimp only [Option.bind_some]
      unfold f_X12_isIn
      by_cases hm : (u : Int) < O 282 (525 + k)
      · rw [if_pos (show ((1 : Int) = 0 ∨ (1 : Int) = 0) ∨ (u : Int) < O 282 (525 + k) from Or.inr hm)]
        refine ⟨-2, rfl, ?_⟩
        rw [if_pos hm]
        split <;> rfl
      · rw [if_neg (c := ((1 : Int) = 0 ∨ (1 : Int) = 0) ∨ _) (by rintro ((q | q) | q); omega; omega; exact hm q)]
        by_cases ha : a = 0 ∨ a = 1
        · rw [if_pos ha, if_neg (c := ((1 : Int) = 0 ∨ _) ∨ _) (by rw [if_neg (by omega)]; omega), if_neg hm, (rdA_rd h5 hsl hk (by omega) a).1, (rdA_rd h5 hsl hk (by omega) a).2]
          exact ⟨_, rfl, rfl⟩
        · rw [if_neg ha, if_pos (c := ((1 : Int) = 0 ∨ _) ∨ _) (Or.inl (Or.inr (by rw [if_pos (by omega)])))]
          exact ⟨_, rfl, rfl⟩
    · rw [if_neg hw, if_pos (Or.inr rfl), if_pos (Or.inl (Or.inr rfl))]
      exact ⟨_, rfl, rfl⟩
  · rw [if_neg hz, if_pos (Or.inl (Or.inl rfl)), if_pos (Or.inl (Or.inl rfl))]
    exact ⟨_, rfl, rfl⟩
