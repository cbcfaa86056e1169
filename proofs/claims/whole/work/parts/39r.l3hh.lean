/-! LEVEL 3, hh: depth, gap -/
theorem bm32 {z : Int} (h1 : -2147483648 ≤ z) (h2 : z < 2147483648) : z.bmod (2 ^ 32) = z := by
  have : z.bmod 4294967296 = z := by
    rw [Int.bmod_def]
    split <;> omega
  exact this
theorem zdiv_n {a b : Nat} (ha : a < 2147483648) (hb : b < 2147483648) : zdiv (a : Int) (b : Int) = ((a / b : Nat) : Int) := by
  have hle := Nat.div_le_self a b
  unfold zdiv
  rw [Int32.toInt_div, zi_t ⟨by omega, by omega⟩, zi_t ⟨by omega, by omega⟩]
  have e : (a : Int).tdiv (b : Int) = ((a / b : Nat) : Int) := by
    rw [Int.tdiv_eq_ediv_of_nonneg (by omega)]
    rfl
  rw [e]
  clear e
  generalize a / b = q at hle ⊢
  exact bm32 (by omega) (by omega)
theorem zrem_n {a b : Nat} (ha : a < 2147483648) (hb : b < 2147483648) : zrem (a : Int) (b : Int) = ((a % b : Nat) : Int) := by
  have hle := Nat.div_mul_le_self a b
  have hd := zdiv_n ha hb
  have hq : (zi (a : Int) / zi (b : Int)).toInt = ((a / b : Nat) : Int) := hd
  have hm := Nat.mod_add_div a b
  rw [Nat.mul_comm] at hm
  unfold zrem
  rw [Int32.toInt_sub, Int32.toInt_mul, hq, zi_t ⟨by omega, by omega⟩, zi_t ⟨by omega, by omega⟩]
  have e : ((a / b : Nat) : Int) * (b : Int) = ((a / b * b : Nat) : Int) := by rw [Int.natCast_mul]
  rw [e]
  clear e hq hd
  generalize a / b * b = q at hle hm ⊢
  generalize a % b = r at hm ⊢
  have e1 : (q : Int).bmod (2 ^ 32) = (q : Int) := bm32 (by omega) (by omega)
  have e2 : ((a : Int) - (q : Int)).bmod (2 ^ 32) = (a : Int) - (q : Int) := bm32 (by omega) (by omega)
  rw [e1, e2]
  omega
theorem cl_gcd {a b : Nat} (ha : a < 100000) (hb : b ≤ 60) : f_X11_commonPart (a : Int) (b : Int) = some (Nat.gcd a b : Int) := by
  unfold f_X11_commonPart
  refine Ret_eq (Ret_bind (P := fun r => r = (Nat.gcd a b : Int)) (Ret_lpm (fun q => ∃ x y c : Nat, q = ((x : Int), (y : Int), (c : Int)) ∧ x < 100000 ∧ y + c ≤ 60 ∧ Nat.gcd x y = Nat.gcd a b) (fun q => q.2.1.toNat) ⟨a, b, 0, rfl, ha, by omega, rfl⟩ (by dsimp only; omega) (fun q hq => ?_)) (fun r hr => Ret_some hr))
  obtain ⟨x, y, c, rfl, h1, h2, h3⟩ := hq
  dsimp only
  by_cases hy : y = 0
  · rw [if_neg (by omega)]
    refine Ret_some (Or.inr ⟨_, rfl, ?_⟩)
    rw [← h3, hy, Nat.gcd_zero_right]
  · have hm := Nat.mod_lt x (show 0 < y by omega)
    rw [if_pos (by omega), if_neg (by omega)]
    dsimp only [Option.bind_some]
    rw [zrem_n (by omega) (by omega), wr_id (by omega) (by omega)]
    refine Ret_some (Or.inl ⟨_, rfl, ⟨y, x % y, c + 1, by simp, by omega, by omega, ?_⟩, by dsimp only; omega⟩)
    rw [← h3, Nat.gcd_comm y, ← Nat.gcd_rec, Nat.gcd_comm]
theorem rf_gcd {a b : Nat} (ha : a < 100000) (hb : b < 100000) : f_X12_divisor (a : Int) (b : Int) = some (Nat.gcd a b : Int) := by
  unfold f_X12_divisor
  dsimp only [jn]
  rw [if_neg (by omega), if_neg (by omega)]
  refine Ret_eq (Ret_bind (P := fun r => r = (Nat.gcd a b : Int)) (Ret_lpm (fun q => ∃ x y : Nat, q = ((x : Int), (y : Int)) ∧ x < 100000 ∧ y < 100000 ∧ Nat.gcd x y = Nat.gcd a b) (fun q => q.2.toNat) ⟨a, b, rfl, ha, hb, rfl⟩ (by dsimp only; omega) (fun q hq => ?_)) (fun r hr => Ret_some hr))
  obtain ⟨x, y, rfl, h1, h2, h3⟩ := hq
  dsimp only
  by_cases hy : y = 0
  · rw [if_neg (by omega)]
    refine Ret_some (Or.inr ⟨_, rfl, ?_⟩)
    rw [← h3, hy, Nat.gcd_zero_right]
  · have hm := Nat.mod_lt x (show 0 < y by omega)
    rw [if_pos (by omega), if_neg (by omega)]
    dsimp only [Option.bind_some]
    rw [zrem_n (by omega) (by omega)]
    refine Ret_some (Or.inl ⟨_, rfl, ⟨y, x % y, rfl, by omega, by omega, ?_⟩, by dsimp only; omega⟩)
    rw [← h3, Nat.gcd_comm y, ← Nat.gcd_rec, Nat.gcd_comm]
section DG
variable {S S' : Sst} {O O' : Smo} {n ne slots v tp bs : Nat} {lo : Nat → Nat}
theorem zrem2 : ∀ z : Int, 0 ≤ z → z ≤ 3 → zrem z 2 = if z = 0 ∨ z = 2 then 0 else 1 := fun z h0 h1 => by
  rcases (show z = 0 ∨ z = 1 ∨ z = 2 ∨ z = 3 by omega) with rfl | rfl | rfl | rfl <;> decide +kernel
theorem op_gap {S : Sst} {O : Smo} (h : Inv S O) (x up a : Int) : Op1 S O (f_X11_gap x up a S) (f_X12_gap x up a O) := by
  have hI := h
  obtain ⟨n, ne, slots, lo, v, tp, bs, h1, h2, h3, h4, h5, h6, h7, h8⟩ := h
  have hC : Core S O n ne slots lo v tp bs := ⟨h4, h5⟩
  have hn8 := h4.2.1.1
  unfold f_X11_gap f_X12_gap f_X12_isIn
  dsimp only [jn, jk]
  by_cases ha : a < 0 ∨ 3 < a
  · rw [if_pos ha, if_pos ha]
    obtain ⟨b, hb⟩ : ∃ b, f_X12_isPoint x up O = some b := by
      rcases q_find hC x up with ⟨S', e1, rfl, e2⟩ | ⟨S', u, e1, e2, _⟩
      · exact ⟨_, e2⟩
      · exact ⟨_, e2⟩
    rw [hb]
    dsimp only [Option.bind_some]
    rw [if_pos (Or.inr rfl)]
    exact ⟨-1, _, rfl, rfl, hI⟩
  · rw [if_neg ha, if_neg ha]
    rcases q_find hC x up with ⟨S', e1, rfl, e2⟩ | ⟨S', u, e1, e2, f, hu, hs, hT, hf, ho, hx, hup, hk⟩
    · rw [e1, e2]
      dsimp only [Option.bind_some]
      rw [if_pos rfl, if_pos (Or.inl rfl)]
      exact ⟨-1, _, rfl, rfl, hI⟩
    · have hIf := Inv_fr hI f (FrR_refl O)
      rw [e1, e2]
      dsimp only [Option.bind_some]
      rw [if_neg (show ¬ (1 : Int) = 0 by decide), if_neg (show ¬ ((1 : Int) = 0 ∨ (1 : Int) = 0) by omega), (q_region hC hu hs ho hx hup).1, (q_region hC hu hs ho hx hup).2, (cl_found hT hf (c_row hC hu).2.1).1, (cl_found hT hf (c_row hC hu).2.1).2]
      dsimp only [Option.bind_some]
      have hsel : ∃ q : Int, (if a < 2 then blV O u x up else abV O u x up) = q ∧ (if a < 2 then some (blV O u x up) else some (abV O u x up)) = some q ∧ (q = -1 ∨ ∃ y : Nat, q = (y : Int) ∧ y < n) := by
        have hb := bl_V (up := up) hC hu ho
        by_cases c : a < 2
        · exact ⟨blV O u x up, by rw [if_pos c], by rw [if_pos c], bl_int hb.1⟩
        · exact ⟨abV O u x up, by rw [if_neg c], by rw [if_neg c], ab_int hb.2⟩
      obtain ⟨q, g1, g2, g3⟩ := hsel
      rw [g1, g2]
      dsimp only [Option.bind_some]
      rcases g3 with rfl | ⟨y, rfl, hy⟩
      · rw [if_pos rfl, if_pos (by decide)]
        exact ⟨-1, _, rfl, rfl, hIf⟩
      · have w := gW_pos (h4.2.1.2.1 y hy)
        have gb := gA_bd (h4.2.1.2.1 y hy) hx hup
        rw [if_neg (c := ((y : Nat) : Int) = -1) (by omega), if_neg (c := ((y : Nat) : Int) < 0) (by omega), cl_ahead hC hk hy hx hup, rf_far' h4.2.1 hy hx hup]
        dsimp only [Option.bind_some]
        have habs : f_J9_abs_0f7a4 (gA (sgO O) y x up) = ((gA (sgO O) y x up).natAbs : Int) := by
          unfold f_J9_abs_0f7a4
          split
          · rw [wr_id (by omega) (by omega)]; omega
          · omega
        have habs2 : (if gA (sgO O) y x up < 0 then wr (-(gA (sgO O) y x up)) else gA (sgO O) y x up) = ((gA (sgO O) y x up).natAbs : Int) := by
          split
          · rw [wr_id (by omega) (by omega)]; omega
          · omega
        have hwd : f_X6_at 38 (y : Int) S' = ((gW (sgO O) y).toNat : Int) := by
          rw [at_nat (n := n) (f := gW (sgO O)) (by rw [hk _ (by decide)]; exact h4.1.1.2.2.2.2.1) hy]
          omega
        have hwr : wr (O 278 y - O 276 y) = ((gW (sgO O) y).toNat : Int) := by
          have e : O 278 y - O 276 y = gW (sgO O) y := rfl
          rw [e, wr_id (by omega) (by omega)]
          omega
        rw [habs, habs2, hwd, Ln278, aget_nat (show y < 8 by omega)]
        dsimp only [Option.bind_some]
        rw [Ln276, aget_nat (show y < 8 by omega)]
        dsimp only [Option.bind_some]
        rw [hwr, cl_gcd (by omega) (by omega), rf_gcd (by omega) (by omega)]
        dsimp only [Option.bind_some]
        rw [Nat.gcd_comm (gW (sgO O) y).toNat]
        have hgp : 0 < Nat.gcd (gA (sgO O) y x up).natAbs (gW (sgO O) y).toNat := Nat.gcd_pos_of_pos_right _ (by omega)
        have hgl : Nat.gcd (gA (sgO O) y x up).natAbs (gW (sgO O) y).toNat ≤ 60 := by
          have := Nat.le_of_dvd (by omega) (Nat.gcd_dvd_right (gA (sgO O) y x up).natAbs (gW (sgO O) y).toNat)
          omega
        generalize Nat.gcd (gA (sgO O) y x up).natAbs (gW (sgO O) y).toNat = d at *
        rw [if_neg (c := (d : Int) = 0) (by omega), if_neg (c := (d : Int) = 0) (by omega), if_neg (c := (d : Int) = 0) (by omega), if_neg (c := (d : Int) = 0) (by omega), zrem2 a (by omega) (by omega)]
        dsimp only [Option.bind_some]
        by_cases c : a = 0 ∨ a = 2
        · rw [if_pos c, if_pos c, if_pos rfl]
          exact ⟨_, _, rfl, rfl, hIf⟩
        · rw [if_neg c, if_neg c, if_neg (by decide)]
          exact ⟨_, _, rfl, rfl, hIf⟩
theorem op_depth {S : Sst} {O : Smo} (h : Inv S O) (x up : Int) : Op2 (f_X11_depth x up S) (f_X12_depth x up O) := by
  have hI := h
  obtain ⟨n, ne, slots, lo, v, tp, bs, h1, h2, h3, h4, h5, h6, h7, h8⟩ := h
  have hC : Core S O n ne slots lo v tp bs := ⟨h4, h5⟩
  have hn8 := h4.2.1.1
  unfold f_X11_depth f_X12_depth f_X6_clear
  dsimp only [jn]
  have hC0 : Core (upR S 3 []) (up2 O 262 62 0) n ne slots lo v tp bs := Core_lie hC
  have hL0 : ILie (upR S 3 []) (up2 O 262 62 0) := ⟨0, by rw [upR_at]; rfl, by decide, up2_same _ _ _ _⟩
  have f1 : ∀ k, k ≠ 3 → (upR S 3 []).1 k = S.1 k := FrQ_3
  have f2 : (upR S 3 []).2 = S.2 := rfl
  have f3 : ∀ k, k ≠ 262 → up2 O 262 62 0 k = O k := fun k hk => up2_row hk
  have f4 : ∀ j, j ≠ 62 → up2 O 262 62 0 262 j = O 262 j := fun j hj => up2_ne (Or.inr hj)
  have f5 : (upR S 3 []).1 3 = [] := upR_at _ _ _
  have f6 : up2 O 262 62 0 262 62 = 0 := up2_same _ _ _ _
  generalize upR S 3 [] = S0 at *
  generalize up2 O 262 62 0 = O0 at *
  rcases q_find hC0 x up with ⟨S', e1, rfl, e2⟩ | ⟨S1, u, e1, e2, f, hu, hs, hT, hf, ho, hx, hup, hk⟩
  · rw [e1, e2]
    exact ⟨-2, _, _, rfl, rfl, Inv_lie hI (fun k a b c d e => f1 k a) (fun k j a b => by rw [f2]) (fun k a b c d e => f3 k a) (fun j a b c d => f4 j d) hL0⟩
  · rw [e1, e2]
    dsimp only [Option.bind_some]
    rw [if_neg (show ¬ (1 : Int) = 0 by decide), if_neg (show ¬ (1 : Int) = 0 by decide), hs]
    dsimp only [Option.bind_some]
    obtain ⟨O1, e3, g2, t2⟩ := q_tree hC0 hu
    obtain ⟨c1, c2, c3, c4, c5⟩ := c_row hC0 hu
    rw [e3]
    dsimp only [Option.bind_some]
    rw [t2.2.2.2.1, hT.2.2.2.2.2.1]
    have hr8 : ∀ y ∈ rowV O0 u, y < 8 := fun y hy => by have := c4 y hy; omega
    have key : ∃ r q, lp (fun (s3149 : Int × Int × Sst) =>
      if (s3149.2.1 < 8 ∧ ¬ s3149.1 = (-1)) then
        (jn (f_X6_add 3 s3149.1 s3149.2.2) fun (q3159 : Sst) =>
        jn (
          if 0 < f_X4_aheadOf 29 s3149.1 x up q3159 then
            (1)
          else
            (0)) fun (q3162 : Int) =>
        jn (
          if q3162 = 0 then
            (f_X6_at 64 s3149.1 q3159)
          else
            (f_X6_at 62 s3149.1 q3159)) fun (q3167 : Int) =>
        some (Sum.inl (q3167, wr (s3149.2.1 + 1), q3159)))
      else
        (some (Sum.inr s3149.2.2))) FU (tRoot (O0 280) (rowV O0 u), 0, S1) = some r ∧ lp (fun (s8673 : Int × Smo) =>
      if s8673.1 < 0 then
        (some (Sum.inr s8673.2))
      else
        (Option.bind (asetO s8673.2 292 (Ln 292) (s8673.2 262 62) s8673.1) fun (O8681 : Smo) =>
        jn (up2 O8681 262 62 (wr ((O8681 262 62) + 1))) fun (O8683 : Smo) =>
        Option.bind (f_X12_farther s8673.1 x up O8683) fun (q8685 : Int) =>
        Option.bind (
          if 0 < q8685 then
            (Option.bind (aget (O8683 284) (Ln 284) s8673.1) fun (v8692 : Int) =>
            some v8692)
          else
            (Option.bind (aget (O8683 285) (Ln 285) s8673.1) fun (v8694 : Int) =>
            some v8694)) fun (q8687 : Int) =>
        some (Sum.inl (q8687, O8683)))) FU (tRoot (O0 280) (rowV O0 u), O1) = some q ∧ (fun (S' : Sst) (O' : Smo) => ∃ c : Nat, c ≤ 8 ∧ S'.1 3 = rg c (O' 292) ∧ O' 262 62 = (c : Int) ∧ (∀ k, k ≠ 3 → S'.1 k = S1.1 k) ∧ S'.2 = S1.2 ∧ (∀ k, k ≠ 262 → k ≠ 292 → O' k = O1 k) ∧ ∀ j, j ≠ 62 → O' 262 j = O1 262 j) r q := by
      refine lp_2 (fun (s : Int × Int × Sst) (t : Int × Smo) => ∃ (c : Nat) (rt : List Nat), s.1 = t.1 ∧ s.2.1 = (c : Int) ∧ TT (tL (O0 280) (rowV O0 u)) (tR (O0 280) (rowV O0 u)) s.1 rt ∧ c + rt.length ≤ 8 ∧ (∀ y ∈ rt, y ∈ rowV O0 u) ∧ s.2.2.1 3 = rg c (t.2 292) ∧ t.2 262 62 = (c : Int) ∧ (∀ k, k ≠ 3 → s.2.2.1 k = S1.1 k) ∧ s.2.2.2 = S1.2 ∧ (∀ k, k ≠ 262 → k ≠ 292 → t.2 k = O1 k) ∧ ∀ j, j ≠ 62 → t.2 262 j = O1 262 j) (fun s => 9 - s.2.1.toNat) _ (fun s t hI => ?_) FU _ _ ⟨0, rowV O0 u, rfl, rfl, c5, by omega, fun y hy => hy, by show S1.1 3 = rg 0 (O1 292); rw [hk _ (by decide), f5]; rfl, by show O1 262 62 = _; rw [g2.2 _ (by decide) (by decide) (by decide), f6]; rfl, fun _ _ => rfl, rfl, fun _ _ _ => rfl, fun _ _ => rfl⟩ (by unfold FU; dsimp only; omega)
      obtain ⟨sg, st, S2⟩ := s
      obtain ⟨sg', O2⟩ := t
      obtain ⟨c, rt, e, rfl, hTT, hle, hmem, i1, i2, i3, i4, i5, i6⟩ := hI
      dsimp only [jn] at *
      subst e
      rcases TT_inv hTT with ⟨rfl, rfl⟩ | ⟨s, a, b, rfl, rfl, tl, tr⟩
      · right
        rw [if_neg (by omega), if_pos (by decide)]
        exact ⟨_, _, rfl, rfl, c, by omega, i1, i2, i3, i4, i5, i6⟩
      · left
        have hll : (a ++ s :: b).length = a.length + b.length + 1 := by simp; omega
        have hsr := hmem s (by simp)
        have hs8 := hr8 s hsr
        have hsn := c4 s hsr
        rw [if_pos (by omega), if_neg (c := ((s : Nat) : Int) < 0) (by omega), i2, Ln292, aset_nat (show c < 8 by omega)]
        dsimp only [Option.bind_some]
        have hadd : f_X6_add 3 (s : Int) S2 = upR S2 3 (rg (c + 1) (updI (O2 292) c (s : Int))) := add_rg i1 (by rw [Ln4]; omega)
        have x62 : wr (up2 O2 292 c (s : Int) 262 62 + 1) = ((c + 1 : Nat) : Int) := by rw [up2_ne (Or.inl (by decide)), i2, wr_id (by omega) (by omega)]; omega
        rw [hadd, x62]
        have j1 : (upR S2 3 (rg (c + 1) (updI (O2 292) c (s : Int)))).1 3 = rg (c + 1) (updI (O2 292) c (s : Int)) := upR_at _ _ _
        have j2 : ∀ k, k ≠ 3 → (upR S2 3 (rg (c + 1) (updI (O2 292) c (s : Int)))).1 k = S1.1 k := fun k hk => by rw [upR_ne _ _ hk, i3 k hk]
        have j3 : (upR S2 3 (rg (c + 1) (updI (O2 292) c (s : Int)))).2 = S1.2 := i4
        generalize upR S2 3 (rg (c + 1) (updI (O2 292) c (s : Int))) = S3 at *
        have k1 : up2 (up2 O2 292 c (s : Int)) 262 62 ((c + 1 : Nat) : Int) 292 = updI (O2 292) c (s : Int) := by rw [up2_row (by decide), upd_up2]
        have k2 : up2 (up2 O2 292 c (s : Int)) 262 62 ((c + 1 : Nat) : Int) 262 62 = ((c + 1 : Nat) : Int) := up2_same _ _ _ _
        have k3 : ∀ k, k ≠ 262 → k ≠ 292 → up2 (up2 O2 292 c (s : Int)) 262 62 ((c + 1 : Nat) : Int) k = O1 k := fun k h1 h2 => by rw [up2_row h1, up2_row h2, i5 k h1 h2]
        have k4 : ∀ j, j ≠ 62 → up2 (up2 O2 292 c (s : Int)) 262 62 ((c + 1 : Nat) : Int) 262 j = O1 262 j := fun j hj => by rw [up2_ne (Or.inr hj), up2_ne (Or.inl (by decide)), i6 j hj]
        generalize up2 (up2 O2 292 c (s : Int)) 262 62 ((c + 1 : Nat) : Int) = O3 at *
        have hsg : sgO O3 = sgO O0 := by
          rw [sgO_fr (O := O1) (fun k a b => k3 k (by omega) (by omega)), sgO_fr (FrR_o g2)]
        have hfar : f_X12_farther (s : Int) x up O3 = some (gA (sgO O0) s x up) := by
          rw [rf_far' (n := n) (by rw [hsg]; exact hC0.1.2.1) hsn hx hup, hsg]
        have hah : f_X4_aheadOf 29 (s : Int) x up S3 = gA (sgO O0) s x up := by
          have hp := hC0.1.1.1
          refine pl_ahead (g := sgO O0) (n := n) ⟨?_, ?_, ?_, ?_, ?_, ?_⟩ hsn (hC0.1.2.1.2.1 s hsn) hx hup
          · rw [j2 _ (by decide), hk _ (by decide)]; exact hp.1
          · rw [j2 _ (by decide), hk _ (by decide)]; exact hp.2.1
          · rw [j2 _ (by decide), hk _ (by decide)]; exact hp.2.2.1
          · rw [j2 _ (by decide), hk _ (by decide)]; exact hp.2.2.2.1
          · rw [j2 _ (by decide), hk _ (by decide)]; exact hp.2.2.2.2.1
          · rw [j2 _ (by decide), hk _ (by decide)]; exact hp.2.2.2.2.2
        rw [hfar, hah]
        dsimp only [Option.bind_some]
        rw [Ln284, Ln285, aget_nat hs8, aget_nat hs8, k3 284 (by decide) (by decide), k3 285 (by decide) (by decide), (t2.2.2.1 s hsr).1, (t2.2.2.1 s hsr).2, at_nat (f := tR (O0 280) (rowV O0 u)) (n := 8) (by rw [j2 _ (by decide)]; exact hT.2.2.1) hs8, at_nat (f := tL (O0 280) (rowV O0 u)) (n := 8) (by rw [j2 _ (by decide)]; exact hT.2.1) hs8, wr_id (by omega) (by omega)]
        dsimp only [Option.bind_some]
        by_cases q : 0 < gA (sgO O0) s x up
        · rw [if_pos q, if_pos q, if_neg (show ¬ (1 : Int) = 0 by decide)]
          exact ⟨_, _, rfl, rfl, ⟨c + 1, a, rfl, by simp, tl, by omega, fun y hy => hmem y (by simp [hy]), by dsimp only; rw [j1, k1], k2, j2, j3, k3, k4⟩, by dsimp only; omega⟩
        · rw [if_neg q, if_neg q, if_pos rfl]
          exact ⟨_, _, rfl, rfl, ⟨c + 1, b, rfl, by simp, tr, by omega, fun y hy => hmem y (by simp [hy]), by dsimp only; rw [j1, k1], k2, j2, j3, k3, k4⟩, by dsimp only; omega⟩
    obtain ⟨S2, O2, e4, e5, c, hc8, i1, i2, i3, i4, i5, i6⟩ := key
    dsimp only [jn] at e4 e5
    rw [e4, e5]
    dsimp only [Option.bind_some]
    rw [size_rg i1, i2]
    refine ⟨_, _, _, rfl, rfl, Inv_lie hI (fun k a b c d e => ?_) (fun k j a b => ?_) (fun k a b c d e => ?_) (fun j a b c d => ?_) ⟨c, i1, hc8, i2⟩⟩
    · rw [i3 k a, f.1 k b c d e, f1 k a]
    · rw [i4, f.2 k j a b, f2]
    · rw [i5 k a (by omega), g2.1 k a b (by omega) d e, f3 k a]
    · rw [i6 j d, g2.2 j a b c, f4 j d]
end DG
