/-! LEVEL 3, ee: calls that show a tree -/
def Core (S : Sst) (O : Smo) (n ne slots : Nat) (lo : Nat → Nat) (v tp bs : Nat) : Prop := IPlan S O n ne slots lo ∧ IVer S O n ne slots v tp bs
section SHOW
variable {S S' : Sst} {O O' : Smo} {n ne slots v tp bs : Nat} {lo : Nat → Nat}
theorem FrR_o (h : FrR O O') : ∀ k, 276 ≤ k → k ≤ 281 → O' k = O k := fun k a b => h.1 k (by omega) (by omega) (by omega) (by omega) (by omega)
theorem FrR_282 (h : FrR O O') : O' 282 = O 282 := h.1 282 (by decide) (by decide) (by decide) (by decide) (by decide)
theorem Core_fr (h : Core S O n ne slots lo v tp bs) (hQ : FrQ S S') (hR : FrR O O') : Core S' O' n ne slots lo v tp bs := by
  have i : ∀ j, j ≠ 58 → j ≠ 59 → j ≠ 67 → O' 262 j = O 262 j := hR.2
  exact ⟨IPlan_fr h.1 (fun k a b => hQ.1 k (by omega) (by omega) (by omega) (by omega)) ⟨hQ.2 _ _ (by decide) (by decide), hQ.2 _ _ (by decide) (by decide)⟩ (FrR_o hR) ⟨i _ (by decide) (by decide) (by decide), i _ (by decide) (by decide) (by decide), i _ (by decide) (by decide) (by decide), i _ (by decide) (by decide) (by decide)⟩,
    IVer_fr h.2 (fun k a b => hQ.1 k (by omega) (by omega) (by omega) (by omega)) (FrR_o hR) (FrR_282 hR) ⟨i _ (by decide) (by decide) (by decide), i _ (by decide) (by decide) (by decide), i _ (by decide) (by decide) (by decide)⟩⟩
def rowV (O : Smo) (u : Nat) : List Nat := rowF (sgO O) (mA (O 282) u) (O 282 u)
theorem rowV_fr (hR : FrR O O') (u : Nat) : rowV O' u = rowV O u := by
  unfold rowV
  rw [sgO_fr (FrR_o hR), FrR_282 hR]
theorem w_fr (hR : FrR O O') : O' 280 = O 280 := FrR_o hR 280 (by decide) (by decide)
theorem c_ver (h : Core S O n ne slots lo v tp bs) {u : Nat} (hu : u ≤ v) : verA (sgO O) n (O 282) u ∧ evA (sgO O) ne (O 281) (O 282) u := h.2.2.2.2.2.1.2.2.1 u (by have := h.2.2.2.2.1; omega)
theorem c_row (h : Core S O n ne slots lo v tp bs) {u : Nat} (hu : u ≤ v) : (rowV O u).Nodup ∧ (rowV O u).length ≤ 8 ∧ (∀ y, y ∈ rowV O u ↔ (mA (O 282) u).testBit y = true) ∧ (∀ y ∈ rowV O u, y < n) ∧ TT (tL (O 280) (rowV O u)) (tR (O 280) (rowV O u)) (tRoot (O 280) (rowV O u)) (rowV O u) := by
  have hv := (c_ver h hu).1
  have hnd := rowF_nodup h.1.2.1 hv.1
  refine ⟨hnd, ?_, fun y => rowF_mem h.1.2.1 hv.1, fun y hy => (hv.1.2 y ((rowF_mem h.1.2.1 hv.1).mp hy)).1, joinJ_TT _ _ hnd⟩
  unfold rowV
  rw [rowF_len h.1.2.1 hv.1]
  exact pc_le _
theorem q_show (h : Core S O n ne slots lo v tp bs) {u : Nat} (hu : u ≤ v) : Ret (f_X8_show u S) (fun S' => FrQ S S' ∧ clTree S' (O 280) (rowV O u)) := by
  have hv := (c_ver h hu).1
  unfold f_X8_show
  rw [(q_set h.2 hu).1]
  refine Ret_bind (cl_build h.1.1.2.1 h.1.1.2.2.1 h.1.1.2.2.2.2.2 h.1.2.1 hv.1) (fun S' hS' => Ret_some ⟨⟨fun k a b c d => ?_, fun k j a b => ?_⟩, hS'.2⟩)
  · exact hS'.1.1 k (by simp [kTree]; omega)
  · exact hS'.1.2 k j (by simp [jTree]; omega)
theorem q_tree (h : Core S O n ne slots lo v tp bs) {u : Nat} (hu : u ≤ v) : Ret (f_X12_layTree u O) (fun O' => FrR O O' ∧ rfTree O' (O 280) (rowV O u)) := by
  have hv := (c_ver h hu).1
  have h4 := h.2.2.2.2.1
  obtain ⟨am, _, _⟩ := h.2.2.2.2.2.1.1.1 u (by omega)
  refine Ret_mono (rf_layTree h.1.2.2.2.2.1 h.1.2.1 (by omega) am hv.1 hv.2) (fun O' hO' => ⟨⟨fun k a b c d e => ?_, fun j a b c => ?_⟩, hO'.2⟩)
  · exact hO'.1.1 k (by simp; omega) a
  · exact hO'.1.2 j (by simp; omega)
theorem clT_size (hT : clTree S (O 280) (rowV O v)) : f_X6_size 60 S = ((rowV O v).length : Int) := by
  unfold f_X6_size
  rw [hT.1, natL_len]
end SHOW
theorem FrQ_3 {S : Sst} {l : List Int} : ∀ k, k ≠ 3 → (upR S 3 l).1 k = S.1 k := fun k hk => upR_ne _ _ hk
theorem Core_lie {S : Sst} {O : Smo} {n ne slots v tp bs : Nat} {lo : Nat → Nat} {l : List Int} {z : Int} (h : Core S O n ne slots lo v tp bs) : Core (upR S 3 l) (up2 O 262 62 z) n ne slots lo v tp bs :=
  ⟨IPlan_fr h.1 (fun k a b => upR_ne _ _ (by omega)) ⟨rfl, rfl⟩ (fun k a b => up2_row (by omega)) ⟨up2_ne (Or.inr (by decide)), up2_ne (Or.inr (by decide)), up2_ne (Or.inr (by decide)), up2_ne (Or.inr (by decide))⟩,
    IVer_fr h.2 (fun k a b => upR_ne _ _ (by omega)) (fun k a b => up2_row (by omega)) (up2_row (by decide)) ⟨up2_ne (Or.inr (by decide)), up2_ne (Or.inr (by decide)), up2_ne (Or.inr (by decide))⟩⟩
/-- a list is put to lie there, on both sides -/
theorem lie_copy {O : Smo} {q : Nat} {l : List Nat} (hq : q = 283 ∨ q = 289) (h58 : O 262 58 = (l.length : Int)) (hl : l.length ≤ 8) (hA : ∀ (i k : Nat), l[i]? = some k → O q i = (k : Int)) :
    Ret (lp (fun (s8353 : Int × Smo) =>
      if s8353.1 < s8353.2 262 58 then
        (Option.bind (aget (s8353.2 q) (Ln q) s8353.1) fun (v8361 : Int) =>
        Option.bind (asetO s8353.2 292 (Ln 292) s8353.1 v8361) fun (O8363 : Smo) =>
        some (Sum.inl (wr (s8353.1 + 1), O8363)))
      else
        (some (Sum.inr s8353.2))) FU (0, O)) (fun O' => (∀ k, k ≠ 292 → O' k = O k) ∧ natL l = rg l.length (O' 292)) := by
  have hq8 : Ln q = 8 := by rcases hq with rfl | rfl <;> decide +kernel
  refine Ret_lp (fun c p => p.1 = (c : Int) ∧ (∀ k, k ≠ 292 → p.2 k = O k) ∧ ∀ (i k : Nat), i < c → l[i]? = some k → p.2 292 i = (k : Int)) l.length (by omega) ⟨rfl, fun _ _ => rfl, fun i k h => by omega⟩ (fun c p hc hI => ?_) (fun p hI => ?_)
  · obtain ⟨z, O1⟩ := p
    obtain ⟨rfl, i1, i2⟩ := hI
    dsimp only at *
    obtain ⟨k, hk⟩ : ∃ k, l[c]? = some k := ⟨l[c]'hc, by simp [hc]⟩
    have e58 : O1 262 58 = (l.length : Int) := by rw [i1 _ (by decide)]; exact h58
    rw [if_pos (by rw [e58]; omega), hq8, aget_nat (show c < 8 by omega), i1 q (by omega), hA c k hk]
    dsimp only [Option.bind_some]
    rw [Ln292, aset_nat (show c < 8 by omega)]
    dsimp only [Option.bind_some]
    rw [wr_id (by omega) (by omega)]
    refine Ret_some ⟨_, rfl, by simp, fun r hr => by dsimp only; rw [up2_row hr, i1 r hr], fun i k' hi hk' => ?_⟩
    dsimp only
    by_cases e : i = c
    · rw [e, up2_same]
      rw [e, hk] at hk'
      rw [Option.some.inj hk']
    · rw [up2_ne (Or.inr e)]
      exact i2 i k' (by omega) hk'
  · obtain ⟨z, O1⟩ := p
    obtain ⟨rfl, i1, i2⟩ := hI
    dsimp only at *
    have e58 : O1 262 58 = (l.length : Int) := by rw [i1 _ (by decide)]; exact h58
    rw [if_neg (by rw [e58]; omega)]
    refine Ret_some ⟨_, rfl, i1, ?_⟩
    rw [show natL l = _ from rg_map]
    refine rg_ext (fun i hi => ?_)
    have hk : l[i]? = some (l.getD i 0) := by simp [hi]
    rw [i2 i _ hi hk]
theorem take3 {S : Sst} {q : Nat} {l : List Nat} (hq : q ≠ 3) (h : S.1 q = natL l) (hl : l.length ≤ 8) : f_X6_takeFrom 3 q S = upR S 3 (natL l) := by
  unfold f_X6_takeFrom
  rw [if_neg (fun e => hq e.symm), h, Ln4, List.take_of_length_le (by simpa using hl)]
theorem op_row {S : Sst} {O : Smo} (h : Inv S O) (z : Int) : Op2 (f_X11_row z S) (f_X12_row z O) := by
  have hI := h
  obtain ⟨n, ne, slots, lo, v, tp, bs, h1, h2, h3, h4, h5, h6, h7, h8⟩ := h
  have hC : Core S O n ne slots lo v tp bs := ⟨h4, h5⟩
  unfold f_X11_row f_X12_row f_X6_clear
  dsimp only [jn]
  have hC0 : Core (upR S 3 []) (up2 O 262 62 0) n ne slots lo v tp bs := Core_lie hC
  rw [(q_stamp hC0.2 z).1, (q_stamp hC0.2 z).2]
  have hL0 : ILie (upR S 3 []) (up2 O 262 62 0) := ⟨0, by rw [upR_at]; rfl, by decide, up2_same _ _ _ _⟩
  have f1 : ∀ k, k ≠ 3 → (upR S 3 []).1 k = S.1 k := FrQ_3
  have f2 : (upR S 3 []).2 = S.2 := rfl
  have f3 : ∀ k, k ≠ 262 → up2 O 262 62 0 k = O k := fun k hk => up2_row hk
  have f4 : ∀ j, j ≠ 62 → up2 O 262 62 0 262 j = O 262 j := fun j hj => up2_ne (Or.inr hj)
  generalize upR S 3 [] = S0 at *
  generalize up2 O 262 62 0 = O0 at *
  by_cases hz : 0 ≤ z ∧ z ≤ v
  · obtain ⟨u, rfl⟩ : ∃ s : Nat, z = (s : Int) := ⟨z.toNat, by omega⟩
    have hu : u ≤ v := by omega
    rw [if_pos hz, if_neg (by decide), if_neg (by decide)]
    obtain ⟨S1, e1, q1, t1⟩ := q_show hC0 hu
    obtain ⟨O1, e2, q2, t2⟩ := q_tree hC0 hu
    obtain ⟨c1, c2, c3, c4, c5⟩ := c_row hC0 hu
    rw [e1, e2]
    dsimp only [Option.bind_some]
    rw [take3 (by decide) t1.1 c2]
    have g58 : up2 O1 262 62 (O1 262 58) 262 58 = ((rowV O0 u).length : Int) := by rw [up2_ne (Or.inr (by decide))]; exact t2.1
    obtain ⟨O2, e3, k1, k2⟩ := lie_copy (O := up2 O1 262 62 (O1 262 58)) (q := 283) (l := rowV O0 u) (Or.inl rfl) g58 c2 (fun i k hk => by rw [up2_row (by decide)]; exact t2.2.1 i k hk)
    rw [e3]
    dsimp only [Option.bind_some]
    have e58 : O2 262 58 = ((rowV O0 u).length : Int) := by rw [k1 _ (by decide)]; exact g58
    have hsz : f_X6_size 3 (upR S1 3 (natL (rowV O0 u))) = ((rowV O0 u).length : Int) := by
      unfold f_X6_size
      rw [upR_at, natL_len]
    rw [e58, hsz]
    refine ⟨_, _, _, rfl, rfl, Inv_lie hI (fun k a b c d e => ?_) (fun k j a b => ?_) (fun k a b c d e => ?_) (fun j a b c d => ?_) ⟨(rowV O0 u).length, by rw [upR_at]; exact k2, c2, ?_⟩⟩
    · rw [upR_ne _ _ a, q1.1 k b c d e, f1 k a]
    · show S1.2 k j = S.2 k j
      rw [q1.2 k j a b, f2]
    · rw [k1 k (by omega), up2_row a, q2.1 k a b (by omega) d e, f3 k a]
    · rw [k1 _ (by decide), up2_ne (Or.inr d), q2.2 j a b c, f4 j d]
    · rw [k1 _ (by decide), up2_same]; exact t2.1
  · rw [if_neg hz, if_pos rfl, if_pos rfl]
    exact ⟨_, _, _, rfl, rfl, Inv_lie hI (fun k a b c d e => f1 k a) (fun k j a b => by rw [f2]) (fun k a b c d e => f3 k a) (fun j a b c d => f4 j d) hL0⟩
theorem hb_root {O : Smo} {w : Nat → Int} {r : List Nat} (h : rfTree O w r) (hT : TT (tL w r) (tR w r) (tRoot w r) r) (hr : ∀ y ∈ r, y < 8) : f_X12_highBy (O 262 59) O = some (hgt8 (tL w r) (tR w r) (tRoot w r) : Int) := by
  obtain ⟨_, _, _, t59, _, _, t290, _⟩ := h
  unfold f_X12_highBy
  rw [t59]
  rcases TT_t hT with e | ⟨y, e, hy⟩
  · rw [e, if_pos (by decide), (pre8_nil _ _).2]; rfl
  · rw [e, if_neg (by omega), Ln290, aget_nat (hr y hy), t290 y hy]; rfl
theorem op_shape {S : Sst} {O : Smo} (h : Inv S O) (z : Int) : Op2 (f_X11_shape z S) (f_X12_shape z O) := by
  have hI := h
  obtain ⟨n, ne, slots, lo, v, tp, bs, h1, h2, h3, h4, h5, h6, h7, h8⟩ := h
  have hC : Core S O n ne slots lo v tp bs := ⟨h4, h5⟩
  unfold f_X11_shape f_X12_shape f_X6_clear
  dsimp only [jn]
  have hC0 : Core (upR S 3 []) (up2 O 262 62 0) n ne slots lo v tp bs := Core_lie hC
  rw [(q_stamp hC0.2 z).1, (q_stamp hC0.2 z).2]
  have hL0 : ILie (upR S 3 []) (up2 O 262 62 0) := ⟨0, by rw [upR_at]; rfl, by decide, up2_same _ _ _ _⟩
  have f1 : ∀ k, k ≠ 3 → (upR S 3 []).1 k = S.1 k := FrQ_3
  have f2 : (upR S 3 []).2 = S.2 := rfl
  have f3 : ∀ k, k ≠ 262 → up2 O 262 62 0 k = O k := fun k hk => up2_row hk
  have f4 : ∀ j, j ≠ 62 → up2 O 262 62 0 262 j = O 262 j := fun j hj => up2_ne (Or.inr hj)
  generalize upR S 3 [] = S0 at *
  generalize up2 O 262 62 0 = O0 at *
  by_cases hz : 0 ≤ z ∧ z ≤ v
  · obtain ⟨u, rfl⟩ : ∃ s : Nat, z = (s : Int) := ⟨z.toNat, by omega⟩
    have hu : u ≤ v := by omega
    have hn8 := h4.2.1.1
    rw [if_pos hz, if_neg (by decide), if_neg (by decide)]
    obtain ⟨S1, e1, q1, t1⟩ := q_show hC0 hu
    obtain ⟨O1, e2, q2, t2⟩ := q_tree hC0 hu
    obtain ⟨c1, c2, c3, c4, c5⟩ := c_row hC0 hu
    have hpl := (pre8_perm _ _ _ (Nat.le_refl _) c2 c5).length_eq
    rw [e1, e2]
    dsimp only [Option.bind_some]
    rw [take3 (by decide) t1.2.2.2.1 (by omega)]
    have g58 : up2 O1 262 62 (O1 262 58) 262 58 = ((pre8 (tL (O0 280) (rowV O0 u)) (tR (O0 280) (rowV O0 u)) (tRoot (O0 280) (rowV O0 u))).length : Int) := by rw [up2_ne (Or.inr (by decide)), hpl]; exact t2.1
    obtain ⟨O2, e3, k1, k2⟩ := lie_copy (O := up2 O1 262 62 (O1 262 58)) (q := 289) (Or.inr rfl) g58 (by omega) (fun i k hk => by rw [up2_row (by decide)]; exact t2.2.2.2.2.1 i k hk)
    rw [e3]
    dsimp only [Option.bind_some]
    have hh := hb_root t2 c5 (fun y hy => by have := c4 y hy; omega)
    have hh2 : f_X12_highBy (O2 262 59) O2 = f_X12_highBy (O1 262 59) O1 := by
      unfold f_X12_highBy
      rw [k1 262 (by decide), up2_ne (Or.inr (by decide)), k1 290 (by decide), up2_row (by decide)]
    rw [hh2, hh]
    dsimp only [Option.bind_some]
    refine ⟨_, _, _, rfl, by rw [show (upR S1 3 (natL (pre8 (tL (O0 280) (rowV O0 u)) (tR (O0 280) (rowV O0 u)) (tRoot (O0 280) (rowV O0 u))))).2 59 6 = S1.2 59 6 from rfl, t1.2.2.2.2.2.2], Inv_lie hI (fun k a b c d e => ?_) (fun k j a b => ?_) (fun k a b c d e => ?_) (fun j a b c d => ?_) ⟨_, by rw [upR_at]; exact k2, by omega, ?_⟩⟩
    · rw [upR_ne _ _ a, q1.1 k b c d e, f1 k a]
    · show S1.2 k j = S.2 k j
      rw [q1.2 k j a b, f2]
    · rw [k1 k (by omega), up2_row a, q2.1 k a b (by omega) d e, f3 k a]
    · rw [k1 _ (by decide), up2_ne (Or.inr d), q2.2 j a b c, f4 j d]
    · rw [k1 _ (by decide), up2_same, hpl]; exact t2.1
  · rw [if_neg hz, if_pos rfl, if_pos rfl]
    exact ⟨_, _, _, rfl, rfl, Inv_lie hI (fun k a b c d e => f1 k a) (fun k j a b => by rw [f2]) (fun k a b c d e => f3 k a) (fun j a b c d => f4 j d) hL0⟩
def hgV (O : Smo) (u : Nat) : Nat := hgt8 (tL (O 280) (rowV O u)) (tR (O 280) (rowV O u)) (tRoot (O 280) (rowV O u))
theorem hgV_fr {O O' : Smo} (hR : FrR O O') (u : Nat) : hgV O' u = hgV O u := by
  unfold hgV
  rw [rowV_fr hR, w_fr hR]
theorem q_high {S : Sst} {O : Smo} {n ne slots v tp bs : Nat} {lo : Nat → Nat} (h : Core S O n ne slots lo v tp bs) {u : Nat} (hu : u ≤ v) : Ret (f_X12_highAt u O) (fun q => q.1 = (hgV O u : Int) ∧ FrR O q.2) := by
  obtain ⟨c1, c2, c3, c4, c5⟩ := c_row h hu
  have hn8 := h.1.2.1.1
  unfold f_X12_highAt
  refine Ret_bind (q_tree h hu) (fun O1 hO1 => ?_)
  rw [hb_root hO1.2 c5 (fun y hy => by have := c4 y hy; omega)]
  exact Ret_some ⟨rfl, hO1.1⟩
theorem op_highest {S : Sst} {O : Smo} (h : Inv S O) : Op2 (f_X11_highest S) (f_X12_highest O) := by
  have hI := h
  obtain ⟨n, ne, slots, lo, v, tp, bs, h1, h2, h3, h4, h5, h6, h7, h8⟩ := h
  have hC : Core S O n ne slots lo v tp bs := ⟨h4, h5⟩
  have hh := h5.2.2.2.1
  unfold f_X11_highest f_X12_highest
  have key : ∃ r q, lp (fun (s3689 : Int × Int × Int × Sst) =>
    if f_X7_newest 74 s3689.2.2.2 < s3689.2.2.1 then
      (some (Sum.inr (s3689.1, s3689.2.2.2)))
    else
      (Option.bind (f_X8_show s3689.2.2.1 s3689.2.2.2) fun (q3698 : Sst) =>
      jn (
        if s3689.2.1 < q3698.2 59 6 then
          (jn (q3698.2 59 6) fun (v3707 : Int) =>
          (s3689.2.2.1, v3707))
        else
          ((s3689.1, s3689.2.1))) fun (q3701 : Int × Int) =>
      some (Sum.inl (q3701.1, q3701.2, wr (s3689.2.2.1 + 1), q3698)))) FU (0, 0, 1, S) = some r ∧ lp (fun (s9480 : Int × Int × Smo) =>
    if s9480.2.2 262 47 < s9480.2.1 then
      (some (Sum.inr (s9480.1, s9480.2.2)))
    else
      (Option.bind (f_X12_highAt s9480.2.1 s9480.2.2) fun (q9489 : Int × Smo) =>
      Option.bind (f_X12_highAt s9480.1 q9489.2) fun (q9492 : Int × Smo) =>
      jn (
        if q9492.1 < q9489.1 then
          (s9480.2.1)
        else
          (s9480.1)) fun (q9494 : Int) =>
      some (Sum.inl (q9494, wr (s9480.2.1 + 1), q9492.2)))) FU (0, 1, O) = some q ∧ (fun (r : Int × Sst) (q : Int × Smo) => r.1 = q.1 ∧ FrQ S r.2 ∧ FrR O q.2) r q := by
    refine lp_i2 (fun (c : Nat) (s : Int × Int × Int × Sst) (t : Int × Int × Smo) => ∃ b : Nat, b ≤ c ∧ s.1 = (b : Int) ∧ t.1 = (b : Int) ∧ s.2.1 = (hgV O b : Int) ∧ s.2.2.1 = (c : Int) + 1 ∧ t.2.1 = (c : Int) + 1 ∧ FrQ S s.2.2.2 ∧ FrR O t.2.2) (fun (r : Int × Sst) (q : Int × Smo) => r.1 = q.1 ∧ FrQ S r.2 ∧ FrR O q.2) v (by omega) (s := (0, 0, 1, S)) (t := (0, 1, O)) (fun c s t hc hI => ?_) (fun s t hI => ?_) ⟨0, Nat.le_refl _, rfl, rfl, ?_, rfl, rfl, FrQ_refl _, FrR_refl _⟩
    · obtain ⟨a1, a2, a3, S1⟩ := s
      obtain ⟨b1, b2, O1⟩ := t
      obtain ⟨b, hb, rfl, rfl, rfl, rfl, rfl, q1, q2⟩ := hI
      dsimp only [jn] at *
      have hC1 := Core_fr hC q1 q2
      have ec : (c : Int) + 1 = ((c + 1 : Nat) : Int) := by omega
      rw [ec, q_new hC1.2, if_neg (by omega), if_neg (by rw [hC1.2.1]; omega)]
      obtain ⟨S2, e2, f2, t2⟩ := q_show hC1 (show c + 1 ≤ v by omega)
      obtain ⟨⟨x1, O2⟩, e3, rfl, f3⟩ := q_high hC1 (show c + 1 ≤ v by omega)
      have hC2 := Core_fr hC1 f2 f3
      obtain ⟨⟨x2, O3⟩, e4, rfl, f4⟩ := q_high hC2 (show b ≤ v by omega)
      dsimp only at *
      rw [e2, e3]
      dsimp only [Option.bind_some]
      rw [e4]
      dsimp only [Option.bind_some]
      have hhg : S2.2 59 6 = (hgV O (c + 1) : Int) := by
        rw [t2.2.2.2.2.2.2, rowV_fr q2, w_fr q2]
        rfl
      rw [hhg, hgV_fr (FrR_trans q2 f3), hgV_fr q2, wr_id (by omega) (by omega)]
      by_cases c2 : (hgV O b : Int) < (hgV O (c + 1) : Int)
      · rw [if_pos c2, if_pos c2]
        exact ⟨_, _, rfl, rfl, c + 1, Nat.le_refl _, rfl, rfl, rfl, by dsimp only <;> omega, by dsimp only <;> omega, FrQ_trans q1 f2, FrR_trans q2 (FrR_trans f3 f4)⟩
      · rw [if_neg c2, if_neg c2]
        exact ⟨_, _, rfl, rfl, b, by omega, rfl, rfl, rfl, by dsimp only <;> omega, by dsimp only <;> omega, FrQ_trans q1 f2, FrR_trans q2 (FrR_trans f3 f4)⟩
    · obtain ⟨a1, a2, a3, S1⟩ := s
      obtain ⟨b1, b2, O1⟩ := t
      obtain ⟨b, hb, rfl, rfl, rfl, rfl, rfl, q1, q2⟩ := hI
      dsimp only [jn] at *
      have hC1 := Core_fr hC q1 q2
      rw [q_new hC1.2, if_pos (by omega), if_pos (by rw [hC1.2.1]; omega)]
      exact ⟨_, _, rfl, rfl, rfl, q1, q2⟩
    · obtain ⟨c1, c2, c3, c4, c5⟩ := c_row hC (Nat.zero_le v)
      have hr0 : rowV O 0 = [] := by
        cases e : rowV O 0 with
        | nil => rfl
        | cons y l =>
          exfalso
          have hy := (c3 y).mp (by rw [e]; simp)
          obtain ⟨k, _, hk⟩ := h5.2.2.2.2.1.1.2.2.2 0 (Nat.zero_le _) y hy
          rw [h5.2.2.2.2.1.1.2.1.1] at hk
          omega
      show (0 : Int) = (hgV O 0 : Int)
      unfold hgV
      rw [hr0]
      rfl
  obtain ⟨r, q, e1, e2, e3, e4, e5⟩ := key
  rw [e1, e2]
  exact ⟨_, _, _, rfl, by dsimp only [Option.bind_some]; rw [e3], Inv_fr hI e4 e5⟩
