/-! LEVEL 3, mm: image, back -/
theorem boxOf_n {b : Nat} (hb : b < 3) : f_X11_boxOf (b : Int) = 140 + 33 * b := by
  unfold f_X11_boxOf
  rcases (show b = 0 ∨ b = 1 ∨ b = 2 by omega) with rfl | rfl | rfl <;> rfl
theorem ix305 {b c : Nat} (hb : b < 3) (hc : c < 7565) : wr (wr (7565 * (b : Int)) + (c : Int)) = ((7565 * b + c : Nat) : Int) := by
  rw [wr_id (z := 7565 * (b : Int)) (by omega) (by omega), wr_id (by omega) (by omega)]
  omega
theorem isBox {z : Int} : f_X12_isBox z = if 0 ≤ z ∧ z < 3 then 1 else 0 := by
  unfold f_X12_isBox
  split <;> split <;> first | rfl | omega
theorem stP_box {b : Nat} (hb : b < 3) : stP (140 + 33 * b) := by
  unfold stP
  rcases (show b = 0 ∨ b = 1 ∨ b = 2 by omega) with rfl | rfl | rfl <;> simp
theorem cp_in {O : Smo} {b : Nat} (hb : b < 3) : Ret (lp (fun (s10730 : Int × Smo) =>
      if s10730.1 < 7565 then
        (Option.bind (aget (s10730.2 282) (Ln 282) s10730.1) fun (v10737 : Int) =>
        Option.bind (asetO s10730.2 305 (Ln 305) (wr ((wr (7565 * (b : Int))) + s10730.1)) v10737) fun (O10739 : Smo) =>
        some (Sum.inl (wr (s10730.1 + 1), O10739)))
      else
        (some (Sum.inr s10730.2))) FU (0, O)) (fun O' => (∀ k, k ≠ 305 → O' k = O k) ∧ ∀ i, O' 305 i = if 7565 * b ≤ i ∧ i < 7565 * b + 7565 then O 282 (i - 7565 * b) else O 305 i) := by
  refine Ret_lp (fun c q => q.1 = (c : Int) ∧ (∀ k, k ≠ 305 → q.2 k = O k) ∧ ∀ i, q.2 305 i = if 7565 * b ≤ i ∧ i < 7565 * b + c then O 282 (i - 7565 * b) else O 305 i) 7565 (by decide) ⟨rfl, fun _ _ => rfl, fun i => by rw [if_neg (by omega)]⟩ (fun c q hc hI => ?_) (fun q hI => ?_)
  · obtain ⟨z, O1⟩ := q
    obtain ⟨rfl, i1, i2⟩ := hI
    dsimp only at *
    rw [if_pos (by omega), Ln282, aget_nat hc]
    dsimp only [Option.bind_some]
    rw [ix305 hb hc, Ln305, aset_nat (show 7565 * b + c < 22695 by omega)]
    dsimp only [Option.bind_some]
    rw [wr_id (by omega) (by omega)]
    refine Ret_some ⟨_, rfl, by simp, fun k hk => by dsimp only; rw [up2_row hk, i1 k hk], fun i => ?_⟩
    dsimp only
    by_cases e : i = 7565 * b + c
    · rw [e, up2_same, if_pos (by omega), i1 282 (by decide), show 7565 * b + c - 7565 * b = c by omega]
    · rw [up2_ne (Or.inr e), i2 i]
      by_cases q : 7565 * b ≤ i ∧ i < 7565 * b + c
      · rw [if_pos q, if_pos (by omega)]
      · rw [if_neg q, if_neg (by omega)]
  · obtain ⟨z, O1⟩ := q
    obtain ⟨rfl, i1, i2⟩ := hI
    dsimp only at *
    rw [if_neg (by omega)]
    exact Ret_some ⟨_, rfl, i1, i2⟩
theorem cp_out {O : Smo} {b : Nat} (hb : b < 3) : Ret (lp (fun (s10788 : Int × Smo) =>
        if s10788.1 < 7565 then
          (Option.bind (aget (s10788.2 305) (Ln 305) (wr ((wr (7565 * (b : Int))) + s10788.1))) fun (v10795 : Int) =>
          Option.bind (asetO s10788.2 282 (Ln 282) s10788.1 v10795) fun (O10797 : Smo) =>
          some (Sum.inl (wr (s10788.1 + 1), O10797)))
        else
          (some (Sum.inr s10788.2))) FU (0, O)) (fun O' => (∀ k, k ≠ 282 → O' k = O k) ∧ ∀ i, O' 282 i = if i < 7565 then O 305 (7565 * b + i) else O 282 i) := by
  refine Ret_lp (fun c q => q.1 = (c : Int) ∧ (∀ k, k ≠ 282 → q.2 k = O k) ∧ ∀ i, q.2 282 i = if i < c then O 305 (7565 * b + i) else O 282 i) 7565 (by decide) ⟨rfl, fun _ _ => rfl, fun i => by rw [if_neg (by omega)]⟩ (fun c q hc hI => ?_) (fun q hI => ?_)
  · obtain ⟨z, O1⟩ := q
    obtain ⟨rfl, i1, i2⟩ := hI
    dsimp only at *
    have e1 : aget (O1 305) (Ln 305) (wr (wr (7565 * (b : Int)) + (c : Int))) = some (O1 305 (7565 * b + c)) := by
      rw [ix305 hb hc, Ln305, aget_nat (show 7565 * b + c < 22695 by omega)]
    have e2 : O1 305 (7565 * b + c) = O 305 (7565 * b + c) := by rw [i1 305 (by decide)]
    rw [e2] at e1
    obtain ⟨V, hV⟩ : ∃ V, O 305 (7565 * b + c) = V := ⟨_, rfl⟩
    rw [hV] at e1
    clear e2
    have e3 : ∀ v, asetO O1 282 (Ln 282) (c : Int) v = some (up2 O1 282 c v) := fun v => by rw [Ln282, aset_nat hc]
    rw [if_pos (by omega)]
    refine Ret_bind (P := fun a => a = V) (Ret_of e1 rfl) (fun a ha => ?_)
    refine Ret_bind (P := fun a => a = up2 O1 282 c V) (Ret_of (by rw [ha]; exact e3 V) rfl) (fun O2 hO2 => ?_)
    subst hO2
    rw [wr_id (by omega) (by omega)]
    refine Ret_some ⟨_, rfl, by simp, fun k hk => by dsimp only; rw [up2_row hk, i1 k hk], fun i => ?_⟩
    dsimp only
    by_cases e : i = c
    · rw [e, up2_same, if_pos (by omega), hV]
    · rw [up2_ne (Or.inr e), i2 i]
      by_cases q : i < c
      · rw [if_pos q, if_pos (by omega)]
      · rw [if_neg q, if_neg (by omega)]
  · obtain ⟨z, O1⟩ := q
    obtain ⟨rfl, i1, i2⟩ := hI
    dsimp only at *
    rw [if_neg (by omega)]
    exact Ret_some ⟨_, rfl, i1, i2⟩
theorem op_back {S : Sst} {O : Smo} (h : Inv S O) (z : Int) : Op2 (some (f_X11_back z S)) (f_X12_back z O) := by
  have hI := h
  obtain ⟨n, ne, slots, lo, v, tp, bs, h1, h2, h3, h4, h5, h6, h7, h8⟩ := h
  unfold f_X11_back f_X12_back
  dsimp only [jn, jk]
  rw [isBox]
  by_cases hz : 0 ≤ z ∧ z < 3
  · obtain ⟨b, rfl⟩ : ∃ s : Nat, z = (s : Int) := ⟨z.toNat, by omega⟩
    have hb : b < 3 := by omega
    obtain ⟨b1, b2⟩ := h7 b hb
    rw [if_neg (c := (b : Int) < 0 ∨ _) (by omega), if_pos hz, if_neg (show ¬ (1 : Int) = 0 by decide), boxOf_n hb, Ln304, aget_nat (show b < 3 from hb)]
    dsimp only [Option.bind_some]
    by_cases c : O 304 b = 0
    · rw [if_pos c, if_pos (by rw [← b1]; exact c)]
      exact ⟨_, _, _, rfl, rfl, hI⟩
    · obtain ⟨c1, vb, v1, v2, v3, v4⟩ := b2.resolve_left c
      rw [if_neg c, if_neg (by rw [← b1]; exact c)]
      obtain ⟨O1, e1, i1, i2⟩ := cp_out (O := O) hb
      rw [e1]
      dsimp only [Option.bind_some]
      rw [Ln306, aget_nat (show b < 3 from hb), i1 306 (by decide), v2]
      dsimp only [Option.bind_some]
      have n8 := nA_8 v3.1 vb (Nat.le_refl _)
      obtain ⟨t1, t2, t3⟩ := cl_takeFrom (p := 74) (S := S) (Or.inl rfl) (stP_box hb) (by omega) v4 v1 (by omega)
      generalize f_X7_takeFrom 74 (140 + 33 * b) S = S1 at *
      have q1 : (f_X0_forget S1).2 239 1 = 0 := by
        unfold f_X0_forget f_X6_clear
        dsimp only [jn]
        show up2 (upR S1 240 []).2 239 1 0 239 1 = 0
        exact up2_same _ _ _ _
      have q2 : (f_X0_forget S1).1 240 = [] := by
        unfold f_X0_forget f_X6_clear
        dsimp only [jn]
        show (upR S1 240 []).1 240 = []
        exact upR_at _ _ _
      have q3 : ∀ k, k ≠ 240 → (f_X0_forget S1).1 k = S1.1 k := fun k hk => upR_ne _ _ hk
      have q4 : ∀ k j, k ≠ 239 → (f_X0_forget S1).2 k j = S.2 k j := fun k j hk => by
        rw [← t2]
        unfold f_X0_forget f_X6_clear
        dsimp only [jn]
        exact upS_ne (Or.inl hk)
      generalize f_X0_forget S1 = S2 at *
      have A1 : O1 282 = boxA O b := by
        funext i
        unfold boxA
        rw [i2 i]
        by_cases q : i < 7565
        · rw [if_pos q, if_pos q]
        · rw [if_neg q, if_neg q]; exact h8.1 i (by omega)
      have r0 : ∀ k, k ≠ 262 → k ≠ 282 → up2 (up2 (up2 O1 262 47 (vb : Int)) 262 48 (up2 O1 262 47 (vb : Int) 262 47)) 262 49 (up2 (up2 O1 262 47 (vb : Int)) 262 48 (up2 O1 262 47 (vb : Int) 262 47) 262 47) k = O k := fun k a b => by rw [up2_row a, up2_row a, up2_row a, i1 k b]
      have r1 : up2 (up2 (up2 O1 262 47 (vb : Int)) 262 48 (up2 O1 262 47 (vb : Int) 262 47)) 262 49 (up2 (up2 O1 262 47 (vb : Int)) 262 48 (up2 O1 262 47 (vb : Int) 262 47) 262 47) 282 = boxA O b := by rw [up2_row (by decide), up2_row (by decide), up2_row (by decide), A1]
      have r2 : up2 (up2 (up2 O1 262 47 (vb : Int)) 262 48 (up2 O1 262 47 (vb : Int) 262 47)) 262 49 (up2 (up2 O1 262 47 (vb : Int)) 262 48 (up2 O1 262 47 (vb : Int) 262 47) 262 47) 262 47 = (vb : Int) := by rw [up2_ne (Or.inr (by decide)), up2_ne (Or.inr (by decide)), up2_same]
      have r3 : up2 (up2 (up2 O1 262 47 (vb : Int)) 262 48 (up2 O1 262 47 (vb : Int) 262 47)) 262 49 (up2 (up2 O1 262 47 (vb : Int)) 262 48 (up2 O1 262 47 (vb : Int) 262 47) 262 47) 262 48 = (vb : Int) := by rw [up2_ne (Or.inr (by decide)), up2_same, up2_same]
      have r4 : up2 (up2 (up2 O1 262 47 (vb : Int)) 262 48 (up2 O1 262 47 (vb : Int) 262 47)) 262 49 (up2 (up2 O1 262 47 (vb : Int)) 262 48 (up2 O1 262 47 (vb : Int) 262 47) 262 47) 262 49 = (vb : Int) := by rw [up2_same, up2_ne (Or.inr (by decide)), up2_same]
      have r5 : ∀ j, j ≠ 47 → j ≠ 48 → j ≠ 49 → up2 (up2 (up2 O1 262 47 (vb : Int)) 262 48 (up2 O1 262 47 (vb : Int) 262 47)) 262 49 (up2 (up2 O1 262 47 (vb : Int)) 262 48 (up2 O1 262 47 (vb : Int) 262 47) 262 47) 262 j = O 262 j := fun j a b c => by rw [up2_ne (Or.inr c), up2_ne (Or.inr b), up2_ne (Or.inr a), i1 _ (by decide)]
      rw [r2]
      generalize up2 (up2 (up2 O1 262 47 (vb : Int)) 262 48 (up2 O1 262 47 (vb : Int) 262 47)) 262 49 (up2 (up2 O1 262 47 (vb : Int)) 262 48 (up2 O1 262 47 (vb : Int) 262 47) 262 47) = O2 at *
      have o : ∀ k, 276 ≤ k → k ≤ 281 → O2 k = O k := fun k a b => r0 k (by omega) (by omega)
      have hR : RepS 74 S2 (sgO O) (O 280) slots (boxA O b) vb := RepS_row t1 (fun k a b => q3 k (by omega))
      have hnew : f_X7_newest 74 S2 = (vb : Int) := newest_row (by rw [hR.1, rg_len]) (by omega)
      rw [hnew]
      refine ⟨_, _, _, rfl, rfl, n, ne, slots, lo, vb, vb, vb, ?_, ?_, ?_, ?_, ?_, ?_, ?_, ?_⟩
      · exact ITape_fr h1 (by rw [q3 _ (by decide), t3 _ (by omega)]) (r0 _ (by decide) (by decide)) (r5 _ (by decide) (by decide) (by decide))
      · exact ILie_fr h2 (by rw [q3 _ (by decide), t3 _ (by omega)]) (r0 _ (by decide) (by decide)) (r5 _ (by decide) (by decide) (by decide))
      · exact ILex_fr h3 ⟨q4 _ _ (by decide), q4 _ _ (by decide), q4 _ _ (by decide)⟩ (fun _ => q4 _ _ (by decide)) ⟨r5 _ (by decide) (by decide) (by decide), r5 _ (by decide) (by decide) (by decide)⟩
      · exact IPlan_fr h4 (fun k a b => by rw [q3 _ (by omega), t3 _ (by omega)]) ⟨q4 _ _ (by decide), q4 _ _ (by decide)⟩ o ⟨r5 _ (by decide) (by decide) (by decide), r5 _ (by decide) (by decide) (by decide), r5 _ (by decide) (by decide) (by decide), r5 _ (by decide) (by decide) (by decide)⟩
      · refine ⟨r2, r3, r4, ⟨Nat.le_refl _, Nat.le_refl _, v1⟩, ?_, ?_⟩
        · rw [sgO_fr o, o 280 (by decide) (by decide), o 281 (by decide) (by decide), r1]; exact v3
        · rw [sgO_fr o, o 280 (by decide) (by decide), r1]; exact hR
      · refine ⟨by rw [q1]; omega, by rw [q2]; simp, fun u a b => by omega⟩
      · exact IBox_fr h7 (fun k a b => by rw [q3 _ (by omega), t3 _ (by omega)]) (fun b hb => q4 _ _ (by omega)) o (fun k a b => r0 k (by omega) (by omega))
      · refine ITold_fr h8 (fun k a b => by rw [q3 _ (by omega), t3 _ (by omega)]) (q4 _ _ (by decide)) (fun k a b => r0 k (by omega) (by omega)) ⟨r5 _ (by decide) (by decide) (by decide), r5 _ (by decide) (by decide) (by decide)⟩ (fun i hi => ?_)
        rw [r1]
        unfold boxA
        rw [if_neg (by omega), h8.1 i hi]
  · rw [if_pos (c := z < 0 ∨ _) (by omega), if_neg hz, if_pos rfl]
    exact ⟨_, _, _, rfl, rfl, hI⟩
theorem op_image {S : Sst} {O : Smo} (h : Inv S O) (z : Int) : Op2 (some (f_X11_image z S)) (f_X12_image z O) := by
  have hI := h
  obtain ⟨n, ne, slots, lo, v, tp, bs, h1, h2, h3, h4, h5, h6, h7, h8⟩ := h
  have h5' := h5
  obtain ⟨w1, w2, w3, w4, w5, w6⟩ := h5'
  unfold f_X11_image f_X12_image
  dsimp only [jn, jk]
  rw [isBox]
  by_cases hz : 0 ≤ z ∧ z < 3
  · obtain ⟨b, rfl⟩ : ∃ s : Nat, z = (s : Int) := ⟨z.toNat, by omega⟩
    have hb : b < 3 := by omega
    rw [if_neg (c := (b : Int) < 0 ∨ _) (by omega), if_pos hz, if_neg (show ¬ (1 : Int) = 0 by decide), boxOf_n hb, Ln304, aset_nat (show b < 3 from hb)]
    dsimp only [Option.bind_some]
    rw [Ln306, aset_nat (show b < 3 from hb)]
    dsimp only [Option.bind_some]
    have n8 := nA_8 w5.1 v w4.2.1
    have n3 : nA (O 282) v ≤ 320 := by omega
    -- the reference
    have a0 : ∀ k, k ≠ 304 → k ≠ 306 → up2 (up2 O 304 b 1) 306 b (up2 O 304 b 1 262 47) k = O k := fun k a b => by rw [up2_row b, up2_row a]
    have a1 : up2 (up2 O 304 b 1) 306 b (up2 O 304 b 1 262 47) 304 = updI (O 304) b 1 := by rw [up2_row (by decide), upd_up2]
    have a2 : up2 (up2 O 304 b 1) 306 b (up2 O 304 b 1 262 47) 306 = updI (O 306) b (v : Int) := by rw [upd_up2, up2_row (by decide), up2_row (by decide), w1]
    generalize up2 (up2 O 304 b 1) 306 b (up2 O 304 b 1 262 47) = O1 at *
    obtain ⟨O2, e1, i1, i2⟩ := cp_in (O := O1) hb
    rw [e1]
    dsimp only [Option.bind_some]
    have key : Ret (lp (fun (s10742 : Int × Smo) =>
      Option.bind (f_X12_nodeMany s10742.2) fun (q10749 : Int) =>
      if s10742.1 < q10749 then
        (Option.bind (f_X12_usedUpTo s10742.1 (s10742.2 262 47) s10742.2) fun (q10754 : Int) =>
        Option.bind (asetO s10742.2 305 (Ln 305) (wr ((wr ((wr (7565 * (b : Int))) + 1485)) + s10742.1)) q10754) fun (O10756 : Smo) =>
        some (Sum.inl (wr (s10742.1 + 1), O10756)))
      else
        (some (Sum.inr s10742.2))) FU (0, O2)) (fun O' => (∀ k, k ≠ 305 → O' k = O1 k) ∧ (∀ i, i < 7565 → O' 305 (7565 * b + i) = tA (O 282) v i) ∧ ∀ i, ¬ (7565 * b ≤ i ∧ i < 7565 * b + 7565) → O' 305 i = O 305 i) := by
      refine Ret_lp (fun c q => q.1 = (c : Int) ∧ (∀ k, k ≠ 305 → q.2 k = O1 k) ∧ (∀ i, i < 7565 → q.2 305 (7565 * b + i) = if i < 1485 + c then tA (O 282) v i else O 282 i) ∧ ∀ i, ¬ (7565 * b ≤ i ∧ i < 7565 * b + 7565) → q.2 305 i = O 305 i) (nA (O 282) v) (by omega) ⟨rfl, i1, fun i hi => ?_, fun i hi => ?_⟩ (fun c q hc hI => ?_) (fun q hI => ?_)
      · show O2 305 _ = _
        rw [i2, if_pos (by omega), show 7565 * b + i - 7565 * b = i by omega, a0 282 (by decide) (by decide)]
        by_cases q : i < 1485 + 0
        · rw [if_pos q, tA_low (by omega)]
        · rw [if_neg q]
      · show O2 305 _ = _
        rw [i2, if_neg hi, a0 305 (by decide) (by decide)]
      · obtain ⟨z, O3⟩ := q
        obtain ⟨rfl, j1, j2, j3⟩ := hI
        dsimp only at *
        have o282 : O3 282 = O 282 := by rw [j1 _ (by decide), a0 282 (by decide) (by decide)]
        have o262 : O3 262 = O 262 := by rw [j1 _ (by decide), a0 262 (by decide) (by decide)]
        have hnm : f_X12_nodeMany O3 = some (nA (O 282) v : Int) := by
          unfold f_X12_nodeMany
          rw [o262, w1, rf_at (i := 164 + v) (by rw [wr_id (by omega) (by omega)]; omega) (by omega), o282, w5.1.2.1.2.1 v w4.2.1]
          rfl
        have hct : c < nA (O 282) tp := Nat.lt_of_lt_of_le hc (nA_le w5.1 w4.2.1 (Nat.le_refl _))
        have h14 := (w5.1.2.2.1 c hct).2.2.1
        have hs6 := h4.2.2.1
        rw [hnm]
        dsimp only [Option.bind_some]
        rw [if_pos (by omega), o262, w1, rf_used (show c < 320 by omega) (by rw [o282]; omega) (by rw [o282]; omega), o282]
        dsimp only [Option.bind_some]
        have hix : wr (wr (wr (7565 * (b : Int)) + 1485) + (c : Int)) = ((7565 * b + (1485 + c) : Nat) : Int) := by
          rw [wr_id (z := 7565 * (b : Int)) (by omega) (by omega), wr_id (z := 7565 * (b : Int) + 1485) (by omega) (by omega), wr_id (by omega) (by omega)]
          omega
        rw [hix, Ln305, aset_nat (show 7565 * b + (1485 + c) < 22695 by omega)]
        dsimp only [Option.bind_some]
        rw [wr_id (by omega) (by omega)]
        refine Ret_some ⟨_, rfl, by simp, fun k hk => by dsimp only; rw [up2_row hk, j1 k hk], fun i hi => ?_, fun i hi => ?_⟩
        · dsimp only
          by_cases e : i = 1485 + c
          · rw [e, up2_same, if_pos (by omega), tA_us hc]
          · rw [up2_ne (Or.inr (by omega)), j2 i hi]
            by_cases q : i < 1485 + c
            · rw [if_pos q, if_pos (by omega)]
            · rw [if_neg q, if_neg (by omega)]
        · dsimp only
          rw [up2_ne (Or.inr (by omega)), j3 i hi]
      · obtain ⟨z, O3⟩ := q
        obtain ⟨rfl, j1, j2, j3⟩ := hI
        dsimp only at *
        have o282 : O3 282 = O 282 := by rw [j1 _ (by decide), a0 282 (by decide) (by decide)]
        have o262 : O3 262 = O 262 := by rw [j1 _ (by decide), a0 262 (by decide) (by decide)]
        have hnm : f_X12_nodeMany O3 = some (nA (O 282) v : Int) := by
          unfold f_X12_nodeMany
          rw [o262, w1, rf_at (i := 164 + v) (by rw [wr_id (by omega) (by omega)]; omega) (by omega), o282, w5.1.2.1.2.1 v w4.2.1]
          rfl
        rw [hnm]
        dsimp only [Option.bind_some]
        rw [if_neg (by omega)]
        refine Ret_some ⟨_, rfl, j1, fun i hi => ?_, j3⟩
        rw [j2 i hi]
        by_cases q : i < 1485 + nA (O 282) v
        · rw [if_pos q]
        · rw [if_neg q]
          unfold tA
          rw [if_neg (by omega)]
    obtain ⟨O3, e2, j1, j2, j3⟩ := key
    rw [e2]
    dsimp only [Option.bind_some]
    -- the class
    obtain ⟨t1, t2, t3⟩ := cl_takeFrom (p := 140 + 33 * b) (S := S) (stP_box hb) (Or.inl rfl) (by omega) w6 (by omega) n3
    generalize f_X7_takeFrom (140 + 33 * b) 74 S = S1 at *
    have q3 : ∀ k, (upS S1 (140 + 33 * b) 16 1).1 k = S1.1 k := fun _ => rfl
    have q4 : ∀ k j, (k ≠ 140 + 33 * b ∨ j ≠ 16) → (upS S1 (140 + 33 * b) 16 1).2 k j = S.2 k j := fun k j hk => by
      rw [← t2]
      exact upS_ne hk
    have q5 : (upS S1 (140 + 33 * b) 16 1).2 (140 + 33 * b) 16 = 1 := up2_same _ _ _ _
    generalize upS S1 (140 + 33 * b) 16 1 = S2 at *
    have r0 : ∀ k, k ≠ 304 → k ≠ 305 → k ≠ 306 → O3 k = O k := fun k a b c => by rw [j1 k b, a0 k a c]
    have o : ∀ k, 276 ≤ k → k ≤ 281 → O3 k = O k := fun k a b => r0 k (by omega) (by omega) (by omega)
    have o262 : O3 262 = O 262 := r0 _ (by decide) (by decide) (by decide)
    have o282 : O3 282 = O 282 := r0 _ (by decide) (by decide) (by decide)
    have hnew : f_X7_newest 74 S2 = (v : Int) := newest_row (by rw [q3, t3 _ (by omega), w6.1, rg_len]) (by omega)
    rw [hnew, o262, w1]
    refine ⟨_, _, _, rfl, rfl, n, ne, slots, lo, v, tp, bs, ?_, ?_, ?_, ?_, ?_, ?_, ?_, ?_⟩
    · exact ITape_fr h1 (by rw [q3, t3 _ (by omega)]) (r0 _ (by decide) (by decide) (by decide)) (by rw [o262])
    · exact ILie_fr h2 (by rw [q3, t3 _ (by omega)]) (r0 _ (by decide) (by decide) (by decide)) (by rw [o262])
    · exact ILex_fr h3 ⟨q4 _ _ (by omega), q4 _ _ (by omega), q4 _ _ (by omega)⟩ (fun _ => q4 _ _ (by omega)) (by rw [o262]; exact ⟨rfl, rfl⟩)
    · exact IPlan_fr h4 (fun k a b => by rw [q3, t3 _ (by omega)]) ⟨q4 _ _ (by omega), q4 _ _ (by omega)⟩ o (by rw [o262]; exact ⟨rfl, rfl, rfl, rfl⟩)
    · exact IVer_fr h5 (fun k a b => by rw [q3, t3 _ (by omega)]) o o282 (by rw [o262]; exact ⟨rfl, rfl, rfl⟩)
    · exact IAct_fr h6 (q4 _ _ (by omega)) (by rw [q3, t3 _ (by omega)]) o o282
    · intro b' hb'
      rw [sgO_fr o, o 280 (by decide) (by decide), o 281 (by decide) (by decide), j1 304 (by decide), a1, j1 306 (by decide), a2]
      by_cases e : b' = b
      · subst e
        have hbx : boxA O3 b' = tA (O 282) v := by
          funext i
          unfold boxA
          by_cases q : i < 7565
          · rw [if_pos q, j2 i q]
          · rw [if_neg q, tA_hi n3 (by omega), h8.1 i (by omega)]
        rw [hbx, upd_same, upd_same, q5]
        refine ⟨rfl, Or.inr ⟨rfl, v, by omega, rfl, tA_sto w5 w4.2.1 (by omega), ?_⟩⟩
        refine RepS_congr (RepS_row t1 (fun k a b => q3 k)) (by omega) (fun u hu => ⟨tA_vw w5.1 w4.2.1 (by omega) n3 hu, tA_m (by omega)⟩) (fun u hu => ⟨tA_low (by omega), tA_low (by omega), tA_low (by omega), tA_low (by omega)⟩)
      · have hbx : boxA O3 b' = boxA O b' := by
          funext i
          unfold boxA
          by_cases q : i < 7565
          · rw [if_pos q, if_pos q, j3 _ (by omega)]
          · rw [if_neg q, if_neg q]
        obtain ⟨x1, x2⟩ := h7 b' hb'
        rw [hbx, upd_ne e, upd_ne e, q4 _ _ (by omega)]
        refine ⟨x1, x2.imp id ?_⟩
        rintro ⟨y1, vb, y2, y3, y4, y5⟩
        exact ⟨y1, vb, y2, y3, y4, RepS_row y5 (fun k a b => by rw [q3, t3 _ (by omega)])⟩
    · exact ITold_fr h8 (fun k a b => by rw [q3, t3 _ (by omega)]) (q4 _ _ (by omega)) (fun k a b => r0 k (by omega) (by omega) (by omega)) (by rw [o262]; exact ⟨rfl, rfl⟩) (fun i _ => by rw [o282])
  · rw [if_pos (c := z < 0 ∨ _) (by omega), if_neg hz, if_pos rfl]
    exact ⟨_, _, _, rfl, rfl, hI⟩
