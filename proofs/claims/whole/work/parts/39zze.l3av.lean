/-! LEVEL 3, av: a segment is read behind its name -/
def FrS1 (S S' : Sst) : Prop := (∀ k, k ∉ [6, 8, 10, 12, 14, 16] → S'.1 k = S.1 k) ∧ ∀ k j, k ≠ 53 → k ≠ 54 → S'.2 k j = S.2 k j
def FrS2 (O O' : Smo) : Prop := FrO [271, 272, 273, 274, 275] [2, 3, 4, 6, 7, 8, 9, 36] O O'
theorem FrS1_refl (S : Sst) : FrS1 S S := ⟨fun _ _ => rfl, fun _ _ _ _ => rfl⟩
theorem FrS1_trans {S S' S'' : Sst} (h1 : FrS1 S S') (h2 : FrS1 S' S'') : FrS1 S S'' := ⟨fun k a => (h2.1 k a).trans (h1.1 k a), fun k j a b => (h2.2 k j a b).trans (h1.2 k j a b)⟩
theorem FrS1_E {J : List Nat} {S S' : Sst} (h : E53 J S S') : FrS1 S S' := ⟨fun k _ => by rw [h.1], fun k j a _ => h.2 k j (fun w => a w.1)⟩
theorem FrS2_O {J : List Nat} {O O' : Smo} (h : FrO [] J O O') (hJ : ∀ j ∈ J, j ∈ [2, 3, 4, 6, 7, 8, 9, 36]) : FrS2 O O' := FrO_mono h (by simp) hJ
theorem FrS2_up {O : Smo} {k i : Nat} {v : Int} (hk : k ∈ [271, 272, 273, 274, 275]) : FrS2 O (up2 O k i v) := ⟨fun q hq _ => up2_row (fun e => hq (e ▸ hk)), fun j hj => up2_ne (Or.inl (fun e => by rw [← e] at hk; revert hk; decide))⟩
section TAIL
variable {T : Nat → Int} {nt : Nat} {f : Nat → List Int}
theorem sg_tail {p0 c : Nat} {S : Sst} {O : Smo} (h : SO T nt (c + 1) f p0 S O) (hc : c < 8) (hR : RPl 5 S (gN O) c) (hg : OkSeg (gN O) c) (h36 : O 262 36 = (c : Int)) : ∃ S' O', sgC S = some S' ∧ sgR (c : Int) O = some O' ∧ FrS1 S S' ∧ FrS2 O O' ∧ (FT S' O' ∨ ∃ p', OKT T nt (c + 1) f S' O' p' ∧ Adv nt O' p0 p' ∧ RPl 5 S' (gN O') (c + 1) ∧ OkSeg (gN O') (c + 1) ∧ O' 262 36 = ((c + 1 : Nat) : Int)) := by
  -- at
  obtain ⟨S1, O1, a1, a2, a3, a4, a5, a6⟩ := want_any h (j := 1) (by decide)
  obtain ⟨x1, y1, S1', S2, O2, b1, b2, b3, b4, b5, b6, b7, b8⟩ := told_any a3 0 0 0 (fun _ => rfl) 59
  have h2 : SO T nt (c + 1) f p0 S2 (up2 O2 272 c y1) := SO_fr b4 (up2_row (by decide)) (up2_row (by decide)) (fun j _ => up2_ne (Or.inl (by decide)))
  obtain ⟨x2, y2, S2', S3, O3, c1, c2, c3, c4, c5, c6, c7, c8⟩ := told_any h2 0 0 0 (fun _ => rfl) 60
  have h3 : SO T nt (c + 1) f p0 S3 (up2 O3 273 c y2) := SO_fr c4 (up2_row (by decide)) (up2_row (by decide)) (fun j _ => up2_ne (Or.inl (by decide)))
  -- to
  obtain ⟨S4, O4, d1, d2, d3, d4, d5, d6⟩ := want_any h3 (j := 2) (by decide)
  have p12 : ¬ FT S4 O4 → x1 = y1 ∧ 0 ≤ x1 ∧ x1 ≤ 59 := fun w => by
    rcases b5 with z | z
    · refine absurd (d6 (FT_tr (c8 (FT_tr z ?_ ?_)) ?_ ?_)) w
      · exact up2_ne (Or.inl (by decide))
      · exact up2_ne (Or.inl (by decide))
      · exact up2_ne (Or.inl (by decide))
      · exact up2_ne (Or.inl (by decide))
    · exact ⟨z.1, z.2.1, z.2.2.1⟩
  obtain ⟨x3, y3, S4', S5, O5, e1, e2, e3, e4, e5, e6, e7, e8⟩ := told_any d3 (wr (x1 + 1)) 0 (wr (y1 + 1)) (fun w => by rw [(p12 w).1]) 60
  have h5 : SO T nt (c + 1) f p0 S5 (up2 O5 274 c y3) := SO_fr e4 (up2_row (by decide)) (up2_row (by decide)) (fun j _ => up2_ne (Or.inl (by decide)))
  obtain ⟨x4, y4, S6, O6, g1, g2, g3, g4, g5⟩ := number_any h5 0 60
  -- the rows
  have r1 : ∀ k, 271 ≤ k → k ≤ 275 → O2 k = O k := fun k _ _ => by rw [b7.1 k (by simp) (by omega), a5.1 k (by simp) (by omega)]
  have r2 : ∀ k, 271 ≤ k → k ≤ 275 → O3 k = up2 O2 272 c y1 k := fun k _ _ => c7.1 k (by simp) (by omega)
  have r3 : ∀ k, 271 ≤ k → k ≤ 275 → O5 k = up2 O3 273 c y2 k := fun k _ _ => by rw [e7.1 k (by simp) (by omega), d5.1 k (by simp) (by omega)]
  have r4 : ∀ k, 271 ≤ k → k ≤ 275 → O6 k = up2 O5 274 c y3 k := fun k _ _ => g5.1 k (by simp) (by omega)
  have q272 : up2 O6 275 c y4 272 = updI (O 272) c y1 := by
    rw [up2_row (by decide), r4 272 (by decide) (by decide), up2_row (by decide), r3 272 (by decide) (by decide), up2_row (by decide), r2 272 (by decide) (by decide), up2_self, r1 272 (by decide) (by decide)]
    rfl
  have q273 : up2 O6 275 c y4 273 = updI (O 273) c y2 := by
    rw [up2_row (by decide), r4 273 (by decide) (by decide), up2_row (by decide), r3 273 (by decide) (by decide), up2_self, r2 273 (by decide) (by decide), up2_row (by decide), r1 273 (by decide) (by decide)]
    rfl
  have q274 : up2 O6 275 c y4 274 = updI (O 274) c y3 := by
    rw [up2_row (by decide), r4 274 (by decide) (by decide), up2_self, r3 274 (by decide) (by decide), up2_row (by decide), r2 274 (by decide) (by decide), up2_row (by decide), r1 274 (by decide) (by decide)]
    rfl
  have q275 : up2 O6 275 c y4 275 = updI (O 275) c y4 := by
    rw [up2_self, r4 275 (by decide) (by decide), up2_row (by decide), r3 275 (by decide) (by decide), up2_row (by decide), r2 275 (by decide) (by decide), up2_row (by decide), r1 275 (by decide) (by decide)]
    rfl
  have hgN : gN (up2 O6 275 c y4) = gU (gN O) c y1 y2 y3 y4 := by
    unfold gN gU
    rw [q272, q273, q274, q275]
  have x272 : aget (up2 O3 273 c y2 272) 8 (c : Int) = some y1 := by
    rw [up2_row (by decide), r2 272 (by decide) (by decide), aget_nat hc, up2_same]
  -- frames
  have fr1 : FrS1 S S6 := FrS1_trans (FrS1_E a4) (FrS1_trans (FrS1_E b6) (FrS1_trans (FrS1_E c6) (FrS1_trans (FrS1_E d4) (FrS1_trans (FrS1_E e6) (FrS1_E g4)))))
  have fr2 : FrS2 O (up2 O6 275 c y4) := FrO_trans (FrS2_O a5 (by simp)) (FrO_trans (FrS2_O b7 (by simp)) (FrO_trans (FrS2_up (by decide)) (FrO_trans (FrS2_O c7 (by simp)) (FrO_trans (FrS2_up (by decide)) (FrO_trans (FrS2_O d5 (by simp)) (FrO_trans (FrS2_O e7 (by simp)) (FrO_trans (FrS2_up (by decide)) (FrO_trans (FrS2_O g5 (by simp)) (FrS2_up (by decide))))))))))
  have row1 : S6.1 = S.1 := by rw [g4.1, e6.1, d4.1, c6.1, b6.1, a4.1]
  -- the class up to the end
  have a1' : f_X5_expect 101 S = some S1 := a1
  have d1' : f_X5_expect 102 S3 = some S4 := d1
  have hcl : sgC S = if f_X3_failed S6 = 0 then
    (jn (f_X4_addSegment 5 x1 x2 x3 x4 S6) fun (q496 : Sst) =>
    Option.bind (f_X4_lastMeetsAnother 5 q496) fun (q499 : Int) =>
    jn (
      if q499 = 0 then
        (q496)
      else
        (jn (f_X3_fail 5 q496) fun (q507 : Sst) =>
        q507)) fun (q501 : Sst) =>
    Option.bind (f_X3_step q501) fun (q510 : Sst) =>
    some q510) else some S6 := by
    unfold sgC
    rw [a1']
    dsimp only [Option.bind_some, jn]
    rw [b1]
    dsimp only
    rw [b2]
    dsimp only [Option.bind_some]
    rw [c1]
    dsimp only
    rw [c2]
    dsimp only [Option.bind_some]
    rw [d1']
    dsimp only [Option.bind_some]
    rw [e1]
    dsimp only
    rw [e2]
    dsimp only [Option.bind_some]
    rw [g1]
  have a2' : f_X12_want 24948 O = some O1 := a2
  have d2' : f_X12_want 29807 (up2 O3 273 c y2) = some O4 := d2
  have hrf : sgR (c : Int) O = Option.bind (lp (fun (s6207 : Int × Smo) =>
      if (s6207.1 < (c : Int) ∧ s6207.2 262 2 = 0) then
        (Option.bind (f_X12_doMeet s6207.1 (c : Int) s6207.2) fun (q6218 : Int) =>
        jn (
          if q6218 = 0 then
            (s6207.2)
          else
            (jn (f_X12_wrong 5 s6207.2) fun (q6226 : Smo) =>
            q6226)) fun (q6220 : Smo) =>
        some (Sum.inl (wr (s6207.1 + 1), q6220)))
      else
        (some (Sum.inr s6207.2))) FU (0, up2 O6 275 c y4)) fun (r6230 : Smo) =>
    if 0 < r6230 262 2 then
      (some r6230)
    else
      (Option.bind (f_X12_token r6230) fun (q6235 : Smo) =>
      jn (up2 q6235 262 36 (wr ((q6235 262 36) + 1))) fun (O6238 : Smo) =>
      some O6238) := by
    unfold sgR f_X12_told
    rw [a2']
    dsimp only [Option.bind_some]
    rw [b3]
    dsimp only [Option.bind_some]
    rw [Ln272, aset_nat hc]
    dsimp only [Option.bind_some]
    rw [c3]
    dsimp only [Option.bind_some]
    rw [Ln273, aset_nat hc]
    dsimp only [Option.bind_some]
    rw [x272]
    dsimp only [Option.bind_some]
    rw [d2']
    dsimp only [Option.bind_some]
    rw [e3]
    dsimp only [Option.bind_some]
    rw [Ln274, aset_nat hc]
    dsimp only [Option.bind_some, jn]
    rw [g2]
    dsimp only
    rw [Ln275, aset_nat hc]
    rfl
  rw [hcl, hrf]
  unfold f_X3_failed
  rcases g3 with z | ⟨z1, z2, z3, z4, zS, zO, p, z5, z6, z7, z8⟩
  · -- a fault somewhere
    obtain ⟨k1, k2⟩ := FT_0 z
    have zt : FT S6 (up2 O6 275 c y4) := FT_tr z (up2_ne (Or.inl (by decide))) (up2_ne (Or.inl (by decide)))
    rw [if_neg k1, if_neg (by decide)]
    have hlp : lp (fun (s6207 : Int × Smo) =>
      if (s6207.1 < (c : Int) ∧ s6207.2 262 2 = 0) then
        (Option.bind (f_X12_doMeet s6207.1 (c : Int) s6207.2) fun (q6218 : Int) =>
        jn (
          if q6218 = 0 then
            (s6207.2)
          else
            (jn (f_X12_wrong 5 s6207.2) fun (q6226 : Smo) =>
            q6226)) fun (q6220 : Smo) =>
        some (Sum.inl (wr (s6207.1 + 1), q6220)))
      else
        (some (Sum.inr s6207.2))) FU (0, up2 O6 275 c y4) = some (up2 O6 275 c y4) := by
      refine Ret_eq (Ret_lpm (fun s => s = (0, up2 O6 275 c y4)) (fun _ => 0) rfl (by decide) (fun s hs => ?_))
      subst hs
      dsimp only
      rw [if_neg (fun w => (FT_0 zt).2 w.2)]
      exact Ret_some (Or.inr ⟨_, rfl, rfl⟩)
    rw [hlp]
    dsimp only [Option.bind_some]
    rw [if_pos zt.2.1]
    exact ⟨_, _, rfl, rfl, fr1, fr2, Or.inl zt⟩
  · -- all were numbers within bounds
    rw [← zS, ← zO] at z5
    rw [← zO] at z6 z8
    rw [← zS] at z7
    have h02 : O6 262 2 = 0 := z5.1.2.2.2.2.2.1.2.1
    have n5 : ¬ FT S5 O5 := fun w => (FT_0 w).2 (by
      rw [← h02, zO]
      exact (up2_ne (Or.inl (by decide))).symm)
    have n4 : ¬ FT S4 O4 := fun w => n5 (e8 w)
    have n3 : ¬ FT S3 O3 := fun w => n4 (d6 (FT_tr w (up2_ne (Or.inl (by decide))) (up2_ne (Or.inl (by decide)))))
    obtain ⟨t1, t2, t3⟩ := p12 n4
    obtain ⟨t4, t5, t6, _⟩ := c5.resolve_left n3
    obtain ⟨t7, t8, t9, _⟩ := e5.resolve_left n5
    rw [wr_id (z := x1 + 1) (by omega) (by omega)] at t8
    rw [← t1, ← t4, ← t7, ← z1] at hgN
    rw [← z1] at fr2 ⊢
    have hS6 : RPl 5 S6 (gN O) c := by
      unfold RPl at *
      rw [row1]
      exact hR
    have hO7 : OKT T nt (c + 1) f S6 (up2 O6 275 c x4) p := OKT_G z5 rfl (fun _ => rfl) (fun _ => rfl) (up2_row (by decide)) (up2_row (by decide)) (fun j _ => up2_ne (Or.inl (by decide)))
    have hA7 : Adv nt (up2 O6 275 c x4) p0 p := ⟨z6.1, z6.2.1, by rw [up2_ne (Or.inl (by decide))]; exact z6.2.2⟩
    obtain ⟨w1, w2, w3⟩ := cl_addSeg (a := x1) (u := x2) (b := x3) (v := x4) hS6 hc (by omega) (by omega) (by omega) (by omega)
    have hnew := gU_new (gN O) c x1 x2 x3 x4
    have hBc : SegB (gU (gN O) c x1 x2 x3 x4) c := by
      unfold SegB
      rw [hnew.1, hnew.2.1, hnew.2.2.1, hnew.2.2.2]
      omega
    have hB : ∀ i, i < c + 1 → SegB (gU (gN O) c x1 x2 x3 x4) i := fun i hi => by
      by_cases e : i = c
      · rw [e]; exact hBc
      · exact (seg_congr (gU_old e)).mpr (hg.2.1 i (by omega))
    generalize hS7 : f_X4_addSegment 5 x1 x2 x3 x4 S6 = S7 at *
    have hK7 : OKT T nt (c + 1) f S7 (up2 O6 275 c x4) p := OKT_G hO7 (w2 1 (by decide)) (fun j => by rw [w3]) (fun j => by rw [w3]) rfl rfl (fun _ _ => rfl)
    obtain ⟨q, m1, m2, m3⟩ := cl_last w1 hc hB
    obtain ⟨O8, l1, l2⟩ := rf_last hK7 hc (by rw [hgN]; exact hB)
    have k0 : S6.2 53 2 = 0 := z5.1.2.2.2.2.2.1.1
    rw [if_pos k0, if_pos rfl]
    dsimp only [jn] at l1 ⊢
    rw [m1, l1]
    dsimp only [Option.bind_some]
    have fr7 : FrS1 S S7 := FrS1_trans fr1 ⟨w2, fun k j _ _ => by rw [w3]⟩
    rw [hgN] at l2
    rcases l2 with ⟨y, rfl⟩ | ⟨y, rfl⟩
    · have q0 : q = 0 := m3.mpr y
      rw [if_pos q0]
      have h07 : up2 O6 275 c x4 262 2 = 0 := hK7.1.2.2.2.2.2.1.2.1
      rw [if_neg (c := 0 < up2 O6 275 c x4 262 2) (by rw [h07]; decide)]
      obtain ⟨S9, O9, p9, i1, i2, i3, i4, i5, i6⟩ := next_tok hK7.1 (p := p) (by rw [w3]; exact z7) (by rw [up2_ne (Or.inl (by decide))]; exact z8) hK7.2.1
      rw [i1, i2]
      dsimp only [Option.bind_some]
      have h366 : O6 262 36 = (c : Int) := by
        rw [g5.2 36 (by decide), up2_ne (Or.inl (by decide)), e7.2 36 (by decide), d5.2 36 (by decide), up2_ne (Or.inl (by decide)), c7.2 36 (by decide), up2_ne (Or.inl (by decide)), b7.2 36 (by decide), a5.2 36 (by decide), h36]
      have h369 : O9 262 36 = (c : Int) := by rw [i6.2 36 (by decide), up2_ne (Or.inl (by decide)), h366]
      rw [h369, wr_id (by omega) (by omega)]
      have hg9 : gN (up2 O9 262 36 ((c : Int) + 1)) = gU (gN O) c x1 x2 x3 x4 := by
        rw [← hgN]
        unfold gN
        rw [up2_row (by decide), up2_row (by decide), up2_row (by decide), up2_row (by decide), i6.1 272 (by simp) (by decide), i6.1 273 (by simp) (by decide), i6.1 274 (by simp) (by decide), i6.1 275 (by simp) (by decide)]
      refine ⟨_, _, rfl, rfl, FrS1_trans fr7 (FrS1_E i5), FrO_trans fr2 (FrO_trans (FrS2_O i6 (by simp)) (FrS2_O (FrO_up (FrO_refl _ _ _) (List.mem_singleton.mpr rfl)) (by simp))), Or.inr ⟨p9, OKT_G i3 rfl (fun _ => rfl) (fun _ => rfl) (up2_row (by decide)) (up2_row (by decide)) (fun j hj => up2_ne (Or.inr (by omega))), ?_, ?_, ?_, ?_⟩⟩
      · have := Adv_trans (O1 := O9) hA7.1 i4
        exact ⟨this.1, this.2.1, by rw [up2_ne (Or.inr (by decide))]; exact this.2.2⟩
      · rw [hg9]
        unfold RPl at *
        rw [i5.1]
        exact w1
      · rw [hg9]
        exact gU_ok hg hc hBc y
      · rw [up2_same]; omega
    · have q0 : ¬ q = 0 := fun w => y (m3.mp w)
      rw [if_neg q0]
      obtain ⟨v, i, _, hv, _⟩ := LT_view hK7.2
      obtain ⟨S9, O9, i1, i2, i3, i4, i5, _, _⟩ := fail_ok hK7.1 hv hK7.2.2.1 (a := 5) (by decide)
      rw [i1, i2, if_pos i3.2.1, FT_step (FT_0 i3).1]
      exact ⟨_, _, rfl, rfl, FrS1_trans fr7 (FrS1_E i4), FrO_trans fr2 (FrS2_O i5 (by simp)), Or.inl i3⟩
end TAIL
