/-! LEVEL 3, ak: settle and close, and what is asked of the stack -/
def CP (S : Sst) (st rs : List Nat) (U : Nat) : Prop := S.1 57 = stR st ∧ S.1 25 = stR rs ∧ S.2 24 0 = (U : Int) ∧ S.2 56 2 = (cW st : Int)
def RP (O : Smo) (st rs : List Nat) (U : Nat) : Prop := O 262 18 = (st.length : Int) ∧ RSt (O 268) rcS st ∧ O 262 16 = (rs.length : Int) ∧ RSt (O 264) dcA rs ∧ RSt (O 265) dcB rs ∧ O 262 19 = (U : Int) ∧ O 262 21 = (U : Int) ∧ O 262 22 = (cW st : Int)
def FrF (S S' : Sst) : Prop := (∀ k, k ≠ 57 → k ≠ 25 → S'.1 k = S.1 k) ∧ ∀ k j, ¬ (k = 24 ∧ j = 0) → ¬ (k = 56 ∧ j = 2) → S'.2 k j = S.2 k j
theorem FrF_refl (S : Sst) : FrF S S := ⟨fun _ _ _ => rfl, fun _ _ _ _ => rfl⟩
theorem FrF_trans {S S' S'' : Sst} (h1 : FrF S S') (h2 : FrF S' S'') : FrF S S'' := ⟨fun k a b => (h2.1 k a b).trans (h1.1 k a b), fun k j a b => (h2.2 k j a b).trans (h1.2 k j a b)⟩
def FrG (O O' : Smo) : Prop := FrO [264, 265, 268] [16, 18, 19, 21, 22] O O'
theorem LK_3 : ∀ k ∈ LK, (rk k = 3 ↔ k = 108) ∧ (k = 40 ∨ k = 108 ∨ (k ≠ 40 ∧ k ≠ 108)) := by decide +kernel
theorem PI_len {U q : Nat} {st rs : List Nat} (h : PI U q st rs) : st.length ≤ 37 ∧ rs.length + st.length ≤ 284 ∧ (q = 1 → rs.length + cB st + cN st ≤ 269) := by
  obtain ⟨h1, h2, h3, h4, h5, h6, h7⟩ := h
  obtain ⟨a, b⟩ := c_len st h1
  have : (if q = 0 then cW st else 0) ≤ 7 := by split <;> omega
  refine ⟨by omega, ?_, fun e => ?_⟩
  · by_cases e : q = 0
    · rw [if_pos e] at h7; omega
    · rw [if_neg e] at h7; omega
  · subst e
    rw [if_neg (by decide)] at h7
    omega
section SET
variable {U : Nat}
theorem cl_settle {S : Sst} {st rs : List Nat} (a : Nat) (hP : PI U 1 st rs) (hC : CP S st rs U) : Ret (f_X2_settle 24 (a : Int) S) (fun S' => CP S' (stl a st rs).1 (stl a st rs).2 U ∧ FrF S S') := by
  have hlen := PI_len hP
  unfold f_X2_settle
  refine Ret_bind (P := fun z => ∃ S', (z = Sum.inl S' ∨ z = Sum.inr S') ∧ CP S' (stl a st rs).1 (stl a st rs).2 U ∧ FrF S S') (Ret_lpm (fun s => ∃ (c : Nat) (st1 rs1 : List Nat), s.1 = (c : Int) ∧ c + st1.length ≤ st.length ∧ CP s.2 st1 rs1 U ∧ PI U 1 st1 rs1 ∧ stl a st1 rs1 = stl a st rs ∧ FrF S s.2) (fun s => (s.2.1 57).length) ⟨0, st, rs, rfl, by omega, hC, hP, rfl, FrF_refl S⟩ (by dsimp only; rw [hC.1, stR_len]; omega) (fun s hs => ?_)) (fun z hz => ?_)
  · obtain ⟨z, S1⟩ := s
    obtain ⟨c, st1, rs1, rfl, h1, hC1, hP1, hE, hF⟩ := hs
    obtain ⟨g1, g2, g3, g4⟩ := hC1
    dsimp only [jn] at *
    rw [if_pos (by omega)]
    cases st1 with
    | nil =>
      rw [last_nil g1, show f_X2_rankOf (-1) = 0 by decide, if_pos (Or.inl rfl)]
      refine Ret_some (Or.inr ⟨_, rfl, S1, Or.inl rfl, ?_, hF⟩)
      rw [← hE]
      exact ⟨g1, g2, g3, g4⟩
    | cons k st2 =>
      have hm := hP1.1 k List.mem_cons_self
      have hf := LK_f k hm
      have hlen1 := PI_len hP1
      rw [List.length_cons] at h1 hlen1
      rw [last_st g1, rank_n]
      by_cases q : rk k = 0 ∨ rk k < a
      · rw [if_pos (by omega)]
        refine Ret_some (Or.inr ⟨_, rfl, S1, Or.inl rfl, ?_, hF⟩)
        rw [← hE]
        unfold stl
        rw [if_pos q]
        exact ⟨g1, g2, g3, g4⟩
      · have hk : k ≠ 40 := fun e => q (Or.inl (hf.2.2.2.2.1.mpr e))
        rw [if_neg (by omega), take_st g1]
        dsimp only
        unfold f_X1_add
        dsimp only [jn]
        have g2' : (upR S1 57 (stR st2)).1 (24 + 1) = stR rs1 := by
          rw [upR_ne _ _ (by decide)]
          exact g2
        rw [add_st g2' (by rw [show 24 + 1 + 1 = 26 by rfl, Ln26]; omega)]
        have hw := (c_cons k st2).1
        have g4' : (upR (upR S1 57 (stR st2)) (24 + 1) (stR (k :: rs1))).2 56 2 = (cW (k :: st2) : Int) := g4
        rw [g4', hw]
        have h3 := (LK_3 k hm).1
        have hc7 := hP1.2.1
        rw [hw] at hc7
        have hval : wr (((cW st2 + (if k = 40 ∨ k = 108 then 1 else 0) : Nat) : Int) - (if (rk k : Int) = 3 then 1 else 0)) = (cW st2 : Int) := by
          by_cases w : k = 108
          · rw [if_pos (by omega), if_pos (by have := h3.mpr w; omega), wr_id (by omega) (by omega)]; omega
          · rw [if_neg (by omega), if_neg (by omega), wr_id (by omega) (by omega)]; omega
        rw [hval, wr_id (z := (c : Int) + 1) (by omega) (by omega)]
        refine Ret_some (Or.inl ⟨_, rfl, ⟨c + 1, st2, k :: rs1, by simp, by omega, ⟨?_, ?_, ?_, ?_⟩, PI_pop hP1 hk, ?_, FrF_trans hF ⟨fun j a b => ?_, fun j i a b => ?_⟩⟩, ?_⟩)
        · show (upR (upR S1 57 (stR st2)) (24 + 1) (stR (k :: rs1))).1 57 = _
          rw [upR_ne _ _ (by decide), upR_at]
        · show (upR (upR S1 57 (stR st2)) (24 + 1) (stR (k :: rs1))).1 25 = _
          exact upR_at _ _ _
        · dsimp only
          rw [upS_ne (Or.inl (by decide))]
          exact g3
        · dsimp only
          rw [upS_same]
        · rw [← hE, show stl a (k :: st2) rs1 = if rk k = 0 ∨ rk k < a then (k :: st2, rs1) else stl a st2 (k :: rs1) from rfl, if_neg q]
        · show (upR (upR S1 57 (stR st2)) (24 + 1) (stR (k :: rs1))).1 j = _
          rw [upR_ne _ _ b, upR_ne _ _ a]
        · dsimp only
          rw [upS_ne (by omega)]
          rfl
        · show ((upR (upR S1 57 (stR st2)) (24 + 1) (stR (k :: rs1))).1 57).length < _
          rw [upR_ne _ _ (by decide), upR_at, stR_len, g1, stR_len, List.length_cons]
          omega
  · obtain ⟨S', hz, h⟩ := hz
    rcases hz with rfl | rfl
    · exact Ret_some h
    · exact Ret_some h
theorem rf_close {O : Smo} {st rs : List Nat} (a : Nat) (hP : PI U 1 st rs) (hR : RP O st rs U) : Ret (f_X12_close (a : Int) O) (fun O' => RP O' (stl a st rs).1 (stl a st rs).2 U ∧ FrG O O') := by
  have hlen := PI_len hP
  unfold f_X12_close
  refine Ret_bind (P := fun O' => RP O' (stl a st rs).1 (stl a st rs).2 U ∧ FrG O O') (Ret_lpm (fun s => ∃ (st1 rs1 : List Nat), RP s st1 rs1 U ∧ PI U 1 st1 rs1 ∧ stl a st1 rs1 = stl a st rs ∧ FrG O s) (fun s => (s 262 18).toNat) ⟨st, rs, hR, hP, rfl, FrO_refl _ _ O⟩ (by rw [hR.1]; omega) (fun O1 hs => ?_)) (fun z hz => Ret_some hz)
  obtain ⟨st1, rs1, hR1, hP1, hE, hF⟩ := hs
  obtain ⟨g1, g2, g3, g4, g5, g6, g7, g8⟩ := hR1
  dsimp only [jn] at *
  cases st1 with
  | nil =>
    rw [if_neg (by rw [g1]; decide)]
    refine Ret_some (Or.inr ⟨_, rfl, ?_, hF⟩)
    rw [← hE]
    exact ⟨g1, g2, g3, g4, g5, g6, g7, g8⟩
  | cons k st2 =>
    have hm := hP1.1 k List.mem_cons_self
    have hf := LK_f k hm
    have hlen1 := PI_len hP1
    rw [List.length_cons] at g1 hlen1
    have hi : wr (O1 262 18 - 1) = (st2.length : Int) := by rw [g1, wr_id (by omega) (by omega)]; omega
    rw [if_pos (c := 0 < O1 262 18) (by rw [g1]; omega), hi, Ln268, aget_nat (show st2.length < 160 by omega), g2.1]
    dsimp only [Option.bind_some]
    by_cases e : k = 40
    · rw [if_pos (hf.1.mpr e)]
      refine Ret_some (Or.inr ⟨_, rfl, ?_, hF⟩)
      rw [← hE, show stl a (k :: st2) rs1 = if rk k = 0 ∨ rk k < a then (k :: st2, rs1) else stl a st2 (k :: rs1) from rfl, if_pos (Or.inl (hf.2.2.2.2.1.mpr e))]
      exact ⟨by rw [List.length_cons]; exact g1, g2, g3, g4, g5, g6, g7, g8⟩
    · obtain ⟨t1, t2⟩ := hf.2.2.1 e
      rw [if_neg (fun w => e (hf.1.mp w)), t1]
      by_cases q : rk k < a
      · rw [if_pos (by omega)]
        refine Ret_some (Or.inr ⟨_, rfl, ?_, hF⟩)
        rw [← hE, show stl a (k :: st2) rs1 = if rk k = 0 ∨ rk k < a then (k :: st2, rs1) else stl a st2 (k :: rs1) from rfl, if_pos (Or.inr q)]
        exact ⟨by rw [List.length_cons]; exact g1, g2, g3, g4, g5, g6, g7, g8⟩
      · rw [if_neg (by omega)]
        have hE' : stl a st2 (k :: rs1) = stl a st rs := by
          rw [← hE, show stl a (k :: st2) rs1 = if rk k = 0 ∨ rk k < a then (k :: st2, rs1) else stl a st2 (k :: rs1) from rfl, if_neg (by omega)]
        have x18 : up2 O1 262 18 (st2.length : Int) 262 18 = (st2.length : Int) := up2_same _ _ _ _
        have x268 : up2 O1 262 18 (st2.length : Int) 268 = O1 268 := up2_row (by decide)
        have x16 : up2 O1 262 18 (st2.length : Int) 262 16 = (rs1.length : Int) := by rw [up2_ne (Or.inr (by decide)), g3]
        have hw := (c_cons k st2).1
        have hc7 := hP1.2.1
        rw [hw] at hc7 g8
        have hadd : ∀ x y : Int, ∃ O2, f_X12_add x y (up2 O1 262 18 (st2.length : Int)) = some O2 ∧ (x = dcA k → y = dcB k → RSt (O2 264) dcA (k :: rs1) ∧ RSt (O2 265) dcB (k :: rs1)) ∧ O2 262 16 = ((k :: rs1).length : Int) ∧ (∀ j, j ≠ 16 → O2 262 j = up2 O1 262 18 (st2.length : Int) 262 j) ∧ ∀ j, j ≠ 262 → j ≠ 264 → j ≠ 265 → O2 j = O1 j := fun x y => by
          unfold f_X12_add
          dsimp only [jn]
          rw [x16, Ln264, aset_nat (show rs1.length < 320 by omega)]
          dsimp only [Option.bind_some]
          rw [up2_ne (Or.inl (by decide)), x16, Ln265, aset_nat (show rs1.length < 320 by omega)]
          dsimp only [Option.bind_some]
          rw [up2_ne (Or.inl (by decide)), up2_ne (Or.inl (by decide)), x16, wr_id (by omega) (by omega)]
          refine ⟨_, rfl, fun hx hy => ⟨?_, ?_⟩, ?_, fun j hj => ?_, fun j a1 a2 a3 => ?_⟩
          · rw [up2_row (by decide), up2_row (by decide), up2_self]
            have := RSt_push (k := k) g4
            rw [← hx] at this
            rw [up2_row (show (264 : Nat) ≠ 262 by decide)]
            exact this
          · rw [up2_row (by decide), up2_self, up2_row (show (265 : Nat) ≠ 264 by decide)]
            have := RSt_push (k := k) g5
            rw [← hy] at this
            rw [up2_row (show (265 : Nat) ≠ 262 by decide)]
            exact this
          · rw [up2_same, List.length_cons]
            omega
          · rw [up2_ne (Or.inr hj), up2_ne (Or.inl (by decide)), up2_ne (Or.inl (by decide))]
          · rw [up2_row a1, up2_row a3, up2_row a2, up2_row a1]
        rw [x268, x18, aget_nat (show st2.length < 160 by omega), g2.1]
        dsimp only [Option.bind_some]
        by_cases w : k = 108
        · rw [if_pos (hf.2.1.mpr w)]
          obtain ⟨O2, e2, r1, r2, r3, r4⟩ := hadd 2 0
          obtain ⟨s1, s2⟩ := r1 (by rw [w]; rfl) (by rw [w]; rfl)
          rw [e2]
          dsimp only [Option.bind_some]
          have x22 : O2 262 22 = ((cW st2 + 1 : Nat) : Int) := by
            rw [r3 22 (by decide), up2_ne (Or.inr (by decide)), g8, if_pos (Or.inr w)]
          rw [x22, wr_id (by omega) (by omega)]
          refine Ret_some (Or.inl ⟨_, rfl, ⟨st2, k :: rs1, ⟨?_, ?_, ?_, ?_, ?_, ?_, ?_, ?_⟩, PI_pop hP1 e, hE', FrO_trans hF ⟨fun j a1 a2 => ?_, fun j a1 => ?_⟩⟩, ?_⟩)
          · rw [up2_ne (Or.inr (by decide)), r3 18 (by decide), x18]
          · rw [up2_row (by decide), r4 268 (by decide) (by decide) (by decide)]
            exact g2.2
          · rw [up2_ne (Or.inr (by decide)), r2]
          · rw [up2_row (by decide)]; exact s1
          · rw [up2_row (by decide)]; exact s2
          · rw [up2_ne (Or.inr (by decide)), r3 19 (by decide), up2_ne (Or.inr (by decide)), g6]
          · rw [up2_ne (Or.inr (by decide)), r3 21 (by decide), up2_ne (Or.inr (by decide)), g7]
          · rw [up2_same]
            omega
          · simp at a1
            rw [up2_row a2, r4 j a2 (by omega) (by omega)]
          · simp at a1
            rw [up2_ne (Or.inr (by omega)), r3 j (by omega), up2_ne (Or.inr (by omega))]
          · rw [up2_ne (Or.inr (by decide)), r3 18 (by decide), x18, g1]
            omega
        · rw [if_neg (fun x => w (hf.2.1.mp x))]
          obtain ⟨z1, z2⟩ := hf.2.2.2.2.2.2.1 e w
          obtain ⟨O2, e2, r1, r2, r3, r4⟩ := hadd 3 (rcS k)
          obtain ⟨s1, s2⟩ := r1 z1.symm z2.symm
          rw [e2]
          dsimp only [Option.bind_some]
          have x22 : O2 262 22 = (cW st2 : Int) := by
            rw [r3 22 (by decide), up2_ne (Or.inr (by decide)), g8, if_neg (by omega)]
            rfl
          refine Ret_some (Or.inl ⟨_, rfl, ⟨st2, k :: rs1, ⟨?_, ?_, ?_, s1, s2, ?_, ?_, x22⟩, PI_pop hP1 e, hE', FrO_trans hF ⟨fun j a1 a2 => ?_, fun j a1 => ?_⟩⟩, ?_⟩)
          · rw [r3 18 (by decide), x18]
          · rw [r4 268 (by decide) (by decide) (by decide)]
            exact g2.2
          · rw [r2]
          · rw [r3 19 (by decide), up2_ne (Or.inr (by decide)), g6]
          · rw [r3 21 (by decide), up2_ne (Or.inr (by decide)), g7]
          · simp at a1
            rw [r4 j a2 (by omega) (by omega)]
          · simp at a1
            rw [r3 j (by omega), up2_ne (Or.inr (by omega))]
          · rw [r3 18 (by decide), x18, g1]
            omega
theorem rf_hasBr {O : Smo} {st : List Nat} (hK : ∀ k ∈ st, k ∈ LK) (hl : st.length ≤ 100) (h1 : O 262 18 = (st.length : Int)) (h2 : RSt (O 268) rcS st) : f_X12_hasBracket O = some (if 40 ∈ st then 1 else 0) := by
  unfold f_X12_hasBracket
  refine Ret_eq (Ret_bind (P := fun r => r = if 40 ∈ st then (1 : Int) else 0) (Ret_lp (fun i q => q.2 = (i : Int) ∧ q.1 = if 40 ∈ st.reverse.take i then (1 : Int) else 0) st.length (by omega) ⟨rfl, rfl⟩ (fun i q hi hI => ?_) (fun q hI => ?_)) (fun r hr => Ret_some hr))
  · obtain ⟨z, i'⟩ := q
    obtain ⟨rfl, rfl⟩ := hI
    dsimp only at *
    have hir : i < st.reverse.length := by rw [List.length_reverse]; exact hi
    have hg : st.reverse[i]? = some (st.reverse[i]'hir) := List.getElem?_eq_getElem hir
    have hm : st.reverse[i]'hir ∈ LK := hK _ (List.mem_reverse.mp (List.getElem_mem hir))
    have hv := RSt_get h2 hg
    have hf := (LK_f _ hm).1
    have htk : st.reverse.take (i + 1) = st.reverse.take i ++ [st.reverse[i]'hir] := List.take_succ_eq_append_getElem hir
    rw [h1, if_pos (by omega), Ln268, aget_nat (show i < 160 by omega), hv, wr_id (by omega) (by omega)]
    dsimp only [Option.bind_some]
    have hmm : (40 ∈ st.reverse.take (i + 1)) ↔ (40 ∈ st.reverse.take i ∨ st.reverse[i]'hir = 40) := by
      rw [htk, List.mem_append, List.mem_singleton]
      exact ⟨fun w => w.imp id (fun e => e.symm), fun w => w.imp id (fun e => e.symm)⟩
    by_cases q : 40 ∈ st.reverse.take i
    · rw [if_pos q, if_neg (show ¬ (1 : Int) = 0 by decide)]
      exact Ret_some ⟨_, rfl, by simp, by rw [if_pos (hmm.mpr (Or.inl q))]⟩
    · rw [if_neg q, if_pos rfl]
      by_cases w : st.reverse[i]'hir = 40
      · rw [if_pos (hf.mpr w)]
        exact Ret_some ⟨_, rfl, by simp, by rw [if_pos (hmm.mpr (Or.inr w))]⟩
      · rw [if_neg (fun x => w (hf.mp x))]
        exact Ret_some ⟨_, rfl, by simp, by rw [if_neg (fun x => (hmm.mp x).elim q w)]⟩
  · obtain ⟨z, i'⟩ := q
    obtain ⟨rfl, rfl⟩ := hI
    dsimp only at *
    rw [h1, if_neg (by omega)]
    refine Ret_some ⟨_, rfl, ?_⟩
    rw [List.take_of_length_le (by rw [List.length_reverse]; omega)]
    simp
theorem rf_hasRel {O : Smo} {st : List Nat} (hK : ∀ k ∈ st, k ∈ LK) (hl : st.length ≤ 100) (h1 : O 262 18 = (st.length : Int)) (h2 : RSt (O 268) rcS st) : f_X12_hasRelation O = some (if hr4 st = true then 1 else 0) := by
  unfold f_X12_hasRelation
  dsimp only [jn]
  refine Ret_eq (Ret_bind (P := fun r => ∃ st1 : List Nat, r = (st1.length : Int) - 1 ∧ st1.length ≤ st.length ∧ (∀ k ∈ st1, k ∈ LK) ∧ RSt (O 268) rcS st1 ∧ hr4 st1 = hr4 st ∧ (∀ k st2, st1 = k :: st2 → k = 40 ∨ ¬ 4 < rk k)) (Ret_lpm (fun r => ∃ st1 : List Nat, r = (st1.length : Int) - 1 ∧ st1.length ≤ st.length ∧ (∀ k ∈ st1, k ∈ LK) ∧ RSt (O 268) rcS st1 ∧ hr4 st1 = hr4 st) (fun r => (r + 1).toNat) ⟨st, by rw [h1, wr_id (by omega) (by omega)], Nat.le_refl _, hK, h2, rfl⟩ (by rw [h1, wr_id (by omega) (by omega)]; omega) (fun r hr => ?_)) (fun r hr => ?_))
  · obtain ⟨st1, rfl, l1, k1, r1, e1⟩ := hr
    cases st1 with
    | nil =>
      rw [if_pos (by decide)]
      exact Ret_some (Or.inr ⟨_, rfl, [], rfl, Nat.zero_le _, k1, r1, e1, fun k st2 w => by cases w⟩)
    | cons k st2 =>
      have hf := LK_f k (k1 k List.mem_cons_self)
      rw [List.length_cons] at l1 ⊢
      rw [show ((st2.length + 1 : Nat) : Int) - 1 = (st2.length : Int) by omega, if_neg (by omega), Ln268, aget_nat (show st2.length < 160 by omega), r1.1]
      dsimp only [Option.bind_some]
      by_cases e : k = 40
      · rw [if_pos (hf.1.mpr e)]
        exact Ret_some (Or.inr ⟨_, rfl, k :: st2, by rw [List.length_cons]; omega, by rw [List.length_cons]; exact l1, k1, r1, e1, fun k' st2' w => by cases w; exact Or.inl e⟩)
      · rw [if_neg (fun w => e (hf.1.mp w)), (hf.2.2.1 e).1]
        by_cases q : 4 < rk k
        · rw [if_pos (by omega), wr_id (by omega) (by omega)]
          refine Ret_some (Or.inl ⟨_, rfl, ⟨st2, by omega, by omega, fun x hx => k1 x (List.mem_cons_of_mem _ hx), r1.2, ?_⟩, by omega⟩)
          rw [← e1, show hr4 (k :: st2) = if k = 40 then false else if 4 < rk k then hr4 st2 else rk k == 4 from rfl, if_neg e, if_pos q]
        · rw [if_neg (by omega)]
          exact Ret_some (Or.inr ⟨_, rfl, k :: st2, by rw [List.length_cons]; omega, by rw [List.length_cons]; exact l1, k1, r1, e1, fun k' st2' w => by cases w; exact Or.inr q⟩)
  · obtain ⟨st1, rfl, l1, k1, r1, e1, n1⟩ := hr
    dsimp only [jk]
    rw [← e1]
    cases st1 with
    | nil =>
      rw [if_pos (by decide)]
      exact Ret_some rfl
    | cons k st2 =>
      have hf := LK_f k (k1 k List.mem_cons_self)
      rw [List.length_cons] at l1 ⊢
      rw [show ((st2.length + 1 : Nat) : Int) - 1 = (st2.length : Int) by omega, if_neg (by omega), Ln268, aget_nat (show st2.length < 160 by omega), r1.1]
      dsimp only [Option.bind_some]
      rw [show hr4 (k :: st2) = if k = 40 then false else if 4 < rk k then hr4 st2 else rk k == 4 from rfl]
      by_cases e : k = 40
      · rw [if_pos (hf.1.mpr e), if_pos e]
        exact Ret_some rfl
      · rw [if_neg (fun w => e (hf.1.mp w)), (hf.2.2.1 e).1, if_neg e, if_neg ((n1 k st2 rfl).resolve_left e)]
        by_cases q : rk k = 4
        · rw [if_pos (by omega), q]
          exact Ret_some rfl
        · rw [if_neg (by omega), if_neg (by simpa using q)]
          exact Ret_some rfl
def mnB : List Nat → Bool
  | [] => true
  | k :: _ => decide (k = 40) || decide (rk k < 4)
theorem rf_mayNot {O : Smo} {st : List Nat} (hK : ∀ k ∈ st, k ∈ LK) (hl : st.length ≤ 100) (h1 : O 262 18 = (st.length : Int)) (h2 : RSt (O 268) rcS st) : f_X12_mayNot O = some (if mnB st = true then 1 else 0) := by
  unfold f_X12_mayNot
  dsimp only [jk]
  cases st with
  | nil => rw [if_pos (by rw [h1]; rfl)]; rfl
  | cons k st2 =>
    have hf := LK_f k (hK k List.mem_cons_self)
    rw [List.length_cons] at h1 hl
    have hi : wr (O 262 18 - 1) = (st2.length : Int) := by rw [h1, wr_id (by omega) (by omega)]; omega
    rw [if_neg (c := O 262 18 = 0) (by rw [h1]; omega), hi, Ln268, aget_nat (show st2.length < 160 by omega), h2.1]
    dsimp only [Option.bind_some]
    by_cases e : k = 40
    · rw [if_pos (hf.1.mpr e), if_pos (by unfold mnB; simp [e])]
    · rw [if_neg (fun w => e (hf.1.mp w)), (hf.2.2.1 e).1]
      by_cases q : rk k < 4
      · rw [if_pos (by omega), if_pos (by unfold mnB; simp [q])]
      · rw [if_neg (by omega), if_neg (by unfold mnB; simp [q, e])]
end SET
