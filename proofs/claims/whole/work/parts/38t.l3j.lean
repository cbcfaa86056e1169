/-! LEVEL 3, j: the reference lays the tree -/
/-- what the reference's tree holds of a row -/
def rfTree (O : Smo) (w : Nat → Int) (r : List Nat) : Prop := O 262 58 = (r.length : Int) ∧ (∀ (i k : Nat), r[i]? = some k → O 283 i = (k : Int)) ∧ (∀ y ∈ r, O 284 y = tL w r y ∧ O 285 y = tR w r y) ∧ O 262 59 = tRoot w r ∧
  (∀ (i k : Nat), (pre8 (tL w r) (tR w r) (tRoot w r))[i]? = some k → O 289 i = (k : Int)) ∧ (∀ (i k : Nat), (post8 (tL w r) (tR w r) (tRoot w r))[i]? = some k → O 288 i = (k : Int)) ∧
  (∀ y ∈ r, O 290 y = (hgt8 (tL w r) (tR w r) (y : Int) : Int)) ∧ (∀ p ∈ r, ∀ y : Nat, (tL w r p = (y : Int) ∨ tR w r p = (y : Int)) → O 286 y = (p : Int)) ∧ ∀ y : Nat, tRoot w r = (y : Int) → O 286 y = -1
theorem great_num {a b : Nat} (ha : a ≤ 8) (hb : b ≤ 8) : wr (1 + f_X12_greater (a : Int) (b : Int)) = ((1 + max a b : Nat) : Int) := by
  unfold f_X12_greater
  have : 1 + (if (b : Int) < (a : Int) then (a : Int) else (b : Int)) = ((1 + max a b : Nat) : Int) := by
    split <;> omega
  rw [this, wr_id (by omega) (by omega)]
theorem par_num {u v : Int} (hu : u = -1 ∨ ∃ y : Nat, u = (y : Int)) (hv : v = -1 ∨ ∃ y : Nat, v = (y : Int)) (A : Nat → Int) (s : Nat) (x : Int) (y : Nat) :
    (if v < 0 then (if u < 0 then updI A s (-1) else updI (updI A s (-1)) u.toNat x) else updI (if u < 0 then updI A s (-1) else updI (updI A s (-1)) u.toNat x) v.toNat x) y = if u = (y : Int) ∨ v = (y : Int) then x else if y = s then -1 else A y := by
  have h1 : ((-1 : Int) < 0) := by decide
  have h2 : ∀ a : Nat, ¬ ((a : Int) < 0) := fun a => by omega
  rcases hu with rfl | ⟨a, rfl⟩ <;> rcases hv with rfl | ⟨b, rfl⟩
  · rw [if_pos h1, if_pos h1]
    unfold updI
    (repeat' split) <;> first | rfl | omega
  · rw [if_neg (h2 b), if_pos h1, Int.toNat_natCast]
    unfold updI
    (repeat' split) <;> first | rfl | omega
  · rw [if_pos h1, if_neg (h2 a), Int.toNat_natCast]
    unfold updI
    (repeat' split) <;> first | rfl | omega
  · rw [if_neg (h2 b), if_neg (h2 a), Int.toNat_natCast, Int.toNat_natCast]
    unfold updI
    (repeat' split) <;> first | rfl | omega
theorem rf_orders {O : Smo} {L R : Nat → Int} {t : Int} {r : List Nat} (h58 : O 262 58 = (r.length : Int)) (h59 : O 262 59 = t) (hLR : ∀ y ∈ r, O 284 y = L y ∧ O 285 y = R y) (hT : TT L R t r) (hl : r.length ≤ 8) (hr : ∀ y ∈ r, y < 8) (hnd : r.Nodup) :
    Ret (f_X12_layOrders O) (fun O' => FrO [286, 287, 288, 289, 290] [] O O' ∧ (∀ (i k : Nat), (pre8 L R t)[i]? = some k → O' 289 i = (k : Int)) ∧ (∀ (i k : Nat), (post8 L R t)[i]? = some k → O' 288 i = (k : Int)) ∧
      (∀ y ∈ r, O' 290 y = (hgt8 L R (y : Int) : Int)) ∧ (∀ p ∈ r, ∀ y : Nat, (L p = (y : Int) ∨ R p = (y : Int)) → O' 286 y = (p : Int)) ∧ ∀ y : Nat, t = (y : Int) → O' 286 y = -1) := by
  have hpre := (pre8_perm _ _ _ (Nat.le_refl _) hl hT).length_eq
  have hTs := TT_swap _ _ _ (Nat.le_refl _) hT
  have hls : r.reverse.length ≤ 8 := by simpa using hl
  have hrs : ∀ y ∈ r.reverse, y < 8 := fun y hy => hr y (by simpa using hy)
  have hpost := post8_perm hl hT
  have hpr2 : (pre8 R L t).length = r.length := by have := hpost.length_eq; simpa [post8] using this
  have ht2 : t = -1 ∨ ∃ s : Nat, t = (s : Int) := by
    rcases TT_t hT with h | ⟨s, h, _⟩
    · exact Or.inl h
    · exact Or.inr ⟨s, h⟩
  have ok0 : okS L R (pushS t []) := okS_push hT hl hr (fun y hy => by cases hy)
  have ok0' : okS R L (pushS t []) := okS_push hTs hls hrs (fun y hy => by cases hy)
  have ou0 : outS L R (pushS t []) = pre8 L R t := by rw [outS_push hT]; simp [outS]
  have ou0' : outS R L (pushS t []) = pre8 R L t := by rw [outS_push hTs]; simp [outS]
  have lenp : (pushS t []).length ≤ 16 := by
    have := outS_len _ ok0
    rw [ou0] at this
    omega
  have inr : ∀ {L' R' : Nat → Int} {st don : List Nat}, okS L' R' st → don ++ outS L' R' st = pre8 L' R' t → (∀ y ∈ pre8 L' R' t, y ∈ r) → ∀ s ∈ st, s ∈ r := fun {L' R' st don} hok ho hm s hs => by
    refine hm s ?_
    rw [← ho]
    refine List.mem_append_right _ ?_
    unfold outS
    refine List.mem_flatMap.mpr ⟨s, hs, ?_⟩
    obtain ⟨_, rs, t1, t2, _⟩ := hok s hs
    obtain ⟨a, b, e, t4, t5⟩ := TT_inv_nat t1
    have hle : rs.length = a.length + b.length + 1 := by rw [e]; simp; omega
    rw [(pre8_node t4 t5 (by omega)).1]
    simp
  have m1 : ∀ y ∈ pre8 L R t, y ∈ r := fun y hy => (pre8_perm _ _ _ (Nat.le_refl _) hl hT).mem_iff.mp hy
  have m2 : ∀ y ∈ pre8 R L t, y ∈ r := fun y hy => by
    have := (pre8_perm _ _ _ (Nat.le_refl _) hls hTs).mem_iff.mp hy
    simpa using this
  unfold f_X12_layOrders
  rw [h59]
  obtain ⟨O1, e1, st1, f1⟩ := pop_up (O := O) (q := 287) (st := []) (t := t) Ln287 rfl (fun i y hy => by simp at hy) ht2 lenp rfl rfl
  refine Ret_bind (Ret_of e1 (Q := fun q => q = (((pushS t []).length : Int), O1)) rfl) (fun q hq => ?_)
  subst hq
  dsimp only
  -- the first way
  refine Ret_bind (P := fun O2 => FrO [286, 287, 288, 289, 290] [] O O2 ∧ ∀ (i k : Nat), (pre8 L R t)[i]? = some k → O2 289 i = (k : Int)) (Ret_lp (fun c q => ∃ don stk, don.length = c ∧ q.1 = (stk.length : Int) ∧ q.2.1 = (c : Int) ∧ FrO [286, 287, 288, 289, 290] [] O q.2.2 ∧ stO (q.2.2 287) stk ∧ (∀ (i k : Nat), don[i]? = some k → q.2.2 289 i = (k : Int)) ∧ okS L R stk ∧ don ++ outS L R stk = pre8 L R t) (pre8 L R t).length (by omega) ⟨[], pushS t [], rfl, rfl, rfl, FrO_mono f1 (by simp) (by simp), st1, fun i k h => by simp at h, ok0, by rw [ou0]; rfl⟩ (fun c q hc hI => ?_) (fun q hI => ?_)) (fun O2 h2 => ?_)
  · obtain ⟨z, many, O2⟩ := q
    obtain ⟨don, stk, hdl, rfl, rfl, hfr, hst, h289, hok, hout⟩ := hI
    dsimp only at *
    have hlen := congrArg List.length hout
    rw [List.length_append] at hlen
    cases stk with
    | nil =>
      have : (outS L R ([] : List Nat)).length = 0 := rfl
      omega
    | cons s stk =>
      have hsr : s ∈ r := inr hok hout m1 s (by simp)
      obtain ⟨q1, q2, q3⟩ := outS_step hok
      have hol := outS_len _ q3
      have hol2 := outS_len _ q2
      rw [q1, List.length_cons] at hlen
      have hs8 := (hok s (by simp)).1
      obtain ⟨_, rs, t1, t2, t3⟩ := hok s (by simp)
      obtain ⟨a, b, te, t4, t5⟩ := TT_inv_nat t1
      have htL : L s = -1 ∨ ∃ s' : Nat, L s = (s' : Int) := by
        rcases TT_t t4 with h | ⟨s', h, _⟩
        · exact Or.inl h
        · exact Or.inr ⟨s', h⟩
      have htR : R s = -1 ∨ ∃ s' : Nat, R s = (s' : Int) := by
        rcases TT_t t5 with h | ⟨s', h, _⟩
        · exact Or.inl h
        · exact Or.inr ⟨s', h⟩
      have hpR : (pushS (R s) stk).length ≤ (pushS (L s) (pushS (R s) stk)).length := by
        generalize pushS (R s) stk = st1
        unfold pushS
        split <;> simp
      have hstk : stk.length ≤ (pushS (R s) stk).length := by
        unfold pushS
        split <;> simp
      obtain ⟨ht, hst'⟩ := stO_top hst
      rw [List.length_cons, if_pos (by omega), wr_id (by omega) (by omega), show ((stk.length + 1 : Nat) : Int) + -1 = (stk.length : Int) by omega, Ln287, aget_nat (show stk.length < 16 by omega), ht]
      dsimp only [Option.bind_some]
      rw [Ln289, aset_nat (show c < 8 by omega)]
      dsimp only [Option.bind_some]
      have e285 : up2 O2 289 c (s : Int) 285 s = R s := by
        rw [up2_ne (Or.inl (by decide)), hfr.1 285 (by simp) (by decide)]
        exact (hLR s hsr).2
      rw [Ln285, aget_nat hs8, e285]
      dsimp only [Option.bind_some]
      have sk : stO (up2 O2 289 c (s : Int) 287) stk := by rw [up2_row (by decide)]; exact hst'
      obtain ⟨O3, g1, g2, g3⟩ := pop_up (O := up2 O2 289 c (s : Int)) (q := 287) (t := R s) Ln287 rfl sk htR (by omega) rfl rfl
      rw [g1]
      dsimp only [Option.bind_some]
      have e284 : O3 284 s = L s := by
        rw [g3.1 284 (by simp) (by decide), up2_ne (Or.inl (by decide)), hfr.1 284 (by simp) (by decide)]
        exact (hLR s hsr).1
      rw [Ln284, aget_nat hs8, e284]
      dsimp only [Option.bind_some]
      obtain ⟨O4, g4, g5, g6⟩ := pop_up (O := O3) (q := 287) (t := L s) Ln287 rfl g2 htL (by omega) rfl rfl
      rw [g4]
      dsimp only [Option.bind_some]
      rw [wr_id (by omega) (by omega)]
      refine Ret_some ⟨_, rfl, don ++ [s], pushS (L s) (pushS (R s) stk), by simp [hdl], rfl, by simp, ?_, g5, ?_, q3, ?_⟩
      · exact FrO_trans (FrO_arr hfr (by simp) (by decide)) (FrO_trans (FrO_mono g3 (by simp) (by simp)) (FrO_mono g6 (by simp) (by simp)))
      · intro i k hi
        dsimp only
        rw [g6.1 289 (by simp) (by decide), g3.1 289 (by simp) (by decide)]
        by_cases e : i = c
        · subst e
          rw [up2_same]
          rw [← hdl] at hi
          simp at hi
          omega
        · rw [up2_ne (Or.inr e)]
          refine h289 i k ?_
          have := (List.getElem?_eq_some_iff.mp hi).1
          simp at this
          rwa [List.getElem?_append_left (by omega)] at hi
      · rw [← hout, q1]; simp
  · obtain ⟨z, many, O2⟩ := q
    obtain ⟨don, stk, hdl, rfl, rfl, hfr, hst, h289, hok, hout⟩ := hI
    dsimp only at *
    have hlen := congrArg List.length hout
    rw [List.length_append] at hlen
    have hol := outS_len _ hok
    have hs0 : stk = [] := List.eq_nil_of_length_eq_zero (by omega)
    subst hs0
    rw [if_neg (by simp)]
    refine Ret_some ⟨_, rfl, hfr, ?_⟩
    rw [← hout]
    simpa [outS] using h289
  · obtain ⟨f2, h289⟩ := h2
    rw [f2.2 59 (by simp), h59]
    obtain ⟨O3, e3, st3, f3⟩ := pop_up (O := O2) (q := 287) (st := []) (t := t) Ln287 rfl (fun i y hy => by simp at hy) ht2 lenp rfl rfl
    refine Ret_bind (Ret_of e3 (Q := fun q => q = (((pushS t []).length : Int), O3)) rfl) (fun q hq => ?_)
    subst hq
    dsimp only [jn]
    have f03 : FrO [286, 287, 288, 289, 290] [] O O3 := FrO_trans f2 (FrO_mono f3 (by simp) (by simp))
    have h289' : ∀ (i k : Nat), (pre8 L R t)[i]? = some k → O3 289 i = (k : Int) := fun i k h => by rw [f3.1 289 (by simp) (by decide)]; exact h289 i k h
    have h58' : O3 262 58 = (r.length : Int) := by rw [f03.2 58 (by simp), h58]
    rw [h58']
    refine Ret_bind (P := fun O4 => FrO [286, 287, 288, 290] [] O3 O4 ∧ ∀ (i k : Nat), (pre8 R L t)[i]? = some k → O4 288 (r.length - 1 - i) = (k : Int)) (Ret_lp (fun c q => ∃ don stk, don.length = c ∧ q.1 = (stk.length : Int) ∧ q.2.1 = (r.length : Int) - c ∧ FrO [286, 287, 288, 290] [] O3 q.2.2 ∧ stO (q.2.2 287) stk ∧ (∀ (i k : Nat), don[i]? = some k → q.2.2 288 (r.length - 1 - i) = (k : Int)) ∧ okS R L stk ∧ don ++ outS R L stk = pre8 R L t) (pre8 R L t).length (by omega) ⟨[], pushS t [], rfl, rfl, by simp, FrO_refl _ _ _, st3, fun i k h => by simp at h, ok0', by rw [ou0']; rfl⟩ (fun c q hc hI => ?_) (fun q hI => ?_)) (fun O4 h4 => ?_)
    · obtain ⟨z, many, O2⟩ := q
      obtain ⟨don, stk, hdl, rfl, rfl, hfr, hst, h288, hok, hout⟩ := hI
      dsimp only at *
      have hlen := congrArg List.length hout
      rw [List.length_append] at hlen
      cases stk with
      | nil =>
        have : (outS R L ([] : List Nat)).length = 0 := rfl
        omega
      | cons s stk =>
        have hsr : s ∈ r := inr hok hout m2 s (by simp)
        obtain ⟨q1, q2, q3⟩ := outS_step hok
        have hol := outS_len _ q3
        have hol2 := outS_len _ q2
        rw [q1, List.length_cons] at hlen
        have hs8 := (hok s (by simp)).1
        obtain ⟨_, rs, t1, t2, t3⟩ := hok s (by simp)
        obtain ⟨a, b, te, t4, t5⟩ := TT_inv_nat t1
        have htR : R s = -1 ∨ ∃ s' : Nat, R s = (s' : Int) := by
          rcases TT_t t4 with h | ⟨s', h, _⟩
          · exact Or.inl h
          · exact Or.inr ⟨s', h⟩
        have htL : L s = -1 ∨ ∃ s' : Nat, L s = (s' : Int) := by
          rcases TT_t t5 with h | ⟨s', h, _⟩
          · exact Or.inl h
          · exact Or.inr ⟨s', h⟩
        have hpR : (pushS (L s) stk).length ≤ (pushS (R s) (pushS (L s) stk)).length := by
          generalize pushS (L s) stk = st1
          unfold pushS
          split <;> simp
        have hstk : stk.length ≤ (pushS (L s) stk).length := by
          unfold pushS
          split <;> simp
        obtain ⟨ht, hst'⟩ := stO_top hst
        rw [List.length_cons, if_pos (by omega), wr_id (z := ((stk.length + 1 : Nat) : Int) + -1) (by omega) (by omega), show ((stk.length + 1 : Nat) : Int) + -1 = (stk.length : Int) by omega, Ln287, aget_nat (show stk.length < 16 by omega), ht]
        dsimp only [Option.bind_some]
        rw [wr_id (z := (r.length : Int) - c + -1) (by omega) (by omega), show (r.length : Int) - c + -1 = ((r.length - 1 - c : Nat) : Int) by omega, Ln288, aset_nat (show r.length - 1 - c < 8 by omega)]
        dsimp only [Option.bind_some]
        have hfr0 := FrO_trans f03 (FrO_mono hfr (ks' := [286, 287, 288, 289, 290]) (js' := []) (by simp) (by simp))
        have e284 : up2 O2 288 (r.length - 1 - c) (s : Int) 284 s = L s := by
          rw [up2_ne (Or.inl (by decide)), hfr0.1 284 (by simp) (by decide)]
          exact (hLR s hsr).1
        rw [Ln284, aget_nat hs8, e284]
        dsimp only [Option.bind_some]
        have sk : stO (up2 O2 288 (r.length - 1 - c) (s : Int) 287) stk := by rw [up2_row (by decide)]; exact hst'
        obtain ⟨O5, g1, g2, g3⟩ := pop_up (O := up2 O2 288 (r.length - 1 - c) (s : Int)) (q := 287) (t := L s) Ln287 rfl sk htL (by omega) rfl rfl
        rw [g1]
        dsimp only [Option.bind_some]
        have e285 : O5 285 s = R s := by
          rw [g3.1 285 (by simp) (by decide), up2_ne (Or.inl (by decide)), hfr0.1 285 (by simp) (by decide)]
          exact (hLR s hsr).2
        rw [Ln285, aget_nat hs8, e285]
        dsimp only [Option.bind_some]
        obtain ⟨O6, g4, g5, g6⟩ := pop_up (O := O5) (q := 287) (t := R s) Ln287 rfl g2 htR (by omega) rfl rfl
        rw [g4]
        dsimp only [Option.bind_some]
        refine Ret_some ⟨_, rfl, don ++ [s], pushS (R s) (pushS (L s) stk), by simp [hdl], rfl, by dsimp only; omega, ?_, g5, ?_, q3, ?_⟩
        · exact FrO_trans (FrO_arr hfr (by simp) (by decide)) (FrO_trans (FrO_mono g3 (by simp) (by simp)) (FrO_mono g6 (by simp) (by simp)))
        · intro i k hi
          dsimp only
          rw [g6.1 288 (by simp) (by decide), g3.1 288 (by simp) (by decide)]
          have hil := (List.getElem?_eq_some_iff.mp hi).1
          simp at hil
          by_cases e : i = c
          · subst e
            rw [up2_same]
            rw [← hdl] at hi
            simp at hi
            omega
          · rw [up2_ne (Or.inr (by omega))]
            refine h288 i k ?_
            rwa [List.getElem?_append_left (by omega)] at hi
        · rw [← hout, q1]; simp
    · obtain ⟨z, many, O2⟩ := q
      obtain ⟨don, stk, hdl, rfl, rfl, hfr, hst, h288, hok, hout⟩ := hI
      dsimp only at *
      have hlen := congrArg List.length hout
      rw [List.length_append] at hlen
      have hol := outS_len _ hok
      have hs0 : stk = [] := List.eq_nil_of_length_eq_zero (by omega)
      subst hs0
      rw [if_neg (by simp)]
      refine Ret_some ⟨_, rfl, hfr, ?_⟩
      rw [← hout]
      simpa [outS] using h288
    · obtain ⟨f4, h288⟩ := h4
      have h288' : ∀ (i k : Nat), (post8 L R t)[i]? = some k → O4 288 i = (k : Int) := fun i k hi => by
        have hil := (List.getElem?_eq_some_iff.mp hi).1
        have hpl := hpost.length_eq
        unfold post8 at hi
        rw [List.getElem?_reverse (by omega)] at hi
        have := h288 _ k hi
        rw [show r.length - 1 - ((pre8 R L t).length - 1 - i) = i by omega] at this
        exact this
      have f04 : FrO [286, 287, 288, 289, 290] [] O O4 := FrO_trans f03 (FrO_mono f4 (by simp) (by simp))
      have h289'' : ∀ (i k : Nat), (pre8 L R t)[i]? = some k → O4 289 i = (k : Int) := fun i k h => by rw [f4.1 289 (by simp) (by decide)]; exact h289' i k h
      have hpl := hpost.length_eq
      have hpn : (post8 L R t).Nodup := hpost.nodup_iff.mpr hnd
      refine Ret_bind (P := fun O5 => FrO [286, 290] [] O4 O5 ∧ (∀ y ∈ r, O5 290 y = (hgt8 L R (y : Int) : Int)) ∧ (∀ p ∈ r, ∀ y : Nat, (L p = (y : Int) ∨ R p = (y : Int)) → O5 286 y = (p : Int)) ∧ ∀ y : Nat, t = (y : Int) → O5 286 y = -1) (Ret_lp (fun c q => q.1 = (c : Int) ∧ FrO [286, 290] [] O4 q.2 ∧ (∀ (j s : Nat), j < c → (post8 L R t)[j]? = some s → q.2 290 s = (hgt8 L R (s : Int) : Int)) ∧ (∀ (j p : Nat), j < c → (post8 L R t)[j]? = some p → ∀ y : Nat, (L p = (y : Int) ∨ R p = (y : Int)) → q.2 286 y = (p : Int)) ∧ ∀ (j s : Nat), j < c → (post8 L R t)[j]? = some s → t = (s : Int) → q.2 286 s = -1) r.length (by omega) ⟨rfl, FrO_refl _ _ _, fun j s hj => by omega, fun j s hj => by omega, fun j s hj => by omega⟩ (fun c q hc hI => ?_) (fun q hI => ?_)) (fun O5 h5 => ?_)
      · obtain ⟨z, O5⟩ := q
        obtain ⟨rfl, hfr, hH, hP, hR⟩ := hI
        dsimp only at *
        obtain ⟨s, hs⟩ : ∃ s, (post8 L R t)[c]? = some s := ⟨(post8 L R t)[c]'(by omega), by simp [show c < (post8 L R t).length by omega]⟩
        have hsr : s ∈ r := hpost.mem_iff.mp (List.mem_of_getElem? hs)
        have hs8 := hr s hsr
        have hfr0 := FrO_trans f04 (FrO_mono hfr (ks' := [286, 287, 288, 289, 290]) (js' := []) (by simp) (by simp))
        have e58 : O5 262 58 = (r.length : Int) := by rw [hfr0.2 58 (by simp), h58]
        have e288 : O5 288 c = (s : Int) := by rw [hfr.1 288 (by simp) (by decide)]; exact h288' c s hs
        rw [if_pos (by rw [e58]; omega), Ln288, aget_nat (show c < 8 by omega), e288]
        dsimp only [Option.bind_some]
        rw [Ln286, aset_nat hs8]
        dsimp only [Option.bind_some]
        have e284 : ∀ M : Smo, (∀ k, k ≠ 286 → k ≠ 290 → M k = O5 k) → M 284 s = L s := fun M hM => by rw [hM 284 (by decide) (by decide), hfr0.1 284 (by simp) (by decide)]; exact (hLR s hsr).1
        have e285 : ∀ M : Smo, (∀ k, k ≠ 286 → k ≠ 290 → M k = O5 k) → M 285 s = R s := fun M hM => by rw [hM 285 (by decide) (by decide), hfr0.1 285 (by simp) (by decide)]; exact (hLR s hsr).2
        have hO6 : ∀ k, k ≠ 286 → k ≠ 290 → up2 O5 286 s (-1) k = O5 k := fun k h1 _ => up2_row h1
        have hf6 : FrO [286, 290] [] O4 (up2 O5 286 s (-1)) := FrO_arr hfr (by simp) (by decide)
        have v290 : up2 O5 286 s (-1) 290 = O5 290 := up2_row (by decide)
        have v286 : up2 O5 286 s (-1) 286 = updI (O5 286) s (-1) := upd_up2
        generalize up2 O5 286 s (-1) = O6 at *
        obtain ⟨ry, ty, tl, _⟩ := TT_sub _ _ _ (Nat.le_refl _) hT s hsr
        have hnode := hgt8_node ty (by omega)
        obtain ⟨pL, pR⟩ := postC_at _ [] c s (post8_C _ _ _ [] (Nat.le_refl _) hl hT) hs
        have hval : ∀ u : Int, (u = -1 ∨ ∃ y : Nat, u = (y : Int) ∧ y ∈ [] ++ (post8 L R t).take c) → f_X12_highBy u O6 = some (hgt8 L R u : Int) := fun u hu => by
          unfold f_X12_highBy
          rcases hu with rfl | ⟨y, rfl, hy⟩
          · rw [if_pos (by decide), (pre8_nil L R).2]; rfl
          · rw [List.nil_append] at hy
            obtain ⟨j, hj, hjy⟩ := take_mem hy
            have hy8 := hr y (hpost.mem_iff.mp (List.mem_of_getElem? hjy))
            rw [if_neg (by omega), Ln290, aget_nat hy8, v290, hH j y hj hjy]
            rfl
        rw [Ln284, aget_nat hs8, e284 O6 hO6]
        dsimp only [Option.bind_some]
        rw [hval _ pL]
        dsimp only [Option.bind_some]
        rw [Ln285, aget_nat hs8, e285 O6 hO6]
        dsimp only [Option.bind_some]
        rw [hval _ pR]
        dsimp only [Option.bind_some]
        have hb1 := hgt8_le L R (L s)
        have hb2 := hgt8_le L R (R s)
        have hg : wr (1 + f_X12_greater (hgt8 L R (L s) : Int) (hgt8 L R (R s) : Int)) = (hgt8 L R (s : Int) : Int) := by
          rw [hnode]
          exact great_num hb1 hb2
        rw [hg, Ln290, aset_nat hs8]
        dsimp only [Option.bind_some]
        have hO7 : ∀ k, k ≠ 286 → k ≠ 290 → up2 O6 290 s (hgt8 L R (s : Int) : Int) k = O5 k := fun k h1 h2 => by rw [up2_row h2]; exact hO6 k h1 h2
        have hf7 : FrO [286, 290] [] O4 (up2 O6 290 s (hgt8 L R (s : Int) : Int)) := FrO_arr hf6 (by simp) (by decide)
        have w290 : up2 O6 290 s (hgt8 L R (s : Int) : Int) 290 = updI (O5 290) s (hgt8 L R (s : Int) : Int) := by rw [upd_up2, v290]
        have w286 : up2 O6 290 s (hgt8 L R (s : Int) : Int) 286 = updI (O5 286) s (-1) := by rw [up2_row (by decide), v286]
        generalize up2 O6 290 s (hgt8 L R (s : Int) : Int) = O7 at *
        rw [aget_nat hs8, e284 O7 hO7]
        dsimp only [Option.bind_some]
        have par : ∀ (u : Int) (M : Smo) (A : Nat → Int) (G : Nat → Int), (∀ M' : Smo, (∀ k, k ≠ 286 → k ≠ 290 → M' k = O5 k) → True) → (u = -1 ∨ ∃ y : Nat, u = (y : Int) ∧ y < 8) → (∀ k, k ≠ 286 → k ≠ 290 → M k = O5 k) → FrO [286, 290] [] O4 M → M 290 = A → M 286 = G →
            ∃ M', (if u < 0 then some M else Option.bind (asetO M 286 8 u (s : Int)) fun O' => some O') = some M' ∧ (∀ k, k ≠ 286 → k ≠ 290 → M' k = O5 k) ∧ FrO [286, 290] [] O4 M' ∧ M' 290 = A ∧ M' 286 = (if u < 0 then G else updI G u.toNat (s : Int)) := fun u M A G _ hu h1 h2 h3 h4 => by
          rcases hu with rfl | ⟨y, rfl, hy⟩
          · exact ⟨M, by rw [if_pos (by decide)], h1, h2, h3, by rw [if_pos (by decide)]; exact h4⟩
          · refine ⟨up2 M 286 y (s : Int), ?_, fun k k1 k2 => by rw [up2_row k1]; exact h1 k k1 k2, FrO_arr h2 (by simp) (by decide), by rw [up2_row (by decide)]; exact h3, ?_⟩
            · rw [if_neg (by omega), aset_nat hy]
              rfl
            · rw [if_neg (by omega), upd_up2, h4, Int.toNat_natCast]
        have lt8 : ∀ u : Int, (u = -1 ∨ ∃ y : Nat, u = (y : Int) ∧ y ∈ [] ++ (post8 L R t).take c) → u = -1 ∨ ∃ y : Nat, u = (y : Int) ∧ y < 8 := fun u hu => by
          rcases hu with h | ⟨y, h, hy⟩
          · exact Or.inl h
          · rw [List.nil_append] at hy
            obtain ⟨j, hj, hjy⟩ := take_mem hy
            exact Or.inr ⟨y, h, hr y (hpost.mem_iff.mp (List.mem_of_getElem? hjy))⟩
        obtain ⟨O8, p1, p2, p3, p4, p5⟩ := par (L s) O7 _ _ (fun _ _ => trivial) (lt8 _ pL) hO7 hf7 w290 w286
        rw [p1]
        dsimp only [Option.bind_some]
        rw [aget_nat hs8, e285 O8 p2]
        dsimp only [Option.bind_some]
        obtain ⟨O9, p6, p7, p8, p9, p10⟩ := par (R s) O8 _ _ (fun _ _ => trivial) (lt8 _ pR) p2 p3 p4 p5
        rw [p6]
        dsimp only [Option.bind_some]
        rw [wr_id (by omega) (by omega)]
        have uniq := TT_par _ _ _ (Nat.le_refl _) hnd hT
        have v9 : ∀ y : Nat, O9 286 y = if L s = (y : Int) ∨ R s = (y : Int) then (s : Int) else if y = s then -1 else O5 286 y := fun y => by
          rw [p10]
          have hL : L s = -1 ∨ ∃ y : Nat, L s = (y : Int) := by
            rcases pL with h | ⟨y, h, _⟩
            · exact Or.inl h
            · exact Or.inr ⟨y, h⟩
          have hR : R s = -1 ∨ ∃ y : Nat, R s = (y : Int) := by
            rcases pR with h | ⟨y, h, _⟩
            · exact Or.inl h
            · exact Or.inr ⟨y, h⟩
          exact par_num hL hR (O5 286) s (s : Int) y
        refine Ret_some ⟨_, rfl, by simp, p8, fun j y hj hy => ?_, fun j p hj hp y hy => ?_, fun j y hj hy ht => ?_⟩
        · dsimp only
          rw [p9]
          by_cases e : y = s
          · subst e; rw [upd_same]
          · rw [upd_ne e]
            have : j ≠ c := fun q => by
              subst q
              rw [hs] at hy
              exact e (Option.some.inj hy).symm
            exact hH j y (by omega) hy
        · dsimp only
          rw [v9]
          have hpr : p ∈ r := hpost.mem_iff.mp (List.mem_of_getElem? hp)
          by_cases e : p = s
          · subst e; rw [if_pos hy]
          · rw [if_neg (fun q => e (uniq p s y hpr hsr hy q))]
            have hjc : j ≠ c := fun q => by
              subst q
              rw [hs] at hp
              exact e (Option.some.inj hp).symm
            obtain ⟨kL, kR⟩ := postC_at _ [] j p (post8_C _ _ _ [] (Nat.le_refl _) hl hT) hp
            have hyt : y ∈ (post8 L R t).take j := by
              rcases hy with h | h
              · rcases kL with q | ⟨y', q, m⟩
                · omega
                · have : y = y' := by omega
                  rw [this]; simpa using m
              · rcases kR with q | ⟨y', q, m⟩
                · omega
                · have : y = y' := by omega
                  rw [this]; simpa using m
            obtain ⟨i, hi, hiy⟩ := take_mem hyt
            have hys : y ≠ s := fun q => by
              subst q
              have := nodup_at hpn hiy hs
              omega
            rw [if_neg hys]
            exact hP j p (Nat.lt_of_le_of_ne (Nat.lt_succ_iff.mp hj) hjc) hp y hy
        · dsimp only
          rw [v9, if_neg]
          · by_cases e : y = s
            · rw [if_pos e]
            · rw [if_neg e]
              have hjc : j ≠ c := fun q => by
                subst q
                rw [hs] at hy
                exact e (Option.some.inj hy).symm
              exact hR j y (by omega) hy ht
          · rw [ht] at hT
            exact TT_root hT hsr
      · obtain ⟨z, O5⟩ := q
        obtain ⟨rfl, hfr, hH, hP, hR⟩ := hI
        dsimp only at *
        have e58 : O5 262 58 = (r.length : Int) := by rw [hfr.2 58 (by simp), f04.2 58 (by simp), h58]
        rw [if_neg (by rw [e58]; omega)]
        refine Ret_some ⟨_, rfl, hfr, fun y hy => ?_, fun p hp y hy => ?_, fun y hy => ?_⟩
        · obtain ⟨j, hj⟩ := List.mem_iff_getElem?.mp (hpost.mem_iff.mpr hy)
          have := (List.getElem?_eq_some_iff.mp hj).1
          exact hH j y (by omega) hj
        · obtain ⟨j, hj⟩ := List.mem_iff_getElem?.mp (hpost.mem_iff.mpr hp)
          have := (List.getElem?_eq_some_iff.mp hj).1
          exact hP j p (by omega) hj y hy
        · rcases post8_root hl hT with e | ⟨y', e, m⟩
          · omega
          · have : y = y' := by omega
            subst this
            obtain ⟨j, hj⟩ := List.mem_iff_getElem?.mp m
            have := (List.getElem?_eq_some_iff.mp hj).1
            exact hR j y (by omega) hj hy
      · obtain ⟨f5, k1, k2, k3⟩ := h5
        refine Ret_some ⟨FrO_trans f04 (FrO_mono f5 (by simp) (by simp)), fun i k hi => ?_, fun i k hi => ?_, k1, k2, k3⟩
        · rw [f5.1 289 (by simp) (by decide)]; exact h289'' i k hi
        · rw [f5.1 288 (by simp) (by decide)]; exact h288' i k hi
