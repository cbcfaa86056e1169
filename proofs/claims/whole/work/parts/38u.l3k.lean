/-! LEVEL 3, k: the reference's tree of a version -/
theorem rf_placeOf {O : Smo} {v : Nat} (h : v ≤ 40) : f_X12_placeOf (v : Int) O = some (O 282 v) := by
  unfold f_X12_placeOf
  rw [wr_id (by omega) (by omega), Int.zero_add, Ln282, aget_nat (show v < 7565 by omega)]
  rfl
theorem rf_all {O : Smo} {v a : Nat} (h : a + v < 7565) : aget (O 282) (Ln 282) (wr ((a : Int) + (v : Int))) = some (O 282 (a + v)) := by
  rw [wr_id (by omega) (by omega), Ln282, show (a : Int) + (v : Int) = ((a + v : Nat) : Int) by omega, aget_nat h]
theorem rf_setOf {O : Smo} {v : Nat} (h : v ≤ 40) : f_X12_setOf (v : Int) O = some (O 282 (41 + v)) := by
  unfold f_X12_setOf
  have := rf_all (O := O) (v := v) (a := 41) (by omega)
  rw [show ((41 : Nat) : Int) = 41 from rfl] at this
  rw [this]
  rfl
theorem rf_layTree {O : Smo} {n m v : Nat} (h39 : O 262 39 = n) (hg : OkSeg (sgO O) n) (hv : v ≤ 40) (hm : O 282 (41 + v) = (m : Int)) (ho : Over (sgO O) n m (O 282 v)) (hx : 0 ≤ O 282 v ∧ O 282 v ≤ 60) :
    Ret (f_X12_layTree v O) (fun O' => FrO [283, 284, 285, 286, 287, 288, 289, 290] [58, 59] O O' ∧ rfTree O' (O 280) (rowF (sgO O) m (O 282 v))) := by
  have hn8 := hg.1
  have hrl : (rowF (sgO O) m (O 282 v)).length ≤ 8 := by rw [rowF_len hg ho]; exact pc_le m
  have hrn : ∀ y ∈ rowF (sgO O) m (O 282 v), y < 8 := fun y hy => by have := (ho.2 y ((rowF_mem hg ho).mp hy)).1; omega
  have hnd := rowF_nodup hg ho
  unfold f_X12_layTree
  rw [rf_setOf hv, rf_placeOf hv]
  dsimp only [Option.bind_some]
  rw [hm]
  refine Ret_bind (rf_layRow h39 hg ho hx) (fun O1 h1 => ?_)
  obtain ⟨f1, h58, h283⟩ := h1
  generalize rowF (sgO O) m (O 282 v) = r at *
  refine Ret_bind (P := fun O2 => FrO [284, 285, 287] [] O1 O2 ∧ (∀ y ∈ r, O2 284 y = tL (O 280) r y ∧ O2 285 y = tR (O 280) r y) ∧ stO (O2 287) (joinJ (O 280) r).2.2) (Ret_lp (fun c q => q.1 = ((joinJ (O 280) (r.take c)).2.2.length : Int) ∧ q.2.1 = (c : Int) ∧ FrO [284, 285, 287] [] O1 q.2.2 ∧ (∀ y ∈ r.take c, q.2.2 284 y = (joinJ (O 280) (r.take c)).1 y ∧ q.2.2 285 y = (joinJ (O 280) (r.take c)).2.1 y) ∧ stO (q.2.2 287) (joinJ (O 280) (r.take c)).2.2) r.length (by omega) ⟨by simp [joinJ], rfl, FrO_refl _ _ _, fun y hy => by simp at hy, fun i y hy => by simp [joinJ] at hy⟩ (fun c q hc hI => ?_) (fun q hI => ?_)) (fun O2 h2 => ?_)
  · obtain ⟨z, zc, O2⟩ := q
    obtain ⟨rfl, rfl, hfr, hLR, hst⟩ := hI
    dsimp only at *
    have hrc : r[c]? = some (r[c]'hc) := by simp [hc]
    have e283 : O2 283 c = ((r[c]'hc : Nat) : Int) := by rw [hfr.1 283 (by simp) (by decide)]; exact h283 c _ hrc
    have e58 : O2 262 58 = (r.length : Int) := by rw [hfr.2 58 (by simp), h58]
    have e280 : O2 280 = O 280 := by rw [hfr.1 280 (by simp) (by decide), f1.1 280 (by simp) (by decide)]
    have hx8 : r[c]'hc < 8 := hrn _ (List.getElem_mem hc)
    have hxt : r[c]'hc ∉ r.take c := fun q => by
      obtain ⟨j, hj, hjx⟩ := take_mem q
      have := nodup_at hnd hjx hrc
      omega
    have htk : r.take (c + 1) = r.take c ++ [r[c]'hc] := List.take_succ_eq_append_getElem hc
    have hjj : joinJ (O 280) (r.take (c + 1)) = stepJ (O 280) (joinJ (O 280) (r.take c)) (r[c]'hc) := by
      unfold joinJ
      exact foldl_take _ _ _ hrc
    have hlen := stkJ_len (O 280) r c (by omega)
    have hok := joinJ_ok (O 280) (r.take c) (hnd.sublist (List.take_sublist c r))
    have hsm : ∀ y ∈ (joinJ (O 280) (r.take c)).2.2, y ∈ r.take c := spW_mem _ _ hok.1
    have hR1 : (joinJ (O 280) (r.take c)).2.1 (r[c]'hc) = -1 := (hok.2.2 _ hxt).2
    rw [if_pos (by rw [e58]; omega), Ln283, aget_nat (show c < 8 by omega), e283]
    dsimp only [Option.bind_some]
    rw [hjj, htk]
    unfold stepJ
    dsimp only
    generalize hxe : r[c]'hc = x at *
    generalize joinJ (O 280) (r.take c) = q0 at *
    obtain ⟨L0, R0', st0⟩ := q0
    dsimp only at *
    rw [Ln284, aset_nat hx8]
    dsimp only [Option.bind_some]
    rw [Ln285, aset_nat hx8]
    dsimp only [Option.bind_some]
    have g1 : FrO [284, 285, 287] [] O1 (up2 (up2 O2 284 x (-1)) 285 x (-1)) := FrO_arr (FrO_arr hfr (by simp) (by decide)) (by simp) (by decide)
    have g2 : up2 (up2 O2 284 x (-1)) 285 x (-1) 284 = updI (O2 284) x (-1) := by rw [up2_row (by decide), upd_up2]
    have g3 : up2 (up2 O2 284 x (-1)) 285 x (-1) 285 = updI (O2 285) x (-1) := by rw [upd_up2, up2_row (by decide)]
    have g4 : up2 (up2 O2 284 x (-1)) 285 x (-1) 287 = O2 287 := by rw [up2_row (by decide), up2_row (by decide)]
    have g5 : up2 (up2 O2 284 x (-1)) 285 x (-1) 280 = O 280 := by rw [up2_row (by decide), up2_row (by decide), e280]
    generalize up2 (up2 O2 284 x (-1)) 285 x (-1) = O3 at *
    refine Ret_bind (P := fun q => q.1 = ((popJ (O 280) x st0 (-1)).2.length : Int) ∧ FrO [284, 285, 287] [] O1 q.2 ∧ q.2 284 = updI (O2 284) x (popJ (O 280) x st0 (-1)).1 ∧ q.2 285 = updI (O2 285) x (-1) ∧ stO (q.2 287) (popJ (O 280) x st0 (-1)).2) (Ret_lpm (fun q => ∃ stk t, q.1 = (stk.length : Int) ∧ FrO [284, 285, 287] [] O1 q.2 ∧ q.2 284 = updI (O2 284) x t ∧ q.2 285 = updI (O2 285) x (-1) ∧ stO (q.2 287) stk ∧ stk.length ≤ 8 ∧ popJ (O 280) x stk t = popJ (O 280) x st0 (-1) ∧ (∀ y ∈ stk, y ∈ r) ∧ q.2 280 = O 280) (fun q => q.1.toNat) ⟨st0, -1, rfl, g1, g2, g3, by dsimp only; rw [g4]; exact hst, by omega, rfl, hlen.2, g5⟩ (by dsimp only; omega) (fun q hq => ?_)) (fun q hq => ?_)
    · obtain ⟨z, O4⟩ := q
      obtain ⟨stk, t, rfl, k1, k2, k3, k4, k5, k6, k7, k8⟩ := hq
      dsimp only at *
      cases stk with
      | nil =>
        rw [if_neg (by simp)]
        refine Ret_some (Or.inr ⟨_, rfl, ?_, k1, ?_, k3, ?_⟩)
        · try dsimp only
          rw [← k6]; rfl
        · try dsimp only
          rw [← k6]; exact k2
        · try dsimp only
          rw [← k6]; exact k4
      | cons s stk =>
        have hs8 : s < 8 := hrn s (k7 s (by simp))
        obtain ⟨k9, k10⟩ := stO_top k4
        rw [List.length_cons] at k5 ⊢
        rw [if_pos (by omega), wr_id (z := ((stk.length + 1 : Nat) : Int) - 1) (by omega) (by omega), show ((stk.length + 1 : Nat) : Int) - 1 = (stk.length : Int) by omega, Ln287, aget_nat (show stk.length < 16 by omega), k9]
        dsimp only [Option.bind_some]
        rw [rf_heavy hx8 hs8, k8]
        dsimp only [Option.bind_some]
        by_cases hh : hvb (O 280) x s = true
        · try dsimp only
          rw [if_pos hh, if_neg (by decide), wr_id (z := ((stk.length + 1 : Nat) : Int) + -1) (by omega) (by omega), show ((stk.length + 1 : Nat) : Int) + -1 = (stk.length : Int) by omega, aget_nat (show stk.length < 16 by omega), k9]
          dsimp only [Option.bind_some]
          rw [aset_nat hx8]
          dsimp only [Option.bind_some]
          refine Ret_some (Or.inl ⟨_, rfl, ⟨stk, s, rfl, FrO_arr k1 (by simp) (by decide), ?_, ?_, ?_, by omega, ?_, fun y hy => k7 y (by simp [hy]), ?_⟩, by dsimp only; omega⟩)
          · try dsimp only
            rw [upd_up2, k2]
            funext j
            unfold updI
            split <;> rfl
          · try dsimp only
            rw [up2_row (by decide)]; exact k3
          · try dsimp only
            rw [up2_row (by decide)]; exact k10
          · try dsimp only
            rw [← k6, popJ, if_pos hh]
          · try dsimp only
            rw [up2_row (by decide)]; exact k8
        · try dsimp only
          rw [if_neg hh, if_pos rfl]
          have : popJ (O 280) x (s :: stk) t = (t, s :: stk) := by rw [popJ, if_neg hh]
          refine Ret_some (Or.inr ⟨_, rfl, ?_, k1, ?_, k3, ?_⟩)
          · try dsimp only
            rw [← k6, this]; rfl
          · try dsimp only
            rw [← k6, this]; exact k2
          · try dsimp only
            rw [← k6, this]; exact k4
    · obtain ⟨z, O4⟩ := q
      obtain ⟨rfl, k1, k2, k3, k4⟩ := hq
      dsimp only at *
      have hpl := popJ_len (w := O 280) (x := x) st0 (-1)
      generalize popJ (O 280) x st0 (-1) = pj at *
      obtain ⟨t, stk⟩ := pj
      dsimp only at *
      have base : ∀ y, y ∈ r.take c → y ≠ x := fun y hy e => hxt (e ▸ hy)
      have hstep : ∃ O5, (if 0 < (stk.length : Int) then Option.bind (aget (O4 287) 16 (wr ((stk.length : Int) - 1))) fun v => Option.bind (asetO O4 285 8 v (x : Int)) fun O' => some O' else some O4) = some O5 ∧ FrO [284, 285, 287] [] O1 O5 ∧ O5 284 = updI (O2 284) x t ∧ O5 285 = hangR (updI (O2 285) x (-1)) stk x ∧ stO (O5 287) stk := by
        cases stk with
        | nil => exact ⟨O4, by rw [if_neg (by simp)], k1, k2, k3, k4⟩
        | cons s stk =>
          have hs8 : s < 8 := hrn s (hlen.2 s (hpl.2 s (by simp)))
          obtain ⟨k9, k10⟩ := stO_top k4
          have hl2 := hpl.1
          rw [List.length_cons] at hl2 ⊢
          refine ⟨up2 O4 285 s (x : Int), ?_, FrO_arr k1 (by simp) (by decide), ?_, ?_, ?_⟩
          · try dsimp only
            rw [if_pos (by omega), wr_id (z := ((stk.length + 1 : Nat) : Int) - 1) (by omega) (by omega), show ((stk.length + 1 : Nat) : Int) - 1 = (stk.length : Int) by omega, aget_nat (show stk.length < 16 by omega), k9]
            dsimp only [Option.bind_some]
            rw [aset_nat hs8]
            rfl
          · try dsimp only
            rw [up2_row (by decide)]; exact k2
          · try dsimp only
            rw [upd_up2, k3]; rfl
          · try dsimp only
            rw [up2_row (by decide)]; exact k4
      obtain ⟨O5, p1, p2, p3, p4, p5⟩ := hstep
      rw [Ln287, p1]
      dsimp only [Option.bind_some]
      rw [aset_nat (show stk.length < 16 by omega)]
      dsimp only [Option.bind_some]
      rw [wr_id (by omega) (by omega), wr_id (by omega) (by omega)]
      refine Ret_some ⟨_, rfl, by simp, by simp, FrO_arr p2 (by simp) (by decide), fun y hy => ?_, ?_⟩
      · dsimp only
        rw [up2_row (by decide), up2_row (by decide), p3, p4]
        by_cases e : y = x
        · subst e
          refine ⟨by rw [upd_same, upd_same], ?_⟩
          unfold hangR
          cases stk with
          | nil => show updI _ _ _ y = R0' y; rw [upd_same, hR1]
          | cons s stk =>
            have hne : y ≠ s := fun q => hxt (q ▸ hsm s (hpl.2 s (by simp)))
            show updI _ s _ y = updI _ s _ y
            rw [upd_ne hne, upd_ne hne, upd_same, hR1]
        · have hyt : y ∈ r.take c := by
            rcases List.mem_append.mp hy with h | h
            · exact h
            · simp at h; exact absurd h e
          obtain ⟨u1, u2⟩ := hLR y hyt
          refine ⟨by rw [upd_ne e, upd_ne e, u1], ?_⟩
          unfold hangR
          cases stk with
          | nil => show updI _ _ _ y = R0' y; rw [upd_ne e, u2]
          | cons s stk =>
            show updI _ s _ y = updI _ s _ y
            by_cases q : y = s
            · try dsimp only
              rw [q, upd_same, upd_same]
            · try dsimp only
              rw [upd_ne q, upd_ne q, upd_ne e, u2]
      · dsimp only
        rw [upd_up2]
        exact stO_push p5
  · obtain ⟨z, zc, O2⟩ := q
    obtain ⟨rfl, rfl, hfr, hLR, hst⟩ := hI
    dsimp only at *
    have e58 : O2 262 58 = (r.length : Int) := by rw [hfr.2 58 (by simp), h58]
    rw [List.take_length] at hLR hst
    rw [if_neg (by rw [e58]; omega)]
    exact Ret_some ⟨_, rfl, hfr, hLR, hst⟩
  · obtain ⟨f2, hLR, hst⟩ := h2
    have e58 : O2 262 58 = (r.length : Int) := by rw [f2.2 58 (by simp), h58]
    have hT := joinJ_TT (O 280) r hnd
    have hok := joinJ_ok (O 280) r hnd
    refine Ret_bind (P := fun q => q = tRoot (O 280) r) ?_ (fun q hq => ?_)
    · try dsimp only
      rw [e58]
      by_cases e : r.length = 0
      · try dsimp only
        rw [if_pos (by omega)]
        have : r = [] := List.eq_nil_of_length_eq_zero e
        subst this
        exact Ret_some rfl
      · try dsimp only
        rw [if_neg (by omega), Ln287, show aget (O2 287) 16 0 = some (O2 287 0) from aget_nat (k := 0) (show 0 < 16 by decide)]
        refine Ret_some ?_
        have hne : (joinJ (O 280) r).2.2 ≠ [] := fun q => by
          rcases TT_t hT with h | ⟨s, h, hs⟩
          · rcases TT_inv hT with ⟨_, h2⟩ | ⟨s, a, b, h2, _⟩
            · exact e (by rw [h2]; rfl)
            · omega
          · unfold tRoot at h
            rw [q] at h
            have : (-1 : Int) = s := h
            omega
        exact stO_bot _ hst hne
    · subst hq
      dsimp only [jn, jk]
      have a1 : FrO [284, 285, 287] [59] O1 (up2 O2 262 59 (tRoot (O 280) r)) := FrO_int (FrO_mono f2 (by simp) (by simp)) (by simp)
      have a2 : up2 O2 262 59 (tRoot (O 280) r) 262 58 = (r.length : Int) := by rw [up2_ne (Or.inr (by decide)), e58]
      have a3 : up2 O2 262 59 (tRoot (O 280) r) 262 59 = tRoot (O 280) r := up2_same _ _ _ _
      have a4 : ∀ y ∈ r, up2 O2 262 59 (tRoot (O 280) r) 284 y = tL (O 280) r y ∧ up2 O2 262 59 (tRoot (O 280) r) 285 y = tR (O 280) r y := fun y hy => by
        rw [up2_row (by decide), up2_row (by decide)]; exact hLR y hy
      generalize up2 O2 262 59 (tRoot (O 280) r) = O3 at *
      refine Ret_bind (rf_orders a2 a3 a4 hT hrl hrn hnd) (fun O4 h4 => ?_)
      obtain ⟨f4, b1, b2, b3, b4, b5⟩ := h4
      refine Ret_some ⟨?_, ?_, ?_, ?_, ?_, b1, b2, b3, b4, b5⟩
      · exact FrO_trans (FrO_mono f1 (by simp) (by simp)) (FrO_trans (FrO_mono a1 (by simp) (by simp)) (FrO_mono f4 (by simp) (by simp)))
      · try dsimp only
        rw [f4.2 58 (by simp), a2]
      · intro i k hi
        rw [f4.1 283 (by simp) (by decide), a1.1 283 (by simp) (by decide)]
        exact h283 i k hi
      · intro y hy
        rw [f4.1 284 (by simp) (by decide), f4.1 285 (by simp) (by decide)]
        exact a4 y hy
      · try dsimp only
        rw [f4.2 59 (by simp), a3]
