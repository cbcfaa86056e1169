/-! LEVEL 3, r: the class grows -/
def clD (m : Nat) (D : Dt) : Dt := (D.1, fun j k => if j = 9 ∧ m.testBit k = false then -1 else D.2 j k)
theorem clD_o (m : Nat) (D : Dt) (j k : Nat) (hj : j ≠ 9) : (clD m D).2 j k = D.2 j k := by
  unfold clD
  dsimp only
  rw [if_neg (fun q => hj q.1)]
theorem clD_9 (m : Nat) (D : Dt) (k : Nat) : (clD m D).2 9 k = if m.testBit k = false then -1 else D.2 9 k := by
  unfold clD
  dsimp only
  by_cases h : m.testBit k = false
  · rw [if_pos ⟨rfl, h⟩, if_pos h]
  · rw [if_neg (fun q => h q.2), if_neg h]
theorem rep_has {p : Nat} {S : Sst} {D : Dt} (h : S.1 (p + 31) = rg 8 (D.2 9)) {z : Int} (hz : z = -1 ∨ ∃ y : Nat, z = (y : Int) ∧ y < 8) : f_X6_at (p + 31) z S = dHas D z := by
  unfold dHas
  rcases hz with rfl | ⟨y, rfl, hy⟩
  · rw [at_out h (by omega), if_pos (by decide)]
  · rw [at_nat h hy, if_neg (by omega), Int.toNat_natCast]
theorem add_any {S : Sst} {q : Nat} (v : Int) (h : (S.1 q).length < Ln (q + 1)) : ∃ S', f_X6_add q v S = S' ∧ S'.1 q = S.1 q ++ [v] ∧ (∀ k, k ≠ q → S'.1 k = S.1 k) ∧ S'.2 = S.2 :=
  ⟨_, by unfold f_X6_add; rw [if_pos h], upR_at _ _ _, fun k hk => upR_ne _ _ hk, rfl⟩
theorem cl_grow {p : Nat} {S : Sst} {D : Dt} {w : Nat → Int} {r : List Nat} {m m' u n slots : Nat} (x cuts ev : Int) (hp : stP p) (h : RepD p S D) (hT : clTree S w r) (hnd : r.Nodup) (hr : ∀ y ∈ r, y < n) (hn : n ≤ 8) (hrl : r.length ≤ 8)
    (h0 : FI D u m n slots (tL w r) (tR w r) [] [] 0 D) (hN : D.1 + 8 ≤ 320) (hsl : slots ≤ 6) (hst : ∀ j, j < 6 → (S.1 (p + 1 + 2 * j)).length = u + 1) (hu : u < 40) (hm : f_X6_at (p + 3) (u : Int) S = (m : Int)) (hm8 : m < 256) (hm8' : m' < 256) :
    Ret (f_X7_grow p x m' cuts ev slots S) (fun S' => RepD p S' (clD m' (fdD slots u m (tL w r) (tR w r) (0, D) (post8 (tL w r) (tR w r) (tRoot w r))).2) ∧ S'.1 (p + 1) = S.1 (p + 1) ++ [x] ∧ S'.1 (p + 3) = S.1 (p + 3) ++ [(m' : Int)] ∧ S'.1 (p + 5) = S.1 (p + 5) ++ [cuts] ∧ S'.1 (p + 7) = S.1 (p + 7) ++ [ev] ∧
      S'.1 (p + 9) = S.1 (p + 9) ++ [dHas (fdD slots u m (tL w r) (tR w r) (0, D) (post8 (tL w r) (tR w r) (tRoot w r))).2 (tRoot w r)] ∧ S'.1 (p + 11) = S.1 (p + 11) ++ [((fdD slots u m (tL w r) (tR w r) (0, D) (post8 (tL w r) (tR w r) (tRoot w r))).1 : Int)] ∧ S'.2 = S.2 ∧ ∀ k, (k < p + 1 ∨ p + 31 < k) → S'.1 k = S.1 k) := by
  obtain ⟨t60, t62, t64, t66, t68, t5, t6⟩ := hT
  have hTT := joinJ_TT w r hnd
  have hpp := post8_perm hrl hTT
  have hC := post8_C _ _ _ [] (Nat.le_refl _) hrl hTT
  have hpn : (post8 (tL w r) (tR w r) (tRoot w r)).Nodup := hpp.nodup_iff.mpr hnd
  have hpl := hpp.length_eq
  have hpm : ∀ y ∈ post8 (tL w r) (tR w r) (tRoot w r), y < n := fun y hy => hr y (hpp.mem_iff.mp hy)
  have hpre : (pre8 (tR w r) (tL w r) (tRoot w r)).length = r.length := by
    have : (post8 (tL w r) (tR w r) (tRoot w r)).length = (pre8 (tR w r) (tL w r) (tRoot w r)).length := by simp [post8]
    omega
  have hroot : tRoot w r = -1 ∨ ∃ y : Nat, tRoot w r = (y : Int) ∧ y < 8 := by
    rcases TT_t hTT with h | ⟨y, h, hy⟩
    · exact Or.inl h
    · exact Or.inr ⟨y, h, by have := hr y hy; omega⟩
  have hp75 : 74 ≤ p := by rcases hp with rfl | rfl | rfl | rfl | rfl <;> omega
  obtain ⟨hl0, _, _, _⟩ := lnS hp
  have hFt := FI_take hC hpn hpm hsl h0
  have hrev : ∀ c s, (post8 (tL w r) (tR w r) (tRoot w r))[c]? = some s → (pre8 (tR w r) (tL w r) (tRoot w r))[r.length - 1 - c]? = some s := fun c s hs => by
    have hc := (List.getElem?_eq_some_iff.mp hs).1
    unfold post8 at hs
    rw [List.getElem?_reverse (by omega)] at hs
    rw [← hs]
    congr 1
    omega
  generalize post8 (tL w r) (tR w r) (tRoot w r) = po at *
  have q0 := hst 0 (by decide)
  have q1 := hst 1 (by decide)
  have q2 := hst 2 (by decide)
  have q3 := hst 3 (by decide)
  have q4 := hst 4 (by decide)
  have q5 := hst 5 (by decide)
  have l0 := hl0 0 (by decide)
  have l1 := hl0 1 (by decide)
  have l2 := hl0 2 (by decide)
  have l3 := hl0 3 (by decide)
  have l4 := hl0 4 (by decide)
  have l5 := hl0 5 (by decide)
  simp only [Nat.mul_zero, Nat.add_zero, Nat.mul_one, Nat.reduceMul, Nat.add_assoc, Nat.reduceAdd] at q0 q1 q2 q3 q4 q5 l0 l1 l2 l3 l4 l5
  unfold f_X7_grow
  dsimp only [jn]
  have hsz : f_X6_size 68 S = (r.length : Int) := by
    unfold f_X6_size
    rw [t68, natL_len, hpre]
  rw [hsz, wr_id (by omega) (by omega)]
  have prle : ∀ c, c ≤ po.length → (fdD slots u m (tL w r) (tR w r) (0, D) (po.take c)).1 ≤ 2 * c := by
    intro c
    induction c with
    | zero => intro _; exact Nat.le_refl _
    | succ c ih =>
      intro hc
      have := ih (by omega)
      obtain ⟨s, hs⟩ : ∃ s, po[c]? = some s := ⟨po[c]'(by omega), by simp [show c < po.length by omega]⟩
      have htk : po.take (c + 1) = po.take c ++ [s] := by
        obtain ⟨h1, h2⟩ := List.getElem?_eq_some_iff.mp hs
        rw [List.take_succ_eq_append_getElem h1, h2]
      rw [htk, fdD_1]
      have := adD_le slots u m (tL w r) (tR w r) (fdD slots u m (tL w r) (tR w r) (0, D) (po.take c)).2 s
      dsimp only
      omega
  refine Ret_bind (P := fun q => q.1 = ((fdD slots u m (tL w r) (tR w r) (0, D) po).1 : Int) ∧ RepD p q.2 (fdD slots u m (tL w r) (tR w r) (0, D) po).2 ∧ FrS p S q.2) (Ret_lp (fun c q => q.1 = ((fdD slots u m (tL w r) (tR w r) (0, D) (po.take c)).1 : Int) ∧ q.2.1 = (r.length : Int) - 1 - c ∧ RepD p q.2.2 (fdD slots u m (tL w r) (tR w r) (0, D) (po.take c)).2 ∧ FrS p S q.2.2) r.length (by omega) ⟨rfl, by dsimp only; omega, h, FrS_refl _ _⟩ (fun c q hc hI => ?_) (fun q hI => ?_)) (fun q hq => ?_)
  · obtain ⟨pr, z, S1⟩ := q
    obtain ⟨rfl, rfl, hrep, hfr⟩ := hI
    dsimp only at *
    obtain ⟨s, hs⟩ : ∃ s, po[c]? = some s := ⟨po[c]'(by omega), by simp [show c < po.length by omega]⟩
    have htk : po.take (c + 1) = po.take c ++ [s] := by
      obtain ⟨h1, h2⟩ := List.getElem?_eq_some_iff.mp hs
      rw [List.take_succ_eq_append_getElem h1, h2]
    have hsd : s ∉ po.take c := fun q => by
      obtain ⟨j, hj, hjy⟩ := take_mem q
      have := nodup_at hpn hjy hs
      omega
    have hsn := hpm s (List.mem_of_getElem? hs)
    have hFc := hFt c (by omega)
    have hNc := FI_N slots u m (tL w r) (tR w r) (0, D) (po.take c)
    have hple := prle c (by omega)
    have hpos := postC_at po [] c s hC hs
    have hchild : ∀ z : Int, (z = -1 ∨ ∃ y : Nat, z = (y : Int) ∧ y ∈ [] ++ po.take c) → z = -1 ∨ ∃ y : Nat, z = (y : Int) ∧ y < 8 := fun z hz => by
      rcases hz with h | ⟨y, h, hy⟩
      · exact Or.inl h
      · rw [List.nil_append] at hy
        have := hpm y (List.mem_of_mem_take hy)
        exact Or.inr ⟨y, h, by omega⟩
    have hcL := hchild _ hpos.1
    have hcR := hchild _ hpos.2
    clear hpos hchild
    rw [htk, fdD_1]
    generalize fdD slots u m (tL w r) (tR w r) (0, D) (po.take c) = q at *
    obtain ⟨pr, D1⟩ := q
    dsimp only at *
    have hat : f_X6_at 68 ((r.length : Int) - 1 - c) S1 = (s : Int) := by
      unfold f_X6_at
      rw [hfr.2 68 (by omega), t68]
      have := lat_natL (hrev c s hs)
      rw [show (((r.length - 1 - c : Nat)) : Int) = (r.length : Int) - 1 - c by omega] at this
      exact this
    have l62 : S1.1 62 = rg 8 (tL w r) := by rw [hfr.2 62 (by omega), t62]
    have l64 : S1.1 64 = rg 8 (tR w r) := by rw [hfr.2 64 (by omega), t64]
    rw [if_neg (by omega), hat, at_nat l62 (by omega), at_nat l64 (by omega), rep_has hrep.2.2 hcL, rep_has hrep.2.2 hcR]
    have hlt : D1.1 < 320 := by
      rw [List.length_take] at hNc
      omega
    refine Ret_bind (cl_adapt hp hrep hFc hlt hsl (by omega) hsd (by rw [hfr.2 _ (by omega)]; exact q0) (by omega) (by
      unfold f_X6_at at hm ⊢
      rw [hfr.2 _ (by omega)]; exact hm) hm8) (fun q hq => ?_)
    obtain ⟨e1, e2, e3⟩ := hq
    have hle := adD_le slots u m (tL w r) (tR w r) D1 s
    rw [e1, wr_id (by omega) (by omega), wr_id (by omega) (by omega)]
    exact Ret_some ⟨_, rfl, by dsimp only; omega, by dsimp only; omega, e2, FrS_trans hfr e3⟩
  · obtain ⟨pr, z, S1⟩ := q
    obtain ⟨rfl, rfl, hrep, hfr⟩ := hI
    dsimp only at *
    rw [if_pos (by omega)]
    rw [List.take_of_length_le (by omega)] at hrep ⊢
    exact Ret_some ⟨_, rfl, rfl, hrep, hfr⟩
  · obtain ⟨e1, hrep, hfr⟩ := hq
    obtain ⟨pr, S1⟩ := q
    dsimp only at *
    subst e1
    generalize fdD slots u m (tL w r) (tR w r) (0, D) po = q at *
    obtain ⟨pr, D1⟩ := q
    dsimp only at *
    rw [hfr.1, t5, rep_has hrep.2.2 hroot]
    unfold f_X7_addVersion
    dsimp only [jn]
    have v0 : ∀ k, k < p + 13 → S1.1 k = S.1 k := fun k hk => hfr.2 k (Or.inl hk)
    obtain ⟨S2, a1, a2, a3, a4⟩ := add_any (S := S1) (q := p + 1) x (by rw [v0 _ (by omega), q0, Nat.add_assoc, l0]; omega)
    rw [a1]
    obtain ⟨S3, b1, b2, b3, b4⟩ := add_any (S := S2) (q := p + 3) (m' : Int) (by rw [a3 _ (by omega), v0 _ (by omega), q1, Nat.add_assoc, l1]; omega)
    rw [b1]
    obtain ⟨S4, c1, c2, c3, c4⟩ := add_any (S := S3) (q := p + 5) cuts (by rw [b3 _ (by omega), a3 _ (by omega), v0 _ (by omega), q2, Nat.add_assoc, l2]; omega)
    rw [c1]
    obtain ⟨S5, d1, d2, d3, d4⟩ := add_any (S := S4) (q := p + 7) ev (by rw [c3 _ (by omega), b3 _ (by omega), a3 _ (by omega), v0 _ (by omega), q3, Nat.add_assoc, l3]; omega)
    rw [d1]
    obtain ⟨S6, e1, e2, e3, e4⟩ := add_any (S := S5) (q := p + 9) (dHas D1 (tRoot w r)) (by rw [d3 _ (by omega), c3 _ (by omega), b3 _ (by omega), a3 _ (by omega), v0 _ (by omega), q4, Nat.add_assoc, l4]; omega)
    rw [e1]
    obtain ⟨S7, f1, f2, f3, f4⟩ := add_any (S := S6) (q := p + 11) (pr : Int) (by rw [e3 _ (by omega), d3 _ (by omega), c3 _ (by omega), b3 _ (by omega), a3 _ (by omega), v0 _ (by omega), q5, Nat.add_assoc, l5]; omega)
    rw [f1]
    have w1 : S7.1 (p + 1) = S.1 (p + 1) ++ [x] := by rw [f3 _ (by omega), e3 _ (by omega), d3 _ (by omega), c3 _ (by omega), b3 _ (by omega), a2, v0 _ (by omega)]
    have w3 : S7.1 (p + 3) = S.1 (p + 3) ++ [(m' : Int)] := by rw [f3 _ (by omega), e3 _ (by omega), d3 _ (by omega), c3 _ (by omega), b2, a3 _ (by omega), v0 _ (by omega)]
    have w5 : S7.1 (p + 5) = S.1 (p + 5) ++ [cuts] := by rw [f3 _ (by omega), e3 _ (by omega), d3 _ (by omega), c2, b3 _ (by omega), a3 _ (by omega), v0 _ (by omega)]
    have w7 : S7.1 (p + 7) = S.1 (p + 7) ++ [ev] := by rw [f3 _ (by omega), e3 _ (by omega), d2, c3 _ (by omega), b3 _ (by omega), a3 _ (by omega), v0 _ (by omega)]
    have w9 : S7.1 (p + 9) = S.1 (p + 9) ++ [dHas D1 (tRoot w r)] := by rw [f3 _ (by omega), e2, d3 _ (by omega), c3 _ (by omega), b3 _ (by omega), a3 _ (by omega), v0 _ (by omega)]
    have w11 : S7.1 (p + 11) = S.1 (p + 11) ++ [(pr : Int)] := by rw [f2, e3 _ (by omega), d3 _ (by omega), c3 _ (by omega), b3 _ (by omega), a3 _ (by omega), v0 _ (by omega)]
    have wo : ∀ k, (k < p + 1 ∨ p + 11 < k) → S7.1 k = S1.1 k := fun k hk => by
      rw [f3 _ (by omega), e3 _ (by omega), d3 _ (by omega), c3 _ (by omega), b3 _ (by omega), a3 _ (by omega)]
    have wi : S7.2 = S.2 := by rw [f4, e4, d4, c4, b4, a4, hfr.1]
    have hat3 : ∀ T : Sst, T.1 (p + 3) = S7.1 (p + 3) → f_X6_at (p + 3) ((u + 1 : Nat) : Int) T = (m' : Int) := fun T hT => by
      unfold f_X6_at
      rw [hT, w3]
      unfold lat
      rw [if_pos (by omega), Int.toNat_natCast, List.getD_eq_getElem?_getD, ← q1, List.getElem?_concat_length]
      rfl
    have hnew : ∀ T : Sst, T.1 (p + 1) = S7.1 (p + 1) → f_X7_newest p T = ((u + 1 : Nat) : Int) := fun T hT => newest_row (by rw [hT, w1, List.length_append, q0]; rfl) (by omega)
    refine Ret_bind (P := fun S' => S'.2 = S7.2 ∧ (∀ k, k ≠ p + 31 → S'.1 k = S7.1 k) ∧ S'.1 (p + 31) = rg 8 (fun k => if m'.testBit k = false then -1 else D1.2 9 k)) (Ret_lp (fun c q => q.1 = (c : Int) ∧ q.2.2 = S7.2 ∧ (∀ k, k ≠ p + 31 → q.2.1 k = S7.1 k) ∧ q.2.1 (p + 31) = rg 8 (fun k => if k < c ∧ m'.testBit k = false then -1 else D1.2 9 k)) 8 (by decide) ⟨rfl, rfl, fun _ _ => rfl, ?_⟩ (fun c q hc hI => ?_) (fun q hI => ?_)) (fun S8 h8 => ?_)
    · dsimp only
      rw [wo _ (by omega), hrep.2.2]
      exact rg_ext (fun k _ => by rw [if_neg (by omega)])
    · obtain ⟨z, T⟩ := q
      obtain ⟨rfl, i1, i2, i3⟩ := hI
      dsimp only at *
      rw [if_pos (by omega), hnew T (i2 _ (by omega)), cl_isIn (hat3 T (i2 _ (by omega))) hm8' hc, wr_id (by omega) (by omega)]
      by_cases hb : m'.testBit c = true
      · rw [bt_1.mpr hb, if_neg (by decide)]
        refine Ret_some ⟨_, rfl, by simp, i1, i2, ?_⟩
        dsimp only
        rw [i3]
        refine rg_ext (fun k _ => ?_)
        by_cases q : k < c
        · by_cases q2 : m'.testBit k = false
          · rw [if_pos ⟨q, q2⟩, if_pos ⟨by omega, q2⟩]
          · rw [if_neg (fun h => q2 h.2), if_neg (fun h => q2 h.2)]
        · rw [if_neg (fun h => q h.1), if_neg (fun h => by
            have : k = c := by omega
            rw [this, hb] at h
            exact absurd h.2 (by decide))]
      · have hb0 : m'.testBit c = false := by simpa using hb
        rw [bt_0.mpr hb0, if_pos rfl, put_rg i3]
        refine Ret_some ⟨_, rfl, by simp, i1, fun k hk => by dsimp only; rw [upR_ne _ _ hk, i2 k hk], ?_⟩
        dsimp only
        rw [upR_at]
        refine rg_ext (fun k _ => ?_)
        unfold updI
        by_cases q : k = c
        · rw [if_pos q, if_pos ⟨by omega, by rw [q]; exact hb0⟩]
        · rw [if_neg q]
          dsimp only
          by_cases q1 : k < c ∧ m'.testBit k = false
          · rw [if_pos q1, if_pos ⟨by omega, q1.2⟩]
          · rw [if_neg q1, if_neg (fun h => q1 ⟨by omega, h.2⟩)]
    · obtain ⟨z, T⟩ := q
      obtain ⟨rfl, i1, i2, i3⟩ := hI
      dsimp only at *
      rw [if_neg (by omega)]
      refine Ret_some ⟨_, rfl, i1, i2, ?_⟩
      rw [i3]
      refine rg_ext (fun k hk => ?_)
      by_cases q : m'.testBit k = false
      · rw [if_pos ⟨hk, q⟩, if_pos q]
      · rw [if_neg (fun h => q h.2), if_neg q]
    · obtain ⟨i1, i2, i3⟩ := h8
      refine Ret_some ⟨⟨fun j hj => ?_, fun j hj => ?_, ?_⟩, by rw [i2 _ (by omega), w1], by rw [i2 _ (by omega), w3], by rw [i2 _ (by omega), w5], by rw [i2 _ (by omega), w7], by rw [i2 _ (by omega), w9], by rw [i2 _ (by omega), w11], by rw [i1, wi], fun k hk => ?_⟩
      · rw [i2 _ (by omega), wo _ (by omega), hrep.1 j hj]
        exact rg_ext (fun k _ => (clD_o _ _ _ _ (by omega)).symm)
      · obtain ⟨f, g1, g2⟩ := hrep.2.1 j hj
        refine ⟨f, by rw [i2 _ (by omega), wo _ (by omega)]; exact g1, fun k c hk hc => ?_⟩
        rw [clD_o _ _ _ _ (by omega)]
        refine g2 k c hk ?_
        unfold dUsed at hc ⊢
        rw [clD_o _ _ _ _ (by omega)] at hc
        exact hc
      · rw [i3]
        exact rg_ext (fun k _ => by rw [clD_9])
      · rw [i2 _ (by omega), wo _ (by omega), hfr.2 k (by omega)]
