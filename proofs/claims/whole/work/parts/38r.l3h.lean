/-! LEVEL 3, h: the reference lays the row -/
def FrO (ks : List Nat) (js : List Nat) (O O' : Smo) : Prop := (∀ k, k ∉ ks → k ≠ 262 → O' k = O k) ∧ ∀ j, j ∉ js → O' 262 j = O 262 j
theorem FrO_refl (ks js : List Nat) (O : Smo) : FrO ks js O O := ⟨fun _ _ _ => rfl, fun _ _ => rfl⟩
theorem FrO_trans {ks js : List Nat} {O O' O'' : Smo} (h1 : FrO ks js O O') (h2 : FrO ks js O' O'') : FrO ks js O O'' := ⟨fun k hk h => by rw [h2.1 k hk h, h1.1 k hk h], fun j hj => by rw [h2.2 j hj, h1.2 j hj]⟩
theorem FrO_mono {ks js ks' js' : List Nat} {O O' : Smo} (h : FrO ks js O O') (h1 : ∀ k ∈ ks, k ∈ ks') (h2 : ∀ k ∈ js, k ∈ js') : FrO ks' js' O O' := ⟨fun k hk => h.1 k (fun q => hk (h1 k q)), fun j hj => h.2 j (fun q => hj (h2 j q))⟩
theorem FrO_arr {ks js : List Nat} {O O' : Smo} {k j : Nat} {v : Int} (h : FrO ks js O O') (hk : k ∈ ks) (h2 : k ≠ 262) : FrO ks js O (up2 O' k j v) := ⟨fun a ha hb => by
  rw [up2_row (fun e : a = k => ha (e ▸ hk)), h.1 a ha hb], fun b hb => by
  rw [up2_ne (Or.inl (fun e => h2 e.symm)), h.2 b hb]⟩
theorem FrO_int {ks js : List Nat} {O O' : Smo} {j : Nat} {v : Int} (h : FrO ks js O O') (hj : j ∈ js) : FrO ks js O (up2 O' 262 j v) := ⟨fun a ha hb => by
  rw [up2_row hb, h.1 a ha hb], fun b hb => by
  rw [up2_ne (Or.inr (fun e : b = j => hb (e ▸ hj))), h.2 b hb]⟩
theorem foldl_insR_perm (h : Nat → Nat → Bool) : ∀ (l r : List Nat), (l.foldl (insR h) r).Perm (r ++ l)
  | [], r => by simp
  | s :: l, r => by
    refine (foldl_insR_perm h l (insR h r s)).trans ?_
    refine ((insR_perm h r s).append_right l).trans ?_
    simpa using (List.perm_middle (l₁ := r) (l₂ := l) (a := s)).symm
theorem insPos_fix (h : Nat → Nat → Bool) (s : Nat) (r : List Nat) (k : Nat) : insPos h s r (k + 1) = if h (r.getD k 0) s = true then insPos h s r k else k + 1 := rfl
theorem insR_get (h : Nat → Nat → Bool) (s : Nat) (r : List Nat) (i : Nat) : (insR h r s)[i]? = if i < insPos h s r r.length then r[i]? else if i = insPos h s r r.length then some s else r[i - 1]? := by
  unfold insR
  have hp := insPos_le h s r r.length
  generalize insPos h s r r.length = p at *
  by_cases c1 : i < p
  · rw [if_pos c1, List.getElem?_append_left (by rw [List.length_take]; omega), List.getElem?_take_of_lt c1]
  · rw [if_neg c1, List.getElem?_append_right (by rw [List.length_take]; omega), List.length_take, Nat.min_eq_left hp]
    by_cases c2 : i = p
    · rw [if_pos c2, c2, Nat.sub_self]; rfl
    · rw [if_neg c2]
      obtain ⟨d, hd⟩ : ∃ d, i - p = d + 1 := ⟨i - p - 1, by omega⟩
      rw [hd, List.getElem?_cons_succ, List.getElem?_drop]
      congr 1
      omega
theorem filt_n {n m : Nat} (hn : n ≤ 8) (hb : ∀ k, m.testBit k = true → k < n) : (List.range n).filter (fun k => m.testBit k) = mem8 m := by
  have key : ∀ d, (List.range (n + d)).filter (fun k => m.testBit k) = (List.range n).filter (fun k => m.testBit k) := by
    intro d
    induction d with
    | zero => rfl
    | succ d ih =>
      rw [← Nat.add_assoc, List.range_succ, List.filter_append, ih]
      have : ¬ m.testBit (n + d) = true := fun q => by have := hb _ q; omega
      simp [this]
  have := key (8 - n)
  rw [show n + (8 - n) = 8 by omega] at this
  exact this.symm
theorem rf_layRow {O : Smo} {n m : Nat} {x : Int} (h39 : O 262 39 = n) (hg : OkSeg (sgO O) n) (ho : Over (sgO O) n m x) (hx : 0 ≤ x ∧ x ≤ 60) :
    Ret (f_X12_layRow m x O) (fun O' => FrO [283] [58] O O' ∧ O' 262 58 = ((rowF (sgO O) m x).length : Int) ∧ ∀ (i k : Nat), (rowF (sgO O) m x)[i]? = some k → O' 283 i = (k : Int)) := by
  have hn8 := hg.1
  have hm := ho.1
  have hfe : rowF (sgO O) m x = ((List.range n).filter (fun k => m.testBit k)).foldl (insR (fun a b => hib (sgO O) a b x)) [] := by
    rw [filt_n hn8 (fun k hk => (ho.2 k hk).1)]; rfl
  rw [hfe]
  unfold f_X12_layRow
  dsimp only [jn, jk]
  refine Ret_bind (Ret_lp (fun c q => q.1 = (c : Int) ∧ FrO [283] [58] O q.2 ∧ q.2 262 58 = ((((List.range c).filter (fun k => m.testBit k)).foldl (insR (fun a b => hib (sgO O) a b x)) []).length : Int) ∧ ∀ (i k : Nat), (((List.range c).filter (fun k => m.testBit k)).foldl (insR (fun a b => hib (sgO O) a b x)) [])[i]? = some k → q.2 283 i = (k : Int)) n (by omega) ⟨rfl, FrO_int (FrO_refl _ _ _) (by simp), (by show up2 O 262 58 0 262 58 = _; rw [up2_same]; rfl), fun i k h => by simp at h⟩ (fun c q hc hI => ?_) (fun q hI => ?_) (Q := fun O' => FrO [283] [58] O O' ∧ O' 262 58 = ((((List.range n).filter (fun k => m.testBit k)).foldl (insR (fun a b => hib (sgO O) a b x)) []).length : Int) ∧ ∀ (i k : Nat), (((List.range n).filter (fun k => m.testBit k)).foldl (insR (fun a b => hib (sgO O) a b x)) [])[i]? = some k → O' 283 i = (k : Int))) (fun O' h => Ret_some h)
  · obtain ⟨z, O1⟩ := q
    obtain ⟨rfl, hfr, h58, harr⟩ := hI
    dsimp only at *
    have hperm := foldl_insR_perm (fun a b => hib (sgO O) a b x) ((List.range c).filter (fun k => m.testBit k)) []
    rw [List.nil_append] at hperm
    have hmem : ∀ y ∈ ((List.range c).filter (fun k => m.testBit k)).foldl (insR (fun a b => hib (sgO O) a b x)) [], y < c ∧ m.testBit y = true := fun y hy => by
      have := hperm.mem_iff.mp hy
      simpa using this
    have hlen : (((List.range c).filter (fun k => m.testBit k)).foldl (insR (fun a b => hib (sgO O) a b x)) []).length ≤ c := by
      rw [hperm.length_eq]
      have := List.length_filter_le (fun k => m.testBit k) (List.range c)
      simpa using this
    have h39' : O1 262 39 = n := by rw [hfr.2 39 (by simp), h39]
    have hrs : (List.range (c + 1)).filter (fun k => m.testBit k) = (List.range c).filter (fun k => m.testBit k) ++ (if m.testBit c = true then [c] else []) := by
      rw [List.range_succ, List.filter_append]
      simp [List.filter_cons]
    rw [hrs, List.foldl_append]
    generalize ((List.range c).filter (fun k => m.testBit k)).foldl (insR (fun a b => hib (sgO O) a b x)) [] = rc at *
    rw [if_pos (by rw [h39']; omega), has_n hm (by omega)]
    have hsg : sgO O1 = sgO O := by
      unfold sgO
      rw [hfr.1 276 (by simp) (by decide), hfr.1 277 (by simp) (by decide), hfr.1 278 (by simp) (by decide), hfr.1 279 (by simp) (by decide)]
    by_cases hb : m.testBit c = true
    · rw [bt_1.mpr hb, if_neg (by decide), if_pos hb]
      rw [h58]
      have hcb := hg.2.1 c (by omega)
      refine Ret_bind (P := fun O2 => FrO [283] [58] O O2 ∧ O2 262 58 = ((insR (fun a b => hib (sgO O) a b x) rc c).length : Int) ∧ ∀ (i k : Nat), (insR (fun a b => hib (sgO O) a b x) rc c)[i]? = some k → O2 283 i = (k : Int)) (Ret_bind (P := fun q => q.1 = (insPos (fun a b => hib (sgO O) a b x) c rc rc.length : Int) ∧ FrO [283] [58] O q.2 ∧ q.2 262 58 = (rc.length : Int) ∧ (∀ (i k : Nat), i < insPos (fun a b => hib (sgO O) a b x) c rc rc.length → rc[i]? = some k → q.2 283 i = (k : Int)) ∧ ∀ (i k : Nat), insPos (fun a b => hib (sgO O) a b x) c rc rc.length ≤ i → rc[i]? = some k → q.2 283 (i + 1) = (k : Int)) (Ret_lpm (fun q => ∃ k : Nat, q.1 = (k : Int) ∧ k ≤ rc.length ∧ insPos (fun a b => hib (sgO O) a b x) c rc rc.length = insPos (fun a b => hib (sgO O) a b x) c rc k ∧ FrO [283] [58] O q.2 ∧ q.2 262 58 = (rc.length : Int) ∧ (∀ (i y : Nat), i < k → rc[i]? = some y → q.2 283 i = (y : Int)) ∧ ∀ (i y : Nat), k ≤ i → rc[i]? = some y → q.2 283 (i + 1) = (y : Int)) (fun q => q.1.toNat) ⟨rc.length, rfl, Nat.le_refl _, rfl, hfr, h58, fun i y _ h => harr i y h, fun i y hi h => ?_⟩ (by dsimp only; omega) (fun q hq => ?_)) (fun q hq => ?_)) (fun O2 h2 => ?_)
      · have := (List.getElem?_eq_some_iff.mp h).1
        omega
      · obtain ⟨z, O2⟩ := q
        obtain ⟨k, rfl, hk, hpos, hfr2, h582, hlo, hhi⟩ := hq
        dsimp only at *
        have hsg2 : sgO O2 = sgO O := by
          unfold sgO
          rw [hfr2.1 276 (by simp) (by decide), hfr2.1 277 (by simp) (by decide), hfr2.1 278 (by simp) (by decide), hfr2.1 279 (by simp) (by decide)]
        cases k with
        | zero =>
          rw [if_neg (by omega)]
          refine Ret_some (Or.inr ⟨_, rfl, ?_, hfr2, h582, ?_, ?_⟩)
          · rw [hpos]; rfl
          · intro i k hi; rw [hpos] at hi; exact absurd hi (Nat.not_lt_zero _)
          · intro i k hi h; exact hhi i k (Nat.zero_le _) h
        | succ k =>
          obtain ⟨y, hy⟩ : ∃ y, rc[k]? = some y := ⟨rc[k]'(by omega), by simp [show k < rc.length by omega]⟩
          obtain ⟨hyc, hym⟩ := hmem y (List.mem_of_getElem? hy)
          have hyb := hg.2.1 y (by omega)
          rw [if_pos (by omega), Ln283, wr_id (by omega) (by omega), show (((k + 1 : Nat) : Int)) - 1 = (k : Int) by omega, aget_nat (show k < 8 by omega), hlo k y (by omega) hy]
          dsimp only [Option.bind_some]
          have hxx := hx
          obtain ⟨q, eq, _, hq⟩ := rf_hi (O := O2) (i := y) (j := c) (by omega) (by omega) (by rw [hsg2]; exact hyb) (by rw [hsg2]; exact hcb) hx
          rw [hsg2] at hq
          rw [eq]
          dsimp only [Option.bind_some]
          have hgd : rc.getD k 0 = y := by simp [List.getD_eq_getElem?_getD, hy]
          by_cases c1 : q = 1
          · rw [if_neg (by omega), wr_id (by omega) (by omega), aset_nat (show k + 1 < 8 by omega)]
            dsimp only [Option.bind_some]
            refine Ret_some (Or.inl ⟨_, rfl, ⟨k, by dsimp only; omega, by omega, ?_, FrO_arr hfr2 (by simp) (by decide), ?_, ?_, ?_⟩, by dsimp only; omega⟩)
            · rw [hpos, insPos_fix, hgd, if_pos (hib_iff.mpr (hq.mp c1))]
            · dsimp only
              rw [up2_ne (Or.inl (by decide)), h582]
            · intro i z hi hz
              dsimp only
              rw [up2_ne (Or.inr (by omega))]
              exact hlo i z (by omega) hz
            · intro i z hi hz
              dsimp only
              by_cases e : i = k
              · subst e
                rw [up2_same]
                rw [hy] at hz
                rw [Option.some.inj hz]
              · rw [up2_ne (Or.inr (by omega))]
                exact hhi i z (by omega) hz
          · have q0 : q = 0 := by omega
            rw [if_pos q0]
            have hfix : insPos (fun a b => hib (sgO O) a b x) c rc (k + 1) = k + 1 := by
              rw [insPos_fix, hgd, if_neg (fun h => c1 (hq.mpr (hib_iff.mp h)))]
            refine Ret_some (Or.inr ⟨_, rfl, ?_, hfr2, h582, ?_, ?_⟩)
            · rw [hpos, hfix]
            · intro i z hi hz; rw [hpos, hfix] at hi; exact hlo i z hi hz
            · intro i z hi hz; rw [hpos, hfix] at hi; exact hhi i z hi hz
      · obtain ⟨z, O2⟩ := q
        obtain ⟨rfl, hfr2, h582, hlo, hhi⟩ := hq
        dsimp only at *
        have hpl := insPos_le (fun a b => hib (sgO O) a b x) c rc rc.length
        rw [Ln283, aset_nat (show insPos (fun a b => hib (sgO O) a b x) c rc rc.length < 8 by omega)]
        dsimp only [Option.bind_some]
        refine Ret_some ⟨FrO_int (FrO_arr hfr2 (by simp) (by decide)) (by simp), ?_, ?_⟩
        · rw [up2_same, up2_ne (Or.inl (by decide)), h582, insR_len, wr_id (by omega) (by omega)]
          omega
        · intro i k hi
          rw [insR_get] at hi
          rw [up2_ne (Or.inl (by decide))]
          by_cases c1 : i < insPos (fun a b => hib (sgO O) a b x) c rc rc.length
          · rw [if_pos c1] at hi
            rw [up2_ne (Or.inr (by omega))]
            exact hlo i k c1 hi
          · rw [if_neg c1] at hi
            by_cases c2 : i = insPos (fun a b => hib (sgO O) a b x) c rc rc.length
            · rw [if_pos c2] at hi
              rw [c2, up2_same, Option.some.inj hi]
            · rw [if_neg c2] at hi
              rw [up2_ne (Or.inr c2)]
              have := hhi (i - 1) k (by omega) hi
              rw [show i - 1 + 1 = i by omega] at this
              exact this
      · obtain ⟨k1, k2, k3⟩ := h2
        rw [wr_id (by omega) (by omega)]
        exact Ret_some ⟨_, rfl, by simp, k1, k2, k3⟩
    · rw [bt_0.mpr (by simpa using hb), if_pos rfl, if_neg hb, wr_id (by omega) (by omega)]
      exact Ret_some ⟨_, rfl, by simp, hfr, h58, harr⟩
  · obtain ⟨z, O1⟩ := q
    obtain ⟨rfl, hfr, h58, harr⟩ := hI
    dsimp only at *
    have h39' : O1 262 39 = n := by rw [hfr.2 39 (by simp), h39]
    rw [if_neg (by rw [h39']; omega)]
    exact Ret_some ⟨_, rfl, hfr, h58, harr⟩
