/-! LEVEL 3, m: a version more, as plain data (pure) -/
def lastO (own : Nat → Int) (s : Int) : Nat → Int
  | 0 => -1
  | k + 1 => if own k = s then (k : Int) else lastO own s k
def wcK (D : Dt) (st : Int) (k : Nat) : Nat → Nat
  | 0 => 0
  | c + 1 => wcK D st k c + (if D.2 6 (6 * k + c) = st then 1 else 0)
def wcD (D : Dt) (st : Int) : Nat → Nat
  | 0 => 0
  | k + 1 => wcD D st k + wcK D st k (dUsed D k)
theorem lastO_congr {o o' : Nat → Int} {s : Int} : ∀ n, (∀ k, k < n → o k = o' k) → lastO o s n = lastO o' s n
  | 0, _ => rfl
  | n + 1, h => by
    unfold lastO
    rw [h n (by omega), lastO_congr n (fun k hk => h k (by omega))]
theorem lastO_lt {o : Nat → Int} {s : Int} : ∀ n, lastO o s n = -1 ∨ ∃ k : Nat, lastO o s n = (k : Int) ∧ k < n ∧ o k = s
  | 0 => Or.inl rfl
  | n + 1 => by
    unfold lastO
    by_cases c : o n = s
    · rw [if_pos c]; exact Or.inr ⟨n, rfl, by omega, c⟩
    · rw [if_neg c]
      rcases lastO_lt (o := o) (s := s) n with h | ⟨k, h1, h2, h3⟩
      · exact Or.inl h
      · exact Or.inr ⟨k, h1, by omega, h3⟩
theorem rdC_congr {D D' : Dt} {k : Nat} {side st : Int} (h2 : D.2 2 k = D'.2 2 k) (h3 : D.2 3 k = D'.2 3 k) : ∀ c, (∀ i, i < c → D.2 6 (6 * k + i) = D'.2 6 (6 * k + i) ∧ D.2 7 (6 * k + i) = D'.2 7 (6 * k + i) ∧ D.2 8 (6 * k + i) = D'.2 8 (6 * k + i)) → rdC D k side st c = rdC D' k side st c
  | 0, _ => by
    unfold rdC
    rw [h2, h3]
  | c + 1, h => by
    obtain ⟨a, b, d⟩ := h c (by omega)
    unfold rdC
    rw [a, b, d, rdC_congr h2 h3 c (fun i hi => h i (by omega))]
theorem rdC_st {D : Dt} {k : Nat} {side st st' : Int} : ∀ c, (∀ i, i < c → (D.2 6 (6 * k + i) ≤ st ↔ D.2 6 (6 * k + i) ≤ st')) → rdC D k side st c = rdC D k side st' c
  | 0, _ => rfl
  | c + 1, h => by
    have := h c (by omega)
    unfold rdC
    rw [rdC_st c (fun i hi => h i (by omega))]
    by_cases e : D.2 7 (6 * k + c) = side ∧ D.2 6 (6 * k + c) ≤ st
    · rw [if_pos e, if_pos ⟨e.1, this.mp e.2⟩]
    · rw [if_neg e, if_neg (fun q => e ⟨q.1, this.mpr q.2⟩)]
theorem wcK_congr {D D' : Dt} {st : Int} {k : Nat} : ∀ c, (∀ i, i < c → D.2 6 (6 * k + i) = D'.2 6 (6 * k + i)) → wcK D st k c = wcK D' st k c
  | 0, _ => rfl
  | c + 1, h => by
    unfold wcK
    rw [h c (by omega), wcK_congr c (fun i hi => h i (by omega))]
theorem wcK_0 {D : Dt} {st : Int} {k : Nat} : ∀ c, (∀ i, i < c → D.2 6 (6 * k + i) ≠ st) → wcK D st k c = 0
  | 0, _ => rfl
  | c + 1, h => by
    unfold wcK
    rw [if_neg (h c (by omega)), wcK_0 c (fun i hi => h i (by omega))]
theorem wcD_congr {D D' : Dt} {st : Int} : ∀ n, (∀ k, k < n → dUsed D k = dUsed D' k ∧ ∀ i, i < dUsed D k → D.2 6 (6 * k + i) = D'.2 6 (6 * k + i)) → wcD D st n = wcD D' st n
  | 0, _ => rfl
  | n + 1, h => by
    obtain ⟨a, b⟩ := h n (by omega)
    unfold wcD
    rw [wcD_congr n (fun k hk => h k (by omega)), wcK_congr _ b, a]
theorem wcD_0 {D : Dt} {st : Int} : ∀ n, (∀ k i, k < n → i < dUsed D k → D.2 6 (6 * k + i) ≠ st) → wcD D st n = 0
  | 0, _ => rfl
  | n + 1, h => by
    unfold wcD
    rw [wcD_0 n (fun k i hk => h k i (by omega)), wcK_0 _ (fun i hi => h n i (by omega) hi)]
-- a node made
theorem mkD_0 (D : Dt) (s : Nat) (st l r cp : Int) (k : Nat) : (mkD D s st l r cp).2 0 k = if k = D.1 then (s : Int) else D.2 0 k := by
  unfold mkD up2
  by_cases h : k = D.1 <;> simp [h]
theorem mkD_1 (D : Dt) (s : Nat) (st l r cp : Int) (k : Nat) : (mkD D s st l r cp).2 1 k = if k = D.1 then st else D.2 1 k := by
  unfold mkD up2
  by_cases h : k = D.1 <;> simp [h]
theorem mkD_2 (D : Dt) (s : Nat) (st l r cp : Int) (k : Nat) : (mkD D s st l r cp).2 2 k = if k = D.1 then l else D.2 2 k := by
  unfold mkD up2
  by_cases h : k = D.1 <;> simp [h]
theorem mkD_3 (D : Dt) (s : Nat) (st l r cp : Int) (k : Nat) : (mkD D s st l r cp).2 3 k = if k = D.1 then r else D.2 3 k := by
  unfold mkD up2
  by_cases h : k = D.1 <;> simp [h]
theorem mkD_4 (D : Dt) (s : Nat) (st l r cp : Int) (k : Nat) : (mkD D s st l r cp).2 4 k = if k = D.1 then 0 else D.2 4 k := by
  unfold mkD up2
  by_cases h : k = D.1 <;> simp [h]
theorem mkD_5 (D : Dt) (s : Nat) (st l r cp : Int) (k : Nat) : (mkD D s st l r cp).2 5 k = if k = D.1 then cp else D.2 5 k := by
  unfold mkD up2
  by_cases h : k = D.1 <;> simp [h]
theorem mkD_9 (D : Dt) (s : Nat) (st l r cp : Int) (k : Nat) : (mkD D s st l r cp).2 9 k = if k = s then (D.1 : Int) else D.2 9 k := by
  unfold mkD up2
  by_cases h : k = s <;> simp [h]
theorem mkD_s (D : Dt) (s : Nat) (st l r cp : Int) (j k : Nat) (hj : j = 6 ∨ j = 7 ∨ j = 8) : (mkD D s st l r cp).2 j k = D.2 j k := by
  unfold mkD up2
  rcases hj with rfl | rfl | rfl <;> simp
theorem mkD_u (D : Dt) (s : Nat) (st l r cp : Int) (k : Nat) : dUsed (mkD D s st l r cp) k = if k = D.1 then 0 else dUsed D k := by
  unfold dUsed
  rw [mkD_4]
  split <;> rfl
theorem mkD_rd (D : Dt) (s : Nat) (st l r cp : Int) (k : Nat) (side a : Int) : rdD (mkD D s st l r cp) k side a = if k = D.1 then (if side = 0 then l else r) else rdD D k side a := by
  unfold rdD
  rw [mkD_u]
  by_cases h : k = D.1
  · rw [if_pos h, if_pos h]
    unfold rdC
    rw [mkD_2, mkD_3, if_pos h, if_pos h]
  · rw [if_neg h, if_neg h]
    refine rdC_congr ?_ ?_ _ (fun i _ => ⟨mkD_s _ _ _ _ _ _ _ _ (by simp), mkD_s _ _ _ _ _ _ _ _ (by simp), mkD_s _ _ _ _ _ _ _ _ (by simp)⟩)
    · rw [mkD_2, if_neg h]
    · rw [mkD_3, if_neg h]
-- a slot written
theorem wrD_o (D : Dt) (k0 : Nat) (st side child : Int) (j k : Nat) (hj : j < 4 ∨ j = 5 ∨ j = 9) : (wrD D k0 st side child).2 j k = D.2 j k := by
  unfold wrD upD up2
  have h : j ≠ 4 ∧ j ≠ 6 ∧ j ≠ 7 ∧ j ≠ 8 := by omega
  simp [h]
theorem wrD_4 (D : Dt) (k0 : Nat) (st side child : Int) (k : Nat) : (wrD D k0 st side child).2 4 k = if k = k0 then (dUsed D k0 : Int) + 1 else D.2 4 k := by
  unfold wrD upD up2
  by_cases h : k = k0 <;> simp [h]
theorem wrD_u (D : Dt) (k0 : Nat) (st side child : Int) (k : Nat) : dUsed (wrD D k0 st side child) k = if k = k0 then dUsed D k0 + 1 else dUsed D k := by
  unfold dUsed
  rw [wrD_4]
  unfold dUsed
  split <;> omega
theorem wrD_6 (D : Dt) (k0 : Nat) (st side child : Int) (i : Nat) : (wrD D k0 st side child).2 6 i = if i = 6 * k0 + dUsed D k0 then st else D.2 6 i := by
  unfold wrD upD up2
  by_cases h : i = 6 * k0 + dUsed D k0 <;> simp [h]
theorem wrD_7 (D : Dt) (k0 : Nat) (st side child : Int) (i : Nat) : (wrD D k0 st side child).2 7 i = if i = 6 * k0 + dUsed D k0 then side else D.2 7 i := by
  unfold wrD upD up2
  by_cases h : i = 6 * k0 + dUsed D k0
  · simp [h, dUsed]
  · simp [h]
theorem wrD_8 (D : Dt) (k0 : Nat) (st side child : Int) (i : Nat) : (wrD D k0 st side child).2 8 i = if i = 6 * k0 + dUsed D k0 then child else D.2 8 i := by
  unfold wrD upD up2
  by_cases h : i = 6 * k0 + dUsed D k0
  · simp [h, dUsed]
  · simp [h]
theorem wrD_rd {D : Dt} {k0 : Nat} (st side child : Int) (k : Nat) (sd a : Int) (h6 : dUsed D k0 < 6) (h6' : dUsed D k ≤ 6) : rdD (wrD D k0 st side child) k sd a = if k = k0 ∧ side = sd ∧ st ≤ a then child else rdD D k sd a := by
  have old : ∀ i, i < dUsed D k → (wrD D k0 st side child).2 6 (6 * k + i) = D.2 6 (6 * k + i) ∧ (wrD D k0 st side child).2 7 (6 * k + i) = D.2 7 (6 * k + i) ∧ (wrD D k0 st side child).2 8 (6 * k + i) = D.2 8 (6 * k + i) := fun i hi => by
    have hne : 6 * k + i ≠ 6 * k0 + dUsed D k0 := by
      by_cases e : k = k0
      · subst e; omega
      · omega
    rw [wrD_6, wrD_7, wrD_8, if_neg hne, if_neg hne, if_neg hne]
    exact ⟨rfl, rfl, rfl⟩
  have e2 : (wrD D k0 st side child).2 2 k = D.2 2 k := wrD_o _ _ _ _ _ _ _ (by omega)
  have e3 : (wrD D k0 st side child).2 3 k = D.2 3 k := wrD_o _ _ _ _ _ _ _ (by omega)
  unfold rdD
  rw [wrD_u]
  by_cases e : k = k0
  · subst e
    rw [if_pos rfl]
    conv => lhs; unfold rdC
    rw [wrD_6, wrD_7, wrD_8, if_pos rfl, if_pos rfl, if_pos rfl, rdC_congr e2 e3 _ old]
    by_cases c : side = sd ∧ st ≤ a
    · rw [if_pos c, if_pos ⟨rfl, c⟩]
    · rw [if_neg c, if_neg (fun q => c q.2)]
  · rw [if_neg e, if_neg (fun q => e q.1)]
    exact rdC_congr e2 e3 _ old
theorem wrD_wc {D : Dt} {k0 : Nat} (st side child : Int) : ∀ n, (∀ k, k < n → dUsed D k ≤ 6) → dUsed D k0 < 6 → wcD (wrD D k0 st side child) st n = wcD D st n + (if k0 < n then 1 else 0)
  | 0, _, _ => rfl
  | n + 1, h, h6 => by
    have ih := wrD_wc (D := D) (k0 := k0) st side child n (fun k hk => h k (by omega)) h6
    have hn := h n (by omega)
    unfold wcD
    rw [ih, wrD_u]
    by_cases e : n = k0
    · subst e
      rw [if_pos rfl, if_neg (by omega), if_pos (by omega)]
      conv => lhs; unfold wcK
      rw [wrD_6, if_pos rfl, if_pos rfl]
      rw [wcK_congr (D' := D) _ (fun i hi => by rw [wrD_6, if_neg (by omega)])]
      omega
    · rw [if_neg e, wcK_congr (D' := D) _ (fun i hi => by rw [wrD_6, if_neg (by omega)])]
      have : (if k0 < n then 1 else 0) = if k0 < n + 1 then 1 else 0 := by
        by_cases c : k0 < n
        · rw [if_pos c, if_pos (by omega)]
        · rw [if_neg c, if_neg (by omega)]
      omega
theorem mkD_wc {D : Dt} (s : Nat) (a l r cp st : Int) : wcD (mkD D s a l r cp) st (D.1 + 1) = wcD D st D.1 := by
  show wcD (mkD D s a l r cp) st D.1 + wcK (mkD D s a l r cp) st D.1 (dUsed (mkD D s a l r cp) D.1) = _
  rw [mkD_u, if_pos rfl]
  rw [wcD_congr (D' := D) D.1 (fun k hk => ⟨by rw [mkD_u, if_neg (by omega)], fun i _ => mkD_s _ _ _ _ _ _ _ _ (by simp)⟩)]
  rfl
