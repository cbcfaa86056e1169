/-! LEVEL 3, s: the reference reads its rows -/
def usC (A : Nat → Int) (k : Nat) (st : Int) : Nat → Nat
  | 0 => 0
  | c + 1 => usC A k st c + (if A (1805 + (6 * k + c)) ≤ st then 1 else 0)
def usA (A : Nat → Int) (k : Nat) (st : Int) : Nat := usC A k st (A (1485 + k)).toNat
def rdA (A : Nat → Int) (k : Nat) (side : Int) : Nat → Int
  | 0 => if side = 0 then A (845 + k) else A (1165 + k)
  | c + 1 => if A (3725 + (6 * k + c)) = side then A (5645 + (6 * k + c)) else rdA A k side c
def nA (A : Nat → Int) (u : Nat) : Nat := (A (164 + u)).toNat
def mA (A : Nat → Int) (u : Nat) : Nat := (A (41 + u)).toNat
def ndA (A : Nat → Int) (s : Int) (u : Nat) : Int := if s < 0 then -1 else if (mA A u).testBit s.toNat = true then lastO (fun k => A (205 + k)) s (nA A u) else -1
theorem usC_s (A : Nat → Int) (k : Nat) (st : Int) (c : Nat) : usC A k st (c + 1) = usC A k st c + (if A (1805 + (6 * k + c)) ≤ st then 1 else 0) := rfl
theorem usC_le (A : Nat → Int) (k : Nat) (st : Int) : ∀ c, usC A k st c ≤ c
  | 0 => Nat.le_refl _
  | c + 1 => by
    have := usC_le A k st c
    unfold usC
    split <;> omega
theorem usC_all {A : Nat → Int} {k : Nat} {st : Int} : ∀ c, (∀ i, i < c → A (1805 + (6 * k + i)) ≤ st) → usC A k st c = c
  | 0, _ => rfl
  | c + 1, h => by
    unfold usC
    rw [usC_all c (fun i hi => h i (by omega)), if_pos (h c (by omega))]
theorem rf_at {O : Smo} {z : Int} {i : Nat} (h : z = (i : Int)) (hi : i < 7565) : aget (O 282) (Ln 282) z = some (O 282 i) := by
  rw [h, Ln282, aget_nat hi]
theorem rf_used {O : Smo} {k : Nat} {st : Int} (hk : k < 320) (h0 : 0 ≤ O 282 (1485 + k)) (h6 : O 282 (1485 + k) ≤ 6) : f_X12_usedUpTo k st O = some (usA (O 282) k st : Int) := by
  have e1 : aget (O 282) (Ln 282) (wr (1485 + (k : Int))) = some (O 282 (1485 + k)) := rf_at (by rw [wr_id (by omega) (by omega)]; omega) (by omega)
  unfold f_X12_usedUpTo
  refine Ret_eq (Ret_bind (P := fun r => r = (usA (O 282) k st : Int)) (Ret_lp (fun c q => q = ((usC (O 282) k st c : Int), (c : Int))) (O 282 (1485 + k)).toNat (by omega) rfl (fun c q hc hI => ?_) (fun q hI => ?_)) (fun r hr => Ret_some hr))
  · subst hI
    dsimp only [jn]
    have hle := usC_le (O 282) k st c
    have e2 : aget (O 282) (Ln 282) (wr (wr (1805 + wr (6 * (k : Int))) + (c : Int))) = some (O 282 (1805 + (6 * k + c))) := rf_at (by rw [wr_id (z := 6 * (k : Int)) (by omega) (by omega), wr_id (z := 1805 + 6 * (k : Int)) (by omega) (by omega), wr_id (by omega) (by omega)]; omega) (by omega)
    rw [e1]
    dsimp only [Option.bind_some]
    rw [if_pos (by omega), e2]
    dsimp only [Option.bind_some]
    refine Ret_some ⟨_, rfl, ?_⟩
    rw [usC_s]
    unfold f_X12_truth
    by_cases h : O 282 (1805 + (6 * k + c)) ≤ st
    · rw [if_pos h, if_neg (c := st < _) (by omega), if_neg (by decide), wr_id (by omega) (by omega), wr_id (by omega) (by omega)]
      simp
    · rw [if_neg h, if_pos (c := st < _) (by omega), if_pos rfl, wr_id (by omega) (by omega), wr_id (by omega) (by omega)]
      simp
  · subst hI
    dsimp only [jn]
    rw [e1]
    dsimp only [Option.bind_some]
    rw [if_neg (by omega)]
    exact Ret_some ⟨_, rfl, rfl⟩
theorem rf_read {O : Smo} {k : Nat} {side : Int} {st : Int} (hk : k < 320) (h0 : 0 ≤ O 282 (1485 + k)) (h6 : O 282 (1485 + k) ≤ 6) : f_X12_readAt k side st O = some (rdA (O 282) k side (usA (O 282) k st)) := by
  have hus6 : usA (O 282) k st ≤ 6 := by
    have := usC_le (O 282) k st (O 282 (1485 + k)).toNat
    unfold usA
    omega
  unfold f_X12_readAt
  dsimp only [jn]
  have e0 : aget (O 282) (Ln 282) (wr ((if side = 0 then 845 else 1165) + (k : Int))) = some (rdA (O 282) k side 0) := by
    unfold rdA
    by_cases h : side = 0
    · rw [if_pos h, if_pos h]
      exact rf_at (by rw [wr_id (by omega) (by omega)]; omega) (by omega)
    · rw [if_neg h, if_neg h]
      exact rf_at (by rw [wr_id (by omega) (by omega)]; omega) (by omega)
  rw [e0]
  dsimp only [Option.bind_some]
  refine Ret_eq (Ret_bind (P := fun r => r = rdA (O 282) k side (usA (O 282) k st)) (Ret_lp (fun c q => q = (rdA (O 282) k side c, (c : Int))) (usA (O 282) k st) (by omega) rfl (fun c q hc hI => ?_) (fun q hI => ?_)) (fun r hr => Ret_some hr))
  · subst hI
    rw [rf_used hk h0 h6]
    dsimp only [Option.bind_some, jn]
    rw [if_pos (by omega)]
    have e2 : aget (O 282) (Ln 282) (wr (wr (3725 + wr (6 * (k : Int))) + (c : Int))) = some (O 282 (3725 + (6 * k + c))) := rf_at (by rw [wr_id (z := 6 * (k : Int)) (by omega) (by omega), wr_id (z := 3725 + 6 * (k : Int)) (by omega) (by omega), wr_id (by omega) (by omega)]; omega) (by omega)
    have e3 : aget (O 282) (Ln 282) (wr (wr (5645 + wr (6 * (k : Int))) + (c : Int))) = some (O 282 (5645 + (6 * k + c))) := rf_at (by rw [wr_id (z := 6 * (k : Int)) (by omega) (by omega), wr_id (z := 5645 + 6 * (k : Int)) (by omega) (by omega), wr_id (by omega) (by omega)]; omega) (by omega)
    rw [e2, e3]
    dsimp only [Option.bind_some]
    rw [wr_id (by omega) (by omega)]
    by_cases h : O 282 (3725 + (6 * k + c)) = side
    · rw [if_pos h]
      refine Ret_some ⟨_, rfl, ?_⟩
      conv => rhs; unfold rdA
      rw [if_pos h]
      rfl
    · rw [if_neg h]
      refine Ret_some ⟨_, rfl, ?_⟩
      conv => rhs; unfold rdA
      rw [if_neg h]
      rfl
  · subst hI
    rw [rf_used hk h0 h6]
    dsimp only [Option.bind_some, jn]
    rw [if_neg (by omega)]
    exact Ret_some ⟨_, rfl, rfl⟩
theorem rf_nodeOf {O : Smo} {s : Int} {u : Nat} (hu : u ≤ 40) (hs : s < 8) (hm : O 282 (41 + u) = (mA (O 282) u : Int)) (hm8 : mA (O 282) u < 256) (hN : O 282 (164 + u) = (nA (O 282) u : Int)) (hN8 : nA (O 282) u ≤ 320) : f_X12_nodeOf s u O = some (ndA (O 282) s u) := by
  unfold f_X12_nodeOf ndA
  dsimp only [jk]
  by_cases h : s < 0
  · rw [if_pos h, if_pos h]
  · rw [if_neg h, if_neg h, rf_setOf hu]
    dsimp only [Option.bind_some]
    obtain ⟨y, rfl⟩ : ∃ y : Nat, s = (y : Int) := ⟨s.toNat, by omega⟩
    rw [hm, has_n hm8 (by omega), Int.toNat_natCast]
    by_cases hb : (mA (O 282) u).testBit y = true
    · rw [bt_1.mpr hb, if_neg (by decide), if_pos hb]
      refine Ret_eq (Ret_bind (P := fun r => r = lastO (fun k => O 282 (205 + k)) (y : Int) (nA (O 282) u)) (Ret_lp (fun c q => q = (lastO (fun k => O 282 (205 + k)) (y : Int) c, (c : Int))) (nA (O 282) u) (by omega) rfl (fun c q hc hI => ?_) (fun q hI => ?_)) (fun r hr => Ret_some hr))
      · subst hI
        rw [rf_at (i := 164 + u) (by rw [wr_id (by omega) (by omega)]; omega) (by omega)]
        dsimp only [Option.bind_some, jn]
        rw [if_pos (by omega), rf_at (i := 205 + c) (by rw [wr_id (by omega) (by omega)]; omega) (by omega)]
        dsimp only [Option.bind_some]
        rw [wr_id (by omega) (by omega)]
        exact Ret_some ⟨_, rfl, rfl⟩
      · subst hI
        rw [rf_at (i := 164 + u) (by rw [wr_id (by omega) (by omega)]; omega) (by omega)]
        dsimp only [Option.bind_some, jn]
        rw [if_neg (by omega)]
        exact Ret_some ⟨_, rfl, rfl⟩
    · rw [bt_0.mpr (by simpa using hb), if_pos rfl, if_neg hb]
/-- what the reference's row holds of such data, for a stamp -/
def RefD (A : Nat → Int) (v : Nat) (D : Dt) : Prop := A (164 + v) = (D.1 : Int) ∧ ∀ k, k < D.1 → A (205 + k) = D.2 0 k ∧ A (525 + k) = D.2 1 k ∧ A (845 + k) = D.2 2 k ∧ A (1165 + k) = D.2 3 k ∧ A (1485 + k) = D.2 4 k ∧ ∀ c, c < dUsed D k → A (1805 + (6 * k + c)) = D.2 6 (6 * k + c) ∧ A (3725 + (6 * k + c)) = D.2 7 (6 * k + c) ∧ A (5645 + (6 * k + c)) = D.2 8 (6 * k + c)
theorem rdA_rdC {A : Nat → Int} {D : Dt} {k : Nat} {side st : Int} (h2 : A (845 + k) = D.2 2 k) (h3 : A (1165 + k) = D.2 3 k) : ∀ c, (∀ i, i < c → A (3725 + (6 * k + i)) = D.2 7 (6 * k + i) ∧ A (5645 + (6 * k + i)) = D.2 8 (6 * k + i) ∧ D.2 6 (6 * k + i) ≤ st) → rdA A k side c = rdC D k side st c
  | 0, _ => by
    unfold rdA rdC
    rw [h2, h3]
  | c + 1, h => by
    obtain ⟨a, b, d⟩ := h c (by omega)
    unfold rdA rdC
    rw [a, b, rdA_rdC h2 h3 c (fun i hi => h i (by omega))]
    by_cases e : D.2 7 (6 * k + c) = side
    · rw [if_pos e, if_pos ⟨e, d⟩]
    · rw [if_neg e, if_neg (fun q => e q.1)]
theorem lastO_low {o : Nat → Int} {s : Int} {k N0 : Nat} : ∀ n, lastO o s n = (k : Int) → k < N0 → N0 ≤ n → lastO o s N0 = (k : Int)
  | 0, h, h1, h2 => by omega
  | n + 1, h, h1, h2 => by
    by_cases e : N0 = n + 1
    · rw [e]; exact h
    · have h' := h
      unfold lastO at h'
      by_cases c : o n = s
      · rw [if_pos c] at h'; omega
      · rw [if_neg c] at h'
        exact lastO_low n h' h1 (by omega)
