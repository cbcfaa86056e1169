/-! LEVEL 3, pp: what a version cost -/
def wkA (A : Nat → Int) (st : Int) (k : Nat) : Nat → Nat
  | 0 => 0
  | c + 1 => wkA A st k c + (if A (1805 + (6 * k + c)) = st then 1 else 0)
def waA (A : Nat → Int) (st : Int) : Nat → Nat
  | 0 => 0
  | k + 1 => waA A st k + wkA A st k (A (1485 + k)).toNat
theorem wkA_le (A : Nat → Int) (st : Int) (k : Nat) : ∀ c, wkA A st k c ≤ c
  | 0 => Nat.le_refl _
  | c + 1 => by
    have := wkA_le A st k c
    unfold wkA
    split <;> omega
theorem wkA_ext {A : Nat → Int} {st : Int} {k a : Nat} : ∀ b, a ≤ b → (∀ c, a ≤ c → c < b → A (1805 + (6 * k + c)) ≠ st) → wkA A st k b = wkA A st k a
  | 0, h, _ => by
    have : a = 0 := by omega
    rw [this]
  | b + 1, h, hc => by
    by_cases e : a = b + 1
    · rw [e]
    · have ih := wkA_ext b (show a ≤ b by omega) (fun c h1 h2 => hc c h1 (by omega))
      show wkA A st k b + (if A (1805 + (6 * k + b)) = st then 1 else 0) = wkA A st k a
      rw [if_neg (hc b (by omega) (by omega)), ih]
      rfl
theorem wkA_D {A : Nat → Int} {D : Dt} {st : Int} {k : Nat} : ∀ c, (∀ i, i < c → A (1805 + (6 * k + i)) = D.2 6 (6 * k + i)) → wkA A st k c = wcK D st k c
  | 0, _ => rfl
  | c + 1, h => by
    unfold wkA wcK
    rw [wkA_D c (fun i hi => h i (by omega)), h c (by omega)]
theorem wcD_eq {D D' : Dt} {st : Int} (h : eqD D D') : wcD D st D.1 = wcD D' st D'.1 := by
  rw [← h.1]
  exact wcD_congr _ (fun k hk => by
    have h1 := (h.2.1 k hk).1 4 (by decide)
    have hu : dUsed D k = dUsed D' k := by unfold dUsed; rw [h1]
    exact ⟨hu, fun i hi => (h.2.1 k hk).2 i hi 6 (Or.inl rfl)⟩)
theorem clD_wc (m : Nat) (D : Dt) (st : Int) : wcD (clD m D) st (clD m D).1 = wcD D st D.1 :=
  wcD_congr _ (fun k hk => ⟨by unfold dUsed; rw [clD_o m D 4 k (by decide)], fun i hi => clD_o m D 6 _ (by decide)⟩)
section COST
variable {A : Nat → Int} {n ne slots tp v u : Nat} {g : Sg} {w ev : Nat → Int}
theorem wa_split (h : okA A n slots tp) (h6 : slots ≤ 6) (hv : v ≤ tp) (hu : u ≤ v) : waA A (u : Int) (nA A v) = wcD (vwD A u) (u : Int) (nA A u) := by
  have hle := nA_le h hu hv
  have hz : ∀ k, nA A u ≤ k → k < nA A v → wkA A (u : Int) k (A (1485 + k)).toNat = 0 := fun k k1 k2 => by
    have hkt : k < nA A tp := Nat.lt_of_lt_of_le k2 (nA_le h hv (Nat.le_refl _))
    have hmi := made_iff h hv hu k2
    have := wkA_ext (A := A) (st := (u : Int)) (k := k) (a := 0) (A (1485 + k)).toNat (by omega) (fun c _ hc => by
      have := ((h.2.2.1 k hkt).2.2.2.2 c hc).1
      omega)
    rw [this]; rfl
  have hs : ∀ k, k < nA A u → wkA A (u : Int) k (A (1485 + k)).toNat = wcK (vwD A u) (u : Int) k (dUsed (vwD A u) k) := fun k k1 => by
    have hkt : k < nA A tp := Nat.lt_of_lt_of_le k1 (nA_le h (by omega) (Nat.le_refl _))
    have h6' := us_le h hkt (u : Int)
    rw [vwD_u k1, ← wkA_D (A := A) _ (fun i hi => (vwD_s (j := 0) (by decide) k1 hi (by omega)).symm)]
    exact wkA_ext _ (usC_le _ _ _ _) (fun c c1 c2 => by
      have := us_pre h hkt (u : Int) c2
      omega)
  have low : ∀ k, k ≤ nA A u → waA A (u : Int) k = wcD (vwD A u) (u : Int) k := by
    intro k
    induction k with
    | zero => intro _; rfl
    | succ k ih =>
      intro hk
      unfold waA wcD
      rw [ih (by omega), hs k (by omega)]
  have hi : ∀ d, nA A u + d ≤ nA A v → waA A (u : Int) (nA A u + d) = waA A (u : Int) (nA A u) := by
    intro d
    induction d with
    | zero => intro _; rfl
    | succ d ih =>
      intro hd
      show waA A (u : Int) (nA A u + d) + wkA A (u : Int) (nA A u + d) (A (1485 + (nA A u + d))).toNat = _
      rw [ih (by omega), hz _ (by omega) (by omega)]
      rfl
  have := hi (nA A v - nA A u) (by omega)
  rw [show nA A u + (nA A v - nA A u) = nA A v by omega] at this
  rw [this, low _ (Nat.le_refl _)]
theorem nx_cost (hg : OkSeg g n) (h : stoA g n ne w ev slots A tp) (h6 : slots ≤ 6) (hu : u + 1 ≤ tp) : (nxF g w slots A u (mA A (u + 1)) (A (u + 1))).1 = (nA A (u + 1) - nA A u) + wcD (vwD A (u + 1)) ((u + 1 : Nat) : Int) (nA A (u + 1)) := by
  obtain ⟨s1, s2, s3, s4⟩ := h
  have hver := (s3 (u + 1) hu).1
  have hrl : (rowF g (mA A (u + 1)) (A (u + 1))).length ≤ 8 := by rw [rowF_len hg hver.1]; exact pc_le _
  have hnd := rowF_nodup hg hver.1
  have hTT := joinJ_TT w (rowF g (mA A (u + 1)) (A (u + 1))) hnd
  have hpp : (poF g w (mA A (u + 1)) (A (u + 1))).Perm (rowF g (mA A (u + 1)) (A (u + 1))) := post8_perm hrl hTT
  have hC := post8_C _ _ _ [] (Nat.le_refl _) hrl hTT
  have hpn : (poF g w (mA A (u + 1)) (A (u + 1))).Nodup := hpp.nodup_iff.mpr hnd
  have hpm : ∀ y ∈ poF g w (mA A (u + 1)) (A (u + 1)), y < n := fun y hy => (hver.1.2 y ((rowF_mem hg hver.1).mp (hpp.mem_iff.mp hy))).1
  have hF := FI_take (slots := slots) (n := n) hC hpn hpm h6 (FI_start s1 h6 (show u ≤ tp by omega) _ _) (poF g w (mA A (u + 1)) (A (u + 1))).length (Nat.le_refl _)
  have hF2 : FI (vwD A u) u (mA A u) n slots (tL w (rowF g (mA A (u + 1)) (A (u + 1)))) (tR w (rowF g (mA A (u + 1)) (A (u + 1)))) ((poF g w (mA A (u + 1)) (A (u + 1))).take (poF g w (mA A (u + 1)) (A (u + 1))).length) ((poF g w (mA A (u + 1)) (A (u + 1))).take (poF g w (mA A (u + 1)) (A (u + 1))).length) (nxF g w slots A u (mA A (u + 1)) (A (u + 1))).1 (nxF g w slots A u (mA A (u + 1)) (A (u + 1))).2 := by
    have e : nxF g w slots A u (mA A (u + 1)) (A (u + 1)) = fdD slots u (mA A u) (tL w (rowF g (mA A (u + 1)) (A (u + 1)))) (tR w (rowF g (mA A (u + 1)) (A (u + 1)))) (0, vwD A u) ((poF g w (mA A (u + 1)) (A (u + 1))).take (poF g w (mA A (u + 1)) (A (u + 1))).length) := by
      rw [List.take_length]
      rfl
    rw [e]
    exact hF
  have hpr := hF2.2.2.2.2.2.2.2.2.1
  have heq := s2 u (by omega)
  unfold stpA at heq
  have hn1 : (nxF g w slots A u (mA A (u + 1)) (A (u + 1))).2.1 = nA A (u + 1) := heq.1
  have hw := wcD_eq (st := ((u + 1 : Nat) : Int)) heq
  rw [clD_wc] at hw
  have e2 : ((u : Int) + 1) = ((u + 1 : Nat) : Int) := by omega
  rw [e2, hw] at hpr
  rw [hpr, hn1]
  rfl
end COST
section COST2
variable {S : Sst} {O : Smo} {n ne slots v tp bs u : Nat} {lo : Nat → Nat}
theorem rf_writtenAt (h5 : IVer S O n ne slots v tp bs) (h6 : slots ≤ 6) (st : Int) : f_X12_writtenAt st O = some (waA (O 282) st (nA (O 282) v) : Int) ∧ waA (O 282) st (nA (O 282) v) ≤ 1920 := by
  have hm := q_many h5
  have hbd : ∀ k, k ≤ nA (O 282) v → waA (O 282) st k ≤ 6 * k := by
    intro k
    induction k with
    | zero => intro _; exact Nat.le_refl _
    | succ k ih =>
      intro hk
      have hkt := (q_us h5 h6 (show k < nA (O 282) v by omega)).2.2.2.2
      have := (h5.2.2.2.2.1.1.2.2.1 k hkt).2.2.1
      have := wkA_le (O 282) st k (O 282 (1485 + k)).toNat
      have := ih (by omega)
      show waA (O 282) st k + wkA (O 282) st k (O 282 (1485 + k)).toNat ≤ _
      omega
  refine ⟨?_, by have := hbd _ (Nat.le_refl _); omega⟩
  unfold f_X12_writtenAt
  refine Ret_eq (Ret_bind (P := fun r => r = (waA (O 282) st (nA (O 282) v) : Int)) (Ret_lp (fun c q => q = ((waA (O 282) st c : Int), (c : Int))) (nA (O 282) v) (by omega) rfl (fun c q hc hI => ?_) (fun q hI => ?_)) (fun r hr => Ret_some hr))
  · subst hI
    have hu := q_us h5 h6 hc
    have hb := hbd c (by omega)
    have h14 := (h5.2.2.2.2.1.1.2.2.1 c hu.2.2.2.2).2.2.1
    have hin : lp (fun (s8167 : Int × Int) =>
        Option.bind (aget (O 282) (Ln 282) (wr (1485 + (c : Int)))) fun (v8173 : Int) =>
        if s8167.2 < v8173 then
          (Option.bind (aget (O 282) (Ln 282) (wr ((wr (1805 + (wr (6 * (c : Int))))) + s8167.2))) fun (v8176 : Int) =>
          jn (
            if v8176 = st then
              (1)
            else
              (0)) fun (q8178 : Int) =>
          jn (wr (s8167.1 + (f_X12_truth q8178))) fun (v8184 : Int) =>
          some (Sum.inl (v8184, wr (s8167.2 + 1))))
        else
          (some (Sum.inr s8167.1))) FU ((waA (O 282) st c : Int), 0) = some ((waA (O 282) st c : Int) + wkA (O 282) st c (O 282 (1485 + c)).toNat) := by
      refine Ret_eq (Ret_lp (fun i q => q = ((waA (O 282) st c : Int) + wkA (O 282) st c i, (i : Int))) (O 282 (1485 + c)).toNat (by omega) (by simp [wkA]) (fun i q hi hI => ?_) (fun q hI => ?_))
      · subst hI
        have hl := wkA_le (O 282) st c i
        rw [rf_at (i := 1485 + c) (by rw [wr_id (by omega) (by omega)]; omega) (by omega)]
        dsimp only [Option.bind_some, jn]
        have hix : wr (wr (1805 + wr (6 * (c : Int))) + (i : Int)) = ((1805 + (6 * c + i) : Nat) : Int) := by
          rw [wr_id (z := 6 * (c : Int)) (by omega) (by omega), wr_id (z := 1805 + 6 * (c : Int)) (by omega) (by omega), wr_id (by omega) (by omega)]
          omega
        rw [if_pos (by omega), rf_at (i := 1805 + (6 * c + i)) hix (by omega)]
        dsimp only [Option.bind_some]
        rw [wr_id (z := (i : Int) + 1) (by omega) (by omega)]
        refine Ret_some ⟨_, rfl, ?_⟩
        rw [show wkA (O 282) st c (i + 1) = wkA (O 282) st c i + (if O 282 (1805 + (6 * c + i)) = st then 1 else 0) from rfl]
        by_cases e : O 282 (1805 + (6 * c + i)) = st
        · rw [if_pos e, if_pos e, show f_X12_truth 1 = 1 from rfl, wr_id (by omega) (by omega)]
          simp [Int.add_assoc]
        · rw [if_neg e, if_neg e, show f_X12_truth 0 = 0 from rfl, wr_id (by omega) (by omega)]
          simp
      · subst hI
        rw [rf_at (i := 1485 + c) (by rw [wr_id (by omega) (by omega)]; omega) (by omega)]
        dsimp only [Option.bind_some]
        rw [if_neg (by omega)]
        exact Ret_some ⟨_, rfl, rfl⟩
    dsimp only [jn] at hin
    rw [hm.1]
    dsimp only [Option.bind_some, jn]
    rw [if_pos (by omega), hin]
    dsimp only [Option.bind_some]
    rw [wr_id (by omega) (by omega)]
    refine Ret_some ⟨_, rfl, ?_⟩
    rw [show waA (O 282) st (c + 1) = waA (O 282) st c + wkA (O 282) st c (O 282 (1485 + c)).toNat from rfl]
    simp
  · subst hI
    rw [hm.1]
    dsimp only [Option.bind_some]
    rw [if_neg (by omega)]
    exact Ret_some ⟨_, rfl, rfl⟩
theorem q_cost (h4 : IPlan S O n ne slots lo) (h5 : IVer S O n ne slots v tp bs) (hu : u ≤ v) : f_X6_at 85 (u : Int) S = csA (sgO O) (O 280) slots (O 282) u ∧ f_X12_costOf (u : Int) O = some (csA (sgO O) (O 280) slots (O 282) u) ∧ 0 ≤ csA (sgO O) (O 280) slots (O 282) u := by
  have hh := h5.2.2.2.1
  have h6 := h4.2.2.1.2
  have hw := rf_writtenAt h5 h6 (u : Int)
  have ok := h5.2.2.2.2.1.1
  refine ⟨at_nat (n := v + 1) h5.2.2.2.2.2.2.2.2.2.2.1 (by omega), ?_, ?_⟩
  · unfold f_X12_costOf f_X12_madeAt
    rw [hw.1]
    have hsp := wa_split ok h6 (show v ≤ tp by omega) hu
    by_cases z : u = 0
    · subst z
      rw [if_pos (by rfl)]
      dsimp only [Option.bind_some]
      have e0 : nA (O 282) 0 = 0 := ok.2.1.1
      rw [hsp, e0]
      rfl
    · obtain ⟨i, rfl⟩ : ∃ i, u = i + 1 := ⟨u - 1, by omega⟩
      have hle := nA_le ok (show i ≤ i + 1 by omega) (show i + 1 ≤ tp by omega)
      have h8 := (ok.2.1.2.2 i (by omega)).2
      have hnx := nx_cost h4.2.1 h5.2.2.2.2.1 h6 (show i + 1 ≤ tp by omega)
      have hm1 := nA_8 ok (i + 1) (by omega)
      rw [if_neg (by omega), rf_at (i := 164 + (i + 1)) (by rw [wr_id (by omega) (by omega)]; omega) (by omega), rf_at (i := 164 + i) (by rw [wr_id (z := 164 + ((i + 1 : Nat) : Int)) (by omega) (by omega), wr_id (by omega) (by omega)]; omega) (by omega), ok.2.1.2.1 i (by omega), ok.2.1.2.1 (i + 1) (by omega)]
      dsimp only [Option.bind_some]
      rw [wr_id (z := (nA (O 282) (i + 1) : Int) - nA (O 282) i) (by omega) (by omega), wr_id (by omega) (by omega)]
      rw [show csA (sgO O) (O 280) slots (O 282) (i + 1) = ((nxF (sgO O) (O 280) slots (O 282) i (mA (O 282) (i + 1)) (O 282 (i + 1))).1 : Int) from rfl, hnx, ← hsp]
      congr 1
      omega
  · cases u with
    | zero => exact Int.le_refl _
    | succ i => exact Int.natCast_nonneg _
theorem op_dearest {S : Sst} {O : Smo} (h : Inv S O) : Op0 (f_X11_dearest S) (f_X12_dearest O) := by
  obtain ⟨n, ne, slots, lo, v, tp, bs, h1, h2, h3, h4, h5, h6, h7, h8⟩ := h
  have hh := h5.2.2.2.1
  unfold f_X11_dearest f_X12_dearest
  refine Op0_lp (fun c s => s.2 = ((c + 1 : Nat) : Int) ∧ ((c = 0 ∧ s.1 = -1) ∨ (0 < c ∧ ∃ b : Nat, s.1 = (b : Int) ∧ b ≤ c))) v (by omega) ⟨rfl, Or.inl ⟨rfl, rfl⟩⟩ (fun c s hc hI => ?_) (fun s hI => ?_)
  · obtain ⟨x, z⟩ := s
    obtain ⟨rfl, hx⟩ := hI
    dsimp only [jn] at *
    have hc1 := q_cost h4 h5 (show c + 1 ≤ v by omega)
    rw [q_new h5, h5.1, if_neg (c := (v : Int) < ((c + 1 : Nat) : Int)) (by omega), if_neg (c := (v : Int) < ((c + 1 : Nat) : Int)) (by omega), wr_id (z := ((c + 1 : Nat) : Int) + 1) (by omega) (by omega)]
    rcases hx with ⟨c0, rfl⟩ | ⟨c0, b, rfl, hb⟩
    · rw [if_pos (c := (-1 : Int) = -1 ∨ _) (Or.inl rfl), if_pos (c := (-1 : Int) < 0) (by decide)]
      dsimp only [Option.bind_some]
      exact ⟨rfl, Ret_some ⟨_, rfl, by simp, Or.inr ⟨by omega, c + 1, rfl, by omega⟩⟩⟩
    · have hb1 := q_cost h4 h5 (show b ≤ v by omega)
      rw [if_neg (c := (b : Int) < 0) (by omega), hc1.1, hc1.2.1, hb1.1, hb1.2.1]
      dsimp only [Option.bind_some]
      by_cases q : csA (sgO O) (O 280) slots (O 282) b < csA (sgO O) (O 280) slots (O 282) (c + 1)
      · rw [if_pos (c := (b : Int) = -1 ∨ _) (Or.inr q), if_pos q]
        dsimp only [Option.bind_some]
        exact ⟨rfl, Ret_some ⟨_, rfl, by simp, Or.inr ⟨by omega, c + 1, rfl, by omega⟩⟩⟩
      · rw [if_neg (c := (b : Int) = -1 ∨ _) (by rintro (a | a); omega; exact q a), if_neg q]
        dsimp only [Option.bind_some]
        exact ⟨rfl, Ret_some ⟨_, rfl, by simp, Or.inr ⟨by omega, b, rfl, by omega⟩⟩⟩
  · obtain ⟨x, z⟩ := s
    obtain ⟨rfl, hx⟩ := hI
    dsimp only [jn] at *
    rw [q_new h5, h5.1, if_pos (c := (v : Int) < ((v + 1 : Nat) : Int)) (by omega), if_pos (c := (v : Int) < ((v + 1 : Nat) : Int)) (by omega)]
    exact ⟨rfl, Ret_some ⟨_, rfl, trivial⟩⟩
end COST2
