/-! LEVEL 3, v: the reference goes on -/
theorem usA_congr {A A' : Nat → Int} {k : Nat} {st : Int} (h1 : A (1485 + k) = A' (1485 + k)) (h2 : ∀ c, c < (A (1485 + k)).toNat → A (1805 + (6 * k + c)) = A' (1805 + (6 * k + c))) : usA A k st = usA A' k st := by
  unfold usA
  rw [← h1]
  exact usC_congr _ h2
def poF (g : Sg) (w : Nat → Int) (m : Nat) (x : Int) : List Nat := post8 (tL w (rowF g m x)) (tR w (rowF g m x)) (tRoot w (rowF g m x))
/-- the data of the version behind v: how many made and written, and the nodes -/
def nxF (g : Sg) (w : Nat → Int) (slots : Nat) (A : Nat → Int) (v m : Nat) (x : Int) : Nat × Dt := fdD slots v (mA A v) (tL w (rowF g m x)) (tR w (rowF g m x)) (0, vwD A v) (poF g w m x)
theorem rf_goOn {O : Smo} {n slots tp v m' : Nat} {x : Int} (cut sw : Int) (hA : okA (O 282) n slots tp) (hv : v ≤ tp) (hv40 : v < 40) (h47 : O 262 47 = (v : Int)) (h39 : O 262 39 = (n : Int)) (hg : OkSeg (sgO O) n) (h40 : O 262 40 = (slots : Int)) (h6 : slots ≤ 6) (ho : Over (sgO O) n m' x) (hx : 0 ≤ x ∧ x ≤ 60) :
    Ret (f_X12_goOn x m' cut sw O) (fun q => q.1 = (pc m' : Int) ∧ FrO [282, 283, 284, 285, 286, 287, 288, 289, 290, 291] [47, 48, 58, 59] O q.2 ∧ q.2 262 47 = ((v + 1 : Nat) : Int) ∧ q.2 262 48 = ((v + 1 : Nat) : Int) ∧ q.2 282 (v + 1) = x ∧ q.2 282 (41 + (v + 1)) = (m' : Int) ∧ q.2 282 (82 + (v + 1)) = cut ∧ q.2 282 (123 + (v + 1)) = sw ∧
      (∀ i, (i < 205 ∨ 7565 ≤ i) → i ≠ v + 1 → i ≠ 41 + (v + 1) → i ≠ 82 + (v + 1) → i ≠ 123 + (v + 1) → i ≠ 164 + (v + 1) → q.2 282 i = O 282 i) ∧ RefD (q.2 282) (v + 1) (nxF (sgO O) (O 280) slots (O 282) v m' x).2 ∧
      FI (vwD (O 282) v) v (mA (O 282) v) n slots (tL (O 280) (rowF (sgO O) m' x)) (tR (O 280) (rowF (sgO O) m' x)) (poF (sgO O) (O 280) m' x) (poF (sgO O) (O 280) m' x) (nxF (sgO O) (O 280) slots (O 282) v m' x).1 (nxF (sgO O) (O 280) slots (O 282) v m' x).2) := by
  have hn8 := hg.1
  have hnv := nA_8 hA v hv
  have hnA : O 282 (164 + v) = (nA (O 282) v : Int) := hA.2.1.2.1 v hv
  have hlt : ∀ k, k < nA (O 282) v → k < nA (O 282) tp := fun k hk => Nat.lt_of_lt_of_le hk (nA_le hA hv (Nat.le_refl _))
  have hrl : (rowF (sgO O) m' x).length ≤ 8 := by rw [rowF_len hg ho]; exact pc_le m'
  have hnd := rowF_nodup hg ho
  have hrn : ∀ y ∈ rowF (sgO O) m' x, y < n := fun y hy => (ho.2 y ((rowF_mem hg ho).mp hy)).1
  have hTT := joinJ_TT (O 280) (rowF (sgO O) m' x) hnd
  have hpp := post8_perm hrl hTT
  have hC := post8_C _ _ _ [] (Nat.le_refl _) hrl hTT
  have hpn : (poF (sgO O) (O 280) m' x).Nodup := hpp.nodup_iff.mpr hnd
  have hpl : (poF (sgO O) (O 280) m' x).length = (rowF (sgO O) m' x).length := hpp.length_eq
  have hpm : ∀ y ∈ poF (sgO O) (O 280) m' x, y < n := fun y hy => hrn y (hpp.mem_iff.mp hy)
  have hpr : ∀ y ∈ poF (sgO O) (O 280) m' x, y ∈ rowF (sgO O) m' x := fun y hy => hpp.mem_iff.mp hy
  have hFt := FI_take (slots := slots) (n := n) hC hpn hpm h6 (FI_start hA h6 hv _ _)
  unfold f_X12_goOn
  -- what was to be done again is no more
  refine Ret_bind (P := fun O1 => (∀ q, q ≠ 282 → O1 q = O q) ∧ ∀ i, O1 282 i = if 1485 ≤ i ∧ i < 1485 + nA (O 282) v then (usA (O 282) (i - 1485) v : Int) else O 282 i)
    (Ret_lp (fun c q => q.1 = (c : Int) ∧ (∀ r, r ≠ 282 → q.2 r = O r) ∧ ∀ i, q.2 282 i = if 1485 ≤ i ∧ i < 1485 + c then (usA (O 282) (i - 1485) v : Int) else O 282 i) (nA (O 282) v) (by omega) ⟨rfl, fun _ _ => rfl, fun i => by rw [if_neg (by omega)]⟩ (fun c q hc hI => ?_) (fun q hI => ?_)) (fun O1 hO1 => ?_)
  · obtain ⟨z, O1⟩ := q
    obtain ⟨rfl, i1, i2⟩ := hI
    dsimp only at *
    have h47' : O1 262 47 = (v : Int) := by rw [i1 _ (by decide)]; exact h47
    have hmany : f_X12_nodeMany O1 = some (nA (O 282) v : Int) := by
      unfold f_X12_nodeMany
      rw [h47', rf_at (i := 164 + v) (by rw [wr_id (by omega) (by omega)]; omega) (by omega), i2, if_neg (by omega), hnA]
      rfl
    rw [hmany]
    dsimp only [Option.bind_some]
    obtain ⟨q1, q2⟩ := (hA.2.2.1 c (hlt c hc)).2.2.1
    have hAc : O1 282 (1485 + c) = O 282 (1485 + c) := by rw [i2, if_neg (by omega)]
    have hus : usA (O1 282) c v = usA (O 282) c v := usA_congr hAc (fun j hj => by rw [i2, if_neg (by omega)])
    rw [if_pos (by omega), h47', rf_used (by omega) (by rw [hAc]; exact q1) (by rw [hAc]; omega), hus]
    dsimp only [Option.bind_some]
    obtain ⟨O2, a1, a2, a3⟩ := aset_row (O := O1) (k := 282) (i := 1485 + c) (z := wr (1485 + (c : Int))) (v := (usA (O 282) c v : Int)) (by rw [wr_id (by omega) (by omega)]; omega) (by rw [Ln282]; omega)
    rw [a1]
    dsimp only [Option.bind_some]
    rw [wr_id (by omega) (by omega)]
    refine Ret_some ⟨_, rfl, by simp, fun r hr => by dsimp only; rw [a3 r hr, i1 r hr], fun i => ?_⟩
    dsimp only
    rw [a2]
    by_cases e : i = 1485 + c
    · rw [e, upd_same, if_pos (by omega), show 1485 + c - 1485 = c by omega]
    · rw [upd_ne e, i2]
      by_cases q : 1485 ≤ i ∧ i < 1485 + c
      · rw [if_pos q, if_pos (by omega)]
      · rw [if_neg q, if_neg (by omega)]
  · obtain ⟨z, O1⟩ := q
    obtain ⟨rfl, i1, i2⟩ := hI
    dsimp only at *
    have h47' : O1 262 47 = (v : Int) := by rw [i1 _ (by decide)]; exact h47
    have hmany : f_X12_nodeMany O1 = some (nA (O 282) v : Int) := by
      unfold f_X12_nodeMany
      rw [h47', rf_at (i := 164 + v) (by rw [wr_id (by omega) (by omega)]; omega) (by omega), i2, if_neg (by omega), hnA]
      rfl
    rw [hmany]
    dsimp only [Option.bind_some]
    rw [if_neg (by omega)]
    exact Ret_some ⟨_, rfl, i1, i2⟩
  · obtain ⟨i1, i2⟩ := hO1
    dsimp only [jn]
    have h47' : O1 262 47 = (v : Int) := by rw [i1 _ (by decide)]; exact h47
    rw [h47', show wr ((v : Int) + 1) = ((v + 1 : Nat) : Int) by rw [wr_id (by omega) (by omega)]; omega]
    have e47 : ∀ M : Smo, (∀ j, M 262 j = up2 (up2 O1 262 47 ((v + 1 : Nat) : Int)) 262 48 (up2 O1 262 47 ((v + 1 : Nat) : Int) 262 47) 262 j) → M 262 47 = ((v + 1 : Nat) : Int) := fun M hM => by
      rw [hM, up2_ne (Or.inr (by decide)), up2_same]
    have f2a : ∀ q, q ≠ 262 → up2 (up2 O1 262 47 ((v + 1 : Nat) : Int)) 262 48 (up2 O1 262 47 ((v + 1 : Nat) : Int) 262 47) q = O1 q := fun q hq => by rw [up2_row hq, up2_row hq]
    have f2b : ∀ j, j ≠ 47 → j ≠ 48 → up2 (up2 O1 262 47 ((v + 1 : Nat) : Int)) 262 48 (up2 O1 262 47 ((v + 1 : Nat) : Int) 262 47) 262 j = O1 262 j := fun j h1 h2 => by rw [up2_ne (Or.inr h2), up2_ne (Or.inr h1)]
    have f2c : up2 (up2 O1 262 47 ((v + 1 : Nat) : Int)) 262 48 (up2 O1 262 47 ((v + 1 : Nat) : Int) 262 47) 262 48 = ((v + 1 : Nat) : Int) := by rw [up2_same, up2_same]
    have f2d := e47 _ (fun _ => rfl)
    generalize up2 (up2 O1 262 47 ((v + 1 : Nat) : Int)) 262 48 (up2 O1 262 47 ((v + 1 : Nat) : Int) 262 47) = O2 at *
    obtain ⟨O3, a1, b1, c1⟩ := aset_row (O := O2) (k := 282) (i := v + 1) (z := wr (0 + O2 262 47)) (v := x) (by rw [f2d, wr_id (by omega) (by omega)]; omega) (by rw [Ln282]; omega)
    rw [a1]
    dsimp only [Option.bind_some]
    obtain ⟨O4, a2, b2, c2⟩ := aset_row (O := O3) (k := 282) (i := 41 + (v + 1)) (z := wr (41 + O3 262 47)) (v := (m' : Int)) (by rw [c1 _ (by decide), f2d, wr_id (by omega) (by omega)]; omega) (by rw [Ln282]; omega)
    rw [a2]
    dsimp only [Option.bind_some]
    obtain ⟨O5, a3, b3, c3⟩ := aset_row (O := O4) (k := 282) (i := 82 + (v + 1)) (z := wr (82 + O4 262 47)) (v := cut) (by rw [c2 _ (by decide), c1 _ (by decide), f2d, wr_id (by omega) (by omega)]; omega) (by rw [Ln282]; omega)
    rw [a3]
    dsimp only [Option.bind_some]
    obtain ⟨O6, a4, b4, c4⟩ := aset_row (O := O5) (k := 282) (i := 123 + (v + 1)) (z := wr (123 + O5 262 47)) (v := sw) (by rw [c3 _ (by decide), c2 _ (by decide), c1 _ (by decide), f2d, wr_id (by omega) (by omega)]; omega) (by rw [Ln282]; omega)
    rw [a4]
    dsimp only [Option.bind_some]
    have h6_47 : O6 262 47 = ((v + 1 : Nat) : Int) := by rw [c4 _ (by decide), c3 _ (by decide), c2 _ (by decide), c1 _ (by decide), f2d]
    have hv164 : O6 282 (164 + v) = (nA (O 282) v : Int) := by
      rw [b4, upd_ne (by omega), b3, upd_ne (by omega), b2, upd_ne (by omega), b1, upd_ne (by omega), f2a _ (by decide), i2, if_neg (by omega), hnA]
    rw [h6_47, rf_at (i := 164 + v) (by rw [wr_id (z := 164 + ((v + 1 : Nat) : Int)) (by omega) (by omega), wr_id (by omega) (by omega)]; omega) (by omega), hv164]
    dsimp only [Option.bind_some]
    obtain ⟨O7, a5, b5, c5⟩ := aset_row (O := O6) (k := 282) (i := 164 + (v + 1)) (z := wr (164 + ((v + 1 : Nat) : Int))) (v := (nA (O 282) v : Int)) (by rw [wr_id (by omega) (by omega)]; omega) (by rw [Ln282]; omega)
    rw [a5]
    dsimp only [Option.bind_some]
    have fr7 : ∀ q, q ≠ 282 → q ≠ 262 → O7 q = O q := fun q h1 h2 => by rw [c5 _ h1, c4 _ h1, c3 _ h1, c2 _ h1, c1 _ h1, f2a q h2, i1 q h1]
    have fr7b : ∀ j, j ≠ 47 → j ≠ 48 → O7 262 j = O 262 j := fun j h1 h2 => by rw [c5 _ (by decide), c4 _ (by decide), c3 _ (by decide), c2 _ (by decide), c1 _ (by decide), f2b j h1 h2, i1 _ (by decide)]
    have h7_47 : O7 262 47 = ((v + 1 : Nat) : Int) := by rw [c5 _ (by decide), h6_47]
    have h7_48 : O7 262 48 = ((v + 1 : Nat) : Int) := by rw [c5 _ (by decide), c4 _ (by decide), c3 _ (by decide), c2 _ (by decide), c1 _ (by decide), f2c]
    have A7 : O7 282 = updI (updI (updI (updI (updI (O1 282) (v + 1) x) (41 + (v + 1)) (m' : Int)) (82 + (v + 1)) cut) (123 + (v + 1)) sw) (164 + (v + 1)) (nA (O 282) v : Int) := by rw [b5, b4, b3, b2, b1, f2a _ (by decide)]
    have x1 : O7 282 (v + 1) = x := by rw [A7, upd_ne (by omega), upd_ne (by omega), upd_ne (by omega), upd_ne (by omega), upd_same]
    have x2 : O7 282 (41 + (v + 1)) = (m' : Int) := by rw [A7, upd_ne (by omega), upd_ne (by omega), upd_ne (by omega), upd_same]
    have x3 : O7 282 (82 + (v + 1)) = cut := by rw [A7, upd_ne (by omega), upd_ne (by omega), upd_same]
    have x4 : O7 282 (123 + (v + 1)) = sw := by rw [A7, upd_ne (by omega), upd_same]
    have x5 : O7 282 (164 + (v + 1)) = (nA (O 282) v : Int) := by rw [A7, upd_same]
    have x6 : ∀ i, i ≠ v + 1 → i ≠ 41 + (v + 1) → i ≠ 82 + (v + 1) → i ≠ 123 + (v + 1) → i ≠ 164 + (v + 1) → O7 282 i = O1 282 i := fun i h1 h2 h3 h4 h5 => by rw [A7, upd_ne h5, upd_ne h4, upd_ne h3, upd_ne h2, upd_ne h1]
    have xlow : ∀ i, (i < 205 ∨ 7565 ≤ i) → i ≠ v + 1 → i ≠ 41 + (v + 1) → i ≠ 82 + (v + 1) → i ≠ 123 + (v + 1) → i ≠ 164 + (v + 1) → O7 282 i = O 282 i := fun i h0 h1 h2 h3 h4 h5 => by rw [x6 i h1 h2 h3 h4 h5, i2, if_neg (by omega)]
    have xhi : ∀ i, 205 ≤ i → (i < 1485 ∨ 1805 ≤ i) → O7 282 i = O 282 i := fun i h0 h1 => by rw [x6 i (by omega) (by omega) (by omega) (by omega) (by omega), i2, if_neg (by omega)]
    have xus : ∀ k, k < nA (O 282) v → O7 282 (1485 + k) = (usA (O 282) k v : Int) := fun k hk => by rw [x6 _ (by omega) (by omega) (by omega) (by omega) (by omega), i2, if_pos (by omega), show 1485 + k - 1485 = k by omega]
    have hsg7 : sgO O7 = sgO O := by
      unfold sgO
      rw [fr7 276 (by decide) (by decide), fr7 277 (by decide) (by decide), fr7 278 (by decide) (by decide), fr7 279 (by decide) (by decide)]
    have h280 : O7 280 = O 280 := fr7 280 (by decide) (by decide)
    have hus6 : ∀ k, k < nA (O 282) v → usA (O 282) k v ≤ 6 := fun k hk => by have := us_le hA (hlt k hk) v; omega
    have hRef : RefD (O7 282) (v + 1) (vwD (O 282) v) := by
      refine ⟨by rw [x5]; rfl, fun k hk => ?_⟩
      rw [vwD_n] at hk
      rw [vwD_f (by decide) hk, vwD_f (by decide) hk, vwD_f (by decide) hk, vwD_f (by decide) hk, vwD_4 hk, vwD_u hk]
      refine ⟨xhi _ (by omega) (by omega), xhi _ (by omega) (by omega), xhi _ (by omega) (by omega), xhi _ (by omega) (by omega), xus k hk, fun c hc => ?_⟩
      have := hus6 k hk
      rw [show (6 : Nat) = 6 + 0 from rfl, vwD_s (j := 0) (by decide) hk hc this, show (7 : Nat) = 6 + 1 from rfl, vwD_s (j := 1) (by decide) hk hc this, show (8 : Nat) = 6 + 2 from rfl, vwD_s (j := 2) (by decide) hk hc this]
      exact ⟨xhi _ (by omega) (by omega), xhi _ (by omega) (by omega), xhi _ (by omega) (by omega)⟩
    rw [h7_47]
    refine Ret_bind (rf_layTree (O := O7) (n := n) (m := m') (v := v + 1) (by rw [fr7b _ (by decide) (by decide)]; exact h39) (by rw [hsg7]; exact hg) (by omega) x2 (by rw [hsg7, x1]; exact ho) (by rw [x1]; exact hx)) (fun O8 hO8 => ?_)
    obtain ⟨f8, t8⟩ := hO8
    rw [hsg7, h280, x1] at t8
    obtain ⟨t58, t283, tLR, t59, t289, t288, t290, t286, _⟩ := t8
    have hR8 : RefD (O8 282) (v + 1) (vwD (O 282) v) := by rw [f8.1 282 (by simp) (by decide)]; exact hRef
    refine Ret_bind (P := fun O9 => RefD (O9 282) (v + 1) (nxF (sgO O) (O 280) slots (O 282) v m' x).2 ∧ (∀ q, q ≠ 282 → q ≠ 291 → O9 q = O8 q) ∧ ∀ i, (i < 205 ∨ 7565 ≤ i) → i ≠ 164 + (v + 1) → O9 282 i = O8 282 i)
      (Ret_lp (fun c q => q.1 = (c : Int) ∧ RefD (q.2 282) (v + 1) (fdD slots v (mA (O 282) v) (tL (O 280) (rowF (sgO O) m' x)) (tR (O 280) (rowF (sgO O) m' x)) (0, vwD (O 282) v) ((poF (sgO O) (O 280) m' x).take c)).2 ∧ (∀ y ∈ (poF (sgO O) (O 280) m' x).take c, q.2 291 y = (fdD slots v (mA (O 282) v) (tL (O 280) (rowF (sgO O) m' x)) (tR (O 280) (rowF (sgO O) m' x)) (0, vwD (O 282) v) ((poF (sgO O) (O 280) m' x).take c)).2.2 9 y) ∧ (∀ r, r ≠ 282 → r ≠ 291 → q.2 r = O8 r) ∧ ∀ i, (i < 205 ∨ 7565 ≤ i) → i ≠ 164 + (v + 1) → q.2 282 i = O8 282 i) (poF (sgO O) (O 280) m' x).length (by omega) ⟨rfl, hR8, fun y hy => by simp at hy, fun _ _ _ => rfl, fun _ _ _ => rfl⟩ (fun c q hc hI => ?_) (fun q hI => ?_)) (fun O9 hO9 => ?_)
    · obtain ⟨z, Oc⟩ := q
      obtain ⟨rfl, j1, j2, j3, j4⟩ := hI
      dsimp only at *
      obtain ⟨s, hs⟩ : ∃ s, (poF (sgO O) (O 280) m' x)[c]? = some s := ⟨(poF (sgO O) (O 280) m' x)[c]'hc, by simp [hc]⟩
      have htk : (poF (sgO O) (O 280) m' x).take (c + 1) = (poF (sgO O) (O 280) m' x).take c ++ [s] := by
        obtain ⟨h1, h2⟩ := List.getElem?_eq_some_iff.mp hs
        rw [List.take_succ_eq_append_getElem h1, h2]
      have hsm := List.mem_of_getElem? hs
      have hsn := hpm s hsm
      have hsr := hpr s hsm
      have hsd : s ∉ (poF (sgO O) (O 280) m' x).take c := fun q => by
        obtain ⟨j, hj, hjy⟩ := take_mem q
        have := nodup_at hpn hjy hs
        omega
      have hFc := hFt c (by
        have : c < (poF (sgO O) (O 280) m' x).length := hc
        exact Nat.le_of_lt this)
      have hNc := FI_N slots v (mA (O 282) v) (tL (O 280) (rowF (sgO O) m' x)) (tR (O 280) (rowF (sgO O) m' x)) (0, vwD (O 282) v) ((poF (sgO O) (O 280) m' x).take c)
      obtain ⟨pL, pR⟩ := postC_at _ [] c s hC hs
      rw [List.nil_append] at pL pR
      have o58 : Oc 262 58 = ((rowF (sgO O) m' x).length : Int) := by rw [j3 _ (by decide) (by decide)]; exact t58
      have o288 : Oc 288 c = (s : Int) := by rw [j3 _ (by decide) (by decide)]; exact t288 c s hs
      have o47 : Oc 262 47 = ((v + 1 : Nat) : Int) := by rw [j3 _ (by decide) (by decide), f8.2 47 (by simp), h7_47]
      have hd8 : ∀ y ∈ (poF (sgO O) (O 280) m' x).take c, y < 8 := fun y hy => by have := hpm y (List.mem_of_mem_take hy); omega
      have hx58 : (c : Int) < Oc 262 58 := by rw [o58]; omega
      rw [if_pos hx58, Ln288, aget_nat (show c < 8 by omega), o288]
      dsimp only [Option.bind_some]
      have hll : vwD (O 282) v = vwD (O 282) v := rfl
      have hnn : (vwD (O 282) v).1 = nA (O 282) v := rfl
      rw [htk, fdD_1]
      have hFc' : FI (vwD (O 282) v) v (mA (O 282) v) n slots (tL (O 280) (rowF (sgO O) m' x)) (tR (O 280) (rowF (sgO O) m' x)) ((poF (sgO O) (O 280) m' x).take c) ((poF (sgO O) (O 280) m' x).take c) (fdD slots v (mA (O 282) v) (tL (O 280) (rowF (sgO O) m' x)) (tR (O 280) (rowF (sgO O) m' x)) (0, vwD (O 282) v) ((poF (sgO O) (O 280) m' x).take c)).1 (fdD slots v (mA (O 282) v) (tL (O 280) (rowF (sgO O) m' x)) (tR (O 280) (rowF (sgO O) m' x)) (0, vwD (O 282) v) ((poF (sgO O) (O 280) m' x).take c)).2 := hFc
      have pL' : tL (O 280) (rowF (sgO O) m' x) s = -1 ∨ ∃ y : Nat, tL (O 280) (rowF (sgO O) m' x) s = (y : Int) ∧ y ∈ (poF (sgO O) (O 280) m' x).take c := pL
      have pR' : tR (O 280) (rowF (sgO O) m' x) s = -1 ∨ ∃ y : Nat, tR (O 280) (rowF (sgO O) m' x) s = (y : Int) ∧ y ∈ (poF (sgO O) (O 280) m' x).take c := pR
      clear pL pR hFt hFc hC hTT
      generalize fdD slots v (mA (O 282) v) (tL (O 280) (rowF (sgO O) m' x)) (tR (O 280) (rowF (sgO O) m' x)) (0, vwD (O 282) v) ((poF (sgO O) (O 280) m' x).take c) = qd at *
      obtain ⟨pr, D1⟩ := qd
      dsimp only at *
      have hNlt : D1.1 < 320 := by
        rw [List.length_take, hnn] at hNc
        omega
      have hl4 : ∀ i, (i < 205 ∨ 7565 ≤ i) → i ≠ 164 + (v + 1) → Oc 282 i = O7 282 i := fun i h1 h2 => by rw [j4 i h1 h2, f8.1 282 (by simp) (by decide)]
      rw [o47]
      refine Ret_bind (rf_layNode (O := Oc) (s := s) (u := v) j1 hFc' hNlt h6 (by omega) hsd hv40 ?_ ?_ pL' pR' hd8 j2 ?_ ?_ ?_ ?_) (fun O' hO' => ?_)
      · rw [j3 _ (by decide) (by decide)]; exact (tLR s hsr).1
      · rw [j3 _ (by decide) (by decide)]; exact (tLR s hsr).2
      · rw [hl4 _ (by omega) (by omega), xlow _ (by omega) (by omega) (by omega) (by omega) (by omega) (by omega)]
        exact (hA.1 v hv).1
      · exact (hA.1 v hv).2.1
      · rw [hl4 _ (by omega) (by omega), xlow _ (by omega) (by omega) (by omega) (by omega) (by omega) (by omega)]
        exact hnA
      · rw [j3 _ (by decide) (by decide), f8.2 40 (by simp), fr7b _ (by decide) (by decide)]; exact h40
      · obtain ⟨k1, k2, k3, k4⟩ := hO'
        rw [wr_id (by omega) (by omega)]
        refine Ret_some ⟨_, rfl, by simp, k1, fun y hy => ?_, fun r h1 h2 => by dsimp only; rw [k3 r h1 h2, j3 r h1 h2], fun i h1 h2 => by dsimp only; rw [k4 i h1 h2, j4 i h1 h2]⟩
        refine k2 y ?_
        rcases List.mem_append.mp hy with h | h
        · exact Or.inl h
        · exact Or.inr (by simpa using h)
    · obtain ⟨z, Oc⟩ := q
      obtain ⟨rfl, j1, j2, j3, j4⟩ := hI
      dsimp only at *
      have o58 : Oc 262 58 = ((rowF (sgO O) m' x).length : Int) := by rw [j3 _ (by decide) (by decide)]; exact t58
      have hx58 : ¬ (((poF (sgO O) (O 280) m' x).length : Int) < Oc 262 58) := by rw [o58]; omega
      rw [if_neg hx58]
      rw [List.take_length] at j1
      exact Ret_some ⟨_, rfl, j1, j3, j4⟩
    · obtain ⟨k1, k2, k3⟩ := hO9
      rw [members_n ho.1]
      dsimp only [Option.bind_some]
      have hl9 : ∀ i, (i < 205 ∨ 7565 ≤ i) → i ≠ 164 + (v + 1) → O9 282 i = O7 282 i := fun i h1 h2 => by rw [k3 i h1 h2, f8.1 282 (by simp) (by decide)]
      have hFin := hFt (poF (sgO O) (O 280) m' x).length (Nat.le_refl _)
      rw [show post8 (tL (O 280) (rowF (sgO O) m' x)) (tR (O 280) (rowF (sgO O) m' x)) (tRoot (O 280) (rowF (sgO O) m' x)) = poF (sgO O) (O 280) m' x from rfl, List.take_length] at hFin
      refine Ret_some ⟨rfl, ⟨fun q hq h262 => ?_, fun j hj => ?_⟩, ?_, ?_, ?_, ?_, ?_, ?_, ?_, k1, hFin⟩
      · dsimp only
        have hq2 : q ≠ 282 ∧ q ≠ 291 := ⟨fun e => hq (by rw [e]; simp), fun e => hq (by rw [e]; simp)⟩
        rw [k2 q hq2.1 hq2.2, f8.1 q (fun h => hq (by simp at h ⊢; omega)) h262, fr7 q hq2.1 h262]
      · dsimp only
        simp at hj
        rw [k2 _ (by decide) (by decide), f8.2 j (by simp; omega), fr7b j (by omega) (by omega)]
      · dsimp only; rw [k2 _ (by decide) (by decide), f8.2 47 (by simp), h7_47]
      · dsimp only; rw [k2 _ (by decide) (by decide), f8.2 48 (by simp), h7_48]
      · dsimp only; rw [hl9 _ (by omega) (by omega), x1]
      · dsimp only; rw [hl9 _ (by omega) (by omega), x2]
      · dsimp only; rw [hl9 _ (by omega) (by omega), x3]
      · dsimp only; rw [hl9 _ (by omega) (by omega), x4]
      · intro i h0 h1 h2 h3 h4 h5
        dsimp only
        rw [hl9 _ h0 h5, xlow i h0 h1 h2 h3 h4 h5]
