/-! LEVEL 3, xx: how large a region is -/
def cnA (f : Nat → Int) (z : Int) : Nat → Nat
  | 0 => 0
  | j + 1 => cnA f z j + if f j = z then 1 else 0
theorem cnA_le (f : Nat → Int) (z : Int) : ∀ j, cnA f z j ≤ j
  | 0 => Nat.le_refl 0
  | j + 1 => by
    have := cnA_le f z j
    rw [show cnA f z (j + 1) = cnA f z j + if f j = z then 1 else 0 from rfl]
    split <;> omega
theorem cnA_ext {f : Nat → Int} {y z : Int} {a : Nat} : ∀ b, a ≤ b → (∀ j, a ≤ j → j < b → f j = y) → cnA f z b = cnA f z a + if y = z then b - a else 0
  | 0, h, _ => by
    have : a = 0 := by omega
    subst this
    split <;> omega
  | b + 1, h, hf => by
    by_cases e : a = b + 1
    · subst e
      split <;> omega
    · rw [show cnA f z (b + 1) = cnA f z b + if f b = z then 1 else 0 from rfl, cnA_ext b (by omega) (fun j h1 h2 => hf j h1 (by omega)), hf b (by omega) (by omega)]
      split <;> omega
def pvN (g : Sg) (x : Int) (r : List Nat) : Nat → Nat
  | 0 => 0
  | i + 1 => (cE g (r.getD i 0) x).toNat
section AREA
variable {S : Sst} {O : Smo} {n ne slots v tp bs : Nat} {lo : Nat → Nat}
theorem c_ov (h : Core S O n ne slots lo v tp bs) {x : Int} {u : Nat} (hu : u ≤ v) (ho : Over (sgO O) n (mA (O 282) u) x) {k : Nat} (hk : k ∈ rowV O u) : k < n ∧ ovP (sgO O) k x ∧ SegB (sgO O) k := by
  obtain ⟨c1, c2, c3, c4, c5⟩ := c_row h hu
  have h1 := ho.2 k ((c3 k).mp hk)
  exact ⟨h1.1, h1.2, h.1.2.1.2.1 k h1.1⟩
theorem pvN_bd (h : Core S O n ne slots lo v tp bs) {x : Int} {u : Nat} (hu : u ≤ v) (ho : Over (sgO O) n (mA (O 282) u) x) {i : Nat} (hi : i ≤ (rowV O u).length) : pvN (sgO O) x (rowV O u) i ≤ 60 := by
  cases i with
  | zero => exact Nat.zero_le _
  | succ j =>
    have hj : j < (rowV O u).length := by omega
    have e : (rowV O u).getD j 0 = (rowV O u)[j]'hj := by simp [hj]
    obtain ⟨a1, a2, a3⟩ := c_ov h hu ho (List.getElem_mem hj)
    have := cE_bd a3 a2
    show (cE (sgO O) ((rowV O u).getD j 0) x).toNat ≤ 60
    rw [e]
    omega
theorem bl_at (h : Core S O n ne slots lo v tp bs) {x : Int} {u : Nat} (hu : u ≤ v) (ho : Over (sgO O) n (mA (O 282) u) x) {i up : Nat} (hi : i ≤ (rowV O u).length) (h1 : pvN (sgO O) x (rowV O u) i ≤ up) (h2 : i = (rowV O u).length ∨ up < pvN (sgO O) x (rowV O u) (i + 1)) : blV O u x (up : Int) = lat (natL (rowV O u)) ((i : Int) - 1) := by
  have hsp := q_split h (x := x) (up := (up : Int)) hu ho
  have hfu : fuV O u x (up : Int) ≤ (rowV O u).length := List.countP_le_length
  have key : ∀ j, j < (rowV O u).length → (up < pvN (sgO O) x (rowV O u) (j + 1) ↔ (rowV O u).length - fuV O u x (up : Int) ≤ j) := fun j hj => by
    have e : (rowV O u).getD j 0 = (rowV O u)[j]'hj := by simp [hj]
    obtain ⟨a1, a2, a3⟩ := c_ov h hu ho (List.getElem_mem hj)
    have hb := cE_bd a3 a2
    have := hsp j _ (show (rowV O u)[j]? = some ((rowV O u)[j]'hj) by simp [hj])
    rw [cE_iff (gW_pos a3).1] at this
    rw [← this]
    show up < (cE (sgO O) ((rowV O u).getD j 0) x).toNat ↔ _
    rw [e]
    omega
  have hlen : (rowV O u).length - fuV O u x (up : Int) = i := by
    have k1 : (rowV O u).length - fuV O u x (up : Int) ≤ i := by
      rcases h2 with e | e
      · omega
      · by_cases q : i = (rowV O u).length
        · omega
        · exact (key i (by omega)).mp e
    cases i with
    | zero => omega
    | succ j =>
      have := (not_congr (key j (by omega))).mp (by omega)
      omega
  unfold blV
  rw [show ((rowV O u).length : Int) - (fuV O u x (up : Int) : Int) - 1 = (i : Int) - 1 by omega]
theorem pvN_mono (h : Core S O n ne slots lo v tp bs) {x : Int} {u : Nat} (hu : u ≤ v) (ho : Over (sgO O) n (mA (O 282) u) x) {i : Nat} (hi : i < (rowV O u).length) : pvN (sgO O) x (rowV O u) i ≤ pvN (sgO O) x (rowV O u) (i + 1) := by
  cases i with
  | zero => exact Nat.zero_le _
  | succ j =>
    have hj : j < (rowV O u).length := by omega
    have e : (rowV O u).getD j 0 = (rowV O u)[j]'hj := by simp [hj]
    have e' : (rowV O u).getD (j + 1) 0 = (rowV O u)[j + 1]'hi := by simp [hi]
    obtain ⟨a1, a2, a3⟩ := c_ov h hu ho (List.getElem_mem hj)
    obtain ⟨b1, b2, b3⟩ := c_ov h hu ho (List.getElem_mem hi)
    have hsp := q_split h (x := x) (up := cE (sgO O) ((rowV O u)[j]'hj) x - 1) hu ho
    have s1 := hsp j _ (show (rowV O u)[j]? = some ((rowV O u)[j]'hj) by simp [hj])
    have s2 := hsp (j + 1) _ (show (rowV O u)[j + 1]? = some ((rowV O u)[j + 1]'hi) by simp [hi])
    rw [cE_iff (gW_pos a3).1] at s1
    rw [cE_iff (gW_pos b3).1] at s2
    have s1' := s1.mp (by omega)
    have s2' := s2.mpr (by omega)
    show (cE (sgO O) ((rowV O u).getD j 0) x).toNat ≤ (cE (sgO O) ((rowV O u).getD (j + 1) 0) x).toNat
    rw [e, e']
    omega
/-- the class adds up a place -/
theorem cl_meas (h : Core S O n ne slots lo v tp bs) {c u : Nat} (hc : c ≤ 60) (hu : u ≤ v) (ho : Over (sgO O) n (mA (O 282) u) (c : Int)) (h60 : S.1 60 = natL (rowV O u)) {F : Nat → Int} (hF : S.1 243 = rg 9 F) (hb : ∀ q, q < 9 → 0 ≤ F q ∧ F q ≤ 10000) :
    Ret (f_X8_measureAt (c : Int) S) (fun S' => S'.1 243 = rg 9 (fun q => F q + (cnA (fun up => blV O u (c : Int) (up : Int)) ((q : Int) - 1) 61 : Int)) ∧ (∀ k, k ≠ 243 → S'.1 k = S.1 k) ∧ S'.2 = S.2) := by
  obtain ⟨c1, c2, c3, c4, c5⟩ := c_row h hu
  have hsz : ∀ S' : Sst, (∀ k, k ≠ 243 → S'.1 k = S.1 k) → f_X6_size 60 S' = ((rowV O u).length : Int) := fun S' e => by
    unfold f_X6_size
    rw [e 60 (by decide), h60, natL_len]
  have hpv := fun (i : Nat) (hi : i ≤ (rowV O u).length) => pvN_bd h hu ho hi
  have hmo := fun (i : Nat) (hi : i < (rowV O u).length) => pvN_mono h hu ho hi
  have hat := fun (i up : Nat) => bl_at h hu ho (i := i) (up := up)
  have hov := fun (k : Nat) (hk : k ∈ rowV O u) => c_ov h hu ho hk
  have hpl := h.1.1.1
  have hn8 := h.1.2.1.1
  have hidx : ∀ i, i ≤ (rowV O u).length → ∃ q0 : Nat, lat (natL (rowV O u)) ((i : Int) - 1) = (q0 : Int) - 1 ∧ q0 < 9 := fun i hi => by
    cases i with
    | zero => exact ⟨0, by rw [lat_len (by omega)]; rfl, by decide⟩
    | succ j =>
      have hj : j < (rowV O u).length := by omega
      have hg : (rowV O u)[j]? = some ((rowV O u)[j]'hj) := by simp [hj]
      have := (hov _ (List.getElem_mem hj)).1
      exact ⟨(rowV O u)[j]'hj + 1, by rw [show ((j + 1 : Nat) : Int) - 1 = (j : Int) by omega, lat_natL hg]; omega, by omega⟩
  generalize hf : (fun up : Nat => blV O u (c : Int) (up : Int)) = f
  have hfa : ∀ up : Nat, blV O u (c : Int) (up : Int) = f up := fun up => congrFun hf up
  have hcn : ∀ z j, j ≤ 61 → 0 ≤ (cnA f z j : Int) ∧ (cnA f z j : Int) ≤ 61 := fun z j hj => by
    have := cnA_le f z j
    omega
  unfold f_X8_measureAt
  refine Ret_bind (Ret_lp (fun i q => i ≤ (rowV O u).length ∧ q.1 = lat (natL (rowV O u)) ((i : Int) - 1) ∧ q.2.1 = (pvN (sgO O) (c : Int) (rowV O u) i : Int) ∧ q.2.2.1 = (i : Int) ∧ q.2.2.2.1 243 = rg 9 (fun q => F q + (cnA f ((q : Int) - 1) (pvN (sgO O) (c : Int) (rowV O u) i) : Int)) ∧ (∀ k, k ≠ 243 → q.2.2.2.1 k = S.1 k) ∧ q.2.2.2.2 = S.2) (rowV O u).length (by omega) ⟨by omega, ?_, rfl, rfl, ?_, fun _ _ => rfl, rfl⟩ (fun i q hi hI => ?_) (fun q hI => ?_) (Q := fun r => r.1 = lat (natL (rowV O u)) (((rowV O u).length : Int) - 1) ∧ r.2.1 = (pvN (sgO O) (c : Int) (rowV O u) (rowV O u).length : Int) ∧ r.2.2.1 243 = rg 9 (fun q => F q + (cnA f ((q : Int) - 1) (pvN (sgO O) (c : Int) (rowV O u) (rowV O u).length) : Int)) ∧ (∀ k, k ≠ 243 → r.2.2.1 k = S.1 k) ∧ r.2.2.2 = S.2)) (fun r hr => ?_)
  · rw [lat_len (by omega)]
  · rw [hF]
    refine rg_ext (fun q hq => ?_)
    show F q = F q + ((0 : Nat) : Int)
    omega
  · obtain ⟨z, pv, ii, S1⟩ := q
    obtain ⟨_, rfl, rfl, rfl, i1, i2, i3⟩ := hI
    dsimp only [jn] at *
    have hg : (rowV O u)[i]? = some ((rowV O u)[i]'hi) := by simp [hi]
    have hgD : (rowV O u).getD i 0 = (rowV O u)[i]'hi := by simp [hi]
    obtain ⟨a1, a2, a3⟩ := hov _ (List.getElem_mem hi)
    have hpl1 : RPl 29 S1 (sgO O) n := by
      unfold RPl at *
      rw [i2 _ (by decide), i2 _ (by decide), i2 _ (by decide), i2 _ (by decide), i2 _ (by decide), i2 _ (by decide)]
      exact hpl
    have hat60 : f_X6_at 60 (i : Int) S1 = (((rowV O u)[i]'hi : Nat) : Int) := by
      unfold f_X6_at
      rw [i2 60 (by decide), h60, lat_natL hg]
    have hce := cE_bd a3 a2
    have hps : (pvN (sgO O) (c : Int) (rowV O u) (i + 1) : Int) = cE (sgO O) ((rowV O u)[i]'hi) (c : Int) := by
      show ((cE (sgO O) ((rowV O u).getD i 0) (c : Int)).toNat : Int) = _
      rw [hgD]
      omega
    obtain ⟨q0, e0, hq0⟩ := hidx i (by omega)
    have h0 := hpv i (by omega)
    have h1 := hpv (i + 1) (by omega)
    have h2 := hmo i hi
    rw [hsz S1 i2, if_pos (by omega), hat60, cl_ceil hpl1 a1 a3 (by omega) a2, ← hps, e0]
    dsimp only [Option.bind_some]
    have hb0 := hb q0 hq0
    have hc0 := hcn ((q0 : Int) - 1) (pvN (sgO O) (c : Int) (rowV O u) i) (by omega)
    rw [show (q0 : Int) - 1 + 1 = (q0 : Int) by omega, wr_id (z := (q0 : Int)) (by omega) (by omega), at_nat i1 hq0, put_rg i1]
    rw [wr_id (z := F q0 + (cnA f ((q0 : Int) - 1) (pvN (sgO O) (c : Int) (rowV O u) i) : Int) + (pvN (sgO O) (c : Int) (rowV O u) (i + 1) : Int)) (by omega) (by omega), wr_id (z := F q0 + (cnA f ((q0 : Int) - 1) (pvN (sgO O) (c : Int) (rowV O u) i) : Int) + (pvN (sgO O) (c : Int) (rowV O u) (i + 1) : Int) - (pvN (sgO O) (c : Int) (rowV O u) i : Int)) (by omega) (by omega), wr_id (z := (i : Int) + 1) (by omega) (by omega)]
    refine Ret_some ⟨_, rfl, by omega, ?_, rfl, by simp, ?_, fun k hk => ?_, i3⟩
    · rw [show ((i + 1 : Nat) : Int) - 1 = (i : Int) by omega, lat_natL hg]
    · dsimp only
      rw [upR_at]
      refine rg_ext (fun q hq => ?_)
      have hx := cnA_ext (f := f) (y := (q0 : Int) - 1) (z := (q : Int) - 1) _ h2 (fun j j1 j2 => by rw [← hfa, hat i j (by omega) j1 (Or.inr j2), e0])
      by_cases e : q = q0
      · subst e
        rw [upd_same, hx, if_pos rfl]
        omega
      · rw [upd_ne e, hx, if_neg (by omega)]
        omega
    · dsimp only
      rw [upR_ne _ _ hk]
      exact i2 k hk
  · obtain ⟨z, pv, ii, S1⟩ := q
    obtain ⟨_, rfl, rfl, rfl, i1, i2, i3⟩ := hI
    dsimp only at *
    rw [hsz S1 i2, if_neg (by omega)]
    exact Ret_some ⟨_, rfl, rfl, rfl, i1, i2, i3⟩
  · obtain ⟨z, pv, S1⟩ := r
    obtain ⟨rfl, rfl, i1, i2, i3⟩ := hr
    dsimp only [jn] at *
    obtain ⟨q0, e0, hq0⟩ := hidx _ (Nat.le_refl _)
    have h0 := hpv _ (Nat.le_refl _)
    have hb0 := hb q0 hq0
    have hc0 := hcn ((q0 : Int) - 1) (pvN (sgO O) (c : Int) (rowV O u) (rowV O u).length) (by omega)
    rw [e0, show (q0 : Int) - 1 + 1 = (q0 : Int) by omega, wr_id (z := (q0 : Int)) (by omega) (by omega), at_nat i1 hq0, put_rg i1]
    rw [wr_id (z := F q0 + (cnA f ((q0 : Int) - 1) (pvN (sgO O) (c : Int) (rowV O u) (rowV O u).length) : Int) + 60) (by omega) (by omega), wr_id (z := F q0 + (cnA f ((q0 : Int) - 1) (pvN (sgO O) (c : Int) (rowV O u) (rowV O u).length) : Int) + 60 + 1) (by omega) (by omega), wr_id (z := F q0 + (cnA f ((q0 : Int) - 1) (pvN (sgO O) (c : Int) (rowV O u) (rowV O u).length) : Int) + 60 + 1 - (pvN (sgO O) (c : Int) (rowV O u) (rowV O u).length : Int)) (by omega) (by omega)]
    refine Ret_some ⟨?_, fun k hk => ?_, i3⟩
    · rw [upR_at]
      refine rg_ext (fun q hq => ?_)
      have hx := cnA_ext (f := f) (y := (q0 : Int) - 1) (z := (q : Int) - 1) (a := pvN (sgO O) (c : Int) (rowV O u) (rowV O u).length) 61 (by omega) (fun j j1 j2 => by rw [← hfa, hat _ j (by omega) j1 (Or.inl rfl), e0])
      by_cases e : q = q0
      · subst e
        rw [upd_same, hx, if_pos rfl]
        omega
      · rw [upd_ne e, hx, if_neg (by omega)]
        omega
    · rw [upR_ne _ _ hk]
      exact i2 k hk
/-- the reference adds up a place -/
theorem rf_meas (h : Core S O n ne slots lo v tp bs) {c u : Nat} (hc : c ≤ 60) (hu : u ≤ v) (ho : Over (sgO O) n (mA (O 282) u) (c : Int)) {O0 : Smo} (h0 : ∀ k, k ≠ 297 → O0 k = O k) (hb : ∀ q, q < 9 → 0 ≤ O0 297 q ∧ O0 297 q ≤ 10000) :
    Ret (lp (fun (s9992 : Int × Smo) =>
          if 60 < s9992.1 then
            (some (Sum.inr s9992.2))
          else
            (Option.bind (f_X12_belowOf (mA (O 282) u : Int) (c : Int) s9992.1 s9992.2) fun (q10000 : Int) =>
            jn (
              if q10000 < 0 then
                (8)
              else
                (q10000)) fun (q10002 : Int) =>
            Option.bind (aget (s9992.2 297) (Ln 297) q10002) fun (v10007 : Int) =>
            Option.bind (asetO s9992.2 297 (Ln 297) q10002 (wr (v10007 + 1))) fun (O10009 : Smo) =>
            some (Sum.inl (wr (s9992.1 + 1), O10009)))) FU (0, O0)) (fun O' => (∀ k, k ≠ 297 → O' k = O k) ∧ ∀ q, q < 9 → O' 297 q = O0 297 q + (cnA (fun up => blV O u (c : Int) (up : Int)) (if q = 8 then -1 else (q : Int)) 61 : Int)) := by
  have hg := h.1.2.1
  have hn8 := hg.1
  have hbl := fun up : Nat => (bl_V h (x := (c : Int)) (up := (up : Int)) hu ho).1
  generalize hf : (fun up : Nat => blV O u (c : Int) (up : Int)) = f
  have hfa : ∀ up : Nat, blV O u (c : Int) (up : Int) = f up := fun up => congrFun hf up
  have hcn : ∀ z j, j ≤ 61 → 0 ≤ (cnA f z j : Int) ∧ (cnA f z j : Int) ≤ 61 := fun z j hj => by
    have := cnA_le f z j
    omega
  refine Ret_lp (fun j q => q.1 = (j : Int) ∧ (∀ k, k ≠ 297 → q.2 k = O k) ∧ ∀ p, p < 9 → q.2 297 p = O0 297 p + (cnA f (if p = 8 then -1 else (p : Int)) j : Int)) 61 (by decide) ⟨rfl, h0, fun p hp => by show O0 297 p = O0 297 p + ((0 : Nat) : Int); omega⟩ (fun j q hj hI => ?_) (fun q hI => ?_)
  · obtain ⟨z, O1⟩ := q
    obtain ⟨rfl, i1, i2⟩ := hI
    dsimp only [jn] at *
    have hs : sgO O1 = sgO O := by unfold sgO; rw [i1 _ (by decide), i1 _ (by decide), i1 _ (by decide), i1 _ (by decide)]
    have h39 : O1 262 39 = (n : Int) := by rw [i1 262 (by decide)]; exact h.1.2.2.2.2.1
    obtain ⟨b, e1, b1⟩ := rf_below (O := O1) (by rw [hs]; exact hg) h39 (by rw [hs]; exact ho) (show 0 ≤ (c : Int) ∧ (c : Int) ≤ 60 by omega) (up := (j : Int)) (by omega)
    rw [hs] at b1
    have hbe : b = f j := by rw [← hfa]; exact isBl_uni b1 (hbl j)
    rw [if_neg (by omega), e1]
    dsimp only [Option.bind_some]
    obtain ⟨q0, e0, hq0, hq1⟩ : ∃ q0 : Nat, (if b < 0 then (8 : Int) else b) = (q0 : Int) ∧ q0 < 9 ∧ (if q0 = 8 then -1 else (q0 : Int)) = b := by
      rcases bl_int b1 with e | ⟨y, e, hy⟩
      · exact ⟨8, by rw [e]; rfl, by decide, by rw [e]; rfl⟩
      · exact ⟨y, by rw [e, if_neg (by omega)], by omega, by rw [e, if_neg (by omega)]⟩
    have hv := i2 q0 hq0
    have hb0 := hb q0 hq0
    have hc0 := hcn (if q0 = 8 then -1 else (q0 : Int)) j (by omega)
    rw [e0, Ln297, aget_nat hq0]
    dsimp only [Option.bind_some]
    rw [aset_nat hq0]
    dsimp only [Option.bind_some]
    rw [wr_id (z := O1 297 q0 + 1) (by omega) (by omega), wr_id (z := (j : Int) + 1) (by omega) (by omega)]
    refine Ret_some ⟨_, rfl, by simp, fun k hk => ?_, fun p hp => ?_⟩
    · dsimp only
      rw [up2_row hk, i1 k hk]
    · dsimp only
      rw [show cnA f (if p = 8 then -1 else (p : Int)) (j + 1) = cnA f (if p = 8 then -1 else (p : Int)) j + if f j = (if p = 8 then -1 else (p : Int)) then 1 else 0 from rfl]
      by_cases e : p = q0
      · subst e
        rw [up2_same, if_pos (c := f j = _) (by rw [hq1, hbe]), hv]
        omega
      · rw [up2_ne (Or.inr e), if_neg (c := f j = _) (by rw [← hbe, ← hq1]; split <;> split <;> omega), i2 p hp]
        omega
  · obtain ⟨z, O1⟩ := q
    obtain ⟨rfl, i1, i2⟩ := hI
    dsimp only [jn] at *
    rw [if_pos (by omega)]
    exact Ret_some ⟨_, rfl, i1, i2⟩
end AREA
