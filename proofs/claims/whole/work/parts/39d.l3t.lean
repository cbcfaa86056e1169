/-! LEVEL 3, t: the reference lays a node -/
theorem aset_row {O : Smo} {k i : Nat} {z v : Int} (hz : z = (i : Int)) (hi : i < Ln k) : ∃ O1, asetO O k (Ln k) z v = some O1 ∧ O1 k = updI (O k) i v ∧ (∀ q, q ≠ k → O1 q = O q) := by
  subst hz
  exact ⟨_, aset_nat hi, upd_up2, fun q hq => up2_row hq⟩
theorem rf_make {O : Smo} {D : Dt} {s v : Nat} {l r cp : Int} (h : RefD (O 282) v D) (hN : D.1 < 320) (h6 : ∀ k, k < D.1 → dUsed D k ≤ 6) (hs : s < 8) (hv : v ≤ 40) :
    Ret (f_X12_makeNode s v l r O) (fun O' => RefD (O' 282) v (mkD D s v l r cp) ∧ O' 291 = updI (O 291) s (D.1 : Int) ∧ (∀ q, q ≠ 282 → q ≠ 291 → O' q = O q) ∧ ∀ i, (i < 205 ∨ 7565 ≤ i) → i ≠ 164 + v → O' 282 i = O 282 i) := by
  obtain ⟨hn, hk⟩ := h
  unfold f_X12_makeNode
  have e1 : aget (O 282) (Ln 282) (wr (164 + (v : Int))) = some (D.1 : Int) := by rw [rf_at (i := 164 + v) (by rw [wr_id (by omega) (by omega)]; omega) (by omega), hn]
  rw [e1]
  dsimp only [Option.bind_some]
  obtain ⟨O1, a1, b1, c1⟩ := aset_row (O := O) (k := 282) (i := 164 + v) (z := wr (164 + (v : Int))) (v := wr ((D.1 : Int) + 1)) (by rw [wr_id (by omega) (by omega)]; omega) (by rw [Ln282]; omega)
  rw [a1]
  dsimp only [Option.bind_some]
  obtain ⟨O2, a2, b2, c2⟩ := aset_row (O := O1) (k := 282) (i := 205 + D.1) (z := wr (205 + (D.1 : Int))) (v := (s : Int)) (by rw [wr_id (by omega) (by omega)]; omega) (by rw [Ln282]; omega)
  rw [a2]
  dsimp only [Option.bind_some]
  obtain ⟨O3, a3, b3, c3⟩ := aset_row (O := O2) (k := 282) (i := 525 + D.1) (z := wr (525 + (D.1 : Int))) (v := (v : Int)) (by rw [wr_id (by omega) (by omega)]; omega) (by rw [Ln282]; omega)
  rw [a3]
  dsimp only [Option.bind_some]
  obtain ⟨O4, a4, b4, c4⟩ := aset_row (O := O3) (k := 282) (i := 845 + D.1) (z := wr (845 + (D.1 : Int))) (v := l) (by rw [wr_id (by omega) (by omega)]; omega) (by rw [Ln282]; omega)
  rw [a4]
  dsimp only [Option.bind_some]
  obtain ⟨O5, a5, b5, c5⟩ := aset_row (O := O4) (k := 282) (i := 1165 + D.1) (z := wr (1165 + (D.1 : Int))) (v := r) (by rw [wr_id (by omega) (by omega)]; omega) (by rw [Ln282]; omega)
  rw [a5]
  dsimp only [Option.bind_some]
  obtain ⟨O6, a6, b6, c6⟩ := aset_row (O := O5) (k := 282) (i := 1485 + D.1) (z := wr (1485 + (D.1 : Int))) (v := 0) (by rw [wr_id (by omega) (by omega)]; omega) (by rw [Ln282]; omega)
  rw [a6]
  dsimp only [Option.bind_some]
  obtain ⟨O7, a7, b7, c7⟩ := aset_row (O := O6) (k := 291) (i := s) (z := (s : Int)) (v := (D.1 : Int)) rfl (by rw [Ln291]; omega)
  rw [a7]
  dsimp only [Option.bind_some]
  have hA : O7 282 = updI (updI (updI (updI (updI (updI (O 282) (164 + v) ((D.1 : Int) + 1)) (205 + D.1) (s : Int)) (525 + D.1) (v : Int)) (845 + D.1) l) (1165 + D.1) r) (1485 + D.1) 0 := by
    rw [c7 _ (by decide), b6, b5, b4, b3, b2, b1, wr_id (by omega) (by omega)]
  have low : ∀ i, (i < 205 ∨ 7565 ≤ i) → i ≠ 164 + v → O7 282 i = O 282 i := fun i h1 h2 => by
    rw [hA, upd_ne (by omega), upd_ne (by omega), upd_ne (by omega), upd_ne (by omega), upd_ne (by omega), upd_ne h2]
  refine Ret_some ⟨⟨?_, fun k hk2 => ?_⟩, ?_, fun q h1 h2 => ?_, low⟩
  · rw [hA, upd_ne (by omega), upd_ne (by omega), upd_ne (by omega), upd_ne (by omega), upd_ne (by omega), upd_same]
    show _ = ((D.1 + 1 : Nat) : Int)
    omega
  · have hk2 : k < D.1 + 1 := hk2
    rw [mkD_0, mkD_1, mkD_2, mkD_3, mkD_4, mkD_u]
    by_cases e : k = D.1
    · subst e
      rw [if_pos rfl, if_pos rfl, if_pos rfl, if_pos rfl, if_pos rfl, if_pos rfl]
      refine ⟨?_, ?_, ?_, ?_, ?_, fun c hc => by omega⟩
      · rw [hA, upd_ne (by omega), upd_ne (by omega), upd_ne (by omega), upd_ne (by omega), upd_same]
      · rw [hA, upd_ne (by omega), upd_ne (by omega), upd_ne (by omega), upd_same]
      · rw [hA, upd_ne (by omega), upd_ne (by omega), upd_same]
      · rw [hA, upd_ne (by omega), upd_same]
      · rw [hA, upd_same]
    · rw [if_neg e, if_neg e, if_neg e, if_neg e, if_neg e, if_neg e]
      obtain ⟨g1, g2, g3, g4, g5, g6⟩ := hk k (by omega)
      have h6k := h6 k (by omega)
      have hh : ∀ i, 205 ≤ i → i ≠ 205 + D.1 → i ≠ 525 + D.1 → i ≠ 845 + D.1 → i ≠ 1165 + D.1 → i ≠ 1485 + D.1 → O7 282 i = O 282 i := fun i h0 h1 h2 h3 h4 h5 => by
        rw [hA, upd_ne h5, upd_ne h4, upd_ne h3, upd_ne h2, upd_ne h1, upd_ne (by omega)]
      refine ⟨?_, ?_, ?_, ?_, ?_, fun c hc => ?_⟩
      · rw [hh _ (by omega) (by omega) (by omega) (by omega) (by omega) (by omega)]; exact g1
      · rw [hh _ (by omega) (by omega) (by omega) (by omega) (by omega) (by omega)]; exact g2
      · rw [hh _ (by omega) (by omega) (by omega) (by omega) (by omega) (by omega)]; exact g3
      · rw [hh _ (by omega) (by omega) (by omega) (by omega) (by omega) (by omega)]; exact g4
      · rw [hh _ (by omega) (by omega) (by omega) (by omega) (by omega) (by omega)]; exact g5
      · rw [hh _ (by omega) (by omega) (by omega) (by omega) (by omega) (by omega), hh _ (by omega) (by omega) (by omega) (by omega) (by omega) (by omega), hh _ (by omega) (by omega) (by omega) (by omega) (by omega) (by omega), mkD_s _ _ _ _ _ _ _ _ (by simp), mkD_s _ _ _ _ _ _ _ _ (by simp), mkD_s _ _ _ _ _ _ _ _ (by simp)]
        exact g6 c hc
  · rw [b7, c6 _ (by decide), c5 _ (by decide), c4 _ (by decide), c3 _ (by decide), c2 _ (by decide), c1 _ (by decide)]
  · rw [c7 _ h2, c6 _ h1, c5 _ h1, c4 _ h1, c3 _ h1, c2 _ h1, c1 _ h1]
theorem rf_write {O : Smo} {D : Dt} {k v : Nat} (h : RefD (O 282) v D) (hN : D.1 ≤ 320) (hk : k < D.1) (h0 : 0 ≤ D.2 4 k) (hu : dUsed D k < 6) (h6 : ∀ k, k < D.1 → dUsed D k ≤ 6) (hv : v ≤ 40) (side child : Int) :
    Ret (f_X12_writeSlot k v side child O) (fun O' => RefD (O' 282) v (wrD D k v side child) ∧ (∀ q, q ≠ 282 → O' q = O q) ∧ ∀ i, (i < 205 ∨ 7565 ≤ i) → O' 282 i = O 282 i) := by
  obtain ⟨hn, hA⟩ := h
  have h4 : O 282 (1485 + k) = (dUsed D k : Int) := by
    rw [(hA k hk).2.2.2.2.1]
    unfold dUsed
    omega
  unfold f_X12_writeSlot
  have e1 : aget (O 282) (Ln 282) (wr (1485 + (k : Int))) = some (dUsed D k : Int) := by rw [rf_at (i := 1485 + k) (by rw [wr_id (by omega) (by omega)]; omega) (by omega), h4]
  rw [e1]
  dsimp only [Option.bind_some, jn]
  have hw : wr (wr (6 * (k : Int)) + (dUsed D k : Int)) = ((6 * k + dUsed D k : Nat) : Int) := by
    rw [wr_id (z := 6 * (k : Int)) (by omega) (by omega), wr_id (by omega) (by omega)]
    omega
  rw [hw]
  obtain ⟨O1, a1, b1, c1⟩ := aset_row (O := O) (k := 282) (i := 1805 + (6 * k + dUsed D k)) (z := wr (1805 + ((6 * k + dUsed D k : Nat) : Int))) (v := (v : Int)) (by rw [wr_id (by omega) (by omega)]; omega) (by rw [Ln282]; omega)
  rw [a1]
  dsimp only [Option.bind_some]
  obtain ⟨O2, a2, b2, c2⟩ := aset_row (O := O1) (k := 282) (i := 3725 + (6 * k + dUsed D k)) (z := wr (3725 + ((6 * k + dUsed D k : Nat) : Int))) (v := side) (by rw [wr_id (by omega) (by omega)]; omega) (by rw [Ln282]; omega)
  rw [a2]
  dsimp only [Option.bind_some]
  obtain ⟨O3, a3, b3, c3⟩ := aset_row (O := O2) (k := 282) (i := 5645 + (6 * k + dUsed D k)) (z := wr (5645 + ((6 * k + dUsed D k : Nat) : Int))) (v := child) (by rw [wr_id (by omega) (by omega)]; omega) (by rw [Ln282]; omega)
  rw [a3]
  dsimp only [Option.bind_some]
  have hA3 : O3 282 = updI (updI (updI (O 282) (1805 + (6 * k + dUsed D k)) (v : Int)) (3725 + (6 * k + dUsed D k)) side) (5645 + (6 * k + dUsed D k)) child := by rw [b3, b2, b1]
  have e2 : aget (O3 282) (Ln 282) (wr (1485 + (k : Int))) = some (dUsed D k : Int) := by
    rw [rf_at (i := 1485 + k) (by rw [wr_id (by omega) (by omega)]; omega) (by omega), hA3, upd_ne (by omega), upd_ne (by omega), upd_ne (by omega), h4]
  rw [e2]
  dsimp only [Option.bind_some]
  obtain ⟨O4, a4, b4, c4⟩ := aset_row (O := O3) (k := 282) (i := 1485 + k) (z := wr (1485 + (k : Int))) (v := wr ((dUsed D k : Int) + 1)) (by rw [wr_id (by omega) (by omega)]; omega) (by rw [Ln282]; omega)
  rw [a4]
  dsimp only [Option.bind_some]
  have hA4 : O4 282 = updI (updI (updI (updI (O 282) (1805 + (6 * k + dUsed D k)) (v : Int)) (3725 + (6 * k + dUsed D k)) side) (5645 + (6 * k + dUsed D k)) child) (1485 + k) ((dUsed D k : Int) + 1) := by rw [b4, hA3, wr_id (by omega) (by omega)]
  have low : ∀ i, (i < 1485 ∨ 7565 ≤ i) → O4 282 i = O 282 i := fun i hi => by
    rw [hA4, upd_ne (by omega), upd_ne (by omega), upd_ne (by omega), upd_ne (by omega)]
  refine Ret_some ⟨⟨?_, fun k' hk' => ?_⟩, fun q hq => by rw [c4 _ hq, c3 _ hq, c2 _ hq, c1 _ hq], fun i hi => low i (by omega)⟩
  · rw [low _ (by omega)]; exact hn
  · have hk' : k' < D.1 := hk'
    obtain ⟨g1, g2, g3, g4, g5, g6⟩ := hA k' hk'
    have h6k := h6 k' hk'
    rw [wrD_o _ _ _ _ _ _ _ (by omega), wrD_o _ _ _ _ _ _ _ (by omega), wrD_o _ _ _ _ _ _ _ (by omega), wrD_o _ _ _ _ _ _ _ (by omega), wrD_4, wrD_u]
    refine ⟨by rw [low _ (by omega)]; exact g1, by rw [low _ (by omega)]; exact g2, by rw [low _ (by omega)]; exact g3, by rw [low _ (by omega)]; exact g4, ?_, fun c hc => ?_⟩
    · by_cases e : k' = k
      · rw [if_pos e, e, hA4, upd_same]
      · rw [if_neg e, hA4, upd_ne (by omega), upd_ne (by omega), upd_ne (by omega), upd_ne (by omega)]; exact g5
    · rw [wrD_6, wrD_7, wrD_8]
      by_cases e : 6 * k' + c = 6 * k + dUsed D k
      · rw [if_pos e, if_pos e, if_pos e, e]
        refine ⟨?_, ?_, ?_⟩
        · rw [hA4, upd_ne (by omega), upd_ne (by omega), upd_ne (by omega), upd_same]
        · rw [hA4, upd_ne (by omega), upd_ne (by omega), upd_same]
        · rw [hA4, upd_ne (by omega), upd_same]
      · have hc' : c < dUsed D k' := by
          by_cases e2 : k' = k
          · rw [if_pos e2] at hc
            rw [e2] at e ⊢
            omega
          · rw [if_neg e2] at hc; exact hc
        obtain ⟨r1, r2, r3⟩ := g6 c hc'
        rw [if_neg e, if_neg e, if_neg e]
        refine ⟨?_, ?_, ?_⟩
        · rw [hA4, upd_ne (by omega), upd_ne (by omega), upd_ne (by omega), upd_ne (by omega)]; exact r1
        · rw [hA4, upd_ne (by omega), upd_ne (by omega), upd_ne (by omega), upd_ne (by omega)]; exact r2
        · rw [hA4, upd_ne (by omega), upd_ne (by omega), upd_ne (by omega), upd_ne (by omega)]; exact r3
theorem rf_layNode {O : Smo} {D0 D : Dt} {s u m n slots pr : Nat} {L R : Nat → Int} {d : List Nat} (h : RefD (O 282) (u + 1) D) (hF : FI D0 u m n slots L R d d pr D) (hN : D.1 < 320) (hsl : slots ≤ 6) (hs : s < 8) (hsd : s ∉ d) (hu : u < 40)
    (hL : O 284 s = L s) (hR : O 285 s = R s) (hcL : L s = -1 ∨ ∃ y : Nat, L s = (y : Int) ∧ y ∈ d) (hcR : R s = -1 ∨ ∃ y : Nat, R s = (y : Int) ∧ y ∈ d) (hd8 : ∀ y ∈ d, y < 8) (h291 : ∀ y ∈ d, O 291 y = D.2 9 y) (hm : O 282 (41 + u) = (m : Int)) (hm8 : m < 256) (hN0 : O 282 (164 + u) = (D0.1 : Int)) (h40 : O 262 40 = (slots : Int)) :
    Ret (f_X12_layNode s (u + 1 : Nat) O) (fun O' => RefD (O' 282) (u + 1) (adD slots u m L R D s).2 ∧ (∀ y, y ∈ d ∨ y = s → O' 291 y = (adD slots u m L R D s).2.2 9 y) ∧ (∀ q, q ≠ 282 → q ≠ 291 → O' q = O q) ∧ ∀ i, (i < 205 ∨ 7565 ≤ i) → i ≠ 164 + (u + 1) → O' 282 i = O 282 i) := by
  have h6 : ∀ k, k < D.1 → dUsed D k ≤ 6 := fun k hk => by have := (hF.2.1 k hk).2; omega
  have hmA : mA (O 282) u = m := by unfold mA; rw [hm]; omega
  have hnA : nA (O 282) u = D0.1 := by unfold nA; rw [hN0]; omega
  have hD0 : D0.1 ≤ D.1 := hF.1.1
  have hnow : ∀ z : Int, (z = -1 ∨ ∃ y : Nat, z = (y : Int) ∧ y ∈ d) → f_X12_nodeNowOf z O = some (dHas D z) := fun z hz => by
    unfold f_X12_nodeNowOf dHas
    rcases hz with rfl | ⟨y, rfl, hy⟩
    · rw [if_pos (by decide), if_pos (by decide)]
    · rw [if_neg (by omega), if_neg (by omega), Ln291, aget_nat (hd8 y hy), h291 y hy, Int.toNat_natCast]
      rfl
  unfold f_X12_layNode
  rw [Ln284, aget_nat hs, hL]
  dsimp only [Option.bind_some]
  rw [hnow _ hcL]
  dsimp only [Option.bind_some]
  rw [Ln285, aget_nat hs, hR]
  dsimp only [Option.bind_some]
  rw [hnow _ hcR]
  dsimp only [Option.bind_some]
  rw [show wr (((u + 1 : Nat) : Int) - 1) = (u : Int) by rw [wr_id (by omega) (by omega)]; omega]
  rw [rf_nodeOf (by omega) (by omega) (by rw [hmA]; exact hm) (by rw [hmA]; exact hm8) (by rw [hnA]; exact hN0) (by omega)]
  dsimp only [Option.bind_some]
  have hcast : ((u + 1 : Nat) : Int) = (u : Int) + 1 := by omega
  unfold adD
  by_cases hb : m.testBit s = true
  · rw [if_pos hb]
    obtain ⟨k, q1, q2, q3, q4, q5⟩ := hF.2.2.2.1 s (Or.inr hb)
    have hk0 := q5 hsd
    obtain ⟨b0, b1⟩ := hF.2.1 k q2
    have hnd : ndA (O 282) (s : Int) u = (k : Int) := by
      unfold ndA
      rw [if_neg (by omega), hmA, Int.toNat_natCast, if_pos hb, hnA]
      have e := lastO_low _ q4 hk0 hD0
      rw [← e]
      exact lastO_congr _ (fun i hi => (h.2 i (by omega)).1)
    rw [hnd, q1, Int.toNat_natCast]
    obtain ⟨g1, g2, g3, g4, g5, g6⟩ := h.2 k q2
    have hA4 : O 282 (1485 + k) = (dUsed D k : Int) := by
      rw [g5]
      unfold dUsed
      omega
    have hunt := ((hF.2.2.2.2.2.1 k q2).2.2 s q3 hsd).2
    have h6k := h6 k q2
    have hus : usA (O 282) k ((u + 1 : Nat) : Int) = dUsed D k := by
      unfold usA
      rw [hA4, Int.toNat_natCast]
      refine usC_all _ (fun i hi => ?_)
      rw [(g6 i hi).1]
      have := hunt i hi
      omega
    have hrd : ∀ side : Int, f_X12_readAt k side ((u + 1 : Nat) : Int) O = some (rdD D k side u) := fun side => by
      rw [rf_read (by omega) (by omega) (by omega), hus]
      unfold rdD
      rw [rdA_rdC (D := D) (st := (u : Int)) g3 g4 _ (fun i hi => ⟨(g6 i hi).2.1, (g6 i hi).2.2, hunt i hi⟩)]
    rw [hrd, hrd]
    have hng : ¬ ((k : Int) < 0) := by omega
    simp only [if_neg hng]
    dsimp only [Option.bind_some, jk]
    have e1 : aget (O 282) (Ln 282) (wr (1485 + (k : Int))) = some (dUsed D k : Int) := by rw [rf_at (i := 1485 + k) (by rw [wr_id (by omega) (by omega)]; omega) (by omega), hA4]
    rw [e1]
    have t0 : f_X12_truth 0 = 0 := rfl
    have t1 : f_X12_truth 1 = 1 := rfl
    obtain ⟨O1, a1, b2, c1⟩ := aset_row (O := O) (k := 291) (i := s) (z := (s : Int)) (v := (k : Int)) rfl (by rw [Ln291]; omega)
    have r1 : RefD (O1 282) (u + 1) D := by rw [c1 _ (by decide)]; exact h
    have hdone : ∀ (D' : Dt) (M : Smo), (∀ y, D'.2 9 y = D.2 9 y) → M 291 = O1 291 → ∀ y, y ∈ d ∨ y = s → M 291 y = D'.2 9 y := fun D' M h1 h2 y hy => by
      rw [h1, h2, b2]
      by_cases e : y = s
      · rw [e, upd_same, q1]
      · rw [upd_ne e]
        exact h291 y (hy.resolve_right e)
    have h9w : ∀ (D : Dt) (k : Nat) (a b c : Int) (z : Nat), (wrD D k a b c).2 9 z = D.2 9 z := fun D k a b c z => wrD_o _ _ _ _ _ _ _ (by omega)
    have hmk : ∀ cp : Int, Ret (Option.bind (f_X12_makeNode s ((u + 1 : Nat) : Int) (dHas D (L s)) (dHas D (R s)) O) fun q => some q) (fun O' => RefD (O' 282) (u + 1) (mkD D s ((u : Int) + 1) (dHas D (L s)) (dHas D (R s)) cp) ∧ (∀ y, y ∈ d ∨ y = s → O' 291 y = (mkD D s ((u : Int) + 1) (dHas D (L s)) (dHas D (R s)) cp).2 9 y) ∧ (∀ q, q ≠ 282 → q ≠ 291 → O' q = O q) ∧ ∀ i, (i < 205 ∨ 7565 ≤ i) → i ≠ 164 + (u + 1) → O' 282 i = O 282 i) := fun cp => by
      refine Ret_bind (rf_make (cp := cp) h hN h6 hs (by omega)) (fun O' hO' => Ret_some ?_)
      obtain ⟨k1, k2, k3, k4⟩ := hO'
      rw [hcast] at k1
      refine ⟨k1, fun y hy => ?_, k3, k4⟩
      rw [k2, mkD_9]
      by_cases e : y = s
      · rw [e, upd_same, if_pos rfl]
      · rw [upd_ne e, if_neg e]
        exact h291 y (hy.resolve_right e)
    unfold neI
    by_cases ha : rdD D k 0 u = dHas D (L s) <;> by_cases hb : rdD D k 1 u = dHas D (R s)
    · simp only [if_pos ha, if_pos hb, t0, n00, if_true]
      dsimp only [Option.bind_some]
      simp only [t0, t1, n00, n10, if_true, if_false]
      rw [show wr (wr ((dUsed D k : Int) + 0) + 0) = (dUsed D k : Int) by rw [wr_id (z := (dUsed D k : Int) + 0) (by omega) (by omega), wr_id (by omega) (by omega)]; omega, h40, if_neg (by omega), if_neg (by omega), a1]
      exact Ret_some ⟨r1, hdone D O1 (fun _ => rfl) rfl, fun q h1 h2 => c1 q h2, fun i h1 h2 => by rw [c1 _ (by decide)]⟩
    · simp only [if_pos ha, if_neg hb, t0, t1, n00, n10, if_true, if_false]
      dsimp only [Option.bind_some]
      simp only [t0, t1, n00, n10, if_true, if_false]
      rw [show wr (wr ((dUsed D k : Int) + 0) + 1) = (dUsed D k : Int) + 1 by rw [wr_id (z := (dUsed D k : Int) + 0) (by omega) (by omega), wr_id (by omega) (by omega)]; omega, h40]
      by_cases hc : slots < dUsed D k + (0 + 1)
      · rw [if_pos (by omega), if_pos hc]
        exact hmk 1
      · rw [if_neg (by omega), if_neg hc, a1]
        dsimp only [Option.bind_some]
        refine Ret_bind (rf_write r1 (by omega) q2 b0 (by omega) h6 (by omega) 1 (dHas D (R s))) (fun O2 hO2 => Ret_some ?_)
        obtain ⟨k1, k2, k3⟩ := hO2
        rw [hcast] at k1
        exact ⟨k1, hdone _ O2 (fun _ => h9w _ _ _ _ _ _) (k2 _ (by decide)), fun q h1 h2 => by rw [k2 q h1, c1 q h2], fun i h1 h2 => by rw [k3 i h1, c1 _ (by decide)]⟩
    · simp only [if_neg ha, if_pos hb, t0, t1, n00, n10, if_true, if_false]
      dsimp only [Option.bind_some]
      simp only [t0, t1, n00, n10, if_true, if_false]
      rw [show wr (wr ((dUsed D k : Int) + 1) + 0) = (dUsed D k : Int) + 1 by rw [wr_id (z := (dUsed D k : Int) + 1) (by omega) (by omega), wr_id (by omega) (by omega)]; omega, h40]
      by_cases hc : slots < dUsed D k + (1 + 0)
      · rw [if_pos (by omega), if_pos hc]
        exact hmk 1
      · rw [if_neg (by omega), if_neg hc, a1]
        dsimp only [Option.bind_some]
        refine Ret_bind (P := fun O' => RefD (O' 282) (u + 1) (wrD D k ((u : Int) + 1) 0 (dHas D (L s))) ∧ (∀ q, q ≠ 282 → O' q = O1 q) ∧ ∀ i, (i < 205 ∨ 7565 ≤ i) → O' 282 i = O1 282 i) ?_ (fun O2 hO2 => Ret_some ?_)
        · refine Ret_bind (rf_write r1 (by omega) q2 b0 (by omega) h6 (by omega) 0 (dHas D (L s))) (fun O2 hO2 => Ret_some ?_)
          rw [hcast] at hO2
          exact hO2
        · obtain ⟨k1, k2, k3⟩ := hO2
          exact ⟨k1, hdone _ O2 (fun _ => h9w _ _ _ _ _ _) (k2 _ (by decide)), fun q h1 h2 => by rw [k2 q h1, c1 q h2], fun i h1 h2 => by rw [k3 i h1, c1 _ (by decide)]⟩
    · simp only [if_neg ha, if_neg hb, t1, n10, if_false]
      dsimp only [Option.bind_some]
      simp only [t0, t1, n00, n10, if_true, if_false]
      rw [show wr (wr ((dUsed D k : Int) + 1) + 1) = (dUsed D k : Int) + 2 by rw [wr_id (z := (dUsed D k : Int) + 1) (by omega) (by omega), wr_id (by omega) (by omega)]; omega, h40]
      by_cases hc : slots < dUsed D k + (1 + 1)
      · rw [if_pos (by omega), if_pos hc]
        exact hmk 1
      · rw [if_neg (by omega), if_neg hc, a1]
        dsimp only [Option.bind_some]
        refine Ret_bind (P := fun O' => RefD (O' 282) (u + 1) (wrD D k ((u : Int) + 1) 0 (dHas D (L s))) ∧ (∀ q, q ≠ 282 → O' q = O1 q) ∧ ∀ i, (i < 205 ∨ 7565 ≤ i) → O' 282 i = O1 282 i) ?_ (fun O2 hO2 => ?_)
        · refine Ret_bind (rf_write r1 (by omega) q2 b0 (by omega) h6 (by omega) 0 (dHas D (L s))) (fun O2 hO2 => Ret_some ?_)
          rw [hcast] at hO2
          exact hO2
        · obtain ⟨k1, k2, k3⟩ := hO2
          have u1 : dUsed (wrD D k ((u : Int) + 1) 0 (dHas D (L s))) k = dUsed D k + 1 := by rw [wrD_u, if_pos rfl]
          refine Ret_bind (rf_write (k := k) k1 (show D.1 ≤ 320 by omega) q2 (by rw [wrD_4, if_pos rfl]; omega) (by rw [u1]; omega) (fun k' hk' => by
            rw [wrD_u]
            have := h6 k' hk'
            by_cases e : k' = k
            · rw [if_pos e]; omega
            · rw [if_neg e]; exact this) (by omega) 1 (dHas D (R s))) (fun O3 hO3 => Ret_some ?_)
          obtain ⟨j1, j2, j3⟩ := hO3
          rw [hcast] at j1
          exact ⟨j1, hdone _ O3 (fun _ => by rw [h9w, h9w]) (by rw [j2 _ (by decide), k2 _ (by decide)]), fun q h1 h2 => by rw [j2 q h1, k2 q h1, c1 q h2], fun i h1 h2 => by rw [j3 i h1, k3 i h1, c1 _ (by decide)]⟩
  · rw [if_neg hb]
    have hnd : ndA (O 282) (s : Int) u = -1 := by
      unfold ndA
      rw [if_neg (by omega), hmA, Int.toNat_natCast, if_neg hb]
    rw [hnd]
    have hng : ((-1 : Int) < 0) := by decide
    simp only [if_pos hng]
    dsimp only [Option.bind_some, jk]
    refine Ret_bind (rf_make (cp := 0) h hN h6 hs (by omega)) (fun O' hO' => Ret_some ?_)
    obtain ⟨k1, k2, k3, k4⟩ := hO'
    rw [hcast] at k1
    refine ⟨k1, fun y hy => ?_, k3, k4⟩
    rw [k2, mkD_9]
    by_cases e : y = s
    · rw [e, upd_same, if_pos rfl]
    · rw [upd_ne e, if_neg e]
      exact h291 y (hy.resolve_right e)
