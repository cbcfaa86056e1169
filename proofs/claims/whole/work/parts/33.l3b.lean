/-! LEVEL 3, b: segments that do not meet (pure) -/
abbrev Sg : Type := (Nat → Int) × (Nat → Int) × (Nat → Int) × (Nat → Int)
def sga (g : Sg) (i : Nat) : Int := g.1 i
def sgu (g : Sg) (i : Nat) : Int := g.2.1 i
def sgb (g : Sg) (i : Nat) : Int := g.2.2.1 i
def sgv (g : Sg) (i : Nat) : Int := g.2.2.2 i
def gW (g : Sg) (i : Nat) : Int := sgb g i - sga g i
def gR (g : Sg) (i : Nat) : Int := sgv g i - sgu g i
def gF (g : Sg) (i : Nat) (x : Int) : Int := sgu g i * gW g i + gR g i * (x - sga g i)
def gD (g : Sg) (i j : Nat) (x : Int) : Int := gF g i x * gW g j - gF g j x * gW g i
def gS (g : Sg) (i j : Nat) : Int := gR g i * gW g j - gR g j * gW g i
def hiP (g : Sg) (i j : Nat) (x : Int) : Prop := 0 < gD g i j x ∨ (gD g i j x = 0 ∧ 0 < gS g i j)
def gLo (g : Sg) (i j : Nat) : Int := if sga g i < sga g j then sga g j else sga g i
def gHi (g : Sg) (i j : Nat) : Int := if sgb g j < sgb g i then sgb g j else sgb g i
def noMeet (g : Sg) (i j : Nat) : Prop := gLo g i j < gHi g i j →
  (gD g i j (gLo g i j) = 0 → gD g i j (gHi g i j) ≠ 0 ∧ sga g i = sga g j) ∧ (gD g i j (gHi g i j) = 0 → gD g i j (gLo g i j) ≠ 0 ∧ sgb g i = sgb g j) ∧
  (gD g i j (gLo g i j) ≠ 0 → gD g i j (gHi g i j) ≠ 0 → (0 < gD g i j (gLo g i j) ↔ 0 < gD g i j (gHi g i j)))
def ovP (g : Sg) (i : Nat) (x : Int) : Prop := sga g i ≤ x ∧ x < sgb g i
def SegB (g : Sg) (i : Nat) : Prop := 0 ≤ sga g i ∧ sga g i < sgb g i ∧ sgb g i ≤ 60 ∧ 0 ≤ sgu g i ∧ sgu g i ≤ 60 ∧ 0 ≤ sgv g i ∧ sgv g i ≤ 60
def OkSeg (g : Sg) (n : Nat) : Prop := n ≤ 8 ∧ (∀ i, i < n → SegB g i) ∧ ∀ i j, i < n → j < n → i ≠ j → noMeet g i j
theorem gD_lin (g : Sg) (i j : Nat) (x y : Int) : gD g i j x = gD g i j y + (x - y) * gS g i j := by
  unfold gD gS gF
  grind
theorem gD_anti (g : Sg) (i j : Nat) (x : Int) : gD g j i x = - gD g i j x := by
  unfold gD
  grind
theorem gS_anti (g : Sg) (i j : Nat) : gS g j i = - gS g i j := by
  unfold gS
  grind
theorem gLo_comm (g : Sg) (i j : Nat) : gLo g j i = gLo g i j := by
  unfold gLo
  split <;> split <;> omega
theorem gHi_comm (g : Sg) (i j : Nat) : gHi g j i = gHi g i j := by
  unfold gHi
  split <;> split <;> omega
theorem noMeet_symm {g : Sg} {i j : Nat} (h : noMeet g i j) : noMeet g j i := by
  unfold noMeet at *
  rw [gLo_comm g i j, gHi_comm g i j, gD_anti g i j (gLo g i j), gD_anti g i j (gHi g i j)]
  intro hl
  obtain ⟨h1, h2, h3⟩ := h hl
  refine ⟨fun e => ?_, fun e => ?_, fun e1 e2 => ?_⟩
  · have := h1 (by omega); exact ⟨by omega, this.2.symm⟩
  · have := h2 (by omega); exact ⟨by omega, this.2.symm⟩
  · have := h3 (by omega) (by omega); omega
theorem mpos {w z : Int} (hw : 0 < w) : 0 < w * z ↔ 0 < z := ⟨fun h => Int.pos_of_mul_pos_right h hw, fun h => Int.mul_pos hw h⟩
theorem mneg {w z : Int} (hw : 0 < w) : w * z < 0 ↔ z < 0 := ⟨fun h => Int.neg_of_mul_neg_right h hw, fun h => Int.mul_neg_of_pos_of_neg hw h⟩
theorem mzero {w z : Int} (hw : 0 < w) : w * z = 0 ↔ z = 0 := by
  constructor
  · intro h
    rcases Int.mul_eq_zero.mp h with h | h
    · omega
    · exact h
  · intro h; rw [h, Int.mul_zero]
theorem mbd {x y : Int} {c d : Nat} (hx : -(c : Int) ≤ x ∧ x ≤ c) (hy : -(d : Int) ≤ y ∧ y ≤ d) : -((c * d : Nat) : Int) ≤ x * y ∧ x * y ≤ ((c * d : Nat) : Int) := by
  have h1 : x.natAbs ≤ c := by omega
  have h2 : y.natAbs ≤ d := by omega
  have h3 : (x * y).natAbs ≤ c * d := by
    rw [Int.natAbs_mul]
    exact Nat.mul_le_mul h1 h2
  omega
theorem gW_pos {g : Sg} {i : Nat} (h : SegB g i) : 0 < gW g i ∧ gW g i ≤ 60 := by
  unfold SegB at h
  unfold gW
  omega
theorem gR_bd {g : Sg} {i : Nat} (h : SegB g i) : -60 ≤ gR g i ∧ gR g i ≤ 60 := by
  unfold SegB at h
  unfold gR
  omega
theorem gLo_le {g : Sg} {i j : Nat} {x : Int} (h1 : ovP g i x) (h2 : ovP g j x) : gLo g i j ≤ x ∧ x < gHi g i j := by
  unfold ovP at *
  unfold gLo gHi
  split <;> split <;> omega
theorem gLo_ov {g : Sg} {i j : Nat} {x : Int} (h1 : ovP g i x) (h2 : ovP g j x) : ovP g i (gLo g i j) ∧ ovP g j (gLo g i j) := by
  unfold ovP at *
  unfold gLo
  split <;> omega
/-- who is higher where both begin is so at every place over which both are -/
theorem hi_lo {g : Sg} {i j : Nat} {x : Int} (hm : noMeet g i j) (h1 : ovP g i x) (h2 : ovP g j x) : hiP g i j x ↔ hiP g i j (gLo g i j) := by
  obtain ⟨hl, hr⟩ := gLo_le h1 h2
  obtain ⟨m1, m2, m3⟩ := hm (by omega)
  have e1 := gD_lin g i j x (gLo g i j)
  have e2 := gD_lin g i j (gHi g i j) (gLo g i j)
  have e3 : (gHi g i j - gLo g i j) * gD g i j x = (gHi g i j - x) * gD g i j (gLo g i j) + (x - gLo g i j) * gD g i j (gHi g i j) := by
    rw [e1, e2]; grind
  have p1 : 0 < gHi g i j - gLo g i j := by omega
  have p2 : 0 < gHi g i j - x := by omega
  unfold hiP
  generalize gD g i j (gLo g i j) = dl at *
  generalize gD g i j (gHi g i j) = dh at *
  generalize gD g i j x = dx at *
  generalize gS g i j = s at *
  generalize gHi g i j = hi at *
  generalize gLo g i j = lo at *
  by_cases hz : dl = 0
  · subst hz
    have hdh := (m1 rfl).1
    rw [Int.zero_add] at e1 e2
    have s2 : (0 < dh ↔ 0 < s) := by rw [e2]; exact mpos p1
    by_cases hx : x = lo
    · subst hx
      rw [e1, Int.sub_self, Int.zero_mul]
    · have p3 : 0 < x - lo := by omega
      have s1 : (0 < dx ↔ 0 < s) := by rw [e1]; exact mpos p3
      have s0 : (dx = 0 ↔ s = 0) := by rw [e1]; exact mzero p3
      have s3 : (dh = 0 ↔ s = 0) := by rw [e2]; exact mzero p1
      omega
  · have hpos : 0 < dl → 0 < dx := fun q => by
      have hd : 0 ≤ dh := by
        by_cases e : dh = 0
        · omega
        · have := m3 hz e; omega
      have a1 : 0 < (hi - x) * dl := Int.mul_pos p2 q
      have a2 : 0 ≤ (x - lo) * dh := Int.mul_nonneg (by omega) hd
      exact (mpos p1).mp (by omega)
    have hneg : dl < 0 → dx < 0 := fun q => by
      have hd : dh ≤ 0 := by
        by_cases e : dh = 0
        · omega
        · have := m3 hz e; omega
      have a1 : (hi - x) * dl < 0 := Int.mul_neg_of_pos_of_neg p2 q
      have a2 : (x - lo) * dh ≤ 0 := Int.mul_nonpos_of_nonneg_of_nonpos (by omega) hd
      exact (mneg p1).mp (by omega)
    omega
theorem hi_two {g : Sg} {i j : Nat} {x y : Int} (hm : noMeet g i j) (h1 : ovP g i x) (h2 : ovP g j x) (h3 : ovP g i y) (h4 : ovP g j y) : hiP g i j x ↔ hiP g i j y := by
  rw [hi_lo hm h1 h2, hi_lo hm h3 h4]
theorem hi_asym {g : Sg} {i j : Nat} {x : Int} (h : hiP g i j x) : ¬ hiP g j i x := by
  unfold hiP at *
  rw [gD_anti g i j x, gS_anti g i j]
  omega
theorem hi_tot {g : Sg} {i j : Nat} {x : Int} (hm : noMeet g i j) (h1 : ovP g i x) (h2 : ovP g j x) : hiP g i j x ∨ hiP g j i x := by
  obtain ⟨hl, hr⟩ := gLo_le h1 h2
  obtain ⟨m1, m2, m3⟩ := hm (by omega)
  have e1 := gD_lin g i j x (gLo g i j)
  have e2 := gD_lin g i j (gHi g i j) (gLo g i j)
  unfold hiP
  rw [gD_anti g i j x, gS_anti g i j]
  by_cases q : gD g i j x = 0 ∧ gS g i j = 0
  · obtain ⟨q1, q2⟩ := q
    rw [q2, Int.mul_zero] at e1 e2
    have := m1 (by omega)
    omega
  · omega
theorem hi_trans {g : Sg} {i j k : Nat} {x : Int} (wi : 0 < gW g i) (wj : 0 < gW g j) (wk : 0 < gW g k) (h1 : hiP g i j x) (h2 : hiP g j k x) : hiP g i k x := by
  have e1 : gW g j * gD g i k x = gW g k * gD g i j x + gW g i * gD g j k x := by
    unfold gD; grind
  have e2 : gW g j * gS g i k = gW g k * gS g i j + gW g i * gS g j k := by
    unfold gS; grind
  unfold hiP at *
  generalize gD g i k x = dik at *
  generalize gD g i j x = dij at *
  generalize gD g j k x = djk at *
  generalize gS g i k = sik at *
  generalize gS g i j = sij at *
  generalize gS g j k = sjk at *
  have a1 : 0 < dij → 0 < gW g k * dij := fun h => Int.mul_pos wk h
  have a2 : 0 < djk → 0 < gW g i * djk := fun h => Int.mul_pos wi h
  have a3 : 0 < sij → 0 < gW g k * sij := fun h => Int.mul_pos wk h
  have a4 : 0 < sjk → 0 < gW g i * sjk := fun h => Int.mul_pos wi h
  have b1 : 0 < gW g j * dik → 0 < dik := (mpos wj).mp
  have b2 : gW g j * dik = 0 → dik = 0 := (mzero wj).mp
  have b3 : 0 < gW g j * sik → 0 < sik := (mpos wj).mp
  have c1 : dij = 0 → gW g k * dij = 0 := fun h => by rw [h, Int.mul_zero]
  have c2 : djk = 0 → gW g i * djk = 0 := fun h => by rw [h, Int.mul_zero]
  rcases h1 with h1 | ⟨h1, h1'⟩ <;> rcases h2 with h2 | ⟨h2, h2'⟩
  · have := a1 h1; have := a2 h2; exact Or.inl (b1 (by omega))
  · have := a1 h1; have := c2 h2; exact Or.inl (b1 (by omega))
  · have := c1 h1; have := a2 h2; exact Or.inl (b1 (by omega))
  · have := c1 h1; have := c2 h2; have := a3 h1'; have := a4 h2'
    exact Or.inr ⟨b2 (by omega), b3 (by omega)⟩
/-- how far a segment is farther up than a point, times its width -/
def gA (g : Sg) (i : Nat) (x up : Int) : Int := gF g i x - up * gW g i
theorem gA_mono {g : Sg} {i j : Nat} {x up : Int} (wi : 0 < gW g i) (wj : 0 < gW g j) (h : hiP g i j x) (h2 : 0 < gA g j x up) : 0 < gA g i x up := by
  have e : gW g j * gA g i x up = gD g i j x + gW g i * gA g j x up := by
    unfold gA gD; grind
  have hd : 0 ≤ gD g i j x := by unfold hiP at h; omega
  have := Int.mul_pos wi h2
  exact (mpos wj).mp (by omega)
theorem gF_bd {g : Sg} {i : Nat} {x : Int} (h : SegB g i) (hx : 0 ≤ x ∧ x ≤ 60) : -7200 ≤ gF g i x ∧ gF g i x ≤ 7200 := by
  obtain ⟨h1, h2, h3, h4, h5, h6, h7⟩ := h
  have a := mbd (x := sgu g i) (y := gW g i) (c := 60) (d := 60) (by omega) (by unfold gW; omega)
  have b := mbd (x := gR g i) (y := x - sga g i) (c := 60) (d := 60) (by unfold gR; omega) (by omega)
  unfold gF
  omega
theorem gA_bd {g : Sg} {i : Nat} {x up : Int} (h : SegB g i) (hx : 0 ≤ x ∧ x ≤ 60) (hu : -9 ≤ up ∧ up ≤ 99) : -20000 ≤ gA g i x up ∧ gA g i x up ≤ 20000 := by
  have a := gF_bd h hx
  have w := gW_pos h
  have b := mbd (x := up) (y := gW g i) (c := 99) (d := 60) (by omega) (by omega)
  unfold gA
  omega
theorem gFW_bd {g : Sg} {i j : Nat} {x : Int} (h : SegB g i) (h' : SegB g j) (hx : 0 ≤ x ∧ x ≤ 60) : -432000 ≤ gF g i x * gW g j ∧ gF g i x * gW g j ≤ 432000 := by
  have a := gF_bd h hx
  have w := gW_pos h'
  have b := mbd (x := gF g i x) (y := gW g j) (c := 7200) (d := 60) (by omega) (by omega)
  omega
theorem gRW_bd {g : Sg} {i j : Nat} (h : SegB g i) (h' : SegB g j) : -3600 ≤ gR g i * gW g j ∧ gR g i * gW g j ≤ 3600 := by
  have a := gR_bd h
  have w := gW_pos h'
  have b := mbd (x := gR g i) (y := gW g j) (c := 60) (d := 60) (by omega) (by omega)
  omega
