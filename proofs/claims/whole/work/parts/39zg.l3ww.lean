/-! LEVEL 3, ww: floorDiv, the ceiling of a segment at a place -/
theorem zxor_neg {a b : Int} (ha : -2147483648 ≤ a ∧ a ≤ 2147483647) (hb : 0 ≤ b ∧ b ≤ 2147483647) : zxor a b < 0 ↔ a < 0 := by
  have e1 : ∀ w : Int32, w.toInt < 0 ↔ w.toBitVec.msb = true := fun w => by
    rw [show w.toInt = w.toBitVec.toInt from rfl, BitVec.toInt_neg_iff, BitVec.msb_eq_decide]
    simp
    omega
  have h1 := e1 (zi a)
  have h2 := e1 (zi b)
  rw [zi_t ⟨by omega, by omega⟩] at h1
  rw [zi_t ⟨by omega, by omega⟩] at h2
  have hb' : (zi b).toBitVec.msb = false := by
    by_cases q : (zi b).toBitVec.msb = true
    · exact absurd (h2.mpr q) (by omega)
    · simpa using q
  unfold zxor
  rw [e1, show (zi a ^^^ zi b).toBitVec = (zi a).toBitVec ^^^ (zi b).toBitVec from rfl, BitVec.msb_xor, hb', h1]
  simp
theorem zdiv_neg {a b : Nat} (ha : a < 100000) (hb : b < 100000) : zdiv (-(a : Int)) (b : Int) = -((a / b : Nat) : Int) := by
  have hle := Nat.div_le_self a b
  unfold zdiv
  rw [Int32.toInt_div, zi_t ⟨by omega, by omega⟩, zi_t ⟨by omega, by omega⟩]
  have e : (-(a : Int)).tdiv (b : Int) = -((a / b : Nat) : Int) := by
    rw [Int.neg_tdiv, Int.tdiv_eq_ediv_of_nonneg (by omega)]
    rfl
  rw [e]
  clear e
  generalize a / b = q at hle ⊢
  exact bm32 (by omega) (by omega)
theorem fl_div {a b : Int} (ha : -99999 ≤ a ∧ a ≤ 99999) (hb : 0 < b ∧ b ≤ 99999) : f_J9_floorDiv_7cf53 a b = some (a / b) := by
  obtain ⟨m, rfl⟩ : ∃ m : Nat, b = (m : Int) := ⟨b.toNat, by omega⟩
  have hx := zxor_neg (a := a) (b := (m : Int)) (by omega) (by omega)
  unfold f_J9_floorDiv_7cf53
  rw [if_neg (by omega)]
  dsimp only [Option.bind_some]
  by_cases h0 : 0 ≤ a
  · obtain ⟨k, rfl⟩ : ∃ k : Nat, a = (k : Int) := ⟨a.toNat, by omega⟩
    rw [if_neg (fun q => by have := hx.mp q.1; omega), zdiv_n (by omega) (by omega)]
    rfl
  · obtain ⟨k, rfl⟩ : ∃ k : Nat, a = -(k : Int) := ⟨(-a).toNat, by omega⟩
    rw [zdiv_neg (by omega) (by omega)]
    have hk : 0 < k := by omega
    have hm := Nat.div_add_mod k m
    have hlt := Nat.mod_lt k (show 0 < m by omega)
    have hle := Nat.div_le_self k m
    have e1 : -(((k / m : Nat)) : Int) * (m : Int) = -((m * (k / m) : Nat) : Int) := by rw [Int.natCast_mul, Int.neg_mul, Int.mul_comm]
    have hle2 : m * (k / m) ≤ k := by omega
    rw [e1, wr_id (z := -((m * (k / m) : Nat) : Int)) (by generalize m * (k / m) = q at *; omega) (by generalize m * (k / m) = q at *; omega)]
    by_cases q : k % m = 0
    · rw [if_neg (fun w => w.2 (by omega))]
      congr 1
      symm
      rw [Int.neg_ediv_of_dvd (by exact_mod_cast (Nat.dvd_of_mod_eq_zero q))]
      rfl
    · rw [if_pos ⟨hx.mpr (by omega), by omega⟩, wr_id (z := -((k / m : Nat) : Int) - 1) (by generalize k / m = q at *; omega) (by generalize k / m = q at *; omega)]
      congr 1
      symm
      have e2 : (m : Int) * ((k / m : Nat) : Int) + ((k % m : Nat) : Int) = (k : Int) := by exact_mod_cast hm
      refine (Int.ediv_emod_unique (a := -(k : Int)) (b := (m : Int)) (r := (m : Int) - ((k % m : Nat) : Int)) (q := -((k / m : Nat) : Int) - 1) (by omega)).mpr ⟨?_, by omega, by omega⟩ |>.1
      grind
/-- the ceiling of a segment's height at a place -/
def cE (g : Sg) (s : Nat) (x : Int) : Int := sgu g s - (gR g s * (sga g s - x)) / gW g s
theorem cE_iff {g : Sg} {s : Nat} {x up : Int} (hw : 0 < gW g s) : 0 < gA g s x up ↔ up < cE g s x := by
  have e : gA g s x up = (sgu g s - up) * gW g s - gR g s * (sga g s - x) := by
    unfold gA gF; grind
  unfold cE
  rw [e]
  have := Int.ediv_lt_iff_lt_mul (a := gR g s * (sga g s - x)) (b := sgu g s - up) hw
  omega
theorem cE_bd {g : Sg} {s : Nat} {x : Int} (h : SegB g s) (ho : ovP g s x) : 0 ≤ cE g s x ∧ cE g s x ≤ 60 := by
  have hw := gW_pos h
  obtain ⟨h1, h2, h3, h4, h5, h6, h7⟩ := h
  obtain ⟨o1, o2⟩ := ho
  have hd : 0 ≤ x - sga g s := by omega
  have hd2 : 0 ≤ gW g s - (x - sga g s) := by unfold gW; omega
  have e : gF g s x * 1 = sgu g s * (gW g s - (x - sga g s)) + sgv g s * (x - sga g s) := by
    unfold gF gR; grind
  have p1 : 0 ≤ sgu g s * (gW g s - (x - sga g s)) := Int.mul_nonneg h4 hd2
  have p2 : 0 ≤ sgv g s * (x - sga g s) := Int.mul_nonneg h6 hd
  have q1 : 0 ≤ (60 - sgu g s) * (gW g s - (x - sga g s)) := Int.mul_nonneg (by omega) hd2
  have q2 : 0 ≤ (60 - sgv g s) * (x - sga g s) := Int.mul_nonneg (by omega) hd
  rw [Int.sub_mul] at q1 q2
  have i1 := (cE_iff (g := g) (s := s) (x := x) (up := -1) hw.1).mp (by unfold gA; omega)
  have i2 := (not_congr (cE_iff (g := g) (s := s) (x := x) (up := 60) hw.1)).mp (by unfold gA; omega)
  omega
theorem cl_ceil {S : Sst} {p n : Nat} {g : Sg} (h : RPl p S g n) {i : Nat} (hi : i < n) (hb : SegB g i) {x : Int} (hx : 0 ≤ x ∧ x ≤ 60) (ho : ovP g i x) : f_X4_ceilingOf p (i : Int) x S = some (cE g i x) := by
  obtain ⟨h1, h2, h3, h4, h5, h6⟩ := h
  have w := gW_pos hb
  have r := gR_bd hb
  have bb := hb
  unfold SegB at bb
  have b1 := mbd (x := gR g i) (y := sga g i - x) (c := 60) (d := 60) (by omega) (by omega)
  have hc := cE_bd hb ho
  unfold f_X4_ceilingOf
  dsimp only [jn]
  rw [at_nat h5 hi, at_nat h6 hi, at_nat h1 hi, at_nat h2 hi, wr_id (z := sga g i - x) (by omega) (by omega), wr_id (z := gR g i * (sga g i - x)) (by omega) (by omega), if_neg (by omega), fl_div (by omega) (by omega)]
  dsimp only [Option.bind_some]
  unfold cE at *
  rw [wr_id (by omega) (by omega)]
