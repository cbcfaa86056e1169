/-! LEVEL 3, l: versions and nodes as plain data; the class's store -/
abbrev Dt : Type := Nat × (Nat → Nat → Int)
def dN (D : Dt) : Nat := D.1
def upD (D : Dt) (j k : Nat) (v : Int) : Dt := (D.1, up2 D.2 j k v)
def dUsed (D : Dt) (k : Nat) : Nat := (D.2 4 k).toNat
def dHas (D : Dt) (z : Int) : Int := if z < 0 then -1 else D.2 9 z.toNat
def rdC (D : Dt) (k : Nat) (side st : Int) : Nat → Int
  | 0 => if side = 0 then D.2 2 k else D.2 3 k
  | c + 1 => if D.2 7 (6 * k + c) = side ∧ D.2 6 (6 * k + c) ≤ st then D.2 8 (6 * k + c) else rdC D k side st c
def rdD (D : Dt) (k : Nat) (side st : Int) : Int := rdC D k side st (dUsed D k)
def mkD (D : Dt) (s : Nat) (st l r cp : Int) : Dt := (D.1 + 1, up2 (up2 (up2 (up2 (up2 (up2 (up2 D.2 9 s (D.1 : Int)) 0 D.1 s) 1 D.1 st) 2 D.1 l) 3 D.1 r) 4 D.1 0) 5 D.1 cp)
def wrD (D : Dt) (k : Nat) (st side child : Int) : Dt := upD (upD (upD (upD D 6 (6 * k + dUsed D k) st) 7 (6 * k + dUsed D k) side) 8 (6 * k + dUsed D k) child) 4 k ((dUsed D k : Int) + 1)
def neI (a b : Int) : Nat := if a = b then 0 else 1
/-- a segment of the next tree: what becomes of the nodes, and how many were made, slots written -/
def adD (slots u m : Nat) (L R : Nat → Int) (D : Dt) (s : Nat) : Nat × Dt :=
  if m.testBit s = true then
    (if slots < dUsed D (D.2 9 s).toNat + (neI (rdD D (D.2 9 s).toNat 0 u) (dHas D (L s)) + neI (rdD D (D.2 9 s).toNat 1 u) (dHas D (R s))) then (1, mkD D s (u + 1) (dHas D (L s)) (dHas D (R s)) 1)
    else (neI (rdD D (D.2 9 s).toNat 0 u) (dHas D (L s)) + neI (rdD D (D.2 9 s).toNat 1 u) (dHas D (R s)),
      if rdD D (D.2 9 s).toNat 1 u = dHas D (R s) then (if rdD D (D.2 9 s).toNat 0 u = dHas D (L s) then D else wrD D (D.2 9 s).toNat (u + 1) 0 (dHas D (L s)))
      else wrD (if rdD D (D.2 9 s).toNat 0 u = dHas D (L s) then D else wrD D (D.2 9 s).toNat (u + 1) 0 (dHas D (L s))) (D.2 9 s).toNat (u + 1) 1 (dHas D (R s))))
  else (1, mkD D s (u + 1) (dHas D (L s)) (dHas D (R s)) 0)
def fdD (slots u m : Nat) (L R : Nat → Int) (q : Nat × Dt) (l : List Nat) : Nat × Dt := l.foldl (fun q s => (q.1 + (adD slots u m L R q.2 s).1, (adD slots u m L R q.2 s).2)) q
/-- what a store's rows hold -/
def RepD (p : Nat) (S : Sst) (D : Dt) : Prop := (∀ j, j < 6 → S.1 (p + 13 + 2 * j) = rg D.1 (D.2 j)) ∧ (∀ j, j < 3 → ∃ f, S.1 (p + 25 + 2 * j) = rg (6 * D.1) f ∧ ∀ k c, k < D.1 → c < dUsed D k → f (6 * k + c) = D.2 (6 + j) (6 * k + c)) ∧ S.1 (p + 31) = rg 8 (D.2 9)
/-- what must hold of such data -/
def okD (slots n : Nat) (D : Dt) : Prop := D.1 ≤ 320 ∧ (∀ k, k < D.1 → 0 ≤ D.2 4 k ∧ dUsed D k ≤ slots) ∧ slots ≤ 6 ∧ ∀ s, s < n → D.2 9 s = -1 ∨ ∃ k : Nat, D.2 9 s = (k : Int) ∧ k < D.1
theorem rep_at {p : Nat} {S : Sst} {D : Dt} (h : RepD p S D) {j k : Nat} (hj : j < 6) (hk : k < D.1) : f_X6_at (p + 13 + 2 * j) (k : Int) S = D.2 j k := at_nat (h.1 j hj) hk
theorem rep_used {p : Nat} {S : Sst} {D : Dt} (h : RepD p S D) {k : Nat} (hk : k < D.1) (h0 : 0 ≤ D.2 4 k) : f_X6_at (p + 21) (k : Int) S = (dUsed D k : Int) := by
  have := rep_at h (j := 4) (by decide) hk
  rw [show p + 13 + 2 * 4 = p + 21 by omega] at this
  rw [this]
  unfold dUsed
  omega
theorem rep_slot {p : Nat} {S : Sst} {D : Dt} (h : RepD p S D) {j k c : Nat} (hj : j < 3) (hk : k < D.1) (hc : c < dUsed D k) (h6 : dUsed D k ≤ 6) : f_X6_at (p + 25 + 2 * j) ((6 * k + c : Nat) : Int) S = D.2 (6 + j) (6 * k + c) := by
  obtain ⟨f, h1, h2⟩ := h.2.1 j hj
  rw [at_nat h1 (by omega), h2 k c hk hc]
theorem cl_childOf {p : Nat} {S : Sst} {D : Dt} (h : RepD p S D) {k : Nat} (hk : k < D.1) (hN : D.1 ≤ 320) (h0 : 0 ≤ D.2 4 k) (h6 : dUsed D k ≤ 6) (side st : Int) : f_X7_childOf p k side st S = some (rdD D k side st) := by
  unfold f_X7_childOf
  dsimp only [jn, jk]
  rw [rep_used h hk h0, wr_id (z := (dUsed D k : Int) - 1) (by omega) (by omega)]
  have h2 := rep_at h (j := 2) (by decide) hk
  have h3 := rep_at h (j := 3) (by decide) hk
  rw [show p + 13 + 2 * 2 = p + 17 by omega] at h2
  rw [show p + 13 + 2 * 3 = p + 19 by omega] at h3
  have s0 := fun c hc => rep_slot h (j := 0) (c := c) (by decide) hk hc h6
  have s1 := fun c hc => rep_slot h (j := 1) (c := c) (by decide) hk hc h6
  have s2 := fun c hc => rep_slot h (j := 2) (c := c) (by decide) hk hc h6
  rw [show p + 25 + 2 * 0 = p + 25 by omega] at s0
  rw [show p + 25 + 2 * 1 = p + 27 by omega] at s1
  rw [show p + 25 + 2 * 2 = p + 29 by omega] at s2
  rw [h2, h3]
  refine Ret_eq (Ret_bind (P := fun z => match z with | .inl r => f_X6_at (p + 29) r S = rdD D k side st | .inr _ => (if side = 0 then D.2 2 k else D.2 3 k) = rdD D k side st) (Ret_lpm (fun z => ∃ c : Nat, z = (c : Int) - 1 ∧ c ≤ dUsed D k ∧ rdC D k side st c = rdD D k side st) (fun z => (z + 1).toNat) ⟨dUsed D k, rfl, Nat.le_refl _, rfl⟩ (by omega) (fun z hz => ?_)) (fun z hz => ?_))
  · obtain ⟨c, rfl, hc, hr⟩ := hz
    cases c with
    | zero =>
      rw [if_pos (by omega)]
      exact Ret_some (Or.inr ⟨_, rfl, by rw [← hr]; rfl⟩)
    | succ c =>
      rw [if_neg (by omega), wr_id (z := (k : Int) * 6) (by omega) (by omega), wr_id (z := (k : Int) * 6 + _) (by omega) (by omega), show (k : Int) * 6 + (((c + 1 : Nat) : Int) - 1) = ((6 * k + c : Nat) : Int) by omega, s0 c (by omega), s1 c (by omega)]
      by_cases e : D.2 7 (6 * k + c) = side ∧ D.2 6 (6 * k + c) ≤ st
      · rw [if_pos ⟨e.1, by have := e.2; show ¬ st < D.2 6 (6 * k + c); omega⟩]
        refine Ret_some (Or.inr ⟨_, rfl, ?_⟩)
        dsimp only
        rw [s2 c (by omega), ← hr]
        unfold rdC
        rw [if_pos e]
      · rw [if_neg (fun q => e ⟨q.1, by have := q.2; have : ¬ st < D.2 6 (6 * k + c) := this; omega⟩)]
        refine Ret_some (Or.inl ⟨_, rfl, ⟨c, by rw [wr_id (by omega) (by omega)]; omega, by omega, ?_⟩, by rw [wr_id (by omega) (by omega)]; omega⟩)
        rw [← hr]
        conv => rhs; unfold rdC
        rw [if_neg e]
  · cases z with
    | inl r => exact Ret_some hz
    | inr r =>
      have hz : (if side = 0 then D.2 2 k else D.2 3 k) = rdD D k side st := hz
      show Ret (if side = 0 then some (D.2 2 k) else some (D.2 3 k)) _
      rw [← hz]
      split <;> exact Ret_some rfl
