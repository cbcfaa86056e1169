/-! LEVEL 3, uu: hidden -/
section HID
variable {S S' : Sst} {O O' : Smo} {n ne slots v tp bs : Nat} {lo : Nat → Nat}
theorem fu_le (h : Core S O n ne slots lo v tp bs) {u : Nat} (hu : u ≤ v) {x : Int} {j : Nat} : fuV O u x (j : Int) ≤ fuV O u x 0 := by
  obtain ⟨c1, c2, c3, c4, c5⟩ := c_row h hu
  unfold fuV
  refine List.countP_mono_left (fun s hs hb => ?_)
  have w := (gW_pos (h.1.2.1.2.1 s (c4 s hs))).1
  have hb' : 0 < gA (sgO O) s x (j : Int) := of_decide_eq_true hb
  have e : gA (sgO O) s x 0 = gA (sgO O) s x (j : Int) + (j : Int) * gW (sgO O) s := by
    unfold gA; grind
  have : 0 ≤ (j : Int) * gW (sgO O) s := Int.mul_nonneg (by omega) (by omega)
  exact decide_eq_true (by omega)
theorem rf_hid1 (h : Core S O n ne slots lo v tp bs) {c u : Nat} (hc : c ≤ 60) (hu : u ≤ v) (hs : f_X12_stampAt (c : Int) O = some (u : Int)) (t : Int × Int × Int) : lp (fun (s10145 : Int × Int × Int × Int) =>
            if 60 < s10145.2.2.2 then
              (some (Sum.inr (s10145.1, s10145.2.1, s10145.2.2.1)))
            else
              (Option.bind (f_X12_crossedAt (c : Int) s10145.2.2.2 O) fun (q10153 : Int) =>
              jn (
                if s10145.2.2.1 < q10153 then
                  (((c : Int), s10145.2.2.2, q10153))
                else
                  ((s10145.1, s10145.2.1, s10145.2.2.1))) fun (q10155 : Int × Int × Int) =>
              some (Sum.inl (q10155.1, q10155.2.1, q10155.2.2, wr (s10145.2.2.2 + 1))))) FU (t.1, t.2.1, t.2.2, 0) = some (if t.2.2 < (fuV O u (c : Int) 0 : Int) then ((c : Int), 0, (fuV O u (c : Int) 0 : Int)) else t) := by
  obtain ⟨a1, a2, a3⟩ := t
  dsimp only
  refine Ret_eq (Ret_lp (fun j q => q.2.2.2 = (j : Int) ∧ (q.1, q.2.1, q.2.2.1) = if j = 0 then (a1, a2, a3) else if a3 < (fuV O u (c : Int) 0 : Int) then ((c : Int), 0, (fuV O u (c : Int) 0 : Int)) else (a1, a2, a3)) 61 (by decide) ⟨rfl, rfl⟩ (fun j q hj hI => ?_) (fun q hI => ?_))
  · obtain ⟨b1, b2, b3, z⟩ := q
    obtain ⟨rfl, hb⟩ := hI
    dsimp only [jn] at *
    have hle := fu_le h hu (x := (c : Int)) (j := j)
    rw [if_neg (by omega), q_crossed h hu hs (by omega) (by omega)]
    dsimp only [Option.bind_some]
    rw [wr_id (by omega) (by omega)]
    refine Ret_some ⟨_, rfl, by dsimp only; omega, ?_⟩
    rw [if_neg (c := j + 1 = 0) (by omega)]
    by_cases j0 : j = 0
    · subst j0
      rw [if_pos rfl] at hb
      obtain ⟨rfl, rfl, rfl⟩ : b1 = a1 ∧ b2 = a2 ∧ b3 = a3 := by simpa using hb
      by_cases q : b3 < (fuV O u (c : Int) 0 : Int)
      · rw [if_pos q, if_pos (c := b3 < (fuV O u (c : Int) ((0 : Nat) : Int) : Int)) q]; rfl
      · rw [if_neg q, if_neg (c := b3 < (fuV O u (c : Int) ((0 : Nat) : Int) : Int)) q]
    · rw [if_neg j0] at hb
      by_cases q : a3 < (fuV O u (c : Int) 0 : Int)
      · rw [if_pos q] at hb ⊢
        have e3 : b3 = (fuV O u (c : Int) 0 : Int) := by simpa using congrArg (fun w => w.2.2) hb
        rw [if_neg (c := b3 < (fuV O u (c : Int) (j : Int) : Int)) (by omega)]
        exact hb
      · rw [if_neg q] at hb ⊢
        have e3 : b3 = a3 := by simpa using congrArg (fun w => w.2.2) hb
        rw [if_neg (c := b3 < (fuV O u (c : Int) (j : Int) : Int)) (by omega)]
        exact hb
  · obtain ⟨b1, b2, b3, z⟩ := q
    obtain ⟨rfl, hb⟩ := hI
    dsimp only at *
    rw [if_pos (by omega)]
    rw [if_neg (by decide)] at hb
    exact Ret_some ⟨_, rfl, hb⟩
end HID
