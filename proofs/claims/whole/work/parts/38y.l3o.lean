/-! LEVEL 3, o: all nodes of a version more (pure) -/
section FIT
variable {D0 D : Dt} {u m n slots : Nat} {L R : Nat → Int} {T H : List Nat} {pr : Nat}
theorem FI_T {T' H' : List Nat} (h : FI D0 u m n slots L R T H pr D) (hT : ∀ x, x ∈ T ↔ x ∈ T') (hH : ∀ x, x ∈ H ↔ x ∈ H') : FI D0 u m n slots L R T' H' pr D := by
  obtain ⟨a, b, c, d, e, f, g, hh, i, j, k9⟩ := h
  refine ⟨a, b, c, fun s hs => ?_, e, fun k hk => ?_, g, fun s hs => hh s ((hH s).mpr hs), i, j, fun s hs => k9 s (fun q => hs ((hT s).mp q))⟩
  · obtain ⟨k, q1, q2, q3, q4, q5⟩ := d s (hs.imp (hT s).mpr id)
    exact ⟨k, q1, q2, q3, q4, fun q => q5 (fun q2 => q ((hT s).mp q2))⟩
  · obtain ⟨f1, f2, f3⟩ := f k hk
    exact ⟨f1, f2, fun s hs hn => f3 s hs (fun q => hn ((hT s).mp q))⟩
theorem FI_Tm (h : FI D0 u m n slots L R T H pr D) {s : Nat} (hs : m.testBit s = true) : FI D0 u m n slots L R (s :: T) H pr D := by
  obtain ⟨a, b, c, d, e, f, g, hh, i, j, k9⟩ := h
  refine ⟨a, b, c, fun s' hs' => ?_, e, fun k hk => ?_, g, hh, i, j, fun s' hs' => k9 s' (fun q => hs' (List.mem_cons_of_mem _ q))⟩
  · obtain ⟨k, q1, q2, q3, q4, q5⟩ := d s' (by
      rcases hs' with q | q
      · rcases List.mem_cons.mp q with rfl | q
        · exact Or.inr hs
        · exact Or.inl q
      · exact Or.inr q)
    exact ⟨k, q1, q2, q3, q4, fun q => q5 (fun q2 => q (List.mem_cons_of_mem _ q2))⟩
  · obtain ⟨f1, f2, f3⟩ := f k hk
    exact ⟨f1, f2, fun s hs hn => f3 s hs (fun q => hn (List.mem_cons_of_mem _ q))⟩
theorem FI_H (h : FI D0 u m n slots L R T H pr D) {s : Nat} (h1 : rdD D (D.2 9 s).toNat 0 (u + 1) = dHas D (L s)) (h2 : rdD D (D.2 9 s).toNat 1 (u + 1) = dHas D (R s)) : FI D0 u m n slots L R T (s :: H) pr D := by
  obtain ⟨a, b, c, d, e, f, g, hh, i, j, k9⟩ := h
  refine ⟨a, b, c, d, e, f, g, fun s' hs' => ?_, i, j, k9⟩
  rcases List.mem_cons.mp hs' with rfl | q
  · exact ⟨h1, h2⟩
  · exact hh s' q
/-- closed: the children of what is done are done -/
def clo (L R : Nat → Int) (d : List Nat) : Prop := ∀ y ∈ d, ∀ z : Nat, (L y = (z : Int) ∨ R y = (z : Int)) → z ∈ d
theorem FI_ad {d : List Nat} (h : FI D0 u m n slots L R d d pr D) (h6 : slots ≤ 6) {s : Nat} (hs : s < n) (hd : s ∉ d) (hc : clo L R d) (hL : L s = -1 ∨ ∃ y : Nat, L s = (y : Int) ∧ y ∈ d) (hR : R s = -1 ∨ ∃ y : Nat, R s = (y : Int) ∧ y ∈ d) :
    FI D0 u m n slots L R (s :: d) (s :: d) (pr + (adD slots u m L R D s).1) (adD slots u m L R D s).2 := by
  have hHc : ∀ y ∈ d, ∀ z : Nat, (L y = (z : Int) ∨ R y = (z : Int)) → z ≠ s ∧ z ∈ d := fun y hy z hz => by
    have := hc y hy z hz
    exact ⟨fun q => hd (q ▸ this), this⟩
  have hlr : ∀ z : Nat, (L s = (z : Int) ∨ R s = (z : Int)) → z ≠ s := fun z hz q => by
    subst q
    rcases hz with e | e
    · rcases hL with e2 | ⟨y, e2, hy⟩
      · rw [e] at e2; have := Int.natCast_nonneg z; omega
      · rw [e] at e2; exact hd (by rw [Int.ofNat.inj e2]; exact hy)
    · rcases hR with e2 | ⟨y, e2, hy⟩
      · rw [e] at e2; have := Int.natCast_nonneg z; omega
      · rw [e] at e2; exact hd (by rw [Int.ofNat.inj e2]; exact hy)
  unfold adD
  by_cases hm : m.testBit s = true
  · rw [if_pos hm]
    obtain ⟨k, q1, q2, q3, q4, q5⟩ := h.2.2.2.1 s (Or.inr hm)
    have hk0 := q5 hd
    have hu6 := (h.2.1 k q2).2
    rw [q1, Int.toNat_natCast]
    have hst : ∀ side : Int, rdD D k side (u + 1) = rdD D k side u := fun side => by
      have := ((h.2.2.2.2.2.1 k q2).2.2 s q3 hd).2
      refine rdC_st _ (fun i hi => ?_)
      have := this i hi
      omega
    by_cases hcp : slots < dUsed D k + (neI (rdD D k 0 u) (dHas D (L s)) + neI (rdD D k 1 u) (dHas D (R s)))
    · rw [if_pos hcp]
      exact FI_mk h h6 hs hd (fun y hy => hy) hHc (by rw [bt_1.mpr hm]) hlr rfl rfl
    · rw [if_neg hcp]
      dsimp only
      have hdH : ∀ (k : Nat) (a b c : Int) (z : Int), dHas (wrD D k a b c) z = dHas D z := fun k a b c z => by
        unfold dHas
        rw [wrD_o _ _ _ _ _ _ _ (by omega)]
      have h9 : ∀ (D : Dt) (k : Nat) (a b c : Int) (z : Nat), (wrD D k a b c).2 9 z = D.2 9 z := fun D k a b c z => wrD_o _ _ _ _ _ _ _ (by omega)
      have nH : ∀ y ∈ d, y ∈ d ∧ y ≠ s := fun y hy => ⟨hy, fun q => hd (q ▸ hy)⟩
      unfold neI at hcp ⊢
      by_cases ha : rdD D k 0 u = dHas D (L s)
      · rw [if_pos ha] at hcp ⊢
        rw [if_pos ha]
        by_cases hb : rdD D k 1 u = dHas D (R s)
        · rw [if_pos hb] at hcp ⊢
          rw [if_pos hb]
          refine FI_H (FI_Tm h hm) ?_ ?_
          · rw [q1, Int.toNat_natCast, hst, ha]
          · rw [q1, Int.toNat_natCast, hst, hb]
        · rw [if_neg hb] at hcp ⊢
          rw [if_neg hb]
          refine FI_H (FI_wr h h6 (Or.inr hm) q1 hk0 (by omega) nH 1 (dHas D (R s))) ?_ ?_
          · rw [h9, q1, Int.toNat_natCast, wrD_rd _ _ _ _ _ _ (by omega) (by omega), if_neg (fun q => by have := q.2.1; omega), hst, ha, hdH]
          · rw [h9, q1, Int.toNat_natCast, wrD_rd _ _ _ _ _ _ (by omega) (by omega), if_pos ⟨rfl, rfl, Int.le_refl _⟩, hdH]
      · rw [if_neg ha] at hcp ⊢
        rw [if_neg ha]
        have w1 := FI_wr h h6 (Or.inr hm) q1 hk0 (by omega) nH 0 (dHas D (L s))
        by_cases hb : rdD D k 1 u = dHas D (R s)
        · rw [if_pos hb] at hcp ⊢
          rw [if_pos hb]
          refine FI_H w1 ?_ ?_
          · rw [h9, q1, Int.toNat_natCast, wrD_rd _ _ _ _ _ _ (by omega) (by omega), if_pos ⟨rfl, rfl, Int.le_refl _⟩, hdH]
          · rw [h9, q1, Int.toNat_natCast, wrD_rd _ _ _ _ _ _ (by omega) (by omega), if_neg (fun q => by have := q.2.1; omega), hst, hb, hdH]
        · rw [if_neg hb] at hcp ⊢
          rw [if_neg hb]
          have u1 : dUsed (wrD D k (u + 1) 0 (dHas D (L s))) k = dUsed D k + 1 := by rw [wrD_u, if_pos rfl]
          have w2 := FI_wr w1 h6 (Or.inr hm) (k0 := k) (by rw [h9]; exact q1) hk0 (by rw [u1]; omega) (fun y hy => ⟨List.mem_cons_of_mem _ hy, (nH y hy).2⟩) 1 (dHas D (R s))
          have w3 := FI_T (T' := s :: d) (H' := d) w2 (fun x => by simp) (fun x => Iff.rfl)
          refine FI_H (show FI D0 u m n slots L R (s :: d) d (pr + (1 + 1)) _ from w3) ?_ ?_
          · rw [h9, h9, q1, Int.toNat_natCast, wrD_rd _ _ _ _ _ _ (by omega) (by omega), if_neg (fun q => by have := q.2.1; omega), wrD_rd _ _ _ _ _ _ (by omega) (by omega), if_pos ⟨rfl, rfl, Int.le_refl _⟩]
            unfold dHas
            rw [h9, h9]
          · rw [h9, h9, q1, Int.toNat_natCast, wrD_rd _ _ _ _ _ _ (by omega) (by omega), if_pos ⟨rfl, rfl, Int.le_refl _⟩]
            unfold dHas
            rw [h9, h9]
  · rw [if_neg hm]
    exact FI_mk h h6 hs hd (fun y hy => hy) hHc (by rw [bt_0.mpr (by simpa using hm)]) hlr rfl rfl
theorem fdD_1 (slots u m : Nat) (L R : Nat → Int) (q : Nat × Dt) (l : List Nat) (s : Nat) : fdD slots u m L R q (l ++ [s]) = ((fdD slots u m L R q l).1 + (adD slots u m L R (fdD slots u m L R q l).2 s).1, (adD slots u m L R (fdD slots u m L R q l).2 s).2) := by
  unfold fdD
  rw [List.foldl_append]
  rfl
theorem clo_take {L R : Nat → Int} {l : List Nat} (hC : postC L R l []) : ∀ c, clo L R (l.take c) := fun c y hy z hz => by
  obtain ⟨j, hj, hjy⟩ := take_mem hy
  obtain ⟨a, b⟩ := postC_at l [] j y hC hjy
  have key : ∀ w : Int, (w = -1 ∨ ∃ y : Nat, w = (y : Int) ∧ y ∈ [] ++ l.take j) → w = (z : Int) → z ∈ l.take c := fun w hw e => by
    rcases hw with h | ⟨y', h, m⟩
    · omega
    · have : z = y' := by omega
      subst this
      rw [List.nil_append] at m
      exact (List.take_subset_take_left l (by omega)) m
  rcases hz with e | e
  · exact key _ a e
  · exact key _ b e
theorem FI_take {l : List Nat} (hC : postC L R l []) (hnd : l.Nodup) (hn : ∀ y ∈ l, y < n) (h6 : slots ≤ 6) (h0 : FI D0 u m n slots L R [] [] 0 D0) : ∀ c, c ≤ l.length → FI D0 u m n slots L R (l.take c) (l.take c) (fdD slots u m L R (0, D0) (l.take c)).1 (fdD slots u m L R (0, D0) (l.take c)).2
  | 0, _ => h0
  | c + 1, hc => by
    have ih := FI_take hC hnd hn h6 h0 c (by omega)
    obtain ⟨s, hs⟩ : ∃ s, l[c]? = some s := ⟨l[c]'(by omega), by simp [show c < l.length by omega]⟩
    have htk : l.take (c + 1) = l.take c ++ [s] := by
      obtain ⟨h1, h2⟩ := List.getElem?_eq_some_iff.mp hs
      rw [List.take_succ_eq_append_getElem h1, h2]
    have hns : s ∉ l.take c := fun q => by
      obtain ⟨j, hj, hjy⟩ := take_mem q
      have := nodup_at hnd hjy hs
      omega
    obtain ⟨a, b⟩ := postC_at l [] c s hC hs
    rw [List.nil_append] at a b
    have := FI_ad ih h6 (hn s (List.mem_of_getElem? hs)) hns (clo_take hC c) a b
    rw [htk, fdD_1]
    exact FI_T this (fun x => by simp [or_comm]) (fun x => by simp [or_comm])
/-- how many nodes there may be -/
theorem FI_N (slots u m : Nat) (L R : Nat → Int) (q : Nat × Dt) : ∀ l : List Nat, (fdD slots u m L R q l).2.1 ≤ q.2.1 + l.length := by
  intro l
  induction l generalizing q with
  | nil => exact Nat.le_refl _
  | cons s l ih =>
    have h1 : (adD slots u m L R q.2 s).2.1 ≤ q.2.1 + 1 := by
      unfold adD
      split
      · split
        · exact Nat.le_refl _
        · dsimp only
          split <;> split <;> (show q.2.1 ≤ q.2.1 + 1; omega)
      · exact Nat.le_refl _
    have := ih (q := (q.1 + (adD slots u m L R q.2 s).1, (adD slots u m L R q.2 s).2))
    show (fdD slots u m L R (q.1 + (adD slots u m L R q.2 s).1, (adD slots u m L R q.2 s).2) l).2.1 ≤ _
    rw [List.length_cons]
    dsimp only at this
    omega
end FIT
