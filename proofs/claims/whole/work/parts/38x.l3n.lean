/-! LEVEL 3, n: what holds while a version is made (pure) -/
/-- N0: nodes ahead; u: the stamp ahead; m: who was in; T: whose nodes are new or written to; H: whose children are read as they must be -/
def FI (D0 : Dt) (u m n slots : Nat) (L R : Nat → Int) (T H : List Nat) (pr : Nat) (D : Dt) : Prop :=
  (D0.1 ≤ D.1 ∧ ∀ j k, k < D0.1 → (j < 4 ∨ j = 5) → D.2 j k = D0.2 j k) ∧
  (∀ k, k < D.1 → 0 ≤ D.2 4 k ∧ dUsed D k ≤ slots) ∧
  (∀ k, k < D.1 → ∃ s : Nat, s < n ∧ D.2 0 k = (s : Int)) ∧
  (∀ s, (s ∈ T ∨ m.testBit s = true) → ∃ k : Nat, D.2 9 s = (k : Int) ∧ k < D.1 ∧ D.2 0 k = (s : Int) ∧ lastO (D.2 0) s D.1 = (k : Int) ∧ (s ∉ T → k < D0.1)) ∧
  (∀ k c, k < D.1 → c < dUsed D k → D.2 6 (6 * k + c) ≤ u + 1 ∧ D.2 1 k < D.2 6 (6 * k + c)) ∧
  (∀ k, k < D.1 → (D0.1 ≤ k → D.2 1 k = u + 1 ∧ ∀ s : Nat, D.2 0 k = (s : Int) → D.2 5 k = bt m s) ∧ (k < D0.1 → D.2 1 k ≤ u) ∧ ∀ s : Nat, D.2 0 k = (s : Int) → s ∉ T → k < D0.1 ∧ ∀ c, c < dUsed D k → D.2 6 (6 * k + c) ≤ u) ∧
  (∀ k c c', k < D.1 → c ≤ c' → c' < dUsed D k → D.2 6 (6 * k + c) ≤ D.2 6 (6 * k + c')) ∧
  (∀ s ∈ H, rdD D (D.2 9 s).toNat 0 (u + 1) = dHas D (L s) ∧ rdD D (D.2 9 s).toNat 1 (u + 1) = dHas D (R s)) ∧
  pr = (D.1 - D0.1) + wcD D (u + 1) D.1 ∧
  (∀ k, k < D0.1 → dUsed D0 k ≤ dUsed D k ∧ (∀ c, c < dUsed D0 k → ∀ j, (j = 6 ∨ j = 7 ∨ j = 8) → D.2 j (6 * k + c) = D0.2 j (6 * k + c)) ∧ ∀ c, dUsed D0 k ≤ c → c < dUsed D k → D.2 6 (6 * k + c) = u + 1) ∧
  ∀ s, s ∉ T → D.2 9 s = D0.2 9 s
section FIS
variable {D0 D : Dt} {u m n slots : Nat} {L R : Nat → Int} {T H : List Nat} {pr : Nat}
theorem FI_mk (h : FI D0 u m n slots L R T H pr D) (h6 : slots ≤ 6) {s : Nat} (hs : s < n) (hT : s ∉ T) (hH : ∀ y ∈ H, y ∈ T) (hHc : ∀ y ∈ H, ∀ z : Nat, (L y = (z : Int) ∨ R y = (z : Int)) → z ≠ s ∧ z ∈ T) {l r cp : Int} (hcp : cp = bt m s) (hlr : ∀ z : Nat, (L s = (z : Int) ∨ R s = (z : Int)) → z ≠ s) (hl : l = dHas D (L s)) (hr : r = dHas D (R s)) :
    FI D0 u m n slots L R (s :: T) (s :: H) (pr + 1) (mkD D s (u + 1) l r cp) := by
  obtain ⟨⟨a0, a1⟩, b, c, d, e, f, g, hh, i, j, k9⟩ := h
  have hN : (mkD D s (u + 1) l r cp).1 = D.1 + 1 := rfl
  have hhas : ∀ z : Int, (∀ y : Nat, z = (y : Int) → y ≠ s) → dHas (mkD D s (u + 1) l r cp) z = dHas D z := fun z hz => by
    unfold dHas
    by_cases q : z < 0
    · rw [if_pos q, if_pos q]
    · rw [if_neg q, if_neg q, mkD_9, if_neg (hz z.toNat (by omega))]
  refine ⟨⟨by rw [hN]; omega, fun jj k hk hj => ?_⟩, fun k hk => ?_, fun k hk => ?_, fun s' hs' => ?_, fun k cc hk hc => ?_, fun k hk => ?_, fun k c1 c2 hk h1 h2 => ?_, fun s' hs' => ?_, ?_, fun k hk => ?_, fun s' hs' => ?_⟩
  · rw [← a1 jj k hk hj]
    rcases (show jj = 0 ∨ jj = 1 ∨ jj = 2 ∨ jj = 3 ∨ jj = 5 by omega) with rfl | rfl | rfl | rfl | rfl
    · rw [mkD_0, if_neg (by omega)]
    · rw [mkD_1, if_neg (by omega)]
    · rw [mkD_2, if_neg (by omega)]
    · rw [mkD_3, if_neg (by omega)]
    · rw [mkD_5, if_neg (by omega)]
  · rw [mkD_4, mkD_u]
    rw [hN] at hk
    by_cases q : k = D.1
    · rw [if_pos q, if_pos q]; omega
    · rw [if_neg q, if_neg q]; exact b k (by omega)
  · rw [mkD_0]
    rw [hN] at hk
    by_cases q : k = D.1
    · rw [if_pos q]; exact ⟨s, hs, rfl⟩
    · rw [if_neg q]; exact c k (by omega)
  · rw [mkD_9, hN]
    by_cases q : s' = s
    · subst q
      rw [if_pos rfl]
      refine ⟨D.1, rfl, by omega, by rw [mkD_0, if_pos rfl], ?_, fun q => absurd List.mem_cons_self q⟩
      unfold lastO
      rw [mkD_0, if_pos rfl, if_pos rfl]
    · rw [if_neg q]
      obtain ⟨k, q1, q2, q3, q4, q5⟩ := d s' (by
        rcases hs' with hs' | hs'
        · rcases List.mem_cons.mp hs' with h | h
          · exact absurd h q
          · exact Or.inl h
        · exact Or.inr hs')
      refine ⟨k, q1, by omega, by rw [mkD_0, if_neg (by omega)]; exact q3, ?_, fun h => q5 (fun h2 => h (List.mem_cons_of_mem _ h2))⟩
      unfold lastO
      rw [mkD_0, if_pos rfl, if_neg (by omega), lastO_congr (o' := D.2 0) D.1 (fun k hk => by rw [mkD_0, if_neg (by omega)])]
      exact q4
  · rw [hN] at hk
    rw [mkD_u] at hc
    by_cases q : k = D.1
    · rw [if_pos q] at hc; omega
    · rw [if_neg q] at hc
      rw [mkD_s _ _ _ _ _ _ _ _ (by simp), mkD_1, if_neg q]
      exact e k cc (by omega) hc
  · rw [hN] at hk
    rw [mkD_1]
    by_cases q : k = D.1
    · rw [if_pos q]
      refine ⟨fun _ => ⟨rfl, fun s' hs' => ?_⟩, fun _ => by omega, fun s' hs' hn => ?_⟩
      · rw [mkD_0, if_pos q] at hs'
        have : s' = s := by omega
        rw [mkD_5, if_pos q, hcp, this]
      · rw [mkD_0, if_pos q] at hs'
        have : s' = s := by omega
        exact absurd (by rw [this]; exact List.mem_cons_self) hn
    · rw [if_neg q]
      obtain ⟨f1, f2, f3⟩ := f k (by omega)
      refine ⟨fun hk0 => ⟨(f1 hk0).1, fun s' hs' => ?_⟩, f2, fun s' hs' hn => ?_⟩
      · rw [mkD_0, if_neg q] at hs'
        rw [mkD_5, if_neg q]
        exact (f1 hk0).2 s' hs'
      · rw [mkD_0, if_neg q] at hs'
        obtain ⟨g1, g2⟩ := f3 s' hs' (fun h2 => hn (List.mem_cons_of_mem _ h2))
        refine ⟨g1, fun cc hc => ?_⟩
        rw [mkD_u, if_neg q] at hc
        rw [mkD_s _ _ _ _ _ _ _ _ (by simp)]
        exact g2 cc hc
  · rw [hN] at hk
    rw [mkD_u] at h2
    by_cases q : k = D.1
    · rw [if_pos q] at h2; omega
    · rw [if_neg q] at h2
      rw [mkD_s _ _ _ _ _ _ _ _ (by simp), mkD_s _ _ _ _ _ _ _ _ (by simp)]
      exact g k c1 c2 (by omega) h1 h2
  · rw [mkD_9]
    by_cases q : s' = s
    · subst q
      rw [if_pos rfl, Int.toNat_natCast, mkD_rd, if_pos rfl, if_pos rfl, mkD_rd, if_pos rfl, if_neg (by decide), hhas _ (fun y hy => hlr y (Or.inl hy)), hhas _ (fun y hy => hlr y (Or.inr hy))]
      exact ⟨hl, hr⟩
    · rw [if_neg q]
      have hsH : s' ∈ H := (List.mem_cons.mp hs').resolve_left q
      obtain ⟨k, q1, q2, q3, q4, q5⟩ := d s' (Or.inl (hH s' hsH))
      have := hh s' hsH
      rw [q1, Int.toNat_natCast] at this ⊢
      rw [mkD_rd, if_neg (by omega), mkD_rd, if_neg (by omega), hhas _ (fun y hy => (hHc s' hsH y (Or.inl hy)).1), hhas _ (fun y hy => (hHc s' hsH y (Or.inr hy)).1)]
      exact this
  · rw [hN, mkD_wc]
    omega
  · obtain ⟨j1, j2, j3⟩ := j k hk
    rw [mkD_u, if_neg (by omega)]
    refine ⟨j1, fun cc hc jj hj => ?_, fun cc h1 h2 => ?_⟩
    · rw [mkD_s _ _ _ _ _ _ _ _ hj]; exact j2 cc hc jj hj
    · rw [mkD_s _ _ _ _ _ _ _ _ (by simp)]; exact j3 cc h1 h2
  · rw [mkD_9, if_neg (fun q => hs' (by rw [q]; exact List.mem_cons_self))]
    exact k9 s' (fun h2 => hs' (List.mem_cons_of_mem _ h2))
theorem FI_wr (h : FI D0 u m n slots L R T H pr D) (h6 : slots ≤ 6) {s k0 : Nat} (hm : s ∈ T ∨ m.testBit s = true) (hk : D.2 9 s = (k0 : Int)) (hk0 : k0 < D0.1) (hu : dUsed D k0 < slots) (hH : ∀ y ∈ H, y ∈ T ∧ y ≠ s) (side child : Int) :
    FI D0 u m n slots L R (s :: T) H (pr + 1) (wrD D k0 (u + 1) side child) := by
  obtain ⟨⟨a0, a1⟩, b, c, d, e, f, g, hh, i, j, k9⟩ := h
  have hN : (wrD D k0 (u + 1) side child).1 = D.1 := rfl
  obtain ⟨k0', p1, p2, p3, p4, p5⟩ := d s hm
  have : k0' = k0 := by omega
  subst this
  have hown : ∀ k, (wrD D k0' (u + 1) side child).2 0 k = D.2 0 k := fun k => wrD_o _ _ _ _ _ _ _ (by omega)
  have hmade : ∀ k, (wrD D k0' (u + 1) side child).2 1 k = D.2 1 k := fun k => wrD_o _ _ _ _ _ _ _ (by omega)
  have hh9 : ∀ k, (wrD D k0' (u + 1) side child).2 9 k = D.2 9 k := fun k => wrD_o _ _ _ _ _ _ _ (by omega)
  have hhas : ∀ z : Int, dHas (wrD D k0' (u + 1) side child) z = dHas D z := fun z => by
    unfold dHas
    rw [hh9]
  have u6 : ∀ k, k < D.1 → dUsed D k ≤ 6 := fun k hk => by have := (b k hk).2; omega
  have old : ∀ k i, k < D.1 → i < dUsed D k → 6 * k + i ≠ 6 * k0' + dUsed D k0' := fun k i hk hi => by
    have h1 := u6 k hk
    by_cases e : k = k0'
    · subst e; omega
    · omega
  refine ⟨⟨by rw [hN]; omega, fun jj k hk hj => by rw [wrD_o _ _ _ _ _ _ _ (by omega)]; exact a1 jj k hk hj⟩, fun k hk => ?_, fun k hk => ?_, fun s' hs' => ?_, fun k cc hk hc => ?_, fun k hk => ?_, fun k c1 c2 hk h1 h2 => ?_, fun s' hs' => ?_, ?_, fun k hk => ?_, fun s' hs' => ?_⟩
  · rw [wrD_4, wrD_u]
    by_cases q : k = k0'
    · rw [if_pos q, if_pos q]; omega
    · rw [if_neg q, if_neg q]; exact b k hk
  · rw [hown]; exact c k hk
  · rw [hh9, hN]
    by_cases q : s' = s
    · subst q
      exact ⟨k0', hk, p2, by rw [hown]; exact p3, by rw [lastO_congr (o' := D.2 0) D.1 (fun k _ => hown k)]; exact p4, fun h => absurd List.mem_cons_self h⟩
    · obtain ⟨k, q1, q2, q3, q4, q5⟩ := d s' (by
        rcases hs' with hs' | hs'
        · rcases List.mem_cons.mp hs' with h | h
          · exact absurd h q
          · exact Or.inl h
        · exact Or.inr hs')
      exact ⟨k, q1, q2, by rw [hown]; exact q3, by rw [lastO_congr (o' := D.2 0) D.1 (fun k _ => hown k)]; exact q4, fun h => q5 (fun h2 => h (List.mem_cons_of_mem _ h2))⟩
  · rw [hN] at hk
    rw [wrD_u] at hc
    rw [wrD_6, hmade]
    by_cases q : k = k0'
    · subst q
      rw [if_pos rfl] at hc
      by_cases q2 : cc = dUsed D k
      · rw [q2, if_pos rfl]
        have := (f k p2).2.1 hk0
        omega
      · rw [if_neg (by omega)]
        exact e k cc p2 (by omega)
    · rw [if_neg q] at hc
      rw [if_neg (old k cc hk hc)]
      exact e k cc hk hc
  · rw [hN] at hk
    rw [hmade]
    obtain ⟨f1, f2, f3⟩ := f k hk
    refine ⟨fun hk0 => ⟨(f1 hk0).1, fun s' hs' => ?_⟩, f2, fun s' hs' hn => ?_⟩
    · rw [hown] at hs'
      rw [wrD_o _ _ _ _ _ _ _ (by omega)]
      exact (f1 hk0).2 s' hs'
    · rw [hown] at hs'
      obtain ⟨g1, g2⟩ := f3 s' hs' (fun h2 => hn (List.mem_cons_of_mem _ h2))
      have hne : k ≠ k0' := fun q => by
        rw [q, p3] at hs'
        have : s' = s := by omega
        exact hn (by rw [this]; exact List.mem_cons_self)
      refine ⟨g1, fun cc hc => ?_⟩
      rw [wrD_u, if_neg hne] at hc
      rw [wrD_6, if_neg (old k cc hk hc)]
      exact g2 cc hc
  · rw [hN] at hk
    rw [wrD_u] at h2
    rw [wrD_6, wrD_6]
    by_cases q : k = k0'
    · subst q
      rw [if_pos rfl] at h2
      by_cases q2 : c2 = dUsed D k
      · rw [q2, if_pos (c := 6 * k + dUsed D k = _) rfl]
        by_cases q3 : c1 = dUsed D k
        · rw [q3, if_pos rfl]; omega
        · rw [if_neg (by omega)]
          exact (e k c1 p2 (by omega)).1
      · rw [if_neg (by omega), if_neg (by omega)]
        exact g k c1 c2 p2 h1 (by omega)
    · rw [if_neg q] at h2
      rw [if_neg (old k c1 hk (by omega)), if_neg (old k c2 hk h2)]
      exact g k c1 c2 hk h1 h2
  · obtain ⟨t1, t2⟩ := hH s' hs'
    obtain ⟨k, q1, q2, q3, q4, q5⟩ := d s' (Or.inl t1)
    have := hh s' hs'
    have hne : k ≠ k0' := fun q => by
      rw [q, p3] at q3
      exact t2 (by omega)
    rw [hh9]
    rw [q1, Int.toNat_natCast] at this ⊢
    have k06 := u6 k0' p2
    rw [wrD_rd _ _ _ _ _ _ (by omega) (u6 k q2), wrD_rd _ _ _ _ _ _ (by omega) (u6 k q2), if_neg (fun q => hne q.1), if_neg (fun q => hne q.1), hhas, hhas]
    exact this
  · rw [hN, wrD_wc _ _ _ _ u6 (by omega), if_pos p2]
    omega
  · obtain ⟨j1, j2, j3⟩ := j k hk
    rw [wrD_u]
    by_cases q : k = k0'
    · subst q
      rw [if_pos rfl]
      refine ⟨by omega, fun cc hc jj hj => ?_, fun cc h1 h2 => ?_⟩
      · rw [← j2 cc hc jj hj]
        have hne : 6 * k + cc ≠ 6 * k + dUsed D k := by omega
        rcases hj with rfl | rfl | rfl
        · rw [wrD_6, if_neg hne]
        · rw [wrD_7, if_neg hne]
        · rw [wrD_8, if_neg hne]
      · rw [wrD_6]
        by_cases q2 : cc = dUsed D k
        · rw [q2, if_pos rfl]
        · rw [if_neg (by omega)]
          exact j3 cc h1 (by omega)
    · rw [if_neg q]
      refine ⟨j1, fun cc hc jj hj => ?_, fun cc h1 h2 => ?_⟩
      · rw [← j2 cc hc jj hj]
        have hne := old k cc (by omega) (by omega)
        rcases hj with rfl | rfl | rfl
        · rw [wrD_6, if_neg hne]
        · rw [wrD_7, if_neg hne]
        · rw [wrD_8, if_neg hne]
      · rw [wrD_6, if_neg (old k cc (by omega) h2)]
        exact j3 cc h1 h2
  · rw [hh9]
    exact k9 s' (fun h2 => hs' (List.mem_cons_of_mem _ h2))
end FIS
