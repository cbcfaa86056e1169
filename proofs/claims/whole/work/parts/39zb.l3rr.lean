/-! LEVEL 3, rr: the tree that the nodes keep; node -/
theorem TT_ex {L R : Nat → Int} : ∀ (n : Nat) (t : Int) (r : List Nat), r.length ≤ n → TT L R t r → ∀ y ∈ r, t = (y : Int) ∨ ∃ p ∈ r, L p = (y : Int) ∨ R p = (y : Int) := by
  intro n
  induction n with
  | zero =>
    intro t r hn h y hy
    have hr : r = [] := List.eq_nil_of_length_eq_zero (by omega)
    subst hr
    cases hy
  | succ n ih =>
    intro t r hn h y hy
    rcases TT_inv h with ⟨rfl, rfl⟩ | ⟨s, a, b, rfl, rfl, e3, e4⟩
    · cases hy
    · have hl : (a ++ s :: b).length = a.length + b.length + 1 := by simp; omega
      rcases (show y ∈ a ∨ y = s ∨ y ∈ b by simpa using hy) with h1 | h1 | h1
      · right
        rcases ih _ a (by omega) e3 y h1 with e | ⟨p, hp, e⟩
        · exact ⟨s, by simp, Or.inl e⟩
        · exact ⟨p, by simp [hp], e⟩
      · left; rw [h1]
      · right
        rcases ih _ b (by omega) e4 y h1 with e | ⟨p, hp, e⟩
        · exact ⟨s, by simp, Or.inr e⟩
        · exact ⟨p, by simp [hp], e⟩
theorem FI_all {D0 : Dt} {u m n slots : Nat} {L R : Nat → Int} {l : List Nat} (hC : postC L R l []) (hnd : l.Nodup) (hn : ∀ y ∈ l, y < n) (h6 : slots ≤ 6) (h0 : FI D0 u m n slots L R [] [] 0 D0) : FI D0 u m n slots L R l l (fdD slots u m L R (0, D0) l).1 (fdD slots u m L R (0, D0) l).2 := by
  have := FI_take hC hnd hn h6 h0 l.length (Nat.le_refl _)
  rw [List.take_length] at this
  exact this
theorem rdD_eq {D D' : Dt} (h : eqD D D') {k : Nat} (hk : k < D.1) (side st : Int) : rdD D k side st = rdD D' k side st := by
  obtain ⟨h1, h2⟩ := h.2.1 k hk
  have hu : dUsed D k = dUsed D' k := by unfold dUsed; rw [h1 4 (by decide)]
  unfold rdD
  rw [← hu]
  exact rdC_congr (h1 2 (by decide)) (h1 3 (by decide)) _ (fun i hi => ⟨h2 i hi 6 (by simp), h2 i hi 7 (by simp), h2 i hi 8 (by simp)⟩)
theorem rdD_cl (m : Nat) (D : Dt) (k : Nat) (side st : Int) : rdD (clD m D) k side st = rdD D k side st := by
  unfold rdD
  have hu : dUsed (clD m D) k = dUsed D k := by unfold dUsed; rw [clD_o m D 4 k (by decide)]
  rw [hu]
  exact rdC_congr (clD_o m D 2 k (by decide)) (clD_o m D 3 k (by decide)) _ (fun i hi => ⟨clD_o m D 6 _ (by decide), clD_o m D 7 _ (by decide), clD_o m D 8 _ (by decide)⟩)
section TREE
variable {A : Nat → Int} {n ne slots tp u : Nat} {g : Sg} {w ev : Nat → Int}
/-- what a segment's node shows as its children are the nodes of the tree's children -/
theorem nd_tree (hg : OkSeg g n) (h : stoA g n ne w ev slots A tp) (h6 : slots ≤ 6) (hu : u + 1 ≤ tp) {s : Nat} (hs : s ∈ rowF g (mA A (u + 1)) (A (u + 1))) :
    rdD (vwD A (u + 1)) (ndA A s (u + 1)).toNat 0 ((u + 1 : Nat) : Int) = ndA A (tL w (rowF g (mA A (u + 1)) (A (u + 1))) s) (u + 1) ∧ rdD (vwD A (u + 1)) (ndA A s (u + 1)).toNat 1 ((u + 1 : Nat) : Int) = ndA A (tR w (rowF g (mA A (u + 1)) (A (u + 1))) s) (u + 1) := by
  obtain ⟨s1, s2, s3, s4⟩ := h
  have hver := (s3 (u + 1) hu).1
  have hrl : (rowF g (mA A (u + 1)) (A (u + 1))).length ≤ 8 := by rw [rowF_len hg hver.1]; exact pc_le _
  have hnd := rowF_nodup hg hver.1
  have hTT := joinJ_TT w (rowF g (mA A (u + 1)) (A (u + 1))) hnd
  have hpp : (poF g w (mA A (u + 1)) (A (u + 1))).Perm (rowF g (mA A (u + 1)) (A (u + 1))) := post8_perm hrl hTT
  have hC := post8_C _ _ _ [] (Nat.le_refl _) hrl hTT
  have hpn : (poF g w (mA A (u + 1)) (A (u + 1))).Nodup := hpp.nodup_iff.mpr hnd
  have hpm : ∀ y ∈ poF g w (mA A (u + 1)) (A (u + 1)), y < n := fun y hy => (hver.1.2 y ((rowF_mem hg hver.1).mp (hpp.mem_iff.mp hy))).1
  have hF2 : FI (vwD A u) u (mA A u) n slots (tL w (rowF g (mA A (u + 1)) (A (u + 1)))) (tR w (rowF g (mA A (u + 1)) (A (u + 1)))) (poF g w (mA A (u + 1)) (A (u + 1))) (poF g w (mA A (u + 1)) (A (u + 1))) (nxF g w slots A u (mA A (u + 1)) (A (u + 1))).1 (nxF g w slots A u (mA A (u + 1)) (A (u + 1))).2 :=
    FI_all hC hpn hpm h6 (FI_start s1 h6 (show u ≤ tp by omega) _ _)
  have heq := s2 u (by omega)
  unfold stpA at heq
  have hmem : ∀ y ∈ rowF g (mA A (u + 1)) (A (u + 1)), y < 8 ∧ (nxF g w slots A u (mA A (u + 1)) (A (u + 1))).2.2 9 y = ndA A y (u + 1) := fun y hy => by
    have hb := (rowF_mem hg hver.1).mp hy
    have hy8 : y < 8 := by have := (hver.1.2 y hb).1; have := hg.1; omega
    have := heq.2.2 y hy8
    rw [clD_9, if_neg (by simp [hb]), vwD_9] at this
    exact ⟨hy8, this⟩
  have hch : ∀ z : Int, (z = -1 ∨ ∃ y : Nat, z = (y : Int) ∧ y ∈ rowF g (mA A (u + 1)) (A (u + 1))) → dHas (nxF g w slots A u (mA A (u + 1)) (A (u + 1))).2 z = ndA A z (u + 1) := fun z hz => by
    unfold dHas
    rcases hz with rfl | ⟨y, rfl, hy⟩
    · rw [if_pos (by decide)]; rfl
    · rw [if_neg (by omega), Int.toNat_natCast, (hmem y hy).2]
  have hsub : ∀ (z : Int), (z = tL w (rowF g (mA A (u + 1)) (A (u + 1))) s ∨ z = tR w (rowF g (mA A (u + 1)) (A (u + 1))) s) → (z = -1 ∨ ∃ y : Nat, z = (y : Int) ∧ y ∈ rowF g (mA A (u + 1)) (A (u + 1))) := fun z hz => by
    obtain ⟨ry, t1, t2, t3⟩ := TT_sub _ _ _ (Nat.le_refl _) hTT s hs
    obtain ⟨a, b, e1, e2, e3⟩ := TT_inv_nat t1
    rcases hz with rfl | rfl
    · rcases TT_t e2 with e | ⟨y, e, hy⟩
      · exact Or.inl e
      · exact Or.inr ⟨y, e, t3 y (by rw [e1]; simp [hy])⟩
    · rcases TT_t e3 with e | ⟨y, e, hy⟩
      · exact Or.inl e
      · exact Or.inr ⟨y, e, t3 y (by rw [e1]; simp [hy])⟩
  have hH := hF2.2.2.2.2.2.2.2.1 s (hpp.mem_iff.mpr hs)
  have hk : ((nxF g w slots A u (mA A (u + 1)) (A (u + 1))).2.2 9 s).toNat < (nxF g w slots A u (mA A (u + 1)) (A (u + 1))).2.1 := by
    obtain ⟨k, k1, k2, _⟩ := hF2.2.2.2.1 s (Or.inl (hpp.mem_iff.mpr hs))
    rw [k1, Int.toNat_natCast]
    exact k2
  rw [(hmem s hs).2] at hH hk
  have e2 : ((u : Int) + 1) = ((u + 1 : Nat) : Int) := by omega
  rw [e2] at hH
  have hr : ∀ side : Int, rdD (vwD A (u + 1)) (ndA A s (u + 1)).toNat side ((u + 1 : Nat) : Int) = rdD (nxF g w slots A u (mA A (u + 1)) (A (u + 1))).2 (ndA A s (u + 1)).toNat side ((u + 1 : Nat) : Int) := fun side => by
    rw [← rdD_eq heq hk side, rdD_cl]
  rw [hr, hr, hH.1, hH.2, hch _ (hsub _ (Or.inl rfl)), hch _ (hsub _ (Or.inr rfl))]
  exact ⟨rfl, rfl⟩
end TREE
