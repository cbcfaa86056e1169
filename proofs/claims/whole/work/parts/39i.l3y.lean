/-! LEVEL 3, y: all versions, an act more -/
def evA (g : Sg) (ne : Nat) (ev : Nat → Int) (A : Nat → Int) (u : Nat) : Prop := A (82 + u) = (cA A u : Int) ∧ cA A u < 256 ∧ ∃ e : Nat, A (123 + u) = (e : Int) ∧ e ≤ ne ∧ A u = (if e = 0 then 0 else ev (e - 1)) ∧ ∀ s, (mA A u).testBit s = true → e < ne ∧ ev e ≤ sgb g s
def chA (ne : Nat) (ev : Nat → Int) (A : Nat → Int) (u : Nat) : Prop := (A (u + 1) = A u ∧ A (123 + (u + 1)) = A (123 + u)) ∨ ∃ e : Nat, A (123 + u) = (e : Int) ∧ e < ne ∧ A (u + 1) = ev e ∧ A (123 + (u + 1)) = ((e + 1 : Nat) : Int)
def stoA (g : Sg) (n ne : Nat) (w ev : Nat → Int) (slots : Nat) (A : Nat → Int) (tp : Nat) : Prop :=
  okA A n slots tp ∧ (∀ u, u < tp → stpA g w slots A u) ∧ (∀ u, u ≤ tp → verA g n A u ∧ evA g ne ev A u) ∧ ∀ u, u < tp → chA ne ev A u
def EvOk (g : Sg) (n ne : Nat) (ev : Nat → Int) : Prop := ne ≤ 16 ∧ (∀ i j, i < j → j < ne → ev i < ev j) ∧ (∀ i, i < ne → 0 ≤ ev i ∧ ev i ≤ 60) ∧ ∀ k, k < n → (∃ e, e < ne ∧ ev e = sga g k) ∧ ∃ e, e < ne ∧ ev e = sgb g k
theorem vwD_mA {A A' : Nat → Int} {g : Sg} {w : Nat → Int} {slots u : Nat} (h1 : vwD A' u = vwD A u) (h2 : mA A' u = mA A u) (m : Nat) (x : Int) : nxF g w slots A' u m x = nxF g w slots A u m x := by
  unfold nxF
  rw [h1, h2]
theorem act_step {A A' : Nat → Int} {g : Sg} {n ne slots tp v m' : Nat} {w ev : Nat → Int} (hg : OkSeg g n) (hs : stoA g n ne w ev slots A tp) (h6 : slots ≤ 6) (hv : v ≤ tp)
    (hm8 : m' < 256) (hm' : A' (41 + (v + 1)) = (m' : Int)) (hlow : ∀ i, i < 205 → i ≠ v + 1 → i ≠ 41 + (v + 1) → i ≠ 82 + (v + 1) → i ≠ 123 + (v + 1) → i ≠ 164 + (v + 1) → A' i = A i) (hv40 : v < 40)
    (hR : RefD A' (v + 1) (nxF g w slots A v m' (A' (v + 1))).2) (hF : FI (vwD A v) v (mA A v) n slots (tL w (rowF g m' (A' (v + 1)))) (tR w (rowF g m' (A' (v + 1)))) (poF g w m' (A' (v + 1))) (poF g w m' (A' (v + 1))) (nxF g w slots A v m' (A' (v + 1))).1 (nxF g w slots A v m' (A' (v + 1))).2)
    (hver : Over g n m' (A' (v + 1)) ∧ 0 ≤ A' (v + 1) ∧ A' (v + 1) ≤ 60) (hev : mA A' (v + 1) = m' → evA g ne ev A' (v + 1)) (hch : chA ne ev A' v) :
    stoA g n ne w ev slots A' (v + 1) ∧ (∀ u, u ≤ v → vwD A' u = vwD A u ∧ mA A' u = mA A u) ∧ mA A' (v + 1) = m' := by
  obtain ⟨s1, s2, s3, s4⟩ := hs
  have hrl : (rowF g m' (A' (v + 1))).length ≤ 8 := by rw [rowF_len hg hver.1]; exact pc_le _
  have hnd := rowF_nodup hg hver.1
  have hTT := joinJ_TT w (rowF g m' (A' (v + 1))) hnd
  have hpp : (poF g w m' (A' (v + 1))).Perm (rowF g m' (A' (v + 1))) := post8_perm hrl hTT
  have hpo : ∀ s, m'.testBit s = true ↔ s ∈ poF g w m' (A' (v + 1)) := fun s => by rw [hpp.mem_iff, rowF_mem hg hver.1]
  have hN : (nxF g w slots A v m' (A' (v + 1))).2.1 ≤ nA A v + 8 := by
    have := FI_N slots v (mA A v) (tL w (rowF g m' (A' (v + 1)))) (tR w (rowF g m' (A' (v + 1)))) (0, vwD A v) (poF g w m' (A' (v + 1)))
    have hl := hpp.length_eq
    have e : ((0, vwD A v) : Nat × Dt).2.1 = nA A v := rfl
    rw [e] at this
    unfold nxF
    omega
  obtain ⟨n1, n2, n3, n4, n5⟩ := next_ok s1 h6 hv hF hR hN hpo hm8 (fun y hy => (hver.1.2 y ((hpo y).mpr hy)).1) hm' (fun u hu => ⟨hlow _ (by omega) (by omega) (by omega) (by omega) (by omega) (by omega), hlow _ (by omega) (by omega) (by omega) (by omega) (by omega) (by omega)⟩)
  have lo0 : ∀ u, u ≤ v → A' u = A u := fun u hu => hlow _ (by omega) (by omega) (by omega) (by omega) (by omega) (by omega)
  have lo82 : ∀ u, u ≤ v → A' (82 + u) = A (82 + u) := fun u hu => hlow _ (by omega) (by omega) (by omega) (by omega) (by omega) (by omega)
  have lo123 : ∀ u, u ≤ v → A' (123 + u) = A (123 + u) := fun u hu => hlow _ (by omega) (by omega) (by omega) (by omega) (by omega) (by omega)
  refine ⟨⟨n1, fun u hu => ?_, fun u hu => ?_, fun u hu => ?_⟩, fun u hu => ⟨n2 u hu, n5 u hu⟩, n4⟩
  · unfold stpA
    by_cases q : u = v
    · subst q
      rw [n4, vwD_mA (n2 u (Nat.le_refl _)) (n5 u (Nat.le_refl _))]
      exact n3
    · rw [vwD_mA (n2 u (by omega)) (n5 u (by omega)), n5 (u + 1) (by omega), lo0 (u + 1) (by omega), n2 (u + 1) (by omega)]
      exact s2 u (by omega)
  · by_cases q : u = v + 1
    · subst q
      refine ⟨?_, hev n4⟩
      unfold verA
      rw [n4]
      exact hver
    · obtain ⟨a, b⟩ := s3 u (by omega)
      unfold verA evA cA at *
      rw [n5 u (by omega), lo0 u (by omega), lo82 u (by omega), lo123 u (by omega)]
      exact ⟨a, b⟩
  · by_cases q : u = v
    · subst q; exact hch
    · have := s4 u (by omega)
      unfold chA at *
      rw [lo0 u (by omega), lo0 (u + 1) (by omega), lo123 u (by omega), lo123 (u + 1) (by omega)]
      exact this
/-- rows of the class that say a version's data say them of other rows that agree -/
theorem RepS_congr {p : Nat} {S : Sst} {g : Sg} {w : Nat → Int} {slots v : Nat} {A A' : Nat → Int} (h : RepS p S g w slots A v) (hv : v < 41) (h1 : ∀ u, u ≤ v → vwD A' u = vwD A u ∧ mA A' u = mA A u) (h2 : ∀ u, u ≤ v → A' u = A u ∧ A' (41 + u) = A (41 + u) ∧ A' (82 + u) = A (82 + u) ∧ A' (123 + u) = A (123 + u)) : RepS p S g w slots A' v := by
  obtain ⟨r1, r2, r3, r4, r5, r6, r7⟩ := h
  refine ⟨?_, ?_, ?_, ?_, ?_, ?_, ?_⟩
  · rw [r1]; exact rg_ext (fun k hk => (h2 k (by omega)).1.symm)
  · rw [r2]; exact rg_ext (fun k hk => (h2 k (by omega)).2.1.symm)
  · rw [r3]; exact rg_ext (fun k hk => (h2 k (by omega)).2.2.1.symm)
  · rw [r4]; exact rg_ext (fun k hk => (h2 k (by omega)).2.2.2.symm)
  · rw [r5]
    refine rg_ext (fun k hk => ?_)
    unfold rtA
    rw [(h1 k (by omega)).1, (h1 k (by omega)).2, (h2 k (by omega)).1]
  · rw [r6]
    refine rg_ext (fun k hk => ?_)
    cases k with
    | zero => rfl
    | succ k =>
      show ((nxF g w slots A k (mA A (k + 1)) (A (k + 1))).1 : Int) = ((nxF g w slots A' k (mA A' (k + 1)) (A' (k + 1))).1 : Int)
      rw [vwD_mA (h1 k (by omega)).1 (h1 k (by omega)).2, (h1 (k + 1) (by omega)).2, (h2 (k + 1) (by omega)).1]
  · rw [(h1 v (Nat.le_refl _)).1]; exact r7
theorem actA_congr {g : Sg} {n ne : Nat} {ev : Nat → Int} {A A' : Nat → Int} {u : Nat} {act : Int} (h : actA g n ev ne A u act) (h1 : mA A' u = mA A u) (h2 : ∀ i, i = u ∨ i = u + 1 → A' i = A i ∧ A' (41 + i) = A (41 + i) ∧ A' (82 + i) = A (82 + i) ∧ A' (123 + i) = A (123 + i)) : actA g n ev ne A' u act := by
  obtain ⟨a1, a2, a3, a4⟩ := h2 u (Or.inl rfl)
  obtain ⟨b1, b2, b3, b4⟩ := h2 (u + 1) (Or.inr rfl)
  unfold actA cA at *
  rw [h1, a1, a3, a4, b1, b2, b3, b4]
  exact h
/-- what is in behind an event -/
theorem swM_tb {g : Sg} {m : Nat} {x : Int} (hm : m < 256) : ∀ k, k ≤ 8 → ∀ j, (swM g m x k).testBit j = if j < k ∧ sga g j = x then true else if j < k ∧ sgb g j = x then false else m.testBit j
  | 0, _, j => by
    rw [if_neg (by omega), if_neg (by omega)]
    rfl
  | k + 1, hk, j => by
    have ih := swM_tb (g := g) (x := x) hm k (by omega) j
    have hl := swM_lt (g := g) (x := x) hm k (by omega)
    have e : swM g m x (k + 1) = if sga g k = x then put1 (swM g m x k) k else if sgb g k = x then clr (swM g m x k) k else swM g m x k := rfl
    rw [e]
    by_cases c : j = k
    · subst c
      rw [if_neg (by omega), if_neg (by omega)] at ih
      by_cases q : sga g j = x
      · rw [if_pos q, put1_tb hl (by omega), if_pos ⟨by omega, q⟩]
        simp
      · rw [if_neg q]
        by_cases q2 : sgb g j = x
        · rw [if_pos q2, clr_tb hl (by omega), if_neg (fun h => q h.2), if_pos ⟨by omega, q2⟩]
          simp
        · rw [if_neg q2, if_neg (fun h => q h.2), if_neg (fun h => q2 h.2)]
          exact ih
    · have e2 : (if j < k + 1 ∧ sga g j = x then true else if j < k + 1 ∧ sgb g j = x then false else m.testBit j) = if j < k ∧ sga g j = x then true else if j < k ∧ sgb g j = x then false else m.testBit j := by
        have h1 : (j < k + 1 ∧ sga g j = x) ↔ (j < k ∧ sga g j = x) := ⟨fun h => ⟨by omega, h.2⟩, fun h => ⟨by omega, h.2⟩⟩
        have h2 : (j < k + 1 ∧ sgb g j = x) ↔ (j < k ∧ sgb g j = x) := ⟨fun h => ⟨by omega, h.2⟩, fun h => ⟨by omega, h.2⟩⟩
        simp only [h1, h2]
      rw [e2, ← ih]
      split
      · rw [put1_tb hl (by omega)]; simp [c]
      · split
        · rw [clr_tb hl (by omega)]; simp [c]
        · rfl
theorem ev_next {g : Sg} {n ne : Nat} {ev : Nat → Int} (hE : EvOk g n ne ev) {e : Nat} {k : Nat} (hk : k < n) (h : e = 0 ∨ ev (e - 1) < sgb g k) (he : e ≤ ne) : e < ne ∧ ev e ≤ sgb g k := by
  obtain ⟨j, hj, hjk⟩ := (hE.2.2.2 k hk).2
  have hej : e ≤ j := by
    rcases h with h | h
    · omega
    · rw [← hjk] at h
      by_cases c : e ≤ j
      · exact c
      · exfalso
        by_cases c2 : j = e - 1
        · rw [c2] at h; omega
        · have := hE.2.1 j (e - 1) (by omega) (by omega)
          omega
  refine ⟨by omega, ?_⟩
  rw [← hjk]
  by_cases c : e = j
  · rw [c]; exact Int.le_refl _
  · exact Int.le_of_lt (hE.2.1 e j (by omega) hj)
theorem sweep_over {g : Sg} {n ne : Nat} {ev : Nat → Int} {A : Nat → Int} {u e : Nat} (hg : OkSeg g n) (hE : EvOk g n ne ev) (hv : verA g n A u) (hev : evA g ne ev A u) (he : A (123 + u) = (e : Int)) (hen : e < ne) :
    Over g n (swM g (mA A u) (ev e) n) (ev e) ∧ ∀ s, (swM g (mA A u) (ev e) n).testBit s = true → e + 1 < ne ∧ ev (e + 1) ≤ sgb g s := by
  obtain ⟨⟨m8, mo⟩, x0, x60⟩ := hv
  obtain ⟨_, _, e', h1, h2, h3, h4⟩ := hev
  have : e' = e := by omega
  subst this
  have hn8 := hg.1
  have key : ∀ s, (swM g (mA A u) (ev e') n).testBit s = true → s < n ∧ sga g s ≤ ev e' ∧ ev e' < sgb g s := fun s hs => by
    rw [swM_tb m8 n hn8] at hs
    by_cases c1 : s < n ∧ sga g s = ev e'
    · obtain ⟨c1, c2⟩ := c1
      have := hg.2.1 s c1
      unfold SegB at this
      exact ⟨c1, by omega, by omega⟩
    · rw [if_neg c1] at hs
      by_cases c2 : s < n ∧ sgb g s = ev e'
      · rw [if_pos c2] at hs; cases hs
      · rw [if_neg c2] at hs
        obtain ⟨k1, k2⟩ := mo s hs
        obtain ⟨k3, k4⟩ := h4 s hs
        unfold ovP at k2
        refine ⟨k1, ?_, ?_⟩
        · have hle : A u ≤ ev e' := by
            rw [h3]
            by_cases c : e' = 0
            · rw [if_pos c]; exact (hE.2.2.1 e' hen).1
            · rw [if_neg c]
              exact Int.le_of_lt (hE.2.1 (e' - 1) e' (by omega) hen)
          omega
        · have : sgb g s ≠ ev e' := fun q => c2 ⟨k1, q⟩
          omega
  refine ⟨⟨swM_lt m8 n hn8, fun s hs => ?_⟩, fun s hs => ?_⟩
  · obtain ⟨a, b, c⟩ := key s hs
    exact ⟨a, b, c⟩
  · obtain ⟨a, b, c⟩ := key s hs
    exact ev_next hE a (Or.inr (by rw [show e' + 1 - 1 = e' from rfl]; exact c)) (by omega)
