/-! LEVEL 3, aj: the formula's two stacks -/
def rk (k : Nat) : Nat := if k = 37 ∨ k = 42 then 6 else if k = 43 ∨ k = 45 then 5 else if k = 47 then 6 else if k = 60 ∨ k = 61 ∨ k = 62 then 4 else if k = 106 then 1 else if k = 107 then 2 else if k = 108 then 3 else 0
def LK : List Nat := [40, 108, 106, 107, 37, 42, 43, 45, 47, 60, 61, 62]
def isB (k : Nat) : Bool := [106, 107, 37, 42, 43, 45, 47, 60, 61, 62].contains k
def rcS (k : Nat) : Int := if k = 40 then 20 else if k = 108 then 21 else if k = 106 then 124 else if k = 107 then 38 else (k : Int)
def dcA (k : Nat) : Int := if 1000 ≤ k then 0 else if 109 ≤ k ∧ k ≤ 113 then 1 else if k = 108 then 2 else 3
def dcB (k : Nat) : Int := if 1000 ≤ k then (k : Int) - 1000 else if 109 ≤ k ∧ k ≤ 113 then (k : Int) - 109 else if k = 108 then 0 else rcS k
theorem rank_n (k : Nat) : f_X2_rankOf (k : Int) = (rk k : Int) := by
  unfold f_X2_rankOf rk
  by_cases h1 : k = 37 ∨ k = 42
  · rw [if_pos h1, if_pos (by omega)]; rfl
  · rw [if_neg h1, if_neg (by omega)]
    by_cases h2 : k = 43 ∨ k = 45
    · rw [if_pos h2, if_pos (by omega)]; rfl
    · rw [if_neg h2, if_neg (by omega)]
      by_cases h3 : k = 47
      · rw [if_pos h3, if_pos (by omega)]; rfl
      · rw [if_neg h3, if_neg (by omega)]
        by_cases h4 : k = 60 ∨ k = 61 ∨ k = 62
        · rw [if_pos h4, if_pos (by omega)]; rfl
        · rw [if_neg h4, if_neg (by omega)]
          by_cases h5 : k = 106
          · rw [if_pos h5, if_pos (by omega)]; rfl
          · rw [if_neg h5, if_neg (by omega)]
            by_cases h6 : k = 107
            · rw [if_pos h6, if_pos (by omega)]; rfl
            · rw [if_neg h6, if_neg (by omega)]
              by_cases h7 : k = 108
              · rw [if_pos h7, if_pos (by omega)]; rfl
              · rw [if_neg h7, if_neg (by omega)]; rfl
theorem LK_f : ∀ k ∈ LK, (rcS k = 20 ↔ k = 40) ∧ (rcS k = 21 ↔ k = 108) ∧ (k ≠ 40 → f_X12_tight (rcS k) = (rk k : Int) ∧ 1 ≤ rk k) ∧ (isB k = true ↔ k ≠ 40 ∧ k ≠ 108) ∧ (rk k = 0 ↔ k = 40) ∧ k < 1000 ∧ (k ≠ 40 → k ≠ 108 → dcA k = 3 ∧ dcB k = rcS k) ∧ 0 ≤ rcS k := by decide +kernel
def cW (st : List Nat) : Nat := st.countP (fun k => k == 40 || k == 108)
def cB (st : List Nat) : Nat := st.countP isB
def cN (st : List Nat) : Nat := st.countP (fun k => k == 108)
def wfR : List Nat → Nat → Prop
  | [], d => d = 0
  | z :: r, d => (z = 108 ∧ 1 ≤ d ∧ wfR r d) ∨ (((1000 ≤ z ∧ z < 11000) ∨ (109 ≤ z ∧ z ≤ 113)) ∧ 1 ≤ d ∧ d ≤ 40 ∧ wfR r (d - 1)) ∨ (isB z = true ∧ z ∈ LK ∧ 1 ≤ d ∧ wfR r (d + 1))
/-- a row of the reference's, from below -/
def RSt (a : Nat → Int) (h : Nat → Int) : List Nat → Prop
  | [] => True
  | k :: st => a st.length = h k ∧ RSt a h st
theorem RSt_upd {a h : Nat → Int} {v : Int} : ∀ {st : List Nat} {j : Nat}, st.length ≤ j → RSt a h st → RSt (updI a j v) h st
  | [], _, _, _ => trivial
  | k :: st, j, hj, hr => by
    have hl : st.length + 1 ≤ j := hj
    refine ⟨?_, RSt_upd (by omega) hr.2⟩
    rw [upd_ne (by omega)]
    exact hr.1
theorem RSt_push {a h : Nat → Int} {st : List Nat} {k : Nat} (hr : RSt a h st) : RSt (updI a st.length (h k)) h (k :: st) := ⟨upd_same _ _ _, RSt_upd (Nat.le_refl _) hr⟩
theorem RSt_get {a h : Nat → Int} : ∀ {st : List Nat} {i : Nat} {k : Nat}, RSt a h st → st.reverse[i]? = some k → a i = h k
  | [], i, k, _, e => by simp at e
  | x :: st, i, k, hr, e => by
    rw [List.reverse_cons] at e
    by_cases q : i < st.length
    · rw [List.getElem?_append_left (by simpa using q)] at e
      exact RSt_get hr.2 e
    · rw [List.getElem?_append_right (by simpa using q)] at e
      rw [List.length_reverse] at e
      by_cases w : i = st.length
      · subst w
        simp at e
        rw [← e]
        exact hr.1
      · have : i - st.length ≠ 0 := by omega
        obtain ⟨j, hj⟩ : ∃ j, i - st.length = j + 1 := ⟨i - st.length - 1, by omega⟩
        rw [hj] at e
        simp at e
/-- what is taken down while it binds as tightly -/
def stl (a : Nat) : List Nat → List Nat → List Nat × List Nat
  | [], rs => ([], rs)
  | k :: st, rs => if rk k = 0 ∨ rk k < a then (k :: st, rs) else stl a st (k :: rs)
/-- bounds of the two stacks; q: a unit stands last -/
def PI (U q : Nat) (st rs : List Nat) : Prop := (∀ k ∈ st, k ∈ LK) ∧ cW st ≤ 7 ∧ U ≤ 30 ∧ q ≤ 1 ∧ cB st + q ≤ U ∧ wfR rs (cB st + q) ∧ rs.length + cB st + cN st + q ≤ 9 * U + (if q = 0 then cW st else 0)
theorem c_cons (k : Nat) (st : List Nat) : cW (k :: st) = cW st + (if k = 40 ∨ k = 108 then 1 else 0) ∧ cB (k :: st) = cB st + (if isB k = true then 1 else 0) ∧ cN (k :: st) = cN st + if k = 108 then 1 else 0 := by
  unfold cW cB cN
  refine ⟨?_, ?_, ?_⟩
  · rw [List.countP_cons]
    simp
  · rw [List.countP_cons]
  · rw [List.countP_cons]
    simp
theorem c_len : ∀ (st : List Nat), (∀ k ∈ st, k ∈ LK) → st.length = cW st + cB st ∧ cN st ≤ cW st
  | [], _ => ⟨rfl, Nat.le_refl _⟩
  | k :: st, h => by
    have ih := c_len st (fun x hx => h x (List.mem_cons_of_mem _ hx))
    obtain ⟨a, b, c⟩ := c_cons k st
    have hk := LK_f k (h k List.mem_cons_self)
    have hb := hk.2.2.2.1
    rw [a, b, c, List.length_cons]
    by_cases q : k = 40 ∨ k = 108
    · rw [if_pos q, if_neg (fun w => by have := hb.mp w; omega)]
      split <;> omega
    · rw [if_neg q, if_pos (hb.mpr (by omega)), if_neg (by omega)]
      omega
/-- one is taken down -/
theorem PI_pop {U : Nat} {k : Nat} {st rs : List Nat} (h : PI U 1 (k :: st) rs) (hk : k ≠ 40) : PI U 1 st (k :: rs) := by
  obtain ⟨h1, h2, h3, h4, h5, h6, h7⟩ := h
  obtain ⟨a, b, c⟩ := c_cons k st
  have hm := h1 k List.mem_cons_self
  have hf := LK_f k hm
  have hb := hf.2.2.2.1
  rw [a] at h2
  rw [b] at h5 h6 h7
  rw [c] at h7
  rw [if_neg (show ¬ (1 : Nat) = 0 by decide)] at h7
  refine ⟨fun x hx => h1 x (List.mem_cons_of_mem _ hx), by omega, h3, h4, ?_, ?_, ?_⟩
  · by_cases q : isB k = true
    · rw [if_pos q] at h5; omega
    · rw [if_neg q] at h5; omega
  · by_cases q : isB k = true
    · rw [if_pos q] at h6
      exact Or.inr (Or.inr ⟨q, hm, by omega, by rw [show cB st + 1 + 1 = cB st + 1 + 1 from rfl] at h6; exact h6⟩)
    · rw [if_neg q] at h6
      have hk8 : k = 108 := by
        by_cases w : k = 108
        · exact w
        · exact absurd (hb.mpr ⟨hk, w⟩) q
      exact Or.inl ⟨hk8, by omega, h6⟩
  · rw [if_neg (show ¬ (1 : Nat) = 0 by decide), List.length_cons]
    by_cases q : isB k = true
    · rw [if_pos q, if_neg (hb.mp q).2] at h7; omega
    · rw [if_neg q] at h7
      have hk8 : k = 108 := by
        by_cases w : k = 108
        · exact w
        · exact absurd (hb.mpr ⟨hk, w⟩) q
      rw [if_pos hk8] at h7; omega
theorem PI_stl {U a : Nat} : ∀ (st rs : List Nat), PI U 1 st rs → PI U 1 (stl a st rs).1 (stl a st rs).2
  | [], rs, h => h
  | k :: st, rs, h => by
    unfold stl
    by_cases q : rk k = 0 ∨ rk k < a
    · rw [if_pos q]; exact h
    · rw [if_neg q]
      refine PI_stl st (k :: rs) (PI_pop h (fun e => q (Or.inl (by rw [e]; decide))))
theorem stl_01 : ∀ (st rs : List Nat), stl 0 st rs = stl 1 st rs
  | [], rs => rfl
  | k :: st, rs => by
    unfold stl
    by_cases q : rk k = 0
    · rw [if_pos (Or.inl q), if_pos (Or.inl q)]
    · rw [if_neg (by omega), if_neg (by omega)]
      exact stl_01 st (k :: rs)
theorem stl_mem {a : Nat} : ∀ (st rs : List Nat), (∀ k ∈ (stl a st rs).1, k ∈ st) ∧ (stl a st rs).1.length ≤ st.length
  | [], rs => ⟨fun k hk => hk, Nat.le_refl _⟩
  | k :: st, rs => by
    unfold stl
    by_cases q : rk k = 0 ∨ rk k < a
    · rw [if_pos q]; exact ⟨fun k hk => hk, Nat.le_refl _⟩
    · rw [if_neg q]
      have ih := stl_mem (a := a) st (k :: rs)
      exact ⟨fun x hx => List.mem_cons_of_mem _ (ih.1 x hx), Nat.le_trans ih.2 (by simp)⟩
/-- after all has been taken down, a bracket stands on top if there is one -/
theorem stl_1 : ∀ (st rs : List Nat), (∀ k ∈ st, k ∈ LK) → ((stl 1 st rs).1 = [] ∧ 40 ∉ st) ∨ (∃ st', (stl 1 st rs).1 = 40 :: st' ∧ 40 ∈ st)
  | [], rs, _ => Or.inl ⟨rfl, by simp⟩
  | k :: st, rs, h => by
    have hf := LK_f k (h k List.mem_cons_self)
    unfold stl
    by_cases q : rk k = 0 ∨ rk k < 1
    · rw [if_pos q]
      have : k = 40 := hf.2.2.2.2.1.mp (by omega)
      subst this
      exact Or.inr ⟨st, rfl, List.mem_cons_self⟩
    · rw [if_neg q]
      have hk : k ≠ 40 := fun e => q (Or.inl (hf.2.2.2.2.1.mpr e))
      rcases stl_1 st (k :: rs) (fun x hx => h x (List.mem_cons_of_mem _ hx)) with ⟨a, b⟩ | ⟨st', a, b⟩
      · exact Or.inl ⟨a, fun w => (List.mem_cons.mp w).elim (fun e => hk e.symm) b⟩
      · exact Or.inr ⟨st', a, List.mem_cons_of_mem _ b⟩
def hr4 : List Nat → Bool
  | [] => false
  | k :: st => if k = 40 then false else if 4 < rk k then hr4 st else rk k == 4
theorem stl_5 : ∀ (st rs : List Nat), (∀ k ∈ st, k ∈ LK) → (hr4 st = true ↔ ∃ k st', (stl 5 st rs).1 = k :: st' ∧ rk k = 4)
  | [], rs, _ => ⟨fun w => absurd w (by decide), fun ⟨k, st', e, _⟩ => by cases e⟩
  | k :: st, rs, h => by
    have hf := LK_f k (h k List.mem_cons_self)
    unfold stl hr4
    by_cases e : k = 40
    · rw [if_pos e, if_pos (Or.inl (hf.2.2.2.2.1.mpr e))]
      refine ⟨fun w => absurd w (by decide), fun ⟨k', st', e1, e2⟩ => ?_⟩
      cases e1
      have := hf.2.2.2.2.1.mpr e
      omega
    · have h0 : ¬ rk k = 0 := fun w => e (hf.2.2.2.2.1.mp w)
      rw [if_neg e]
      by_cases q : 4 < rk k
      · rw [if_pos q, if_neg (by omega)]
        exact stl_5 st (k :: rs) (fun x hx => h x (List.mem_cons_of_mem _ hx))
      · rw [if_neg q, if_pos (by omega)]
        constructor
        · intro w
          exact ⟨k, st, rfl, by simpa using w⟩
        · intro ⟨k', st', e1, e2⟩
          cases e1
          simpa using e2
