/-! LEVEL 3, i: the reference's tree -/
theorem TT_det {L R : Nat → Int} : ∀ (n : Nat) (t : Int) (r r' : List Nat), r.length ≤ n → TT L R t r → TT L R t r' → r = r' := by
  intro n
  induction n with
  | zero =>
    intro t r r' hn h h'
    have hr : r = [] := List.eq_nil_of_length_eq_zero (by omega)
    subst hr
    rcases TT_inv h with ⟨rfl, _⟩ | ⟨s, a, b, _, e, _⟩
    · rcases TT_inv h' with ⟨_, e⟩ | ⟨s, a, b, e, _⟩
      · exact e.symm
      · omega
    · have := congrArg List.length e
      simp at this
  | succ n ih =>
    intro t r r' hn h h'
    rcases TT_inv h with ⟨rfl, rfl⟩ | ⟨s, a, b, rfl, rfl, e3, e4⟩
    · rcases TT_inv h' with ⟨_, e⟩ | ⟨s, a, b, e, _⟩
      · exact e.symm
      · omega
    · have hl : (a ++ s :: b).length = a.length + b.length + 1 := by simp; omega
      obtain ⟨a', b', rfl, f3, f4⟩ := TT_inv_nat h'
      rw [ih _ a a' (by omega) e3 f3, ih _ b b' (by omega) e4 f4]
theorem TT_child {L R : Nat → Int} {t : Int} {r : List Nat} (h : TT L R t r) {p y : Nat} (hp : p ∈ r) (hy : L p = (y : Int) ∨ R p = (y : Int)) : ∃ ry, TT L R (y : Int) ry ∧ ry.length < r.length ∧ y ∈ r := by
  obtain ⟨rp, h1, h2, h3⟩ := TT_sub _ _ _ (Nat.le_refl _) h p hp
  obtain ⟨a, b, rfl, h4, h5⟩ := TT_inv_nat h1
  have hl : (a ++ p :: b).length = a.length + b.length + 1 := by simp; omega
  rcases hy with e | e
  · rw [e] at h4
    obtain ⟨a', b', e2, _, _⟩ := TT_inv_nat h4
    exact ⟨a, h4, by omega, h3 y (by rw [e2]; simp)⟩
  · rw [e] at h5
    obtain ⟨a', b', e2, _, _⟩ := TT_inv_nat h5
    exact ⟨b, h5, by omega, h3 y (by rw [e2]; simp)⟩
theorem TT_root {L R : Nat → Int} {t p : Nat} {r : List Nat} (h : TT L R (t : Int) r) (hp : p ∈ r) : ¬ (L p = (t : Int) ∨ R p = (t : Int)) := fun hy => by
  obtain ⟨ry, h1, h2, _⟩ := TT_child h hp hy
  rw [TT_det _ _ _ _ (Nat.le_refl _) h h1] at h2
  omega
theorem TT_par {L R : Nat → Int} : ∀ (n : Nat) (t : Int) (r : List Nat), r.length ≤ n → r.Nodup → TT L R t r → ∀ p p' y : Nat, p ∈ r → p' ∈ r → (L p = (y : Int) ∨ R p = (y : Int)) → (L p' = (y : Int) ∨ R p' = (y : Int)) → p = p' := by
  intro n
  induction n with
  | zero =>
    intro t r hn _ h p p' y hp
    have hr : r = [] := List.eq_nil_of_length_eq_zero (by omega)
    subst hr
    cases hp
  | succ n ih =>
    intro t r hn hd h p p' y hp hp' hy hy'
    rcases TT_inv h with ⟨rfl, rfl⟩ | ⟨s, a, b, rfl, rfl, e3, e4⟩
    · cases hp
    · have hl : (a ++ s :: b).length = a.length + b.length + 1 := by simp; omega
      obtain ⟨d1, d2, d3⟩ := List.nodup_append.mp hd
      obtain ⟨d4, d5⟩ := List.nodup_cons.mp d2
      -- a child of the root is no child of another
      have key : ∀ q, q ∈ a ∨ q ∈ b → (L s = (y : Int) ∨ R s = (y : Int)) → (L q = (y : Int) ∨ R q = (y : Int)) → False := by
        intro q hq hs hqy
        have inA : ∀ u : Nat, L s = (u : Int) → u ∈ a := fun u hu => by
          rcases TT_t e3 with e | ⟨u', e, m⟩
          · omega
          · have : u = u' := by omega
            rw [this]; exact m
        have inB : ∀ u : Nat, R s = (u : Int) → u ∈ b := fun u hu => by
          rcases TT_t e4 with e | ⟨u', e, m⟩
          · omega
          · have : u = u' := by omega
            rw [this]; exact m
        rcases hq with hq | hq
        · obtain ⟨_, _, _, ma⟩ := TT_child e3 hq hqy
          rcases hs with hs | hs
          · rw [hs] at e3
            exact TT_root e3 hq hqy
          · exact d3 y ma y (by simp [inB y hs]) rfl
        · obtain ⟨_, _, _, mb⟩ := TT_child e4 hq hqy
          rcases hs with hs | hs
          · exact d3 y (inA y hs) y (by simp [mb]) rfl
          · rw [hs] at e4
            exact TT_root e4 hq hqy
      have cs : ∀ q, q ∈ a ++ s :: b → q ∈ a ∨ q = s ∨ q ∈ b := fun q hq => by simpa using hq
      rcases cs p hp with h1 | h1 | h1 <;> rcases cs p' hp' with h2 | h2 | h2
      · exact ih _ a (by omega) d1 e3 p p' y h1 h2 hy hy'
      · subst h2; exact (key p (Or.inl h1) hy' hy).elim
      · obtain ⟨_, _, _, m1⟩ := TT_child e3 h1 hy
        obtain ⟨_, _, _, m2⟩ := TT_child e4 h2 hy'
        exact (d3 y m1 y (by simp [m2]) rfl).elim
      · subst h1; exact (key p' (Or.inl h2) hy hy').elim
      · rw [h1, h2]
      · subst h1; exact (key p' (Or.inr h2) hy hy').elim
      · obtain ⟨_, _, _, m1⟩ := TT_child e4 h1 hy
        obtain ⟨_, _, _, m2⟩ := TT_child e3 h2 hy'
        exact (d3 y m2 y (by simp [m1]) rfl).elim
      · subst h2; exact (key p (Or.inr h1) hy' hy).elim
      · exact ih _ b (by omega) d5 e4 p p' y h1 h2 hy hy'
theorem rf_heavy {O : Smo} {x s : Nat} (hx : x < 8) (hs : s < 8) : f_X12_isHeavier x s O = some (if hvb (O 280) x s = true then 1 else 0) := by
  unfold f_X12_isHeavier hvb
  dsimp only [jn, jk]
  rw [Ln280, aget_nat hx, aget_nat hs]
  dsimp only [Option.bind_some]
  by_cases c1 : O 280 s < O 280 x
  · rw [if_pos c1, if_pos (by simp; omega)]
  · rw [if_neg c1]
    by_cases c2 : O 280 x = O 280 s ∧ x < s
    · rw [if_pos (by omega), if_pos (by simp; omega)]
    · rw [if_neg (by omega), if_neg (by simp; omega)]
/-- a stack in an array -/
def stO (A : Nat → Int) (st : List Nat) : Prop := ∀ (i y : Nat), st.reverse[i]? = some y → A i = (y : Int)
theorem stO_top {A : Nat → Int} {s : Nat} {st : List Nat} (h : stO A (s :: st)) : A st.length = (s : Int) ∧ stO A st := by
  refine ⟨h st.length s (by simp), fun i y hy => h i y ?_⟩
  rw [List.reverse_cons, List.getElem?_append_left]
  · exact hy
  · have := (List.getElem?_eq_some_iff.mp hy).1
    exact this
theorem stO_push {A : Nat → Int} {x : Nat} {st : List Nat} (h : stO A st) : stO (updI A st.length x) (x :: st) := fun i y hy => by
  rw [List.reverse_cons] at hy
  by_cases c : i = st.length
  · rw [c, upd_same]
    rw [c] at hy
    simp at hy
    omega
  · rw [upd_ne c]
    refine h i y ?_
    have := (List.getElem?_eq_some_iff.mp hy).1
    simp at this
    rwa [List.getElem?_append_left (by simp; omega)] at hy
theorem stO_bot {A : Nat → Int} : ∀ st : List Nat, stO A st → st ≠ [] → A 0 = botJ st
  | [], _, h => absurd rfl h
  | [s], h, _ => h 0 s (by simp)
  | a :: s :: st, h, _ => stO_bot (s :: st) (stO_top h).2 (by simp)
theorem upd_up2 {O : Smo} {k j : Nat} {v : Int} : up2 O k j v k = updI (O k) j v := by rw [up2_self]; rfl
theorem pop_up {O : Smo} {q : Nat} {t : Int} {st : List Nat} {n : Nat} (hn : Ln q = n) {A : Nat → Int} (hA : O q = A) (h : stO A st) (ht : t = -1 ∨ ∃ s : Nat, t = (s : Int)) (hl : (pushS t st).length ≤ n) (hq : q = 287) (h16 : n = 16) :
    ∃ O', f_X12_push (st.length : Int) t O = some (((pushS t st).length : Int), O') ∧ stO (O' 287) (pushS t st) ∧ FrO [287] [] O O' := by
  subst hq h16
  unfold f_X12_push
  unfold pushS at *
  rcases ht with rfl | ⟨s, rfl⟩
  · rw [if_pos (by decide), if_pos rfl]
    exact ⟨O, rfl, by rw [hA]; exact h, FrO_refl _ _ _⟩
  · rw [if_neg (by omega)] at hl ⊢
    rw [if_neg (by omega)] 
    rw [Int.toNat_natCast, List.length_cons] at hl
    rw [hn, aset_nat (show st.length < 16 by omega), Int.toNat_natCast]
    dsimp only [Option.bind_some]
    refine ⟨_, by rw [wr_id (by omega) (by omega)]; rfl, ?_, FrO_arr (FrO_refl _ _ _) (by simp) (by decide)⟩
    rw [upd_up2, hA]
    exact stO_push h
