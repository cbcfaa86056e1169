/-! LEVEL 3, ai: faults, and what a token is for both -/
def FT (S : Sst) (O : Smo) : Prop := S.2 53 2 = O 262 2 ∧ 0 < O 262 2 ∧ S.2 53 3 = O 262 3 ∧ (14 ≤ S.2 53 6 ∧ S.2 53 6 ≤ 22) ∧ ∀ i, i < 14 → S.2 54 i = W32 i
theorem SG_l {c : Int} (h : SG c) : c = 59 ∨ c = 40 ∨ c = 41 ∨ c = 60 ∨ c = 62 ∨ c = 61 ∨ c = 43 ∨ c = 45 ∨ c = 42 ∨ c = 47 ∨ c = 37 := by
  have : c ∈ [(59 : Int), 40, 41, 60, 62, 61, 43, 45, 42, 47, 37] := h
  simpa using this
/-- what a token may be: wrong, end, number, own word, name, sign -/
def Vw (v i : Nat) (cn : Nat) (f : Nat → List Int) (S : Sst) (O : Smo) : Prop :=
  (v = 0 ∧ O 262 6 = 3 ∧ S.2 53 0 = 1) ∨ (v = 1 ∧ O 262 6 = 0 ∧ S.2 53 0 = 0) ∨ (v = 2 ∧ O 262 6 = 2 ∧ S.2 53 0 = 2 ∧ S.2 53 1 = O 262 8 ∧ 0 ≤ O 262 8 ∧ O 262 8 ≤ 9999) ∨
  (v = 3 ∧ i < 14 ∧ O 262 6 = 1 ∧ O 262 9 = W256 i ∧ S.2 53 0 = 100 + (i : Int)) ∨
  (v = 4 ∧ O 262 6 = 1 ∧ (∀ j, j < 14 → O 262 9 ≠ W256 j) ∧ ∃ l, Wd l ∧ O 262 9 = d256 l ∧ S.2 53 7 = d32 l ∧ ((S.2 53 0 = 4 ∧ ∃ j, j < cn ∧ l = f j) ∨ (S.2 53 0 = 3 ∧ ∀ j, j < cn → l ≠ f j))) ∨
  (v = 5 ∧ SG (i : Int) ∧ O 262 6 = (i : Int) ∧ S.2 53 0 = (i : Int))
theorem LT_view {nt cn p : Nat} {f : Nat → List Int} {S : Sst} {O : Smo} (h : LT nt cn f S O p) : ∃ v i, v ≤ 5 ∧ Vw v i cn f S O ∧ (v ≠ 0 → S.2 53 9 = (p : Int) ∧ O 262 4 = (p : Int)) := by
  obtain ⟨h1, h2, h3⟩ := h
  rcases h3 with h3 | ⟨h3, h4, h5⟩
  · exact ⟨0, 0, by decide, Or.inl ⟨rfl, h3⟩, fun w => absurd rfl w⟩
  · rcases h5 with h5 | h5 | ⟨h5, l, l1, l2, l3, l4⟩ | ⟨h5, h6⟩
    · exact ⟨1, 0, by decide, Or.inr (Or.inl ⟨rfl, h5⟩), fun _ => ⟨h3, h4⟩⟩
    · exact ⟨2, 0, by decide, Or.inr (Or.inr (Or.inl ⟨rfl, h5⟩)), fun _ => ⟨h3, h4⟩⟩
    · rcases l4 with ⟨i, i1, i2, i3⟩ | ⟨i1, i2⟩
      · exact ⟨3, i, by decide, Or.inr (Or.inr (Or.inr (Or.inl ⟨rfl, i1, h5, by rw [l2, i2, (OW_f i i1).2.2.1], i3⟩))), fun _ => ⟨h3, h4⟩⟩
      · refine ⟨4, 0, by decide, Or.inr (Or.inr (Or.inr (Or.inr (Or.inl ⟨rfl, h5, fun j hj e => ?_, l, l1, l2, l3, i2⟩)))), fun _ => ⟨h3, h4⟩⟩
        refine i1 j hj (d256_inj _ _ l1.1 (OW_f j hj).1 ?_)
        rw [← l2, e, (OW_f j hj).2.2.1]
    · obtain ⟨i, hi⟩ : ∃ i : Nat, O 262 6 = (i : Int) := ⟨(O 262 6).toNat, by have := SG_l h5; omega⟩
      exact ⟨5, i, by decide, Or.inr (Or.inr (Or.inr (Or.inr (Or.inr ⟨rfl, by rw [← hi]; exact h5, hi, by rw [h6, hi]⟩)))), fun _ => ⟨h3, h4⟩⟩
theorem W256_inj : ∀ i, i < 14 → ∀ j, j < 14 → W256 i = W256 j → i = j := by decide +kernel
/-- is the token the own word j -/
theorem Vw_own {v i cn : Nat} {f : Nat → List Int} {S : Sst} {O : Smo} (h : Vw v i cn f S O) {j : Nat} (hj : j < 14) : (f_X12_isWord (W256 j) O = if v = 3 ∧ i = j then 1 else 0) ∧ (S.2 53 0 = 100 + (j : Int) ↔ v = 3 ∧ i = j) := by
  unfold f_X12_isWord
  rcases h with ⟨rfl, h1, h2⟩ | ⟨rfl, h1, h2⟩ | ⟨rfl, h1, h2, _⟩ | ⟨rfl, h0, h1, h2, h3⟩ | ⟨rfl, h1, h2, l, _, _, _, h4⟩ | ⟨rfl, h0, h1, h2⟩
  · rw [h1, if_neg (fun w => absurd w.1 (by decide)), if_neg (fun w => absurd w.1 (by decide)), h2]
    exact ⟨rfl, by omega⟩
  · rw [h1, if_neg (fun w => absurd w.1 (by decide)), if_neg (fun w => absurd w.1 (by decide)), h2]
    exact ⟨rfl, by omega⟩
  · rw [h1, if_neg (fun w => absurd w.1 (by decide)), if_neg (fun w => absurd w.1 (by decide)), h2]
    exact ⟨rfl, by omega⟩
  · rw [h1, h2, h3]
    by_cases e : i = j
    · subst e
      rw [if_pos ⟨rfl, zlcmp_0.mpr rfl⟩, if_pos ⟨rfl, rfl⟩]
      exact ⟨rfl, fun _ => ⟨rfl, rfl⟩, fun _ => rfl⟩
    · rw [if_neg (fun w => e (W256_inj i h0 j hj (zlcmp_0.mp w.2))), if_neg (fun w => e w.2)]
      exact ⟨rfl, fun w => absurd (show i = j by omega) e, fun w => absurd w.2 e⟩
  · rw [h1, if_neg (fun w => h2 j hj (zlcmp_0.mp w.2)), if_neg (fun w => absurd w.1 (by decide))]
    refine ⟨rfl, fun w => ?_, fun w => absurd w.1 (by decide)⟩
    rcases h4 with h4 | h4
    · have := h4.1; omega
    · have := h4.1; omega
  · have := SG_l h0
    rw [h1, if_neg (fun w => by have := w.1; omega), if_neg (fun w => absurd w.1 (by decide)), h2]
    exact ⟨rfl, by omega⟩
/-- kinds of both -/
theorem Vw_k {v i cn : Nat} {f : Nat → List Int} {S : Sst} {O : Smo} (h : Vw v i cn f S O) : (O 262 6 = 3 ↔ v = 0) ∧ (S.2 53 0 = 1 ↔ v = 0) ∧ (O 262 6 = 0 ↔ v = 1) ∧ (S.2 53 0 = 0 ↔ v = 1) ∧ (O 262 6 = 2 ↔ v = 2) ∧ (S.2 53 0 = 2 ↔ v = 2) ∧ (∀ c : Nat, 37 ≤ c → c < 100 → (O 262 6 = (c : Int) ↔ v = 5 ∧ i = c) ∧ (S.2 53 0 = (c : Int) ↔ v = 5 ∧ i = c)) ∧ (v ≤ 5 ∧ (v = 5 → SG (i : Int))) ∧ (O 262 6 = 1 ↔ v = 3 ∨ v = 4) := by
  rcases h with ⟨rfl, h1, h2⟩ | ⟨rfl, h1, h2⟩ | ⟨rfl, h1, h2, _⟩ | ⟨rfl, h0, h1, h2, h3⟩ | ⟨rfl, h1, h2, l, _, _, _, h4⟩ | ⟨rfl, h0, h1, h2⟩
  · rw [h1, h2]
    refine ⟨by decide, by decide, by decide, by decide, by decide, by decide, fun c a b => ⟨⟨fun _ => by omega, fun _ => by omega⟩, ⟨fun _ => by omega, fun _ => by omega⟩⟩, ⟨by decide, fun w => absurd w (by decide)⟩, by decide⟩
  · rw [h1, h2]
    refine ⟨by decide, by decide, by decide, by decide, by decide, by decide, fun c a b => ⟨⟨fun _ => by omega, fun _ => by omega⟩, ⟨fun _ => by omega, fun _ => by omega⟩⟩, ⟨by decide, fun w => absurd w (by decide)⟩, by decide⟩
  · rw [h1, h2]
    refine ⟨by decide, by decide, by decide, by decide, by decide, by decide, fun c a b => ⟨⟨fun _ => by omega, fun _ => by omega⟩, ⟨fun _ => by omega, fun _ => by omega⟩⟩, ⟨by decide, fun w => absurd w (by decide)⟩, by decide⟩
  · rw [h1, h3]
    refine ⟨by decide, by omega, by decide, by omega, by decide, by omega, fun c a b => ⟨⟨fun _ => by omega, fun _ => by omega⟩, ⟨fun _ => by omega, fun _ => by omega⟩⟩, ⟨by decide, fun w => absurd w (by decide)⟩, by decide⟩
  · have h5 : S.2 53 0 = 4 ∨ S.2 53 0 = 3 := h4.imp (fun w => w.1) (fun w => w.1)
    rw [h1]
    refine ⟨by decide, by omega, by decide, by omega, by decide, by omega, fun c a b => ⟨⟨fun _ => by omega, fun _ => by omega⟩, ⟨fun _ => by omega, fun _ => by omega⟩⟩, ⟨by decide, fun w => absurd w (by decide)⟩, by decide⟩
  · have := SG_l h0
    rw [h1, h2]
    refine ⟨by omega, by omega, by omega, by omega, by omega, by omega, fun c a b => ⟨⟨fun w => ⟨rfl, by omega⟩, fun w => by omega⟩, ⟨fun w => ⟨rfl, by omega⟩, fun w => by omega⟩⟩, ⟨by decide, fun _ => h0⟩, by omega⟩
section FLT
variable {T : Nat → Int} {nt cn : Nat} {f : Nat → List Int}
theorem fail_ok {S : Sst} {O : Smo} {v i : Nat} (hB : LB T nt cn f S O) (hv : Vw v i cn f S O) (h8 : S.2 53 8 = O 262 7) {a : Int} (ha : 0 < a) : ∃ S' O', f_X3_fail a S = S' ∧ f_X12_wrong a O = O' ∧ FT S' O' ∧ E53 [2, 3] S S' ∧ FrO [] [2, 3] O O' ∧ (S'.2 53 2 = if v = 0 then 1 else a) ∧ S'.2 53 3 = O 262 7 := by
  obtain ⟨a1, a2, a3, a4, a5, ⟨a6, a7, a8⟩, a9, a10, a11, a12⟩ := hB
  have hk := Vw_k hv
  unfold f_X3_fail f_X12_wrong
  dsimp only [jn]
  rw [if_pos a6, if_neg (c := 0 < O 262 2) (by omega)]
  have e : (if S.2 53 0 = 1 then (1 : Int) else a) = (if v = 0 then 1 else a) ∧ (if O 262 6 = 3 then (1 : Int) else a) = if v = 0 then 1 else a := by
    by_cases w : v = 0
    · rw [if_pos (hk.2.1.mpr w), if_pos (hk.1.mpr w), if_pos w]
      exact ⟨rfl, rfl⟩
    · rw [if_neg (fun x => w (hk.2.1.mp x)), if_neg (fun x => w (hk.1.mp x)), if_neg w]
      exact ⟨rfl, rfl⟩
  rw [e.1, e.2]
  have hpos : 0 < (if v = 0 then (1 : Int) else a) := by split <;> omega
  generalize (if v = 0 then (1 : Int) else a) = b at *
  refine ⟨_, _, rfl, rfl, ⟨?_, ?_, ?_, ?_, fun j hj => ?_⟩, E53_up (E53_up (E53_refl _ _) (by simp)) (by simp), FrO_up (FrO_up (FrO_refl _ _ _) (by simp)) (by simp), ?_, ?_⟩
  · rw [upS_ne (Or.inr (by decide)), upS_same, up2_ne (Or.inr (by decide)), up2_same]
  · rw [up2_ne (Or.inr (by decide)), up2_same]
    exact hpos
  · rw [upS_same, up2_same, upS_ne (Or.inr (by decide)), up2_ne (Or.inr (by decide)), h8]
  · rw [upS_ne (Or.inr (by decide)), upS_ne (Or.inr (by decide)), a9]
    omega
  · rw [upS_ne (Or.inl (by decide)), upS_ne (Or.inl (by decide))]
    exact a11 j hj
  · rw [upS_ne (Or.inr (by decide)), upS_same]
  · rw [upS_same, upS_ne (Or.inr (by decide)), h8]
theorem FT_0 {S : Sst} {O : Smo} (h : FT S O) : ¬ S.2 53 2 = 0 ∧ ¬ O 262 2 = 0 := ⟨by have := h.1; have := h.2.1; omega, by have := h.2.1; omega⟩
theorem FT_step {S : Sst} (h : ¬ S.2 53 2 = 0) : f_X3_step S = some S := by
  unfold f_X3_step
  rw [if_neg h]
theorem FT_fail {S : Sst} (h : ¬ S.2 53 2 = 0) (a : Int) : f_X3_fail a S = S := by
  unfold f_X3_fail
  rw [if_neg h]
theorem FT_expect {S : Sst} (h : ¬ S.2 53 2 = 0) (a : Int) : f_X5_expect a S = some S := by
  unfold f_X5_expect
  dsimp only [jn]
  rw [FT_fail h]
  split <;> rw [FT_step h] <;> rfl
theorem FT_number {S : Sst} (h : ¬ S.2 53 2 = 0) (a b : Int) : f_X5_number a b S = (S.2 53 1, S) := by
  unfold f_X5_number
  dsimp only [jn]
  rw [FT_fail h, FT_fail h]
  split
  · split <;> rfl
  · rfl
/-- a state of both with a token -/
def OKT (T : Nat → Int) (nt cn : Nat) (f : Nat → List Int) (S : Sst) (O : Smo) (p : Nat) : Prop := LB T nt cn f S O ∧ LT nt cn f S O p
theorem LB_fr2 {S S' : Sst} {O O' : Smo} (h : LB T nt cn f S O) (h1 : S'.1 1 = S.1 1) (h2 : ∀ j, S'.2 53 j = S.2 53 j) (h3 : ∀ j, S'.2 54 j = S.2 54 j) (o1 : O' 263 = O 263) (o2 : O' 271 = O 271) (o3 : ∀ j, j ≤ 9 → O' 262 j = O 262 j) : LB T nt cn f S' O' := by
  obtain ⟨a1, a2, a3, a4, a5, ⟨a6, a7, a8⟩, a9, a10, a11, a12⟩ := h
  refine ⟨by rw [h1]; exact a1, a2, a3, by rw [o1]; exact a4, by rw [o3 5 (by decide)]; exact a5, ⟨by rw [h2]; exact a6, by rw [o3 2 (by decide)]; exact a7, by rw [h2, o3 3 (by decide)]; exact a8⟩, by rw [h2]; exact a9, a10, fun i hi => by rw [h3]; exact a11 i hi, fun i hi => ?_⟩
  rw [h3, o2]
  exact a12 i hi
/-- how far a token takes one -/
def Adv (nt : Nat) (O' : Smo) (p p' : Nat) : Prop := p ≤ p' ∧ p' ≤ nt ∧ (O' 262 6 = 0 ∨ p < p')
theorem next_tok {S : Sst} {O : Smo} {p : Nat} (hB : LB T nt cn f S O) (h9 : S.2 53 9 = (p : Int)) (h4 : O 262 4 = (p : Int)) (hp : p ≤ nt) : ∃ S' O' p', f_X3_step S = some S' ∧ f_X12_token O = some O' ∧ OKT T nt cn f S' O' p' ∧ Adv nt O' p p' ∧ E53 [0, 1, 2, 3, 7, 8, 9] S S' ∧ FrO [] [2, 3, 4, 6, 7, 8, 9] O O' := by
  obtain ⟨S', O', p', e1, e2, e3, e4, e5, e6, e7, e8⟩ := step_ok hB h9 h4 hp
  exact ⟨S', O', p', e1, e2, ⟨e3, e4⟩, ⟨e5, e4.1, e6⟩, E53_mono e7 (by simp), FrO_mono e8 (by simp) (by simp)⟩
/-- either both have a fault, or both a token more -/
def Nxt (T : Nat → Int) (nt cn : Nat) (f : Nat → List Int) (S : Sst) (O : Smo) (p : Nat) (S' : Sst) (O' : Smo) : Prop := (FT S' O' ∨ ∃ p', OKT T nt cn f S' O' p' ∧ Adv nt O' p p') ∧ E53 [0, 1, 2, 3, 7, 8, 9] S S' ∧ FrO [] [2, 3, 4, 6, 7, 8, 9] O O'
theorem want_ok {S : Sst} {O : Smo} {p : Nat} (h : OKT T nt cn f S O p) {j : Nat} (hj : j < 14) : ∃ S' O', f_X5_expect (100 + (j : Int)) S = some S' ∧ f_X12_want (W256 j) O = some O' ∧ Nxt T nt cn f S O p S' O' := by
  obtain ⟨hB, hT⟩ := h
  obtain ⟨v, i, _, hv, hp⟩ := LT_view hT
  obtain ⟨w1, w2⟩ := Vw_own hv hj
  have h2 : ¬ 0 < O 262 2 := by have := hB.2.2.2.2.2.1.2.1; omega
  unfold f_X5_expect f_X12_want
  dsimp only [jn]
  rw [if_neg h2, w1]
  by_cases e : v = 3 ∧ i = j
  · rw [if_pos (w2.mpr e), if_pos e, if_neg (show ¬ (1 : Int) = 0 by decide)]
    obtain ⟨p1, p2⟩ := hp (by omega)
    obtain ⟨S', O', p', e1, e2, e3, e4, e5, e6⟩ := next_tok hB p1 p2 hT.1
    rw [e1, e2]
    exact ⟨_, _, rfl, rfl, Or.inr ⟨p', e3, e4⟩, e5, e6⟩
  · rw [if_neg (fun q => e (w2.mp q)), if_neg e, if_pos rfl]
    obtain ⟨S', O', e1, e2, e3, e4, e5, _, _⟩ := fail_ok hB hv hT.2.1 (a := 2) (by decide)
    rw [e1, e2, FT_step (FT_0 e3).1]
    exact ⟨_, _, rfl, rfl, Or.inl e3, E53_mono e4 (by simp), FrO_mono e5 (by simp) (by simp)⟩
/-- a number within bounds, not gone on from -/
theorem number_ok {S : Sst} {O : Smo} {p : Nat} (h : OKT T nt cn f S O p) (a b : Int) : ∃ x y S' O', f_X5_number a b S = (x, S') ∧ f_X12_numberHere a b O = (y, O') ∧ (FT S' O' ∨ (x = y ∧ a ≤ x ∧ x ≤ b ∧ 0 ≤ x ∧ S' = S ∧ O' = O ∧ OKT T nt cn f S O p ∧ S.2 53 9 = (p : Int) ∧ O 262 4 = (p : Int))) ∧ E53 [2, 3] S S' ∧ FrO [] [2, 3] O O' := by
  have hh := h
  obtain ⟨hB, hT⟩ := h
  obtain ⟨v, i, _, hv, hp⟩ := LT_view hT
  have hk := Vw_k hv
  have h2 : ¬ 0 < O 262 2 := by have := hB.2.2.2.2.2.1.2.1; omega
  unfold f_X5_number f_X12_numberHere
  dsimp only [jn]
  rw [if_neg h2]
  have hbad : ∀ q : Int, 0 < q → ∃ x y S' O', ((f_X3_fail q S).2 53 1, f_X3_fail q S) = (x, S') ∧ ((f_X12_wrong q O) 262 8, f_X12_wrong q O) = (y, O') ∧ (FT S' O' ∨ (x = y ∧ a ≤ x ∧ x ≤ b ∧ 0 ≤ x ∧ S' = S ∧ O' = O ∧ OKT T nt cn f S O p ∧ S.2 53 9 = (p : Int) ∧ O 262 4 = (p : Int))) ∧ E53 [2, 3] S S' ∧ FrO [] [2, 3] O O' := fun q hq => by
    obtain ⟨S', O', e1, e2, e3, e4, e5, _, _⟩ := fail_ok hB hv hT.2.1 (a := q) hq
    rw [e1, e2]
    exact ⟨_, _, _, _, rfl, rfl, Or.inl e3, e4, e5⟩
  by_cases e : v = 2
  · rw [if_pos (hk.2.2.2.2.2.1.mpr e), if_pos (hk.2.2.2.2.1.mpr e)]
    obtain ⟨e1, e2, e3⟩ : S.2 53 1 = O 262 8 ∧ 0 ≤ O 262 8 ∧ O 262 8 ≤ 9999 := by
      rcases hv with ⟨rfl, _⟩ | ⟨rfl, _⟩ | ⟨_, _, _, g⟩ | ⟨rfl, _⟩ | ⟨rfl, _⟩ | ⟨rfl, _⟩
      · omega
      · omega
      · exact g
      · omega
      · omega
      · omega
    rw [e1]
    by_cases c : O 262 8 < a ∨ b < O 262 8
    · rw [if_pos c, if_pos c]
      exact hbad 4 (by decide)
    · rw [if_neg c, if_neg c]
      obtain ⟨p1, p2⟩ := hp (by omega)
      rw [e1]
      exact ⟨_, _, _, _, rfl, rfl, Or.inr ⟨rfl, by omega, by omega, e2, rfl, rfl, hh, p1, p2⟩, E53_refl _ _, FrO_refl _ _ _⟩
  · rw [if_neg (fun q => e (hk.2.2.2.2.2.1.mp q)), if_neg (fun q => e (hk.2.2.2.2.1.mp q))]
    exact hbad 2 (by decide)
/-- a number and a token more -/
theorem told_ok {S : Sst} {O : Smo} {p : Nat} (h : OKT T nt cn f S O p) (a b : Int) : ∃ x y S1 S' O', f_X5_number a b S = (x, S1) ∧ f_X3_step S1 = some S' ∧ f_X12_toldNumber a b O = some (y, O') ∧ (FT S' O' ∨ (x = y ∧ a ≤ x ∧ x ≤ b ∧ 0 ≤ x ∧ S1 = S)) ∧ Nxt T nt cn f S O p S' O' := by
  obtain ⟨x, y, S1, O1, e1, e2, e3, e4, e5⟩ := number_ok h a b
  unfold f_X12_toldNumber
  dsimp only [jn]
  rw [e2]
  dsimp only
  rcases e3 with e3 | ⟨rfl, g1, g2, g3, rfl, rfl, g4, g5, g6⟩
  · obtain ⟨k1, k2⟩ := FT_0 e3
    rw [if_neg k2]
    exact ⟨x, y, S1, S1, O1, e1, FT_step k1, rfl, Or.inl e3, Or.inl e3, E53_mono e4 (by simp), FrO_mono e5 (by simp) (by simp)⟩
  · obtain ⟨S', O', p', r1, r2, r3, r4, r5, r6⟩ := next_tok g4.1 g5 g6 g4.2.1
    rw [if_pos g4.1.2.2.2.2.2.1.2.1, r2]
    exact ⟨x, x, S1, S', O', e1, r1, rfl, Or.inr ⟨rfl, g1, g2, g3, rfl⟩, Or.inr ⟨p', r3, r4⟩, r5, r6⟩
end FLT
