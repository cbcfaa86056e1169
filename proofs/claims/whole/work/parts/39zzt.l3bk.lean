/-! LEVEL 3, bk: the constructors -/
theorem cl_clear29 (S : Sst) : (∀ k, k ∈ [30, 32, 34, 36, 38, 40, 42, 44, 46] → (f_X4_clear 29 S).1 k = []) ∧ (∀ k, k ∉ [30, 32, 34, 36, 38, 40, 42, 44, 46, 49] → (f_X4_clear 29 S).1 k = S.1 k) ∧ (f_X4_clear 29 S).2 29 10 = 0 ∧ (f_X4_clear 29 S).2 29 11 = 3 ∧ ∀ k j, k ≠ 29 → k ≠ 48 → (f_X4_clear 29 S).2 k j = S.2 k j := by
  have key : f_X4_clear 29 S = upS (upS (upS (upR (upS (upR (upR (upR (upR (upR (upR (upR (upR (upR S 30 []) 32 []) 34 []) 36 []) 38 []) 40 []) 42 []) 44 []) 46 []) 48 0 0) 49 [113]) 29 10 0) 29 11 3) 29 12 0 := by
    unfold f_X4_clear f_X1_clear f_X1_add f_X6_clear
    dsimp only [jn]
    rw [add_nil (q := 48 + 1) 113 (upR_at _ _ _) (by rw [show 48 + 1 + 1 = 50 by rfl, Ln50]; decide)]
    rw [upR_up]
  rw [key]
  refine ⟨fun k hk => ?_, fun k a => ?_, ?_, ?_, fun k j a b => ?_⟩
  · simp at hk
    rcases hk with rfl | rfl | rfl | rfl | rfl | rfl | rfl | rfl | rfl <;> simp [upR, upS]
  · simp at a
    simp [upR, upS, a]
  · simp [upR, upS, up2]
  · simp [upR, upS, up2]
  · simp [upR, upS, up2, a, b]
/-- the words of the lexer, letter for letter -/
def wdS (q : Int × List Int) (c : Int) : Int × List Int := if c = 32 then (0, q.2 ++ [q.1]) else (f_X3_spell q.1 c, q.2)
theorem wd_all : (zstr 0).foldl wdS (0, []) = (0, [19623, 52, 655, 777297171, 20332179, 149559, 498, 1476, 14836, 492210354, 37305971, 24416904, 599653, 414827]) := by decide +kernel
theorem wd_len : ∀ i, i ≤ 69 → (((zstr 0).take i).foldl wdS (0, [])).2.length ≤ 14 := by decide +kernel
theorem zs0_len : (zstr 0).length = 69 := by decide +kernel
theorem cl_init53 {S : Sst} (h6 : S.2 53 6 = 0) : Ret (f_X3_init_53 S) (fun S' => S'.1 = S.1 ∧ S'.2 53 6 = 14 ∧ (∀ i, i < 14 → S'.2 54 i = W32 i) ∧ S'.2 53 3 = -1 ∧ ∀ k j, k ≠ 54 → ¬ (k = 53 ∧ (j = 3 ∨ j = 6)) → S'.2 k j = S.2 k j) := by
  unfold f_X3_init_53 f_J0_length_8abf5
  dsimp only [jn]
  rw [zs0_len]
  refine Ret_bind (P := fun S' => S'.1 = S.1 ∧ S'.2 53 6 = ((((zstr 0).take 69).foldl wdS (0, [])).2.length : Int) ∧ (∀ j v, (((zstr 0).take 69).foldl wdS (0, [])).2[j]? = some v → S'.2 54 j = v) ∧ S'.2 53 3 = -1 ∧ ∀ k j, k ≠ 54 → ¬ (k = 53 ∧ (j = 3 ∨ j = 6)) → S'.2 k j = S.2 k j) (Ret_lp (fun i q => q.1 = (((zstr 0).take i).foldl wdS (0, [])).1 ∧ q.2.1 = (i : Int) ∧ q.2.2.1 = S.1 ∧ q.2.2.2 53 6 = ((((zstr 0).take i).foldl wdS (0, [])).2.length : Int) ∧ (∀ j v, (((zstr 0).take i).foldl wdS (0, [])).2[j]? = some v → q.2.2.2 54 j = v) ∧ q.2.2.2 53 3 = -1 ∧ ∀ k j, k ≠ 54 → ¬ (k = 53 ∧ (j = 3 ∨ j = 6)) → q.2.2.2 k j = S.2 k j) 69 (by decide) ⟨rfl, rfl, rfl, ?_, fun j v h => by simp at h, ?_, fun k j a b => ?_⟩ (fun i q hi hI => ?_) (fun q hI => ?_)) (fun S' hS' => ?_)
  · dsimp only
    rw [upS_ne (Or.inr (by decide)), h6]; rfl
  · exact upS_same _ _ _ _
  · dsimp only
    rw [upS_ne (by omega)]
  · obtain ⟨x, z, S1⟩ := q
    obtain ⟨rfl, rfl, i1, i2, i3, i4, i5⟩ := hI
    dsimp only at *
    have hlt : i < (zstr 0).length := by rw [zs0_len]; exact hi
    have htk : (zstr 0).take (i + 1) = (zstr 0).take i ++ [(zstr 0)[i]'hlt] := List.take_succ_eq_append_getElem hlt
    have hch : f_J0_charAt_5068e 0 (i : Int) = some ((zstr 0)[i]'hlt) := by
      unfold f_J0_charAt_5068e
      rw [if_pos ⟨by omega, by omega⟩, Int.toNat_natCast]
      simp [hlt]
    have hl := wd_len i (by omega)
    rw [if_pos (show (i : Int) < ((69 : Nat) : Int) by omega), hch]
    dsimp only [Option.bind_some]
    rw [htk, List.foldl_append, wr_id (z := (i : Int) + 1) (by omega) (by omega)]
    generalize ((zstr 0).take i).foldl wdS (0, []) = q at *
    generalize (zstr 0)[i]'hlt = c
    rw [show List.foldl wdS q [c] = wdS q c from rfl]
    unfold wdS
    by_cases e : c = 32
    · rw [if_pos e, if_pos e]
      unfold f_X3_addWord
      rw [i2, Ln54, if_neg (by omega)]
      unfold asetS
      rw [if_pos (by omega), Int.toNat_natCast]
      dsimp only [Option.bind_some, jn]
      rw [upS_ne (Or.inl (by decide)), i2, wr_id (by omega) (by omega)]
      refine Ret_some ⟨_, rfl, rfl, by simp, i1, ?_, fun j v h => ?_, ?_, fun k j a b => ?_⟩
      · dsimp only
        rw [upS_same, List.length_append]
        simp
      · dsimp only
        rw [upS_ne (Or.inl (by decide))]
        by_cases w : j = q.2.length
        · subst w
          rw [upS_same]
          simpa using h
        · rw [upS_ne (Or.inr w)]
          refine i3 j v ?_
          by_cases u : j < q.2.length
          · rw [List.getElem?_append_left u] at h
            exact h
          · rw [List.getElem?_eq_none (by rw [List.length_append]; simp; omega)] at h
            exact absurd h (by simp)
      · dsimp only
        rw [upS_ne (Or.inr (by decide)), upS_ne (Or.inl (by decide))]
        exact i4
      · dsimp only
        rw [upS_ne (by omega), upS_ne (Or.inl a)]
        exact i5 k j a b
    · rw [if_neg e, if_neg e]
      exact Ret_some ⟨_, rfl, rfl, by simp, i1, i2, i3, i4, i5⟩
  · obtain ⟨x, z, S1⟩ := q
    obtain ⟨rfl, rfl, i1, i2, i3, i4, i5⟩ := hI
    dsimp only at *
    rw [if_neg (show ¬ ((69 : Nat) : Int) < ((69 : Nat) : Int) by decide)]
    exact Ret_some ⟨_, rfl, i1, i2, i3, i4, i5⟩
  · obtain ⟨i1, i2, i3, i4, i5⟩ := hS'
    rw [show (zstr 0).take 69 = zstr 0 from List.take_of_length_le (by rw [zs0_len]; decide), wd_all] at i2 i3
    refine Ret_some ⟨i1, i2, fun i hi => i3 i _ ?_, i4, i5⟩
    unfold W32
    rw [List.getElem?_eq_getElem (show i < 14 from hi)]
    simp [show i < 14 from hi]
/-- rows that are empty -/
def RE (S : Sst) : Prop := ∀ k, ((k ≤ 46 ∧ k ≠ 25) ∨ 239 ≤ k) → S.1 k = []
theorem RE_clr {S : Sst} {q : Nat} (h : RE S) : RE (f_X6_clear q S) := fun k hk => by
  by_cases e : k = q
  · subst e; exact upR_at _ _ _
  · rw [show (f_X6_clear q S).1 k = S.1 k from upR_ne _ _ e]
    exact h k hk
theorem clr_ne {S : Sst} {q k : Nat} (h : k ≠ q) : (f_X6_clear q S).1 k = S.1 k := upR_ne _ _ h
theorem st_init {p : Nat} (hp : stP p) {S S1 : Sst} (h1 : ∀ k, (k ≤ p ∨ p + 31 < k) → S1.1 k = S.1 k) (h2 : S1.2 = S.2) : RepD p (f_X7_restart p S1) D00 ∧ (∀ j, j < 6 → (f_X7_restart p S1).1 (p + 1 + 2 * j) = [if j = 4 then -1 else 0]) ∧ (∀ k, (k ≤ p ∨ p + 31 < k) → (f_X7_restart p S1).1 k = S.1 k) ∧ (f_X7_restart p S1).2 = S.2 := by
  obtain ⟨a, b, c, d⟩ := cl_restart hp S1
  exact ⟨a, b, fun k hk => by rw [c k (by omega), h1 k hk], by rw [d, h2]⟩
theorem st_init2 {p : Nat} (hp : stP p) {S S1 : Sst} (h1 : ∀ k, (k ≤ p ∨ p + 31 < k) → S1.1 k = S.1 k) (h2 : S1.2 = S.2) : (∀ k, (k ≤ p ∨ p + 31 < k) → (f_X7_restart p S1).1 k = S.1 k) ∧ (f_X7_restart p S1).2 = S.2 := ⟨(st_init hp h1 h2).2.2.1, (st_init hp h1 h2).2.2.2⟩
theorem init_ok {S : Sst} {O : Smo} (h1 : ∀ k, S.1 k = []) (h2 : ∀ k j, S.2 k j = 0) (h3 : ∀ k j, O k j = 0) : ∃ S', f_X11_init_0 S = some S' ∧ Inv S' (f_X12_init_262 O) := by
  have cl : ∀ (S' : Sst) (q : Nat), S'.1 q = [] → f_X6_clear q S' = S' := fun S' q h => by
    have := upR_self S' q
    rw [h] at this
    exact this
  -- the draft
  have e5 : f_X4_init_5 S = f_X4_clear 5 S := by
    unfold f_X4_init_5 f_X1_init_24
    dsimp only [jn]
    rw [cl _ 6 (h1 6), cl _ 8 (h1 8), cl _ 10 (h1 10), cl _ 12 (h1 12), cl _ 14 (h1 14), cl _ 16 (h1 16), cl _ 18 (h1 18), cl _ 20 (h1 20), cl _ 22 (h1 22), cl _ 25 (h1 25), cl _ 27 (h1 27)]
  obtain ⟨c1, c2, c3, c4, c5, c6, c7⟩ := cl_clear5 S
  have r5 : ∀ k, k ≠ 25 → (f_X4_clear 5 S).1 k = [] := fun k hk => by
    by_cases a : k ∈ [6, 8, 10, 12, 14, 16, 18, 20, 22]
    · exact c1 k a
    · have key : f_X4_clear 5 S = upS (upS (upS (upR (upS (upR (upR (upR (upR (upR (upR (upR (upR (upR S 6 []) 8 []) 10 []) 12 []) 14 []) 16 []) 18 []) 20 []) 22 []) 24 0 0) 25 [113]) 5 10 0) 5 11 3) 5 12 0 := by
        unfold f_X4_clear f_X1_clear f_X1_add f_X6_clear
        dsimp only [jn]
        rw [add_nil (q := 24 + 1) 113 (upR_at _ _ _) (by rw [show 24 + 1 + 1 = 26 by rfl, Ln26]; decide)]
        rw [upR_up]
      rw [key]
      simp at a
      simp [upR, upS, a, hk, h1]
  generalize hA1 : f_X4_clear 5 S = A1 at *
  have e29 : f_X4_init_29 A1 = f_X4_clear 29 A1 := by
    unfold f_X4_init_29 f_X1_init_48
    dsimp only [jn]
    rw [cl _ 30 (r5 30 (by decide)), cl _ 32 (r5 32 (by decide)), cl _ 34 (r5 34 (by decide)), cl _ 36 (r5 36 (by decide)), cl _ 38 (r5 38 (by decide)), cl _ 40 (r5 40 (by decide)), cl _ 42 (r5 42 (by decide)), cl _ 44 (r5 44 (by decide)), cl _ 46 (r5 46 (by decide)), cl _ 49 (r5 49 (by decide)), cl _ 51 (r5 51 (by decide))]
  obtain ⟨d1, d2, d3, d4, d5⟩ := cl_clear29 A1
  generalize hA2 : f_X4_clear 29 A1 = A2 at *
  have r29 : RE A2 := fun k hk => by
    by_cases a : k ∈ [30, 32, 34, 36, 38, 40, 42, 44, 46]
    · exact d1 k a
    · rw [d2 k (by simp at a ⊢; omega)]
      exact r5 k (by omega)
  have i2 : ∀ k j, k ≠ 5 → k ≠ 24 → k ≠ 29 → k ≠ 48 → A2.2 k j = 0 := fun k j a b c d => by rw [d5 k j c d, c7 k j a b, h2]
  obtain ⟨A3, f1, f2, f3, f4, f5, f6⟩ := cl_init53 (S := A2) (by rw [i2 53 6 (by decide) (by decide) (by decide) (by decide)])
  have r3 : RE A3 := fun k hk => by rw [f2]; exact r29 k hk
  have i3 : ∀ k j, k ≠ 5 → k ≠ 24 → k ≠ 29 → k ≠ 48 → k ≠ 53 → k ≠ 54 → A3.2 k j = 0 := fun k j a b c d e f => by rw [f6 k j f (fun w => e w.1)]; exact i2 k j a b c d
  unfold f_X11_init_0
  dsimp only [jn]
  rw [cl _ 1 (h1 1), cl _ 3 (h1 3), e5, e29, f1]
  dsimp only [Option.bind_some]
  -- the rest of the rows
  have hB : ∀ B : Sst, B = f_X10_init_59 (f_X5_init_55 A3) → RE B ∧ ∀ k j, k ≠ 59 → B.2 k j = A3.2 k j := fun B e => by
    subst e
    unfold f_X10_init_59 f_X5_init_55 f_X2_init_56
    dsimp only [jn]
    refine ⟨?_, fun k j a => by rw [upS_ne (Or.inl a)]; rfl⟩
    have := RE_clr (q := 72) (RE_clr (q := 70) (RE_clr (q := 68) (RE_clr (q := 66) (RE_clr (q := 64) (RE_clr (q := 62) (RE_clr (q := 60) (RE_clr (q := 57) r3)))))))
    exact this
  generalize f_X10_init_59 (f_X5_init_55 A3) = B at hB
  obtain ⟨rB, iB⟩ := hB B rfl
  have s74 : ∀ C : Sst, C = f_X7_init_74 B → RepD 74 C D00 ∧ (∀ j, j < 6 → C.1 (74 + 1 + 2 * j) = [if j = 4 then -1 else 0]) ∧ (∀ k, (k ≤ 74 ∨ 74 + 31 < k) → C.1 k = B.1 k) ∧ C.2 = B.2 := fun C e => by
    subst e
    unfold f_X7_init_74
    dsimp only [jn]
    refine st_init (by unfold stP; omega) (fun k hk => ?_) rfl
    repeat rw [clr_ne (by omega)]
  generalize f_X7_init_74 B = C1 at s74
  obtain ⟨p1, p2, p3, p4⟩ := s74 C1 rfl
  have s107 : ∀ C : Sst, C = f_X7_init_107 C1 → (∀ k, (k ≤ 107 ∨ 107 + 31 < k) → C.1 k = C1.1 k) ∧ C.2 = C1.2 := fun C e => by
    subst e
    unfold f_X7_init_107
    dsimp only [jn]
    refine st_init2 (p := 107) (S := C1) (by unfold stP; omega) (fun k hk => ?_) rfl
    repeat rw [clr_ne (by omega)]
  generalize f_X7_init_107 C1 = C2 at s107
  obtain ⟨q1, q2⟩ := s107 C2 rfl
  have s140 : ∀ C : Sst, C = f_X7_init_140 C2 → (∀ k, (k ≤ 140 ∨ 140 + 31 < k) → C.1 k = C2.1 k) ∧ C.2 = C2.2 := fun C e => by
    subst e
    unfold f_X7_init_140
    dsimp only [jn]
    refine st_init2 (p := 140) (S := C2) (by unfold stP; omega) (fun k hk => ?_) rfl
    repeat rw [clr_ne (by omega)]
  generalize f_X7_init_140 C2 = C3 at s140
  obtain ⟨q3, q4⟩ := s140 C3 rfl
  have s173 : ∀ C : Sst, C = f_X7_init_173 C3 → (∀ k, (k ≤ 173 ∨ 173 + 31 < k) → C.1 k = C3.1 k) ∧ C.2 = C3.2 := fun C e => by
    subst e
    unfold f_X7_init_173
    dsimp only [jn]
    refine st_init2 (p := 173) (S := C3) (by unfold stP; omega) (fun k hk => ?_) rfl
    repeat rw [clr_ne (by omega)]
  generalize f_X7_init_173 C3 = C4 at s173
  obtain ⟨q5, q6⟩ := s173 C4 rfl
  have s206 : ∀ C : Sst, C = f_X7_init_206 C4 → (∀ k, (k ≤ 206 ∨ 206 + 31 < k) → C.1 k = C4.1 k) ∧ C.2 = C4.2 := fun C e => by
    subst e
    unfold f_X7_init_206
    dsimp only [jn]
    refine st_init2 (p := 206) (S := C4) (by unfold stP; omega) (fun k hk => ?_) rfl
    repeat rw [clr_ne (by omega)]
  generalize f_X7_init_206 C4 = C5 at s206
  obtain ⟨q7, q8⟩ := s206 C5 rfl
  have rC : ∀ k, k ≤ 106 → C5.1 k = C1.1 k := fun k hk => by rw [q7 k (by omega), q5 k (by omega), q3 k (by omega), q1 k (by omega)]
  have rC2 : ∀ k, 239 ≤ k → C5.1 k = [] := fun k hk => by rw [q7 k (by omega), q5 k (by omega), q3 k (by omega), q1 k (by omega), p3 k (by omega)]; exact rB k (Or.inr hk)
  have iC : ∀ k j, k ≠ 59 → C5.2 k j = A3.2 k j := fun k j hk => by rw [q8, q6, q4, q2, p4]; exact iB k j hk
  have hE : ∀ E : Sst, E = f_X9_init_249 (f_X8_init_242 (f_X0_init_239 C5)) → (∀ k, k ≤ 239 → E.1 k = C5.1 k) ∧ (∀ k, 239 ≤ k → E.1 k = []) ∧ E.2 239 1 = 0 ∧ E.2 249 2 = 0 ∧ ∀ k j, k ≠ 239 → k ≠ 249 → E.2 k j = C5.2 k j := fun E e => by
    subst e
    have hc : ∀ {S' : Sst} {q : Nat}, (∀ k, 239 ≤ k → S'.1 k = []) → ∀ k, 239 ≤ k → (f_X6_clear q S').1 k = [] := fun {S'} {q} h k hk => by
      by_cases w : k = q
      · subst w; exact upR_at _ _ _
      · rw [clr_ne w]; exact h k hk
    unfold f_X9_init_249 f_X8_init_242 f_X0_init_239
    dsimp only [jn]
    refine ⟨fun k hk => ?_, ?_, ?_, upS_same _ _ _ _, fun k j a b => ?_⟩
    · show (f_X6_clear 260 (f_X6_clear 258 (f_X6_clear 256 (f_X6_clear 254 (f_X6_clear 252 (f_X6_clear 250 (f_X6_clear 247 (f_X6_clear 245 (f_X6_clear 243 (upS (f_X6_clear 240 C5) 239 1 0)))))))))).1 k = _
      rw [clr_ne (by omega), clr_ne (by omega), clr_ne (by omega), clr_ne (by omega), clr_ne (by omega), clr_ne (by omega), clr_ne (by omega), clr_ne (by omega), clr_ne (by omega)]
      show (f_X6_clear 240 C5).1 k = _
      rw [clr_ne (by omega)]
    · have h0 : ∀ k, 239 ≤ k → (upS (f_X6_clear 240 C5) 239 1 0).1 k = [] := hc rC2
      exact hc (q := 260) (hc (q := 258) (hc (q := 256) (hc (q := 254) (hc (q := 252) (hc (q := 250) (hc (q := 247) (hc (q := 245) (hc (q := 243) h0))))))))
    · rw [upS_ne (Or.inl (by decide))]
      exact upS_same (f_X6_clear 240 C5) 239 1 0
    · rw [upS_ne (Or.inl b)]
      show (upS (f_X6_clear 240 C5) 239 1 0).2 k j = _
      rw [upS_ne (Or.inl a)]
      rfl
  generalize f_X9_init_249 (f_X8_init_242 (f_X0_init_239 C5)) = E at hE
  obtain ⟨g1, g2, g3, g4, g5⟩ := hE E rfl
  have rowE : ∀ k, k ≤ 46 → k ≠ 25 → E.1 k = [] := fun k a b => by rw [g1 k (by omega), rC k (by omega), p3 k (by omega)]; exact rB k (Or.inl ⟨a, b⟩)
  have rowS : ∀ k, 75 ≤ k → k ≤ 105 → E.1 k = C1.1 k := fun k a b => by rw [g1 k (by omega), rC k (by omega)]
  have iE : ∀ k j, k ≠ 59 → k ≠ 239 → k ≠ 249 → E.2 k j = A3.2 k j := fun k j a b c => by rw [g5 k j b c, iC k j a]
  -- the reference
  have hO : ∀ O1 : Smo, O1 = f_X12_init_262 O → (∀ k j, k ≠ 262 → O1 k j = 0) ∧ (∀ j, j ≠ 3 → j ≠ 40 → O1 262 j = 0) ∧ O1 262 3 = -1 ∧ O1 262 40 = 3 := fun O1 e => by
    subst e
    unfold f_X12_init_262
    dsimp only [jn]
    refine ⟨fun k j a => ?_, fun j a b => ?_, ?_, ?_⟩
    · rw [up2_row a, up2_row a, h3]
    · rw [up2_ne (Or.inr b), up2_ne (Or.inr a), h3]
    · rw [up2_ne (Or.inr (by decide)), up2_same]
    · rw [up2_same]
  generalize f_X12_init_262 O = O1 at hO
  obtain ⟨o1, o2, o3, o4⟩ := hO O1 rfl
  have hA : ∀ i, i < 205 → O1 282 i = 0 := fun i _ => o1 282 i (by decide)
  refine ⟨E, rfl, 0, 0, 3, fun _ => 0, 0, 0, 0, ?_, ?_, ?_, ?_, ?_, ?_, ?_, ?_⟩
  · exact ⟨0, rowE 1 (by decide) (by decide), by decide, o2 1 (by decide) (by decide), fun i hi => absurd hi (Nat.not_lt_zero i)⟩
  · exact ⟨0, rowE 3 (by decide) (by decide), by decide, o2 62 (by decide) (by decide)⟩
  · refine ⟨?_, ?_, ?_, ?_, fun i hi => ?_⟩
    · rw [iE 53 2 (by decide) (by decide) (by decide), f6 53 2 (by decide) (by decide), i2 53 2 (by decide) (by decide) (by decide) (by decide), o2 2 (by decide) (by decide)]
    · rw [iE 53 3 (by decide) (by decide) (by decide), f5, o3]
    · rw [iE 53 6 (by decide) (by decide) (by decide), f3]; decide
    · rw [iE 53 6 (by decide) (by decide) (by decide), f3]; decide
    · rw [iE 54 i (by decide) (by decide) (by decide)]; exact f4 i hi
  · refine ⟨⟨⟨?_, ?_, ?_, ?_, ?_, ?_⟩, ?_, ?_, ?_, ?_, fun k hk => absurd hk (Nat.not_lt_zero k)⟩, ⟨by decide, fun i hi => absurd hi (Nat.not_lt_zero i), fun i j hi => absurd hi (Nat.not_lt_zero i)⟩, ⟨by decide, by decide⟩, ⟨by decide, fun i j a b => absurd b (Nat.not_lt_zero j), fun i a => absurd a (Nat.not_lt_zero i), fun k hk => absurd hk (Nat.not_lt_zero k)⟩, o2 39 (by decide) (by decide), o2 45 (by decide) (by decide), o4, ?_⟩
    · exact rowE 30 (by decide) (by decide)
    · exact rowE 32 (by decide) (by decide)
    · exact rowE 34 (by decide) (by decide)
    · exact rowE 36 (by decide) (by decide)
    · exact rowE 38 (by decide) (by decide)
    · exact rowE 40 (by decide) (by decide)
    · exact rowE 42 (by decide) (by decide)
    · exact rowE 44 (by decide) (by decide)
    · exact rowE 46 (by decide) (by decide)
    · rw [iE 29 11 (by decide) (by decide) (by decide), f6 29 11 (by decide) (by decide), d4]; rfl
    · rw [iE 29 10 (by decide) (by decide) (by decide), f6 29 10 (by decide) (by decide), d3, o2 20 (by decide) (by decide)]
  · refine ⟨o2 47 (by decide) (by decide), o2 48 (by decide) (by decide), o2 49 (by decide) (by decide), ⟨by decide, by decide, by decide⟩, sto0 hA _ _ _ _ _ _, rep0 hA ⟨fun j hj => ?_, fun j hj => ?_, ?_⟩ (fun j hj => ?_) _ _ _⟩
    · rw [rowS _ (by omega) (by omega)]; exact p1.1 j hj
    · rw [rowS _ (by omega) (by omega)]; exact p1.2.1 j hj
    · rw [rowS _ (by omega) (by omega)]; exact p1.2.2
    · rw [rowS _ (by omega) (by omega)]; exact p2 j hj
  · exact ⟨by rw [g3]; rfl, by rw [g2 240 (by decide)]; rfl, fun u a b => absurd b (Nat.not_lt_zero u)⟩
  · intro b hb
    have h140 : E.2 (140 + 33 * b) 16 = 0 := by
      rw [iE _ _ (by omega) (by omega) (by omega)]
      exact i3 _ _ (by omega) (by omega) (by omega) (by omega) (by omega) (by omega)
    exact ⟨by rw [o1 304 b (by decide), h140], Or.inl (o1 304 b (by decide))⟩
  · exact ⟨fun i _ => o1 282 i (by decide), 0, g2 254 (by decide), g2 256 (by decide), g2 258 (by decide), g2 260 (by decide), by decide, o2 73 (by decide) (by decide), by rw [g4, o2 74 (by decide) (by decide)], by rw [o2 74 (by decide) (by decide)]; decide, fun i hi => absurd hi (Nat.not_lt_zero i)⟩
