/-! LEVEL 3, ag: the two lexers -/
def chT (T : Nat → Int) (nt q : Nat) : Int := if q < nt then T q else -1
theorem run_ex (P : Int → Bool) (T : Nat → Int) (nt : Nat) (hP : P (-1) = false) : ∀ (d p : Nat), p ≤ nt → nt - p ≤ d → ∃ m, p + m ≤ nt ∧ (∀ i, i < m → P (chT T nt (p + i)) = true) ∧ P (chT T nt (p + m)) = false
  | 0, p, h, hd => ⟨0, h, fun i hi => by omega, by
    unfold chT
    rw [if_neg (by omega)]
    exact hP⟩
  | d + 1, p, h, hd => by
    by_cases q : P (chT T nt p) = true
    · have hlt : p < nt := by
        by_cases w : p < nt
        · exact w
        · unfold chT at q
          rw [if_neg w, hP] at q
          exact absurd q (by decide)
      obtain ⟨m, h1, h2, h3⟩ := run_ex P T nt hP d (p + 1) hlt (by omega)
      refine ⟨m + 1, by omega, fun i hi => ?_, by rw [show p + (m + 1) = p + 1 + m by omega]; exact h3⟩
      cases i with
      | zero => exact q
      | succ j => rw [show p + (j + 1) = p + 1 + j by omega]; exact h2 j (by omega)
    · exact ⟨0, h, fun i hi => by omega, by simpa using q⟩
def sg (T : Nat → Int) (nt p : Nat) : Nat → List Int
  | 0 => []
  | i + 1 => chT T nt (p + i) :: sg T nt p i
theorem sg_len (T : Nat → Int) (nt p : Nat) : ∀ i, (sg T nt p i).length = i
  | 0 => rfl
  | i + 1 => by
    show (sg T nt p i).length + 1 = i + 1
    rw [sg_len T nt p i]
def isLt (c : Int) : Bool := decide (97 ≤ c) && decide (c ≤ 122)
def isDg (c : Int) : Bool := decide (48 ≤ c) && decide (c ≤ 57)
def isBk (c : Int) : Bool := decide (c = 32) || decide (c = 10)
theorem isLt_i {c : Int} : isLt c = true ↔ 97 ≤ c ∧ c ≤ 122 := by unfold isLt; simp
theorem isDg_i {c : Int} : isDg c = true ↔ 48 ≤ c ∧ c ≤ 57 := by unfold isDg; simp
theorem isBk_i {c : Int} : isBk c = true ↔ c = 32 ∨ c = 10 := by unfold isBk; simp
theorem f_lt (c : Int) : f_X3_isLetter c = (if isLt c = true then 1 else 0) ∧ f_X12_isLetter c = if isLt c = true then 1 else 0 := by
  unfold f_X3_isLetter f_X12_isLetter
  by_cases q : isLt c = true
  · have := isLt_i.mp q
    rw [if_pos q, if_neg (by omega)]
    exact ⟨rfl, rfl⟩
  · have : ¬ (97 ≤ c ∧ c ≤ 122) := fun w => q (isLt_i.mpr w)
    rw [if_neg q, if_pos (by omega)]
    exact ⟨rfl, rfl⟩
theorem f_dg (c : Int) : f_X3_isDigit c = (if isDg c = true then 1 else 0) ∧ f_X12_isDigit c = if isDg c = true then 1 else 0 := by
  unfold f_X3_isDigit f_X12_isDigit
  by_cases q : isDg c = true
  · have := isDg_i.mp q
    rw [if_pos q, if_neg (by omega)]
    exact ⟨rfl, rfl⟩
  · have : ¬ (48 ≤ c ∧ c ≤ 57) := fun w => q (isDg_i.mpr w)
    rw [if_neg q, if_pos (by omega)]
    exact ⟨rfl, rfl⟩
theorem f_bk (c : Int) : f_X3_isBlank c = if isBk c = true then 1 else 0 := by
  unfold f_X3_isBlank
  by_cases q : isBk c = true
  · rw [if_pos q, if_pos (isBk_i.mp q)]
  · rw [if_neg q, if_neg (fun w => q (isBk_i.mpr w))]
theorem sg_ltr {T : Nat → Int} {nt p : Nat} : ∀ i, (∀ k, k < i → isLt (chT T nt (p + k)) = true) → Ltr (sg T nt p i)
  | 0, _ => fun c hc => by cases hc
  | i + 1, h => fun c hc => by
    rcases List.mem_cons.mp hc with rfl | hc
    · exact isLt_i.mp (h i (by omega))
    · exact sg_ltr i (fun k hk => h k (by omega)) c hc
def nv (T : Nat → Int) (nt p : Nat) : Nat → Int
  | 0 => 0
  | i + 1 => nv T nt p i * 10 + (chT T nt (p + i) - 48)
theorem nv_bd {T : Nat → Int} {nt p : Nat} : ∀ i, (∀ k, k < i → isDg (chT T nt (p + k)) = true) → 0 ≤ nv T nt p i ∧ nv T nt p i < (10 : Int) ^ i
  | 0, _ => by
    show (0 : Int) ≤ 0 ∧ (0 : Int) < 10 ^ 0
    decide
  | i + 1, h => by
    have a := nv_bd i (fun k hk => h k (by omega))
    have b := isDg_i.mp (h i (by omega))
    show 0 ≤ nv T nt p i * 10 + (chT T nt (p + i) - 48) ∧ nv T nt p i * 10 + (chT T nt (p + i) - 48) < (10 : Int) ^ (i + 1)
    rw [Int.pow_succ]
    omega
theorem p10_4 : ∀ n, n ≤ 4 → (10 : Int) ^ n ≤ 10000 := by decide
/-- the class's state but for fields of the lexer -/
def E53 (J : List Nat) (S S' : Sst) : Prop := S'.1 = S.1 ∧ ∀ k j, ¬ (k = 53 ∧ j ∈ J) → S'.2 k j = S.2 k j
theorem E53_refl (J : List Nat) (S : Sst) : E53 J S S := ⟨rfl, fun _ _ _ => rfl⟩
theorem E53_trans {J : List Nat} {S S' S'' : Sst} (h1 : E53 J S S') (h2 : E53 J S' S'') : E53 J S S'' := ⟨h2.1.trans h1.1, fun k j h => (h2.2 k j h).trans (h1.2 k j h)⟩
theorem E53_mono {J J' : List Nat} {S S' : Sst} (h : E53 J S S') (hJ : ∀ j ∈ J, j ∈ J') : E53 J' S S' := ⟨h.1, fun k j q => h.2 k j (fun w => q ⟨w.1, hJ j w.2⟩)⟩
theorem E53_up {J : List Nat} {S S' : Sst} {j : Nat} {v : Int} (h : E53 J S S') (hj : j ∈ J) : E53 J S (upS S' 53 j v) := ⟨h.1, fun k i q => by
  rw [upS_ne, h.2 k i q]
  by_cases e : k = 53
  · exact Or.inr (fun w => q ⟨e, w ▸ hj⟩)
  · exact Or.inl e⟩
theorem FrO_up {J : List Nat} {O O' : Smo} {j : Nat} {v : Int} (h : FrO [] J O O') (hj : j ∈ J) : FrO [] J O (up2 O' 262 j v) := ⟨fun k a b => by rw [up2_row b]; exact h.1 k a b, fun i hi => by
  rw [up2_ne (Or.inr (fun e : i = j => hi (e ▸ hj)))]
  exact h.2 i hi⟩
section LEX
variable {T : Nat → Int} {nt : Nat}
theorem cl_ch {S : Sst} (h : S.1 1 = rg nt T) (q : Nat) : f_X6_at 1 (q : Int) S = chT T nt q := by
  unfold chT
  by_cases w : q < nt
  · rw [if_pos w, at_nat h w]
  · rw [if_neg w, at_out h (by omega)]
theorem rf_ch {O : Smo} (h1 : O 263 = T) (h2 : O 262 5 = (nt : Int)) (h3 : nt ≤ 1600) {q a : Nat} (h4 : O 262 4 = (q : Int)) (hq : q ≤ 1600) (ha : a ≤ 1700) : f_X12_here (a : Int) O = some (chT T nt (q + a)) := by
  unfold f_X12_here chT
  rw [h4, h2, wr_id (by omega) (by omega)]
  by_cases w : q + a < nt
  · rw [if_pos (by omega), if_pos w, h1, Ln263, show (q : Int) + (a : Int) = ((q + a : Nat) : Int) by omega, aget_nat (by omega)]
    rfl
  · rw [if_neg (by omega), if_neg w]
/-- a run of characters in the class -/
theorem cl_blank {S : Sst} {p m : Nat} (h1 : S.1 1 = rg nt T) (h3 : nt ≤ 1600) (h9 : S.2 53 9 = (p : Int)) (hm : p + m ≤ nt) (ha : ∀ i, i < m → isBk (chT T nt (p + i)) = true) (hb : isBk (chT T nt (p + m)) = false) : Ret (lp (fun (s225 : Sst) =>
      if (s225.2 53 9 < f_X6_size 1 s225 ∧ ¬ f_X3_isBlank (f_X6_at 1 (s225.2 53 9) s225) = 0) then
        (jn (upS s225 53 9 (wr ((s225.2 53 9) + 1))) fun (S240 : Sst) =>
        some (Sum.inl S240))
      else
        (some (Sum.inr s225))) FU S) (fun S' => E53 [9] S S' ∧ S'.2 53 9 = ((p + m : Nat) : Int)) := by
  refine Ret_lp (fun i q => E53 [9] S q ∧ q.2 53 9 = ((p + i : Nat) : Int)) m (by omega) ⟨E53_refl _ _, h9⟩ (fun i q hi hI => ?_) (fun q hI => ?_)
  · obtain ⟨i1, i2⟩ := hI
    have h1' : q.1 1 = rg nt T := by rw [i1.1, h1]
    dsimp only [jn]
    have hc := ha i hi
    have hlt : p + i < nt := by omega
    rw [i2, cl_ch h1', f_bk, if_pos (c := isBk _ = true) hc, if_pos ⟨by rw [size_rg h1']; omega, by decide⟩, wr_id (by omega) (by omega)]
    refine Ret_some ⟨_, rfl, E53_up i1 (by decide), ?_⟩
    rw [upS_same]
    omega
  · obtain ⟨i1, i2⟩ := hI
    have h1' : q.1 1 = rg nt T := by rw [i1.1, h1]
    dsimp only [jn]
    rw [i2, cl_ch h1', f_bk, if_neg (c := isBk _ = true) (by rw [hb]; decide), if_neg (fun w => w.2 rfl)]
    exact Ret_some ⟨_, rfl, i1, i2⟩
theorem cl_wrd {S : Sst} {p m : Nat} (h1 : S.1 1 = rg nt T) (h3 : nt ≤ 1600) (h9 : S.2 53 9 = (p : Int)) (h7 : S.2 53 7 = 0) (hm : p + m ≤ nt) (ha : ∀ i, i < m → isLt (chT T nt (p + i)) = true) (hb : isLt (chT T nt (p + m)) = false) : Ret (lp (fun (s137 : Sst) =>
    if (s137.2 53 9 < f_X6_size 1 s137 ∧ ¬ f_X3_isLetter (f_X6_at 1 (s137.2 53 9) s137) = 0) then
      (jn (upS s137 53 7 (f_X3_spell (s137.2 53 7) (f_X6_at 1 (s137.2 53 9) s137))) fun (S155 : Sst) =>
      jn (upS S155 53 9 (wr ((S155.2 53 9) + 1))) fun (S157 : Sst) =>
      some (Sum.inl S157))
    else
      (some (Sum.inr s137))) FU S) (fun S' => E53 [7, 9] S S' ∧ S'.2 53 9 = ((p + m : Nat) : Int) ∧ (m ≤ 8 → S'.2 53 7 = d32 (sg T nt p m))) := by
  refine Ret_lp (fun i q => E53 [7, 9] S q ∧ q.2 53 9 = ((p + i : Nat) : Int) ∧ (i ≤ 8 → q.2 53 7 = d32 (sg T nt p i))) m (by omega) ⟨E53_refl _ _, h9, fun _ => h7⟩ (fun i q hi hI => ?_) (fun q hI => ?_)
  · obtain ⟨i1, i2, i3⟩ := hI
    have h1' : q.1 1 = rg nt T := by rw [i1.1, h1]
    dsimp only [jn]
    have hc := ha i hi
    have hci := isLt_i.mp hc
    have hlt : p + i < nt := by omega
    rw [i2, cl_ch h1', (f_lt _).1, if_pos (c := isLt _ = true) hc, if_pos ⟨by rw [size_rg h1']; omega, by decide⟩, upS_ne (Or.inr (by decide)), i2, wr_id (z := ((p + i : Nat) : Int) + 1) (by omega) (by omega)]
    refine Ret_some ⟨_, rfl, E53_up (E53_up i1 (by decide)) (by decide), ?_, fun h8 => ?_⟩
    · rw [upS_same]
      omega
    · rw [upS_ne (Or.inr (by decide)), upS_same, i3 (by omega)]
      have hl := sg_ltr i (fun k hk => ha k (by omega))
      have b1 := d32_nn _ hl
      have b2 := d32_bd _ hl
      rw [sg_len] at b2
      have b3 := p32_8 i (by omega)
      unfold f_X3_spell
      rw [wl_id (z := d32 (sg T nt p i) * 32) (by omega) (by omega), wr_id (z := chT T nt (p + i) - 97) (by omega) (by omega), wr_id (z := chT T nt (p + i) - 97 + 1) (by omega) (by omega), wl_id (by omega) (by omega)]
      show _ = d32 (sg T nt p i) * 32 + (chT T nt (p + i) - 96)
      omega
  · obtain ⟨i1, i2, i3⟩ := hI
    have h1' : q.1 1 = rg nt T := by rw [i1.1, h1]
    dsimp only [jn]
    rw [i2, cl_ch h1', (f_lt _).1, if_neg (c := isLt _ = true) (by rw [hb]; decide), if_neg (fun w => w.2 rfl)]
    exact Ret_some ⟨_, rfl, i1, i2, i3⟩
theorem cl_num {S : Sst} {p m : Nat} (h1 : S.1 1 = rg nt T) (h3 : nt ≤ 1600) (h9 : S.2 53 9 = (p : Int)) (h7 : S.2 53 1 = 0) (hm : p + m ≤ nt) (ha : ∀ i, i < m → isDg (chT T nt (p + i)) = true) (hb : isDg (chT T nt (p + m)) = false) : Ret (lp (fun (s179 : Sst) =>
    if (s179.2 53 9 < f_X6_size 1 s179 ∧ ¬ f_X3_isDigit (f_X6_at 1 (s179.2 53 9) s179) = 0) then
      (jn (upS s179 53 1 (wr ((wr ((s179.2 53 1) * 10)) + (wr ((f_X6_at 1 (s179.2 53 9) s179) - 48))))) fun (S196 : Sst) =>
      jn (upS S196 53 9 (wr ((S196.2 53 9) + 1))) fun (S198 : Sst) =>
      some (Sum.inl S198))
    else
      (some (Sum.inr s179))) FU S) (fun S' => E53 [1, 9] S S' ∧ S'.2 53 9 = ((p + m : Nat) : Int) ∧ (m ≤ 4 → S'.2 53 1 = nv T nt p m)) := by
  refine Ret_lp (fun i q => E53 [1, 9] S q ∧ q.2 53 9 = ((p + i : Nat) : Int) ∧ (i ≤ 4 → q.2 53 1 = nv T nt p i)) m (by omega) ⟨E53_refl _ _, h9, fun _ => h7⟩ (fun i q hi hI => ?_) (fun q hI => ?_)
  · obtain ⟨i1, i2, i3⟩ := hI
    have h1' : q.1 1 = rg nt T := by rw [i1.1, h1]
    dsimp only [jn]
    have hc := ha i hi
    have hci := isDg_i.mp hc
    have hlt : p + i < nt := by omega
    rw [i2, cl_ch h1', (f_dg _).1, if_pos (c := isDg _ = true) hc, if_pos ⟨by rw [size_rg h1']; omega, by decide⟩, upS_ne (Or.inr (by decide)), i2, wr_id (z := ((p + i : Nat) : Int) + 1) (by omega) (by omega)]
    refine Ret_some ⟨_, rfl, E53_up (E53_up i1 (by decide)) (by decide), ?_, fun h8 => ?_⟩
    · rw [upS_same]
      omega
    · rw [upS_ne (Or.inr (by decide)), upS_same, i3 (by omega)]
      have hl := nv_bd (T := T) (nt := nt) (p := p) i (fun k hk => ha k (by omega))
      have b3 := p10_4 i (by omega)
      rw [wr_id (z := nv T nt p i * 10) (by omega) (by omega), wr_id (z := chT T nt (p + i) - 48) (by omega) (by omega), wr_id (by omega) (by omega)]
      rfl
  · obtain ⟨i1, i2, i3⟩ := hI
    have h1' : q.1 1 = rg nt T := by rw [i1.1, h1]
    dsimp only [jn]
    rw [i2, cl_ch h1', (f_dg _).1, if_neg (c := isDg _ = true) (by rw [hb]; decide), if_neg (fun w => w.2 rfl)]
    exact Ret_some ⟨_, rfl, i1, i2, i3⟩
theorem rf_blank {O : Smo} {p m : Nat} (h1 : O 263 = T) (h2 : O 262 5 = (nt : Int)) (h3 : nt ≤ 1600) (h4 : O 262 4 = (p : Int)) (hm : p + m ≤ nt) (ha : ∀ i, i < m → isBk (chT T nt (p + i)) = true) (hb : isBk (chT T nt (p + m)) = false) : Ret (lp (fun (s5043 : Smo) =>
    Option.bind (f_X12_here 0 s5043) fun (q5050 : Int) =>
    jk (fun (q5052 : Unit) =>
      jn (up2 s5043 262 4 (wr ((s5043 262 4) + 1))) fun (O5062 : Smo) =>
      some (Sum.inl O5062)) fun k5054 =>
    if q5050 = 32 then
      (k5054 ())
    else
      (Option.bind (f_X12_here 0 s5043) fun (q5058 : Int) =>
      if q5058 = 10 then
        (k5054 ())
      else
        (some (Sum.inr s5043)))) FU O) (fun O' => FrO [] [4] O O' ∧ O' 262 4 = ((p + m : Nat) : Int)) := by
  refine Ret_lp (fun i q => FrO [] [4] O q ∧ q 262 4 = ((p + i : Nat) : Int)) m (by omega) ⟨FrO_refl _ _ _, h4⟩ (fun i q hi hI => ?_) (fun q hI => ?_)
  · obtain ⟨i1, i2⟩ := hI
    have hc := isBk_i.mp (ha i hi)
    have e := rf_ch (O := q) (T := T) (nt := nt) (a := 0) (by rw [i1.1 263 (by simp) (by decide), h1]) (by rw [i1.2 5 (by decide), h2]) h3 i2 (by omega) (by omega)
    rw [show ((0 : Nat) : Int) = 0 from rfl, Nat.add_zero] at e
    dsimp only [jn, jk]
    rw [e]
    dsimp only [Option.bind_some]
    rw [i2, wr_id (z := ((p + i : Nat) : Int) + 1) (by omega) (by omega)]
    have hres : Ret (some (Sum.inl (β := Smo) (up2 q 262 4 (((p + i : Nat) : Int) + 1)))) (fun q' => ∃ s', q' = Sum.inl s' ∧ FrO [] [4] O s' ∧ s' 262 4 = ((p + (i + 1) : Nat) : Int)) := Ret_some ⟨_, rfl, FrO_up i1 (by decide), by rw [up2_same]; omega⟩
    by_cases q32 : chT T nt (p + i) = 32
    · rw [if_pos q32]
      exact hres
    · rw [if_neg q32, if_pos (hc.resolve_left q32)]
      exact hres
  · obtain ⟨i1, i2⟩ := hI
    have hc : ¬ (chT T nt (p + m) = 32 ∨ chT T nt (p + m) = 10) := fun w => by
      rw [isBk_i.mpr w] at hb
      exact absurd hb (by decide)
    have e := rf_ch (O := q) (T := T) (nt := nt) (a := 0) (by rw [i1.1 263 (by simp) (by decide), h1]) (by rw [i1.2 5 (by decide), h2]) h3 i2 (by omega) (by omega)
    rw [show ((0 : Nat) : Int) = 0 from rfl, Nat.add_zero] at e
    dsimp only [jn, jk]
    rw [e]
    dsimp only [Option.bind_some]
    rw [if_neg (fun w => hc (Or.inl w)), if_neg (fun w => hc (Or.inr w))]
    exact Ret_some ⟨_, rfl, i1, i2⟩
theorem rf_wrd {O : Smo} {p m : Nat} (h1 : O 263 = T) (h2 : O 262 5 = (nt : Int)) (h3 : nt ≤ 1600) (h4 : O 262 4 = (p : Int)) (h9 : O 262 9 = 0) (hm : p + m ≤ nt) (ha : ∀ i, i < m → isLt (chT T nt (p + i)) = true) (hb : isLt (chT T nt (p + m)) = false) : Ret (lp (fun (s5123 : Int × Smo) =>
          Option.bind (f_X12_here s5123.1 s5123.2) fun (q5130 : Int) =>
          if f_X12_isLetter q5130 = 0 then
            (some (Sum.inr (s5123.1, s5123.2)))
          else
            (Option.bind (
              if s5123.1 < 8 then
                (Option.bind (f_X12_here s5123.1 s5123.2) fun (q5141 : Int) =>
                jn (up2 s5123.2 262 9 (zlor (zlshl (s5123.2 262 9) 8) q5141)) fun (O5143 : Smo) =>
                some O5143)
              else
                (some s5123.2)) fun (q5134 : Smo) =>
            some (Sum.inl (wr (s5123.1 + 1), q5134)))) FU (0, O)) (fun r => r.1 = (m : Int) ∧ FrO [] [9] O r.2 ∧ (m ≤ 8 → r.2 262 9 = d256 (sg T nt p m))) := by
  refine Ret_lp (fun i q => q.1 = (i : Int) ∧ FrO [] [9] O q.2 ∧ (i ≤ 8 → q.2 262 9 = d256 (sg T nt p i))) m (by omega) ⟨rfl, FrO_refl _ _ _, fun _ => h9⟩ (fun i q hi hI => ?_) (fun q hI => ?_)
  · obtain ⟨z, O1⟩ := q
    obtain ⟨rfl, i1, i2⟩ := hI
    dsimp only [jn] at *
    have hc := ha i hi
    have hci := isLt_i.mp hc
    have e := rf_ch (O := O1) (T := T) (nt := nt) (q := p) (a := i) (by rw [i1.1 263 (by simp) (by decide), h1]) (by rw [i1.2 5 (by decide), h2]) h3 (by rw [i1.2 4 (by decide), h4]) (by omega) (by omega)
    rw [e]
    dsimp only [Option.bind_some]
    rw [(f_lt _).2, if_pos (c := isLt _ = true) hc, if_neg (show ¬ (1 : Int) = 0 by decide), wr_id (z := (i : Int) + 1) (by omega) (by omega)]
    by_cases h8 : i < 8
    · rw [if_pos (by omega)]
      dsimp only [Option.bind_some]
      refine Ret_some ⟨_, rfl, by simp, FrO_up i1 (by decide), fun _ => ?_⟩
      dsimp only
      have hl := sg_ltr (T := T) (nt := nt) (p := p) i (fun k hk => ha k (by omega))
      have b1 := d256_nn _ hl
      have b2 := d256_bd _ hl
      rw [sg_len] at b2
      have b3 := p256_6 i (by omega)
      rw [up2_same, i2 (by omega)]
      obtain ⟨x, hx⟩ : ∃ x : Nat, d256 (sg T nt p i) = (x : Int) := ⟨(d256 (sg T nt p i)).toNat, by omega⟩
      obtain ⟨y, hy⟩ : ∃ y : Nat, chT T nt (p + i) = (y : Int) := ⟨(chT T nt (p + i)).toNat, by omega⟩
      show _ = d256 (sg T nt p i) * 256 + chT T nt (p + i)
      rw [hx, hy, zlor_n (by omega) (by omega)]
      omega
    · rw [if_neg (by omega)]
      dsimp only [Option.bind_some]
      exact Ret_some ⟨_, rfl, by simp, i1, fun w => by omega⟩
  · obtain ⟨z, O1⟩ := q
    obtain ⟨rfl, i1, i2⟩ := hI
    dsimp only [jn] at *
    have e := rf_ch (O := O1) (T := T) (nt := nt) (q := p) (a := m) (by rw [i1.1 263 (by simp) (by decide), h1]) (by rw [i1.2 5 (by decide), h2]) h3 (by rw [i1.2 4 (by decide), h4]) (by omega) (by omega)
    rw [e]
    dsimp only [Option.bind_some]
    rw [(f_lt _).2, if_neg (c := isLt _ = true) (by rw [hb]; decide), if_pos rfl]
    exact Ret_some ⟨_, rfl, rfl, i1, i2⟩
theorem rf_num {O : Smo} {p m : Nat} (h1 : O 263 = T) (h2 : O 262 5 = (nt : Int)) (h3 : nt ≤ 1600) (h4 : O 262 4 = (p : Int)) (h9 : O 262 8 = 0) (hm : p + m ≤ nt) (ha : ∀ i, i < m → isDg (chT T nt (p + i)) = true) (hb : isDg (chT T nt (p + m)) = false) : Ret (lp (fun (s5089 : Int × Smo) =>
            Option.bind (f_X12_here s5089.1 s5089.2) fun (q5096 : Int) =>
            if f_X12_isDigit q5096 = 0 then
              (some (Sum.inr (s5089.1, s5089.2)))
            else
              (Option.bind (
                if s5089.1 < 4 then
                  (Option.bind (f_X12_here s5089.1 s5089.2) fun (q5107 : Int) =>
                  jn (up2 s5089.2 262 8 (wr ((wr ((wr (10 * (s5089.2 262 8))) + q5107)) - 48))) fun (O5109 : Smo) =>
                  some O5109)
                else
                  (some s5089.2)) fun (q5100 : Smo) =>
              some (Sum.inl (wr (s5089.1 + 1), q5100)))) FU (0, O)) (fun r => r.1 = (m : Int) ∧ FrO [] [8] O r.2 ∧ (m ≤ 4 → r.2 262 8 = nv T nt p m)) := by
  refine Ret_lp (fun i q => q.1 = (i : Int) ∧ FrO [] [8] O q.2 ∧ (i ≤ 4 → q.2 262 8 = nv T nt p i)) m (by omega) ⟨rfl, FrO_refl _ _ _, fun _ => h9⟩ (fun i q hi hI => ?_) (fun q hI => ?_)
  · obtain ⟨z, O1⟩ := q
    obtain ⟨rfl, i1, i2⟩ := hI
    dsimp only [jn] at *
    have hc := ha i hi
    have hci := isDg_i.mp hc
    have e := rf_ch (O := O1) (T := T) (nt := nt) (q := p) (a := i) (by rw [i1.1 263 (by simp) (by decide), h1]) (by rw [i1.2 5 (by decide), h2]) h3 (by rw [i1.2 4 (by decide), h4]) (by omega) (by omega)
    rw [e]
    dsimp only [Option.bind_some]
    rw [(f_dg _).2, if_pos (c := isDg _ = true) hc, if_neg (show ¬ (1 : Int) = 0 by decide), wr_id (z := (i : Int) + 1) (by omega) (by omega)]
    by_cases h8 : i < 4
    · rw [if_pos (by omega)]
      dsimp only [Option.bind_some]
      refine Ret_some ⟨_, rfl, by simp, FrO_up i1 (by decide), fun _ => ?_⟩
      dsimp only
      have hl := nv_bd (T := T) (nt := nt) (p := p) i (fun k hk => ha k (by omega))
      have b3 := p10_4 i (by omega)
      rw [up2_same, i2 (by omega), wr_id (z := 10 * nv T nt p i) (by omega) (by omega), wr_id (z := 10 * nv T nt p i + chT T nt (p + i)) (by omega) (by omega), wr_id (by omega) (by omega)]
      show _ = nv T nt p i * 10 + (chT T nt (p + i) - 48)
      omega
    · rw [if_neg (by omega)]
      dsimp only [Option.bind_some]
      exact Ret_some ⟨_, rfl, by simp, i1, fun w => by omega⟩
  · obtain ⟨z, O1⟩ := q
    obtain ⟨rfl, i1, i2⟩ := hI
    dsimp only [jn] at *
    have e := rf_ch (O := O1) (T := T) (nt := nt) (q := p) (a := m) (by rw [i1.1 263 (by simp) (by decide), h1]) (by rw [i1.2 5 (by decide), h2]) h3 (by rw [i1.2 4 (by decide), h4]) (by omega) (by omega)
    rw [e]
    dsimp only [Option.bind_some]
    rw [(f_dg _).2, if_neg (c := isDg _ = true) (by rw [hb]; decide), if_pos rfl]
    exact Ret_some ⟨_, rfl, rfl, i1, i2⟩
end LEX
