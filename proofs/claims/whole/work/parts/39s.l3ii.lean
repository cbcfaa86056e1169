/-! LEVEL 3, ii: what was told: fits, sure, ask -/
/-- the region over a place, among all segments -/
def blN (g : Sg) (x up : Int) : Nat → Int
  | 0 => -1
  | c + 1 => if (sga g c ≤ x ∧ x < sgb g c) ∧ gA g c x up ≤ 0 then (if blN g x up c = -1 ∨ hib g c (blN g x up c).toNat x = true then (c : Int) else blN g x up c) else blN g x up c
theorem blN_bd (g : Sg) (x up : Int) : ∀ c, blN g x up c = -1 ∨ ∃ y : Nat, blN g x up c = (y : Int) ∧ y < c ∧ ovP g y x
  | 0 => Or.inl rfl
  | c + 1 => by
    have ih := blN_bd g x up c
    have ih2 : blN g x up c = -1 ∨ ∃ y : Nat, blN g x up c = (y : Int) ∧ y < c + 1 ∧ ovP g y x := ih.imp id (fun ⟨y, a, b, d⟩ => ⟨y, a, by omega, d⟩)
    unfold blN
    by_cases q : (sga g c ≤ x ∧ x < sgb g c) ∧ gA g c x up ≤ 0
    · rw [if_pos q]
      by_cases r : blN g x up c = -1 ∨ hib g c (blN g x up c).toNat x = true
      · rw [if_pos r]
        exact Or.inr ⟨c, rfl, by omega, q.1⟩
      · rw [if_neg r]; exact ih2
    · rw [if_neg q]; exact ih2
theorem blN_is {g : Sg} {n m : Nat} {x up : Int} (hg : OkSeg g n) (ho : Over g n m x) (hm : ∀ k, k < n → ovP g k x → m.testBit k = true) : ∀ c, c ≤ n → isBl g m x up c (blN g x up c)
  | 0, _ => Or.inl ⟨rfl, fun s hs => by omega⟩
  | c + 1, hc => by
    have ih := blN_is (up := up) hg ho hm c (by omega)
    unfold blN
    by_cases q : (sga g c ≤ x ∧ x < sgb g c) ∧ gA g c x up ≤ 0
    · rw [if_pos q]
      have cm := hm c (by omega) q.1
      rcases bl_int ih with e | ⟨y, e, hy⟩
      · rw [if_pos (Or.inl e)]
        rw [e] at ih
        exact bl_first ih cm q.2
      · rw [e] at ih ⊢
        have := bl_step hg ho ih cm q.2
        by_cases r : hib g c y x = true
        · rw [if_pos r] at this
          rw [if_pos (Or.inr (by rw [Int.toNat_natCast]; exact r))]
          exact this
        · rw [if_neg r] at this
          rw [if_neg (by rintro (a | a); omega; exact r a)]
          exact this
    · rw [if_neg q]
      refine bl_skip ih (fun hb => ?_)
      have := (ho.2 c hb).2
      unfold ovP at this
      omega
theorem zor_0 {m : Nat} (h : m < 256) : zor (m : Int) 0 = m := by
  unfold zor
  rw [show zi 0 = 0 from rfl, Int32.or_zero, zi_t ⟨by omega, by omega⟩]
/-- an entry of what was told, at time t, does not speak against region b -/
def okI (O : Smo) (t b : Int) (i : Nat) : Bool := decide (t < O 299 i) || (decide (0 ≤ O 300 i) && decide (O 300 i ≤ t)) || (decide (O 298 i = b) == decide (O 301 i = 1))
def agF (O : Smo) (t b : Int) (c : Nat) : Bool := (List.range c).all (okI O t b)
theorem agF_s (O : Smo) (t b : Int) (c : Nat) : agF O t b (c + 1) = (agF O t b c && okI O t b c) := by
  unfold agF
  rw [List.range_succ, List.all_append]
  simp
def fiL (P : Nat → Bool) (c : Nat) : List Nat := (List.range c).filter P
theorem fiL_s (P : Nat → Bool) (c : Nat) : fiL P (c + 1) = if P c = true then fiL P c ++ [c] else fiL P c := by
  unfold fiL
  rw [List.range_succ, List.filter_append]
  split <;> simp_all
theorem fiL_len (P : Nat → Bool) (c : Nat) : (fiL P c).length ≤ c := by
  have := List.length_filter_le P (List.range c)
  rw [List.length_range] at this
  exact this
section TOLD
variable {S S' : Sst} {O O' : Smo} {n ne slots v tp bs ns : Nat} {lo : Nat → Nat}
theorem cl_region (h : IPlan S O n ne slots lo) (hk : ∀ k, k < 60 → S'.1 k = S.1 k) {x up : Int} (hx : 0 ≤ x ∧ x ≤ 60) (hup : -9 ≤ up ∧ up ≤ 99) : f_X4_regionOf 29 x up S' = some (blN (sgO O) x up n) := by
  have hg := h.2.1
  have hn8 := hg.1
  have hP : RPl 29 S' (sgO O) n := by
    have := h.1.1
    refine ⟨?_, ?_, ?_, ?_, ?_, ?_⟩
    · rw [hk _ (by decide)]; exact this.1
    · rw [hk _ (by decide)]; exact this.2.1
    · rw [hk _ (by decide)]; exact this.2.2.1
    · rw [hk _ (by decide)]; exact this.2.2.2.1
    · rw [hk _ (by decide)]; exact this.2.2.2.2.1
    · rw [hk _ (by decide)]; exact this.2.2.2.2.2
  have h42 : S'.1 42 = rg n (fun k => (lo k : Int)) := by rw [hk _ (by decide)]; exact h.1.2.1
  unfold f_X4_regionOf
  refine Ret_eq (Ret_bind (P := fun r => r = blN (sgO O) x up n) (Ret_lp (fun c q => q = (blN (sgO O) x up c, (c : Int))) n (by omega) rfl (fun c q hc hI => ?_) (fun q hI => ?_)) (fun r hr => Ret_some hr))
  · subst hI
    dsimp only [jn]
    rw [pl_count hP, if_pos (by omega), pl_over hP hc, pl_ahead hP hc (hg.2.1 c hc) hx hup, wr_id (by omega) (by omega)]
    refine Ret_some ⟨_, rfl, ?_⟩
    rw [blN]
    have hb := blN_bd (sgO O) x up c
    generalize blN (sgO O) x up c = b at *
    by_cases q : (sga (sgO O) c ≤ x ∧ x < sgb (sgO O) c) ∧ gA (sgO O) c x up ≤ 0
    · rw [if_neg (by rw [if_pos q.1]; omega), if_pos q]
      rcases hb with e | ⟨y, e, hy, oy⟩
      · rw [if_pos (Or.inl e), if_pos (Or.inl e)]; rfl
      · subst e
        rw [cl_higher h42 h.1.2.2.2.2.2 hg hc (show y < n by omega) (by omega) q.1 oy]
        by_cases r : hib (sgO O) c y x = true
        · rw [if_pos (Or.inr (by rw [if_pos r]; decide)), if_pos (Or.inr (by rw [Int.toNat_natCast]; exact r))]; rfl
        · rw [if_neg (by rw [if_neg r]; omega), if_neg (by rintro (a | a); omega; exact r a)]; rfl
    · rw [if_neg q]
      by_cases r : sga (sgO O) c ≤ x ∧ x < sgb (sgO O) c
      · rw [if_pos (by rw [if_pos r]; omega)]; rfl
      · rw [if_pos (Or.inl (by rw [if_neg r]))]; rfl
  · subst hI
    dsimp only
    rw [pl_count hP, if_neg (by omega)]
    exact Ret_some ⟨_, rfl, rfl⟩
theorem rf_region (hg : OkSeg (sgO O) n) (h39 : O 262 39 = (n : Int)) {x up : Int} (hx : 0 ≤ x ∧ x ≤ 60) (hup : -9 ≤ up ∧ up ≤ 99) : Ret (lp (fun (s10390 : Int × Int) =>
        if s10390.2 < O 262 39 then
          (Option.bind (f_X12_isOver s10390.2 x O) fun (q10399 : Int) =>
          jn (zor s10390.1 (zshl (f_X12_truth q10399) s10390.2)) fun (v10402 : Int) =>
          some (Sum.inl (v10402, wr (s10390.2 + 1))))
        else
          (some (Sum.inr s10390.1))) FU (0, 0)) (fun r => f_X12_belowOf r x up O = some (blN (sgO O) x up n)) := by
  have hn8 := hg.1
  refine Ret_lp (fun c q => ∃ m : Nat, q = ((m : Int), (c : Int)) ∧ m < 256 ∧ ∀ k, m.testBit k = true ↔ k < c ∧ ovP (sgO O) k x) n (by omega) ⟨0, rfl, by decide, fun k => by simp⟩ (fun c q hc hI => ?_) (fun q hI => ?_)
  · obtain ⟨m, rfl, hm, hk⟩ := hI
    dsimp only [jn]
    rw [if_pos (by rw [h39]; omega), rf_over (show c < 8 by omega)]
    dsimp only [Option.bind_some]
    rw [wr_id (by omega) (by omega)]
    by_cases r : sga (sgO O) c ≤ x ∧ x < sgb (sgO O) c
    · rw [if_pos r, show f_X12_truth 1 = 1 from rfl, or_n hm (by omega)]
      refine Ret_some ⟨_, rfl, put1 m c, by simp, put1_lt hm (by omega), fun k => ?_⟩
      rw [put1_tb hm (by omega), Bool.or_eq_true, hk, decide_eq_true_iff]
      constructor
      · rintro (⟨q1, q2⟩ | rfl)
        · exact ⟨by omega, q2⟩
        · exact ⟨by omega, r⟩
      · rintro ⟨q1, q2⟩
        by_cases e : k = c
        · exact Or.inr e
        · exact Or.inl ⟨by omega, q2⟩
    · rw [if_neg r, show f_X12_truth 0 = 0 from rfl, show zshl 0 (c : Int) = 0 by unfold zshl; rw [show zi 0 = 0 from rfl]; simp, zor_0 hm]
      refine Ret_some ⟨_, rfl, m, by simp, hm, fun k => ?_⟩
      rw [hk]
      constructor
      · rintro ⟨q1, q2⟩; exact ⟨by omega, q2⟩
      · rintro ⟨q1, q2⟩
        by_cases e : k = c
        · rw [e] at q2; exact absurd q2 r
        · exact ⟨by omega, q2⟩
  · obtain ⟨m, rfl, hm, hk⟩ := hI
    dsimp only
    rw [if_neg (by rw [h39]; omega)]
    refine Ret_some ⟨_, rfl, ?_⟩
    have ho : Over (sgO O) n m x := ⟨hm, fun k q => (hk k).mp q⟩
    obtain ⟨b, e1, b1⟩ := rf_below (up := up) hg h39 ho hx hup
    rw [e1, isBl_uni b1 (blN_is hg ho (fun k a b => (hk k).mpr ⟨a, b⟩) n (Nat.le_refl _))]
/-- the rows of what was told, as both sides hold them -/
def Tol (S : Sst) (O : Smo) (ns : Nat) : Prop := S.1 254 = rg ns (O 298) ∧ S.1 256 = rg ns (O 301) ∧ S.1 258 = rg ns (O 299) ∧ S.1 260 = rg ns (O 300) ∧ ns ≤ 30 ∧ O 262 73 = (ns : Int) ∧ ∀ i, i < ns → (O 301 i = 0 ∨ O 301 i = 1) ∧ (O 300 i = -1 ∨ 0 ≤ O 300 i)
theorem cl_agrees (hT : Tol S O ns) (t b : Int) : f_X9_agrees b t S = some (if agF O t b ns = true then 1 else 0) := by
  obtain ⟨t1, t2, t3, t4, t5, t6, t9⟩ := hT
  unfold f_X9_agrees
  refine Ret_eq (Ret_bind (P := fun z => z = if agF O t b ns = true then Sum.inr () else Sum.inl ()) (Ret_lpm (fun q => ∃ c : Nat, q = (c : Int) ∧ c ≤ ns ∧ agF O t b c = true) (fun q => 31 - q.toNat) ⟨0, rfl, by omega, rfl⟩ (by decide) (fun q hI => ?_)) (fun z hz => ?_))
  · obtain ⟨c, rfl, hc, hA⟩ := hI
    dsimp only [jn]
    rw [size_rg t1]
    by_cases e : c < ns
    · have h9 := t9 c e
      have hs := agF_s O t b c
      have hok : okI O t b c = true ↔ (t < O 299 c ∨ (0 ≤ O 300 c ∧ O 300 c ≤ t) ∨ (O 298 c = b ↔ O 301 c = 1)) := by
        unfold okI
        simp only [Bool.or_eq_true, Bool.and_eq_true, decide_eq_true_iff, beq_iff_eq, decide_eq_decide, or_assoc]
      have hcn : f_X9_counts (c : Int) t S = 0 ↔ (t < O 299 c ∨ (0 ≤ O 300 c ∧ O 300 c ≤ t)) := by
        unfold f_X9_counts
        dsimp only [jn, jk]
        rw [at_nat t4 e, at_nat t3 e]
        by_cases a1 : t < O 299 c
        · rw [if_pos a1]; simp [a1]
        · rw [if_neg a1]
          by_cases a2 : O 300 c = -1 ∨ t < O 300 c
          · rw [if_pos a2]; constructor <;> omega
          · rw [if_neg a2]; constructor <;> omega
      rw [if_pos (by omega), at_nat t1 e, at_nat t2 e, wr_id (by omega) (by omega)]
      by_cases o : okI O t b c = true
      · rw [if_pos]
        · refine Ret_some (Or.inl ⟨_, rfl, ⟨c + 1, by simp, by omega, by rw [hs, hA, o]; rfl⟩, by omega⟩)
        · rcases hok.mp o with a | a | a
          · exact Or.inl (hcn.mpr (Or.inl a))
          · exact Or.inl (hcn.mpr (Or.inr a))
          · right
            by_cases e1 : O 298 c = b
            · rw [if_pos e1, if_pos (a.mp e1)]; decide
            · rw [if_neg e1, if_neg (fun q => e1 (a.mpr q))]; decide
      · rw [if_neg]
        · refine Ret_some (Or.inr ⟨_, rfl, ?_⟩)
          have hf : agF O t b ns = false := by
            unfold agF
            rw [List.all_eq_false]
            exact ⟨c, by simp [e], o⟩
          rw [hf, if_neg (by decide)]
        · rintro (a | a)
          · exact o (hok.mpr (by have := hcn.mp a; omega))
          · refine o (hok.mpr (Or.inr (Or.inr ?_)))
            by_cases e1 : O 298 c = b <;> by_cases e2 : O 301 c = 1
            · exact ⟨fun _ => e2, fun _ => e1⟩
            · rw [if_pos e1, if_neg e2] at a; exact absurd rfl a
            · rw [if_neg e1, if_pos e2] at a; exact absurd rfl a
            · exact ⟨fun q => absurd q e1, fun q => absurd q e2⟩
    · have : c = ns := by omega
      subst this
      rw [if_neg (by omega), hA, if_pos rfl]
      exact Ret_some (Or.inr ⟨_, rfl, rfl⟩)
  · subst hz
    split
    · exact Ret_some rfl
    · exact Ret_some rfl
theorem rf_agrees {k : Nat} {t b : Int} (t5 : ns ≤ 30) (t6 : O 262 73 = (ns : Int)) (t9 : ∀ i, i < ns → (O 301 i = 0 ∨ O 301 i = 1) ∧ (O 300 i = -1 ∨ 0 ≤ O 300 i)) (hk : k < 61) (hb : O 302 k = b) : lp (fun (s10410 : Int × Int) =>
        if s10410.2 < O 262 73 then
          (Option.bind (
            if s10410.1 = 0 then
              (some 0)
            else
              (Option.bind (aget (O 299) (Ln 299) s10410.2) fun (v10423 : Int) =>
              jk (fun (q10425 : Unit) =>
                some 1) fun k10427 =>
              if t < v10423 then
                (k10427 ())
              else
                (Option.bind (aget (O 300) (Ln 300) s10410.2) fun (v10430 : Int) =>
                jk (fun (q10432 : Unit) =>
                  Option.bind (aget (O 302) (Ln 302) (k : Int)) fun (v10440 : Int) =>
                  Option.bind (aget (O 298) (Ln 298) s10410.2) fun (v10442 : Int) =>
                  jn (
                    if v10440 = v10442 then
                      (1)
                    else
                      (0)) fun (q10444 : Int) =>
                  Option.bind (aget (O 301) (Ln 301) s10410.2) fun (v10449 : Int) =>
                  if q10444 = v10449 then
                    (k10427 ())
                  else
                    (some 0)) fun k10434 =>
                if v10430 < 0 then
                  (k10434 ())
                else
                  (Option.bind (aget (O 300) (Ln 300) s10410.2) fun (v10437 : Int) =>
                  if t < v10437 then
                    (k10434 ())
                  else
                    (k10427 ()))))) fun (q10418 : Int) =>
          some (Sum.inl (q10418, wr (s10410.2 + 1))))
        else
          (some (Sum.inr s10410.1))) FU (1, 0) = some (if agF O t b ns = true then 1 else 0) := by
  refine Ret_eq (Ret_lp (fun c q => q = (if agF O t b c = true then 1 else 0, (c : Int))) ns (by omega) rfl (fun c q hc hI => ?_) (fun q hI => ?_))
  · subst hI
    have h9 := t9 c hc
    have hs := agF_s O t b c
    have hok : okI O t b c = true ↔ (t < O 299 c ∨ (0 ≤ O 300 c ∧ O 300 c ≤ t) ∨ (O 298 c = b ↔ O 301 c = 1)) := by
      unfold okI
      simp only [Bool.or_eq_true, Bool.and_eq_true, decide_eq_true_iff, beq_iff_eq, decide_eq_decide, or_assoc]
    dsimp only [jn, jk]
    rw [if_pos (by rw [t6]; omega), wr_id (by omega) (by omega)]
    by_cases hA : agF O t b c = true
    · rw [hA] at hs ⊢
      rw [if_pos rfl, if_neg (show ¬ (1 : Int) = 0 by decide), Ln299, Ln300, Ln301, Ln298, Ln302, aget_nat (show c < 30 by omega), aget_nat (show c < 30 by omega), aget_nat (show c < 30 by omega), aget_nat (show c < 30 by omega), aget_nat hk, hb]
      dsimp only [Option.bind_some]
      have cmp : (if (if b = O 298 c then (1 : Int) else 0) = O 301 c then some (1 : Int) else some 0) = some (if decide (O 298 c = b) == decide (O 301 c = 1) then 1 else 0) := by
        by_cases e1 : b = O 298 c <;> rcases h9.1 with e2 | e2 <;> rw [e2]
        · simp [e1]
        · simp [e1]
        · have e3 : ¬ O 298 c = b := fun q => e1 q.symm
          simp [e1, e3]
        · have e3 : ¬ O 298 c = b := fun q => e1 q.symm
          simp [e1, e3]
      rw [cmp]
      have fin : ∀ z : Int, z = (if okI O t b c = true then 1 else 0) → Ret (Option.bind (some z) fun (q10418 : Int) => some (Sum.inl (β := Int) (q10418, (c : Int) + 1))) (fun q => ∃ s', q = Sum.inl s' ∧ s' = (if agF O t b (c + 1) = true then 1 else 0, ((c + 1 : Nat) : Int))) := fun z hz => by
        refine Ret_some ⟨_, rfl, ?_⟩
        rw [hz, hs, Bool.true_and]
        simp
      by_cases a1 : t < O 299 c
      · rw [if_pos a1]
        exact fin 1 (by rw [if_pos (hok.mpr (Or.inl a1))])
      · rw [if_neg a1]
        by_cases a2 : O 300 c < 0
        · rw [if_pos a2]
          refine fin _ ?_
          have : okI O t b c = (decide (O 298 c = b) == decide (O 301 c = 1)) := by
            unfold okI
            rw [decide_eq_false a1, decide_eq_false (show ¬ 0 ≤ O 300 c by omega)]
            simp
          rw [this]
        · rw [if_neg a2]
          by_cases a3 : t < O 300 c
          · rw [if_pos a3]
            refine fin _ ?_
            have : okI O t b c = (decide (O 298 c = b) == decide (O 301 c = 1)) := by
              unfold okI
              rw [decide_eq_false a1, decide_eq_false (show ¬ O 300 c ≤ t by omega)]
              simp
            rw [this]
          · rw [if_neg a3]
            exact fin 1 (by rw [if_pos (hok.mpr (Or.inr (Or.inl (by omega))))])
    · rw [if_neg hA, if_pos rfl]
      refine Ret_some ⟨_, rfl, ?_⟩
      rw [hs, show agF O t b c = false by simpa using hA]
      simp
  · subst hI
    dsimp only
    rw [if_neg (by rw [t6]; omega)]
    exact Ret_some ⟨_, rfl, rfl⟩
end TOLD
