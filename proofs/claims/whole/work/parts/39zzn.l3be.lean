/-! LEVEL 3, be: the reference lays the map -/
theorem rf_cp1 {O : Smo} {n : Nat} (h17 : O 262 17 = (n : Int)) (hn : n ≤ 320) : Ret (lp (fun (s6842 : Int × Smo) =>
      if s6842.1 < s6842.2 262 17 then
        (Option.bind (aget (s6842.2 264) (Ln 264) s6842.1) fun (v6850 : Int) =>
        Option.bind (asetO s6842.2 266 (Ln 266) s6842.1 v6850) fun (O6852 : Smo) =>
        Option.bind (aget (O6852 265) (Ln 265) s6842.1) fun (v6853 : Int) =>
        Option.bind (asetO O6852 267 (Ln 267) s6842.1 v6853) fun (O6855 : Smo) =>
        some (Sum.inl (wr (s6842.1 + 1), O6855)))
      else
        (some (Sum.inr s6842.2))) FU (0, O)) (fun r => (∀ k, k ≠ 266 → k ≠ 267 → r k = O k) ∧ ∀ i, i < n → r 266 i = O 264 i ∧ r 267 i = O 265 i) := by
  refine Ret_lp (fun i q => q.1 = (i : Int) ∧ (∀ k, k ≠ 266 → k ≠ 267 → q.2 k = O k) ∧ ∀ j, j < i → q.2 266 j = O 264 j ∧ q.2 267 j = O 265 j) n (by omega) ⟨rfl, fun _ _ _ => rfl, fun j hj => by omega⟩ (fun i q hi hI => ?_) (fun q hI => ?_)
  · obtain ⟨z, O1⟩ := q
    obtain ⟨rfl, i1, i2⟩ := hI
    dsimp only at *
    rw [if_pos (c := (i : Int) < O1 262 17) (by rw [i1 262 (by decide) (by decide), h17]; omega), Ln264, aget_nat (show i < 320 by omega)]
    dsimp only [Option.bind_some]
    rw [Ln266, aset_nat (show i < 320 by omega)]
    dsimp only [Option.bind_some]
    rw [Ln265, aget_nat (show i < 320 by omega)]
    dsimp only [Option.bind_some]
    rw [Ln267, aset_nat (show i < 320 by omega)]
    dsimp only [Option.bind_some]
    rw [wr_id (by omega) (by omega)]
    refine Ret_some ⟨_, rfl, by simp, fun k a b => ?_, fun j hj => ?_⟩
    · dsimp only
      rw [up2_row b, up2_row a, i1 k a b]
    · dsimp only
      by_cases e : j = i
      · subst e
        rw [up2_ne (Or.inl (by decide)), up2_same, up2_same, up2_row (by decide), i1 264 (by decide) (by decide), i1 265 (by decide) (by decide)]
        exact ⟨rfl, rfl⟩
      · rw [up2_ne (Or.inl (by decide)), up2_ne (Or.inr e), up2_ne (Or.inr e), up2_ne (Or.inl (by decide))]
        exact i2 j (by omega)
  · obtain ⟨z, O1⟩ := q
    obtain ⟨rfl, i1, i2⟩ := hI
    dsimp only at *
    rw [if_neg (c := (n : Int) < O1 262 17) (by rw [i1 262 (by decide) (by decide), h17]; omega)]
    exact Ret_some ⟨_, rfl, i1, i2⟩
theorem rf_cp2 {O : Smo} {n : Nat} (h39 : O 262 39 = (n : Int)) (hn : n ≤ 8) : Ret (lp (fun (s6858 : Int × Smo) =>
      if s6858.1 < s6858.2 262 39 then
        (Option.bind (aget (s6858.2 272) (Ln 272) s6858.1) fun (v6866 : Int) =>
        Option.bind (asetO s6858.2 276 (Ln 276) s6858.1 v6866) fun (O6868 : Smo) =>
        Option.bind (aget (O6868 273) (Ln 273) s6858.1) fun (v6869 : Int) =>
        Option.bind (asetO O6868 277 (Ln 277) s6858.1 v6869) fun (O6871 : Smo) =>
        Option.bind (aget (O6871 274) (Ln 274) s6858.1) fun (v6872 : Int) =>
        Option.bind (asetO O6871 278 (Ln 278) s6858.1 v6872) fun (O6874 : Smo) =>
        Option.bind (aget (O6874 275) (Ln 275) s6858.1) fun (v6875 : Int) =>
        Option.bind (asetO O6874 279 (Ln 279) s6858.1 v6875) fun (O6877 : Smo) =>
        some (Sum.inl (wr (s6858.1 + 1), O6877)))
      else
        (some (Sum.inr s6858.2))) FU (0, O)) (fun r => (∀ k, k ∉ [276, 277, 278, 279] → r k = O k) ∧ ∀ i, i < n → r 276 i = O 272 i ∧ r 277 i = O 273 i ∧ r 278 i = O 274 i ∧ r 279 i = O 275 i) := by
  refine Ret_lp (fun i q => q.1 = (i : Int) ∧ (∀ k, k ∉ [276, 277, 278, 279] → q.2 k = O k) ∧ ∀ j, j < i → q.2 276 j = O 272 j ∧ q.2 277 j = O 273 j ∧ q.2 278 j = O 274 j ∧ q.2 279 j = O 275 j) n (by omega) ⟨rfl, fun _ _ => rfl, fun j hj => by omega⟩ (fun i q hi hI => ?_) (fun q hI => ?_)
  · obtain ⟨z, O1⟩ := q
    obtain ⟨rfl, i1, i2⟩ := hI
    dsimp only at *
    rw [if_pos (c := (i : Int) < O1 262 39) (by rw [i1 262 (by decide), h39]; omega), Ln272, aget_nat (show i < 8 by omega)]
    dsimp only [Option.bind_some]
    rw [Ln276, aset_nat (show i < 8 by omega)]
    dsimp only [Option.bind_some]
    rw [Ln273, aget_nat (show i < 8 by omega)]
    dsimp only [Option.bind_some]
    rw [Ln277, aset_nat (show i < 8 by omega)]
    dsimp only [Option.bind_some]
    rw [Ln274, aget_nat (show i < 8 by omega)]
    dsimp only [Option.bind_some]
    rw [Ln278, aset_nat (show i < 8 by omega)]
    dsimp only [Option.bind_some]
    rw [Ln275, aget_nat (show i < 8 by omega)]
    dsimp only [Option.bind_some]
    rw [Ln279, aset_nat (show i < 8 by omega)]
    dsimp only [Option.bind_some]
    rw [wr_id (by omega) (by omega)]
    refine Ret_some ⟨_, rfl, by simp, fun k a => ?_, fun j hj => ?_⟩
    · have a' := a
      simp at a'
      dsimp only
      rw [up2_row (by omega), up2_row (by omega), up2_row (by omega), up2_row (by omega), i1 k a]
    · dsimp only
      by_cases e : j = i
      · subst e
        refine ⟨?_, ?_, ?_, ?_⟩
        · rw [up2_ne (Or.inl (by decide)), up2_ne (Or.inl (by decide)), up2_ne (Or.inl (by decide)), up2_same, i1 272 (by decide)]
        · rw [up2_ne (Or.inl (by decide)), up2_ne (Or.inl (by decide)), up2_same, up2_row (by decide), i1 273 (by decide)]
        · rw [up2_ne (Or.inl (by decide)), up2_same, up2_row (by decide), up2_row (by decide), i1 274 (by decide)]
        · rw [up2_same, up2_row (by decide), up2_row (by decide), up2_row (by decide), i1 275 (by decide)]
      · obtain ⟨a, b, c, d⟩ := i2 j (by omega)
        refine ⟨?_, ?_, ?_, ?_⟩
        · rw [up2_ne (Or.inl (by decide)), up2_ne (Or.inl (by decide)), up2_ne (Or.inl (by decide)), up2_ne (Or.inr e)]; exact a
        · rw [up2_ne (Or.inl (by decide)), up2_ne (Or.inl (by decide)), up2_ne (Or.inr e), up2_ne (Or.inl (by decide))]; exact b
        · rw [up2_ne (Or.inl (by decide)), up2_ne (Or.inr e), up2_ne (Or.inl (by decide)), up2_ne (Or.inl (by decide))]; exact c
        · rw [up2_ne (Or.inr e), up2_ne (Or.inl (by decide)), up2_ne (Or.inl (by decide)), up2_ne (Or.inl (by decide))]; exact d
  · obtain ⟨z, O1⟩ := q
    obtain ⟨rfl, i1, i2⟩ := hI
    dsimp only at *
    rw [if_neg (c := (n : Int) < O1 262 39) (by rw [i1 262 (by decide), h39]; omega)]
    exact Ret_some ⟨_, rfl, i1, i2⟩
theorem rf_wts {O : Smo} {n : Nat} {rs : List Nat} {seed : Int} (h39 : O 262 39 = (n : Int)) (hn : n ≤ 8) (hb : ∀ i, i < n → SegB (sgO O) i) (h41 : O 262 41 = seed) (hF : (O 262 24 = 0 ∧ rs = [113]) ∨ (O 262 24 = 1 ∧ O 262 17 = (rs.length : Int) ∧ RSt (O 266) dcA rs ∧ RSt (O 267) dcB rs ∧ wfR rs 1 ∧ rs.length ≤ 300)) : Ret (lp (fun (s6880 : Int × Smo) =>
      if s6880.1 < s6880.2 262 39 then
        (Option.bind (f_X12_weightOf s6880.1 s6880.2) fun (q6889 : Int × Smo) =>
        Option.bind (asetO q6889.2 280 (Ln 280) s6880.1 q6889.1) fun (O6891 : Smo) =>
        some (Sum.inl (wr (s6880.1 + 1), O6891)))
      else
        (some (Sum.inr s6880.2))) FU (0, O)) (fun r => (∀ k, k ∉ [269, 270, 280] → r k = O k) ∧ ∀ i, i < n → r 280 i = wtF (sgO O) seed rs i) := by
  refine Ret_lp (fun i q => q.1 = (i : Int) ∧ (∀ k, k ∉ [269, 270, 280] → q.2 k = O k) ∧ ∀ j, j < i → q.2 280 j = wtF (sgO O) seed rs j) n (by omega) ⟨rfl, fun _ _ => rfl, fun j hj => by omega⟩ (fun i q hi hI => ?_) (fun q hI => ?_)
  · obtain ⟨z, O1⟩ := q
    obtain ⟨rfl, i1, i2⟩ := hI
    dsimp only at *
    have hsg : sgO O1 = sgO O := by
      unfold sgO
      rw [i1 276 (by decide), i1 277 (by decide), i1 278 (by decide), i1 279 (by decide)]
    obtain ⟨⟨x, O2⟩, e, e1, e2⟩ := rf_weight (O := O1) (s := i) (rs := rs) (seed := seed) (by omega) (by rw [hsg]; exact hb i hi) (by rw [i1 262 (by decide)]; exact h41) (by rw [i1 262 (by decide), i1 266 (by decide), i1 267 (by decide)]; exact hF)
    dsimp only at e1 e2
    rw [hsg] at e1
    rw [if_pos (c := (i : Int) < O1 262 39) (by rw [i1 262 (by decide), h39]; omega), e]
    dsimp only [Option.bind_some]
    rw [Ln280, aset_nat (show i < 8 by omega)]
    dsimp only [Option.bind_some]
    rw [wr_id (by omega) (by omega)]
    refine Ret_some ⟨_, rfl, by simp, fun k a => ?_, fun j hj => ?_⟩
    · have a' := a
      simp at a'
      dsimp only
      rw [up2_row (by omega), e2 k (by omega) (by omega), i1 k a]
    · dsimp only
      by_cases w : j = i
      · subst w
        rw [up2_same, e1]
        rfl
      · rw [up2_ne (Or.inr w), e2 280 (by decide) (by decide)]
        exact i2 j (by omega)
  · obtain ⟨z, O1⟩ := q
    obtain ⟨rfl, i1, i2⟩ := hI
    dsimp only at *
    rw [if_neg (c := (n : Int) < O1 262 39) (by rw [i1 262 (by decide), h39]; omega)]
    exact Ret_some ⟨_, rfl, i1, i2⟩
theorem rf_isEv {O : Smo} {n x : Nat} (h39 : O 262 39 = (n : Int)) (hn : n ≤ 8) : lp (fun (s6424 : Int × Int) =>
        if s6424.2 < O 262 39 then
          (Option.bind (
            if s6424.1 = 0 then
              (Option.bind (aget (O 276) (Ln 276) s6424.2) fun (v6437 : Int) =>
              jk (fun (q6439 : Unit) =>
                some 1) fun k6441 =>
              if v6437 = (x : Int) then
                (k6441 ())
              else
                (Option.bind (aget (O 278) (Ln 278) s6424.2) fun (v6444 : Int) =>
                if v6444 = (x : Int) then
                  (k6441 ())
                else
                  (some 0)))
            else
              (some 1)) fun (q6432 : Int) =>
          some (Sum.inl (q6432, wr (s6424.2 + 1))))
        else
          (some (Sum.inr s6424.1))) FU (0, 0) = some (if isEv (sgO O) n x = true then 1 else 0) := by
  have hs : ∀ i, isEv (sgO O) (i + 1) x = true ↔ (isEv (sgO O) i x = true ∨ (O 276 i = (x : Int) ∨ O 278 i = (x : Int))) := fun i => by
    rw [isEv_i, isEv_i]
    constructor
    · rintro ⟨k, a, b⟩
      by_cases e : k = i
      · subst e; exact Or.inr b
      · exact Or.inl ⟨k, by omega, b⟩
    · rintro (⟨k, a, b⟩ | b)
      · exact ⟨k, by omega, b⟩
      · exact ⟨i, by omega, b⟩
  refine Ret_eq (Ret_lp (fun i q => q = ((if isEv (sgO O) i x = true then 1 else 0), (i : Int))) n (by omega) rfl (fun i q hi hI => ?_) (fun q hI => ?_))
  · subst hI
    dsimp only [jk]
    rw [if_pos (c := (i : Int) < O 262 39) (by rw [h39]; omega), wr_id (by omega) (by omega)]
    have fin : isEv (sgO O) (i + 1) x = true → ∀ r : Int, r = 1 → Ret (some (Sum.inl (β := Int) (r, (i : Int) + 1))) (fun q => ∃ s', q = Sum.inl s' ∧ s' = ((if isEv (sgO O) (i + 1) x = true then 1 else 0), ((i + 1 : Nat) : Int))) := fun h r hr => Ret_some ⟨_, rfl, by rw [if_pos h, hr]; simp⟩
    by_cases c : isEv (sgO O) i x = true
    · rw [if_pos c, if_neg (show ¬ (1 : Int) = 0 by decide)]
      exact fin ((hs i).mpr (Or.inl c)) 1 rfl
    · rw [if_neg c, if_pos rfl, Ln276, aget_nat (show i < 8 by omega)]
      dsimp only [Option.bind_some]
      by_cases a : O 276 i = (x : Int)
      · rw [if_pos a]
        exact fin ((hs i).mpr (Or.inr (Or.inl a))) 1 rfl
      · rw [if_neg a, Ln278, aget_nat (show i < 8 by omega)]
        dsimp only [Option.bind_some]
        by_cases b : O 278 i = (x : Int)
        · rw [if_pos b]
          exact fin ((hs i).mpr (Or.inr (Or.inr b))) 1 rfl
        · rw [if_neg b]
          refine Ret_some ⟨_, rfl, ?_⟩
          rw [if_neg (fun w => ((hs i).mp w).elim c (fun z => z.elim a b))]
          simp
  · subst hI
    dsimp only
    rw [if_neg (c := (n : Int) < O 262 39) (by rw [h39]; omega)]
    exact Ret_some ⟨_, rfl, rfl⟩
theorem rf_evs {O : Smo} {n : Nat} (h39 : O 262 39 = (n : Int)) (hn : n ≤ 8) : Ret (f_X12_layEvents O) (fun r => (∀ k, k ≠ 262 → k ≠ 281 → r k = O k) ∧ (∀ j, j ≠ 45 → r 262 j = O 262 j) ∧ r 262 45 = ((evT (sgO O) n 61).length : Int) ∧ ∀ i, i < (evT (sgO O) n 61).length → r 281 i = (((evT (sgO O) n 61).getD i 0 : Nat) : Int)) := by
  unfold f_X12_layEvents
  dsimp only [jn]
  refine Ret_bind (Ret_lp (fun x q => q.1 = (x : Int) ∧ (∀ k, k ≠ 262 → k ≠ 281 → q.2 k = O k) ∧ (∀ j, j ≠ 45 → q.2 262 j = O 262 j) ∧ q.2 262 45 = ((evT (sgO O) n x).length : Int) ∧ ∀ i, i < (evT (sgO O) n x).length → q.2 281 i = (((evT (sgO O) n x).getD i 0 : Nat) : Int)) 61 (by decide) ⟨rfl, fun k a b => up2_row a, fun j a => up2_ne (Or.inr a), up2_same O 262 45 0, fun i hi => absurd hi (Nat.not_lt_zero i)⟩ (fun x q hx hI => ?_) (fun q hI => ?_)) (fun r hr => Ret_some hr)
  · obtain ⟨z, O1⟩ := q
    obtain ⟨rfl, i1, i2, i3, i4⟩ := hI
    dsimp only at *
    have hsg : sgO O1 = sgO O := by
      unfold sgO
      rw [i1 276 (by decide) (by decide), i1 277 (by decide) (by decide), i1 278 (by decide) (by decide), i1 279 (by decide) (by decide)]
    have hE := rf_isEv (O := O1) (n := n) (x := x) (by rw [i2 39 (by decide)]; exact h39) hn
    rw [if_neg (by omega), hE, hsg]
    dsimp only [Option.bind_some]
    rw [wr_id (by omega) (by omega)]
    have hlx := evT_len (g := sgO O) hn (x + 1)
    unfold evT at hlx
    rw [show evT (sgO O) n (x + 1) = if isEv (sgO O) n x = true then evT (sgO O) n x ++ [x] else evT (sgO O) n x from rfl]
    by_cases q : isEv (sgO O) n x = true
    · rw [if_pos q, List.length_append] at hlx
      simp only [List.length_singleton] at hlx
      rw [if_pos q, if_pos q, if_neg (show ¬ (1 : Int) = 0 by decide), i3, Ln281, aset_nat (by omega)]
      dsimp only [Option.bind_some]
      rw [up2_ne (Or.inl (by decide)), i3, wr_id (by omega) (by omega)]
      refine Ret_some ⟨_, rfl, by simp, fun k a b => ?_, fun j a => ?_, ?_, fun i hi => ?_⟩
      · dsimp only
        rw [up2_row a, up2_row b, i1 k a b]
      · dsimp only
        rw [up2_ne (Or.inr a), up2_ne (Or.inl (by decide)), i2 j a]
      · dsimp only
        rw [up2_same, List.length_append]
        simp
      · rw [List.length_append] at hi
        simp only [List.length_singleton] at hi
        dsimp only
        rw [up2_row (by decide), up2_self]
        dsimp only
        by_cases e : i = (evT (sgO O) n x).length
        · rw [if_pos e, e]
          simp
        · rw [if_neg e, i4 i (by omega)]
          rw [List.getD_eq_getElem?_getD, List.getD_eq_getElem?_getD, List.getElem?_append_left (by omega)]
    · rw [if_neg q, if_neg q, if_pos rfl]
      dsimp only [Option.bind_some]
      exact Ret_some ⟨_, rfl, by simp, i1, i2, i3, i4⟩
  · obtain ⟨z, O1⟩ := q
    obtain ⟨rfl, i1, i2, i3, i4⟩ := hI
    dsimp only at *
    rw [if_pos (by omega)]
    exact Ret_some ⟨_, rfl, i1, i2, i3, i4⟩
theorem rf_zero {O : Smo} {k n m : Nat} (hn : n ≤ m) (hm : m ≤ 100000) (hL : Ln k = m) : Ret (lp (fun (s6900 : Int × Smo) =>
      if s6900.1 < (n : Int) then
        (Option.bind (asetO s6900.2 k (Ln k) s6900.1 0) fun (O6907 : Smo) =>
        some (Sum.inl (wr (s6900.1 + 1), O6907)))
      else
        (some (Sum.inr s6900.2))) FU (0, O)) (fun r => (∀ q, q ≠ k → r q = O q) ∧ (∀ i, i < n → r k i = 0) ∧ ∀ i, n ≤ i → r k i = O k i) := by
  refine Ret_lp (fun i q => q.1 = (i : Int) ∧ (∀ p, p ≠ k → q.2 p = O p) ∧ (∀ j, j < i → q.2 k j = 0) ∧ ∀ j, i ≤ j → q.2 k j = O k j) n (by omega) ⟨rfl, fun _ _ => rfl, fun j hj => by omega, fun _ _ => rfl⟩ (fun i q hi hI => ?_) (fun q hI => ?_)
  · obtain ⟨z, O1⟩ := q
    obtain ⟨rfl, i1, i2, i3⟩ := hI
    dsimp only at *
    rw [if_pos (by omega), hL, aset_nat (show i < m by omega)]
    dsimp only [Option.bind_some]
    rw [wr_id (by omega) (by omega)]
    refine Ret_some ⟨_, rfl, by simp, fun p a => ?_, fun j hj => ?_, fun j hj => ?_⟩
    · dsimp only
      rw [up2_row a, i1 p a]
    · dsimp only
      by_cases e : j = i
      · subst e; exact up2_same _ _ _ _
      · rw [up2_ne (Or.inr e)]; exact i2 j (by omega)
    · dsimp only
      rw [up2_ne (Or.inr (by omega))]
      exact i3 j (by omega)
  · obtain ⟨z, O1⟩ := q
    obtain ⟨rfl, i1, i2, i3⟩ := hI
    dsimp only at *
    rw [if_neg (by omega)]
    exact Ret_some ⟨_, rfl, i1, i2, i3⟩
