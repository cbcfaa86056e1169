/-! LEVEL 3, bd: events, and the class's settle -/
def isEv (g : Sg) (c x : Nat) : Bool := (List.range c).any (fun k => decide (sga g k = (x : Int)) || decide (sgb g k = (x : Int)))
def evT (g : Sg) (c : Nat) : Nat → List Nat
  | 0 => []
  | x + 1 => if isEv g c x = true then evT g c x ++ [x] else evT g c x
theorem isEv_i {g : Sg} {c x : Nat} : isEv g c x = true ↔ ∃ k, k < c ∧ (sga g k = (x : Int) ∨ sgb g k = (x : Int)) := by
  unfold isEv
  simp
theorem evT_mem {g : Sg} {c : Nat} : ∀ (x y : Nat), y ∈ evT g c x ↔ y < x ∧ isEv g c y = true
  | 0, y => by simp [evT]
  | x + 1, y => by
    have ih := evT_mem (g := g) (c := c) x y
    unfold evT
    by_cases q : isEv g c x = true
    · rw [if_pos q, List.mem_append, List.mem_singleton, ih]
      constructor
      · rintro (⟨a, b⟩ | rfl)
        · exact ⟨by omega, b⟩
        · exact ⟨by omega, q⟩
      · rintro ⟨a, b⟩
        by_cases e : y = x
        · exact Or.inr e
        · exact Or.inl ⟨by omega, b⟩
    · rw [if_neg q, ih]
      constructor
      · rintro ⟨a, b⟩
        exact ⟨by omega, b⟩
      · rintro ⟨a, b⟩
        by_cases e : y = x
        · exact absurd (e ▸ b) q
        · exact ⟨by omega, b⟩
theorem evT_srt {g : Sg} {c : Nat} : ∀ x, (evT g c x).Pairwise (· < ·)
  | 0 => List.Pairwise.nil
  | x + 1 => by
    unfold evT
    by_cases q : isEv g c x = true
    · rw [if_pos q, List.pairwise_append]
      refine ⟨evT_srt x, List.pairwise_singleton _ _, fun a ha b hb => ?_⟩
      rw [List.mem_singleton.mp hb]
      exact ((evT_mem x a).mp ha).1
    · rw [if_neg q]
      exact evT_srt x
theorem sm_nn {f : Nat → Int} : ∀ n, (∀ k, k < n → 0 ≤ f k) → 0 ≤ sm f n
  | 0, _ => Int.le_refl 0
  | n + 1, h => by
    rw [sm_s]
    have a := sm_nn n (fun k hk => h k (by omega))
    have b := h n (by omega)
    omega
theorem sm_ge {f : Nat → Int} {i : Nat} : ∀ n, i < n → (∀ k, k < n → 0 ≤ f k) → f i ≤ sm f n
  | 0, h, _ => by omega
  | n + 1, h, hf => by
    rw [sm_s]
    have a := sm_nn n (fun k hk => hf k (by omega))
    by_cases e : i = n
    · rw [e]; omega
    · have b := sm_ge (i := i) (f := f) n (by omega) (fun k hk => hf k (by omega))
      have d := hf n (by omega)
      omega
theorem evT_len1 {g : Sg} {c : Nat} : ∀ x, ((evT g c x).length : Int) ≤ sm (fun x => sm (fun k => (if sga g k = (x : Int) then 1 else 0) + (if sgb g k = (x : Int) then 1 else 0)) c) x
  | 0 => Int.le_refl 0
  | x + 1 => by
    have ih := evT_len1 (g := g) (c := c) x
    have hnn : ∀ k, k < c → (0 : Int) ≤ (if sga g k = (x : Int) then 1 else 0) + (if sgb g k = (x : Int) then 1 else 0) := fun k _ => by
      have a : (0 : Int) ≤ if sga g k = (x : Int) then 1 else 0 := by split <;> decide
      have b : (0 : Int) ≤ if sgb g k = (x : Int) then 1 else 0 := by split <;> decide
      omega
    rw [sm_s]
    unfold evT
    by_cases q : isEv g c x = true
    · rw [if_pos q, List.length_append]
      obtain ⟨k, hk, hh⟩ := isEv_i.mp q
      have hg := sm_ge (i := k) c hk hnn
      have h1 : (1 : Int) ≤ (if sga g k = (x : Int) then 1 else 0) + (if sgb g k = (x : Int) then 1 else 0) := by
        rcases hh with w | w
        · rw [if_pos w]
          have b : (0 : Int) ≤ if sgb g k = (x : Int) then 1 else 0 := by split <;> decide
          omega
        · rw [if_pos w]
          have b : (0 : Int) ≤ if sga g k = (x : Int) then 1 else 0 := by split <;> decide
          omega
      simp only [List.length_singleton]
      omega
    · rw [if_neg q]
      have := sm_nn c hnn
      omega
theorem evT_len {g : Sg} {c : Nat} (hc : c ≤ 8) (x : Nat) : (evT g c x).length ≤ 16 := by
  have h1 := evT_len1 (g := g) (c := c) x
  rw [sm_swap (fun x k => (if sga g k = (x : Int) then 1 else 0) + (if sgb g k = (x : Int) then 1 else 0)) c x] at h1
  have h2 := sm_bd (f := fun k => sm (fun i => (if sga g k = (i : Int) then (1 : Int) else 0) + (if sgb g k = (i : Int) then 1 else 0)) x) (b := 2) c (fun k _ => by
    rw [sm_add, sm_one, sm_one]
    have a : (0 : Int) ≤ (if 0 ≤ sga g k ∧ sga g k < x then 1 else 0) ∧ (if 0 ≤ sga g k ∧ sga g k < x then (1 : Int) else 0) ≤ 1 := by split <;> decide
    have b : (0 : Int) ≤ (if 0 ≤ sgb g k ∧ sgb g k < x then 1 else 0) ∧ (if 0 ≤ sgb g k ∧ sgb g k < x then (1 : Int) else 0) ≤ 1 := by split <;> decide
    omega)
  omega
theorem evT_ok {g : Sg} {c : Nat} (hg : OkSeg g c) {ev : Nat → Int} (he : ∀ i, i < (evT g c 61).length → ev i = (((evT g c 61).getD i 0 : Nat) : Int)) : EvOk g c (evT g c 61).length ev := by
  have hs := evT_srt (g := g) (c := c) 61
  have hm := fun y => evT_mem (g := g) (c := c) 61 y
  have hget : ∀ i, ∀ h : i < (evT g c 61).length, (evT g c 61).getD i 0 = (evT g c 61)[i]'h := fun i h => by simp [h]
  refine ⟨evT_len hg.1 61, fun i j hij hj => ?_, fun i hi => ?_, fun k hk => ?_⟩
  · rw [he i (by omega), he j hj, hget i (by omega), hget j hj]
    have := List.pairwise_iff_getElem.mp hs i j (by omega) hj hij
    omega
  · rw [he i hi, hget i hi]
    have := ((hm _).mp (List.getElem_mem hi)).1
    omega
  · obtain ⟨b1, b2, b3, _⟩ := hg.2.1 k hk
    have key : ∀ z : Int, 0 ≤ z → z ≤ 60 → (z = sga g k ∨ z = sgb g k) → ∃ e, e < (evT g c 61).length ∧ ev e = z := fun z z0 z1 hz => by
      obtain ⟨n, rfl⟩ : ∃ n : Nat, z = (n : Int) := ⟨z.toNat, by omega⟩
      have hin : n ∈ evT g c 61 := (hm n).mpr ⟨by omega, isEv_i.mpr ⟨k, hk, hz.imp Eq.symm Eq.symm⟩⟩
      obtain ⟨e, he1, he2⟩ := List.getElem_of_mem hin
      exact ⟨e, he1, by rw [he e he1, hget e he1, he2]⟩
    exact ⟨key _ (by omega) (by omega) (Or.inl rfl), key _ (by omega) (by omega) (Or.inr rfl)⟩
theorem cl_isEv {S : Sst} {g : Sg} {c x : Nat} (h : RPl 5 S g c) (hc : c ≤ 8) : f_X4_isEvent 5 (x : Int) S = some (if isEv g c x = true then 1 else 0) := by
  unfold f_X4_isEvent
  refine Ret_eq (Ret_bind (P := fun z => (z = Sum.inl () ∧ isEv g c x = true) ∨ (z = Sum.inr () ∧ ¬ isEv g c x = true)) (Ret_lpm (fun z => ∃ i : Nat, z = (i : Int) ∧ i ≤ c ∧ ∀ j, j < i → ¬ (sga g j = (x : Int) ∨ sgb g j = (x : Int))) (fun z => c - z.toNat) ⟨0, rfl, Nat.zero_le _, fun j hj => by omega⟩ (by omega) (fun z hz => ?_)) (fun z hz => ?_))
  · obtain ⟨i, rfl, hi, hj⟩ := hz
    rw [pl_count h]
    by_cases e : i = c
    · rw [if_neg (by omega)]
      refine Ret_some (Or.inr ⟨_, rfl, Or.inr ⟨rfl, fun w => ?_⟩⟩)
      obtain ⟨k, hk, hh⟩ := isEv_i.mp w
      exact hj k (by omega) hh
    · have hic : i < c := by omega
      rw [if_pos (by omega), at_nat h.1 hic, at_nat h.2.2.1 hic]
      by_cases w : sga g i = (x : Int) ∨ sgb g i = (x : Int)
      · rw [if_pos w]
        exact Ret_some (Or.inr ⟨_, rfl, Or.inl ⟨rfl, isEv_i.mpr ⟨i, hic, w⟩⟩⟩)
      · rw [if_neg w, wr_id (by omega) (by omega)]
        refine Ret_some (Or.inl ⟨_, rfl, ⟨i + 1, by omega, by omega, fun j hj2 => ?_⟩, by omega⟩)
        by_cases e2 : j = i
        · rw [e2]; exact w
        · exact hj j (by omega)
  · rcases hz with ⟨rfl, w⟩ | ⟨rfl, w⟩
    · dsimp only [Sum.elim_inl]
      rw [if_pos w]
      exact Ret_some rfl
    · dsimp only [Sum.elim_inr]
      rw [if_neg w]
      exact Ret_some rfl
def wtF (g : Sg) (seed : Int) (rs : List Nat) (k : Nat) : Int := (evL (arC k (sga g k) (gW g k) (gR g k) (zrem (dwS seed (k + 1)) 100)) rs).headD 0
theorem RPl_rows {S S' : Sst} {g : Sg} {c : Nat} (h : RPl 5 S g c) (e : ∀ k, 6 ≤ k → k ≤ 16 → S'.1 k = S.1 k) : RPl 5 S' g c := by
  unfold RPl at *
  rw [e _ (by decide) (by decide), e _ (by decide) (by decide), e _ (by decide) (by decide), e _ (by decide) (by decide), e _ (by decide) (by decide), e _ (by decide) (by decide)]
  exact h
theorem cl_weigh {S : Sst} {g : Sg} {c : Nat} {rs : List Nat} {seed : Int} (h : RPl 5 S g c) (hc : c ≤ 8) (h20 : S.1 20 = []) (h25 : S.1 25 = stR rs) (hw : wfR rs 1) (hl : rs.length ≤ 300) (hs : S.2 5 12 = seed) : Ret (f_X4_weigh 5 S) (fun S' => S'.1 20 = rg c (wtF g seed rs) ∧ (∀ k, k ≠ 20 → k ≠ 27 → S'.1 k = S.1 k) ∧ S'.2 = S.2) := by
  unfold f_X4_weigh
  dsimp only [jn]
  rw [hs]
  refine Ret_bind (Ret_lp (fun i q => q.1 = dwS seed i ∧ q.2.1 = (i : Int) ∧ q.2.2.1 20 = rg i (wtF g seed rs) ∧ (∀ k, k ≠ 20 → k ≠ 27 → q.2.2.1 k = S.1 k) ∧ q.2.2.2 = S.2) c (by omega) ⟨rfl, rfl, by rw [h20]; rfl, fun _ _ _ => rfl, rfl⟩ (fun i q hi hI => ?_) (fun q hI => ?_)) (fun S' hS' => Ret_some hS')
  · obtain ⟨v, z, S1⟩ := q
    obtain ⟨rfl, rfl, i1, i2, i3⟩ := hI
    dsimp only at *
    have h1 := RPl_rows h (S' := S1) (fun k a b => i2 k (by omega) (by omega))
    obtain ⟨⟨x, S2⟩, e, x1, x2, x3⟩ := cl_value (S := S1) (rs := rs) (d := 1) (a1 := (i : Int)) (a2 := sga g i) (a3 := gW g i) (a4 := gR g i) (a5 := zrem (dwS seed (i + 1)) 100) (by rw [i2 25 (by decide) (by decide)]; exact h25) hw (by decide) hl (wfR_lt rs 1 hw)
    dsimp only at x1 x2 x3
    rw [pl_count h1, if_pos (by omega), at_nat h1.1 hi, at_nat h1.2.2.2.2.1 hi, at_nat h1.2.2.2.2.2 hi]
    rw [show zrem (wr ((wr (dwS seed i * 137)) + 71)) 1000 = dwS seed (i + 1) from rfl, show f_X1_valueFor (5 + 19) = f_X1_valueFor 24 from rfl, e]
    dsimp only [Option.bind_some]
    rw [wr_id (z := (i : Int) + 1) (by omega) (by omega), add_rg (q := 5 + 15) (n := i) (f := wtF g seed rs) (by rw [show 5 + 15 = 20 by rfl, x2 20 (by decide)]; exact i1) (by rw [show 5 + 15 + 1 = 21 by rfl, Ln21]; omega)]
    refine Ret_some ⟨_, rfl, rfl, by simp, ?_, fun k a b => ?_, ?_⟩
    · dsimp only
      rw [show (20 : Nat) = 5 + 15 from rfl, upR_at]
      refine rg_ext (fun k hk => ?_)
      by_cases w : k = i
      · rw [w, upd_same, x1]; rfl
      · rw [upd_ne w]
    · dsimp only
      rw [upR_ne _ _ (by omega), x2 k b, i2 k a b]
    · dsimp only
      show S2.2 = _
      rw [x3, i3]
  · obtain ⟨v, z, S1⟩ := q
    obtain ⟨rfl, rfl, i1, i2, i3⟩ := hI
    dsimp only at *
    have h1 := RPl_rows h (S' := S1) (fun k a b => i2 k (by omega) (by omega))
    rw [pl_count h1, if_neg (by omega)]
    exact Ret_some ⟨_, rfl, i1, i2, i3⟩
theorem cl_settle5 {S : Sst} {g : Sg} {c : Nat} {rs : List Nat} {seed : Int} (h : RPl 5 S g c) (hg : OkSeg g c) (h18 : S.1 18 = []) (h20 : S.1 20 = []) (h22 : S.1 22 = []) (h25 : S.1 25 = stR rs) (hw : wfR rs 1) (hl : rs.length ≤ 300) (hs : S.2 5 12 = seed) : Ret (f_X4_settle 5 S) (fun S' => ∃ lo : Nat → Nat, S'.1 18 = rg c (fun k => (lo k : Int)) ∧ (∀ k, k < c → lowB g c k (lo k)) ∧ S'.1 20 = rg c (wtF g seed rs) ∧ S'.1 22 = natL (evT g c 61) ∧ S'.2 5 10 = S.2 24 0 ∧ (∀ k, k ∉ [18, 20, 22, 27] → S'.1 k = S.1 k) ∧ ∀ k j, ¬ (k = 5 ∧ j = 10) → S'.2 k j = S.2 k j) := by
  have hc8 := hg.1
  unfold f_X4_settle
  dsimp only [jn]
  obtain ⟨S1, e1, w1, w2, w3⟩ := cl_weigh (S := upS S 5 10 (S.2 (5 + 19) 0)) (g := g) (c := c) (rs := rs) (seed := seed) h hc8 h20 h25 hw hl (by rw [upS_ne (Or.inr (by decide))]; exact hs)
  rw [e1]
  dsimp only [Option.bind_some]
  refine Ret_bind (P := fun S' => ∃ lo : Nat → Nat, S'.1 18 = rg c (fun k => (lo k : Int)) ∧ (∀ k, k < c → lowB g c k (lo k)) ∧ (∀ k, k ≠ 18 → S'.1 k = S1.1 k) ∧ S'.2 = S1.2) (Ret_lp (fun i q => q.1 = (i : Int) ∧ ∃ lo : Nat → Nat, q.2.1 18 = rg i (fun k => (lo k : Int)) ∧ (∀ k, k < i → lowB g c k (lo k)) ∧ (∀ k, k ≠ 18 → q.2.1 k = S1.1 k) ∧ q.2.2 = S1.2) c (by omega) ⟨rfl, fun _ => 0, by dsimp only; rw [w2 18 (by decide) (by decide)]; exact h18, fun k hk => by omega, fun _ _ => rfl, rfl⟩ (fun i q hi hI => ?_) (fun q hI => ?_)) (fun S2 hS2 => ?_)
  · obtain ⟨z, S2⟩ := q
    obtain ⟨rfl, lo, i1, i2, i3, i4⟩ := hI
    dsimp only at *
    have h2 := RPl_rows h (S' := S2) (fun k a b => by rw [i3 k (by omega), w2 k (by omega) (by omega)]; rfl)
    obtain ⟨r, e, m, rfl, hm⟩ := pl_lower h2 hc8 hg.2.1 hi
    rw [pl_count h2, if_pos (by omega), e]
    dsimp only [Option.bind_some]
    rw [wr_id (z := (i : Int) + 1) (by omega) (by omega), add_rg (q := 5 + 13) (n := i) (f := fun k => (lo k : Int)) i1 (by rw [show 5 + 13 + 1 = 19 by rfl, Ln19]; omega)]
    refine Ret_some ⟨_, rfl, by simp, fun k => if k = i then m else lo k, ?_, fun k hk => ?_, fun k hk => ?_, i4⟩
    · dsimp only
      rw [show (18 : Nat) = 5 + 13 from rfl, upR_at]
      refine rg_ext (fun k hk => ?_)
      by_cases w : k = i
      · rw [w, upd_same, if_pos rfl]
      · rw [upd_ne w, if_neg w]
    · dsimp only
      by_cases w : k = i
      · rw [if_pos w, w]; exact hm
      · rw [if_neg w]; exact i2 k (by omega)
    · dsimp only
      rw [upR_ne _ _ hk]
      exact i3 k hk
  · obtain ⟨z, S2⟩ := q
    obtain ⟨rfl, lo, i1, i2, i3, i4⟩ := hI
    dsimp only at *
    have h2 := RPl_rows h (S' := S2) (fun k a b => by rw [i3 k (by omega), w2 k (by omega) (by omega)]; rfl)
    rw [pl_count h2, if_neg (by omega)]
    exact Ret_some ⟨_, rfl, lo, i1, i2, i3, i4⟩
  · obtain ⟨lo, j1, j2, j3, j4⟩ := hS2
    refine Ret_bind (P := fun S' => S'.1 22 = natL (evT g c 61) ∧ (∀ k, k ≠ 22 → S'.1 k = S2.1 k) ∧ S'.2 = S2.2) (Ret_lp (fun x q => q.1 = (x : Int) ∧ q.2.1 22 = natL (evT g c x) ∧ (∀ k, k ≠ 22 → q.2.1 k = S2.1 k) ∧ q.2.2 = S2.2) 61 (by decide) ⟨rfl, by dsimp only; rw [j3 22 (by decide), w2 22 (by decide) (by decide)]; exact h22, fun _ _ => rfl, rfl⟩ (fun x q hx hI => ?_) (fun q hI => ?_)) (fun S3 hS3 => ?_)
    · obtain ⟨z, S3⟩ := q
      obtain ⟨rfl, i1, i2, i3⟩ := hI
      dsimp only at *
      have h3 := RPl_rows h (S' := S3) (fun k a b => by rw [i2 k (by omega), j3 k (by omega), w2 k (by omega) (by omega)]; rfl)
      rw [if_neg (by omega), cl_isEv h3 hc8]
      dsimp only [Option.bind_some]
      rw [wr_id (by omega) (by omega)]
      unfold evT
      by_cases q : isEv g c x = true
      · rw [if_pos q, if_pos q, if_neg (show ¬ (1 : Int) = 0 by decide)]
        have hadd : f_X6_add (5 + 17) (x : Int) S3 = upR S3 22 (natL (evT g c x ++ [x])) := by
          unfold f_X6_add
          rw [show 5 + 17 = 22 by rfl, i1, Ln23, if_pos (by
            rw [natL_len]
            have := evT_len (g := g) hc8 (x + 1)
            unfold evT at this
            rw [if_pos q, List.length_append] at this
            simp at this
            omega)]
          simp
        rw [hadd]
        exact Ret_some ⟨_, rfl, by simp, upR_at _ _ _, fun k hk => by dsimp only; rw [upR_ne _ _ hk]; exact i2 k hk, i3⟩
      · rw [if_neg q, if_neg q, if_pos rfl]
        exact Ret_some ⟨_, rfl, by simp, i1, i2, i3⟩
    · obtain ⟨z, S3⟩ := q
      obtain ⟨rfl, i1, i2, i3⟩ := hI
      dsimp only at *
      rw [if_pos (by omega)]
      exact Ret_some ⟨_, rfl, i1, i2, i3⟩
    · obtain ⟨k1, k2, k3⟩ := hS3
      refine Ret_some ⟨lo, by rw [k2 18 (by decide)]; exact j1, j2, by rw [k2 20 (by decide), j3 20 (by decide)]; exact w1, k1, ?_, fun k hk => ?_, fun k j hk => ?_⟩
      · rw [k3, j4, w3, upS_same]
      · simp at hk
        rw [k2 k (by omega), j3 k (by omega), w2 k (by omega) (by omega)]
        rfl
      · rw [k3, j4, w3, upS_ne (by omega)]
