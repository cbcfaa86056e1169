/-! LEVEL 3, oo: shared, credit -/
theorem lastO_is {o : Nat → Int} {s : Int} {k : Nat} : ∀ n, lastO o s n = (k : Int) → o k = s ∧ k < n
  | 0, h => by unfold lastO at h; omega
  | n + 1, h => by
    unfold lastO at h
    by_cases e : o n = s
    · rw [if_pos e] at h
      have : n = k := by omega
      subst this
      exact ⟨e, by omega⟩
    · rw [if_neg e] at h
      have := lastO_is n h
      exact ⟨this.1, by omega⟩
theorem nd_own {A : Nat → Int} {s : Int} {u k : Nat} (h : ndA A s u = (k : Int)) : A (205 + k) = s ∧ k < nA A u := by
  unfold ndA at h
  by_cases c : s < 0
  · rw [if_pos c] at h; omega
  · rw [if_neg c] at h
    by_cases d : (mA A u).testBit s.toNat = true
    · rw [if_pos d] at h
      exact lastO_is (o := fun k => A (205 + k)) _ h
    · rw [if_neg d] at h; omega
theorem nd_bd {A : Nat → Int} {n slots tp u : Nat} (h : okA A n slots tp) (hu : u ≤ tp) {s : Nat} : ndA A s u = -1 ∨ ∃ k : Nat, ndA A s u = (k : Int) ∧ k < nA A u := by
  by_cases c : (mA A u).testBit s = true
  · exact Or.inr (h.2.2.2 u hu s c)
  · left
    unfold ndA
    rw [if_neg (by omega), if_neg (by rw [Int.toNat_natCast]; exact c)]
section SH
variable {S S' : Sst} {O O' : Smo} {n ne slots v tp bs : Nat} {lo : Nat → Nat}
theorem q_holder (h5 : IVer S O n ne slots v tp bs) {u s : Nat} (hu : u ≤ v) (hs : s < 8) : f_X7_holderOf 74 s u S = some (ndA (O 282) s u) := by
  have h4 := h5.2.2.2.1
  have hm := q_many h5
  have ho : S.1 (74 + 13) = rg (nA (O 282) v) (fun k => O 282 (205 + k)) := rep_row (j := 0) (q_rep h5) (by decide)
  have hmd : S.1 (74 + 15) = rg (nA (O 282) v) (fun k => O 282 (525 + k)) := rep_row (j := 1) (q_rep h5) (by decide)
  have := cl_holder (s := s) (st := u) ho hmd hm.2.2 (nA_le h5.2.2.2.2.1.1 hu (show v ≤ tp by omega)) (fun k hk => made_iff h5.2.2.2.2.1.1 (show v ≤ tp by omega) hu hk) (q_set h5 hu).1 (q_set h5 hu).2.2 hs
  rw [this]
  unfold ndA
  rw [if_neg (c := ((s : Nat) : Int) < 0) (by omega), Int.toNat_natCast]
theorem op_shared {S : Sst} {O : Smo} (h : Inv S O) (a b : Int) : Op0 (f_X11_shared a b S) (f_X12_shared a b O) := by
  obtain ⟨n, ne, slots, lo, v, tp, bs, h1, h2, h3, h4, h5, h6, h7, h8⟩ := h
  have hn8 := h4.2.1.1
  have hh := h5.2.2.2.1
  unfold f_X11_shared f_X12_shared
  rw [(q_stamp h5 a).1, (q_stamp h5 a).2, (q_stamp h5 b).1, (q_stamp h5 b).2]
  by_cases c : (0 ≤ a ∧ a ≤ v) ∧ (0 ≤ b ∧ b ≤ v)
  · obtain ⟨u, rfl⟩ : ∃ s : Nat, a = (s : Int) := ⟨a.toNat, by omega⟩
    obtain ⟨u', rfl⟩ : ∃ s : Nat, b = (s : Int) := ⟨b.toNat, by omega⟩
    have hu : u ≤ v := by omega
    have hu' : u' ≤ v := by omega
    rw [if_pos c.1, if_pos c.2, if_neg (show ¬ ((1 : Int) = 0 ∨ (1 : Int) = 0) by omega), if_neg (show ¬ ((1 : Int) = 0 ∨ (1 : Int) = 0) by omega)]
    refine Op0_lp (fun c s => s.2 = (c : Int) ∧ 0 ≤ s.1 ∧ s.1 ≤ c) n (by omega) ⟨rfl, by dsimp only; omega, by dsimp only; omega⟩ (fun c s hc hI => ?_) (fun s hI => ?_)
    · obtain ⟨x, z⟩ := s
      obtain ⟨rfl, x0, x1⟩ := hI
      dsimp only [jn] at *
      have n1 := nd_bd (s := c) h5.2.2.2.2.1.1 (show u ≤ tp by omega)
      rw [pl_count h4.1.1, h4.2.2.2.2.1, if_pos (c := (c : Int) < (n : Int)) (by omega), if_pos (c := (c : Int) < (n : Int)) (by omega), q_holder h5 hu (show c < 8 by omega), q_holder h5 hu' (show c < 8 by omega), q_node h5 (show (c : Int) < 8 by omega) hu, q_node h5 (show (c : Int) < 8 by omega) hu']
      dsimp only [Option.bind_some]
      generalize ndA (O 282) (c : Int) u = p at *
      generalize ndA (O 282) (c : Int) u' = q at *
      have b1 : -1 ≤ p := by
        rcases n1 with e | ⟨k, e, _⟩ <;> omega
      clear n1
      by_cases e : p = -1
      · rw [if_pos (c := p = -1) e, if_pos (c := p < 0) (by omega)]
        dsimp only [Option.bind_some]
        rw [show f_X12_truth 0 = 0 from rfl, wr_id (z := x + 0) (by omega) (by omega), Int.add_zero]
        exact ⟨rfl, Ret_some ⟨_, rfl, by dsimp only; rw [wr_id (by omega) (by omega)]; simp, x0, by dsimp only; omega⟩⟩
      · rw [if_neg (c := p = -1) e, if_neg (c := p < 0) (by omega)]
        by_cases f : p = q
        · rw [if_pos f, if_pos f]
          dsimp only [Option.bind_some]
          rw [show f_X12_truth 1 = 1 from rfl, wr_id (z := x + 1) (by omega) (by omega)]
          exact ⟨rfl, Ret_some ⟨_, rfl, by dsimp only; rw [wr_id (by omega) (by omega)]; simp, by dsimp only; omega, by dsimp only; omega⟩⟩
        · rw [if_neg f, if_neg f]
          dsimp only [Option.bind_some]
          rw [show f_X12_truth 0 = 0 from rfl, wr_id (z := x + 0) (by omega) (by omega), Int.add_zero]
          exact ⟨rfl, Ret_some ⟨_, rfl, by dsimp only; rw [wr_id (by omega) (by omega)]; simp, x0, by dsimp only; omega⟩⟩
    · obtain ⟨x, z⟩ := s
      obtain ⟨rfl, x0, x1⟩ := hI
      dsimp only at *
      rw [pl_count h4.1.1, h4.2.2.2.2.1, if_neg (c := (n : Int) < (n : Int)) (by omega), if_neg (c := (n : Int) < (n : Int)) (by omega)]
      exact ⟨rfl, Ret_some ⟨_, rfl, trivial⟩⟩
  · have e : ((if 0 ≤ a ∧ a ≤ v then (1 : Int) else 0) = 0 ∨ (if 0 ≤ b ∧ b ≤ v then (1 : Int) else 0) = 0) := by
      by_cases d : 0 ≤ a ∧ a ≤ v
      · exact Or.inr (if_neg (fun q => c ⟨d, q⟩))
      · exact Or.inl (if_neg d)
    rw [if_pos e, if_pos e]
    exact ⟨_, rfl, rfl⟩
theorem op_credit {S : Sst} {O : Smo} (h : Inv S O) : Op0 (f_X11_credit S) (f_X12_credit O) := by
  obtain ⟨n, ne, slots, lo, v, tp, bs, h1, h2, h3, h4, h5, h6, h7, h8⟩ := h
  have hn8 := h4.2.1.1
  have hh := h5.2.2.2.1
  have hm := q_many h5
  have h66 := h4.2.2.1.2
  have hcl : f_X11_credit S = some (sm (fun i => if ndA (O 282) (i : Int) v = -1 then 0 else (usA (O 282) (ndA (O 282) (i : Int) v).toNat v : Int)) n) := by
    unfold f_X11_credit
    have bd : ∀ c, c ≤ n → 0 ≤ sm (fun i => if ndA (O 282) (i : Int) v = -1 then 0 else (usA (O 282) (ndA (O 282) (i : Int) v).toNat v : Int)) c ∧ sm (fun i => if ndA (O 282) (i : Int) v = -1 then 0 else (usA (O 282) (ndA (O 282) (i : Int) v).toNat v : Int)) c ≤ 6 * (c : Int) := fun c hc => sm_bd c (fun k hk => by
      rcases nd_bd (s := k) h5.2.2.2.2.1.1 (show v ≤ tp by omega) with e | ⟨j, e, hj⟩
      · rw [e, if_pos rfl]; omega
      · rw [e, if_neg (by omega), Int.toNat_natCast]
        have := (q_us h5 h66 hj).2.2.1
        omega)
    refine Ret_eq (Ret_bind (P := fun r => r = sm (fun i => if ndA (O 282) (i : Int) v = -1 then 0 else (usA (O 282) (ndA (O 282) (i : Int) v).toNat v : Int)) n) (Ret_lp (fun c q => q = (sm (fun i => if ndA (O 282) (i : Int) v = -1 then 0 else (usA (O 282) (ndA (O 282) (i : Int) v).toNat v : Int)) c, (c : Int))) n (by omega) rfl (fun c q hc hI => ?_) (fun q hI => ?_)) (fun r hr => Ret_some hr))
    · subst hI
      have b1 := bd c (by omega)
      have b2 := bd (c + 1) (by omega)
      have es : sm (fun i => if ndA (O 282) (i : Int) v = -1 then 0 else (usA (O 282) (ndA (O 282) (i : Int) v).toNat v : Int)) (c + 1) = sm (fun i => if ndA (O 282) (i : Int) v = -1 then 0 else (usA (O 282) (ndA (O 282) (i : Int) v).toNat v : Int)) c + (if ndA (O 282) (c : Int) v = -1 then 0 else (usA (O 282) (ndA (O 282) (c : Int) v).toNat v : Int)) := rfl
      dsimp only [jn]
      rw [pl_count h4.1.1, if_pos (by omega), q_has h5 (show c < 8 by omega), es]
      generalize sm (fun i => if ndA (O 282) (i : Int) v = -1 then 0 else (usA (O 282) (ndA (O 282) (i : Int) v).toNat v : Int)) c = X at *
      rw [wr_id (z := (c : Int) + 1) (by omega) (by omega)]
      rcases nd_bd (s := c) h5.2.2.2.2.1.1 (show v ≤ tp by omega) with e | ⟨j, e, hj⟩
      · rw [e, if_pos rfl, if_pos rfl, wr_id (by omega) (by omega)]
        exact Ret_some ⟨_, rfl, by simp⟩
      · have := (q_us h5 h66 hj).2.2.1
        rw [e, if_neg (c := (j : Int) = -1) (by omega), if_neg (c := (j : Int) = -1) (by omega), Int.toNat_natCast, (q_us h5 h66 hj).2.1, wr_id (by omega) (by omega)]
        exact Ret_some ⟨_, rfl, by simp⟩
    · subst hI
      dsimp only
      rw [pl_count h4.1.1, if_neg (by omega)]
      exact Ret_some ⟨_, rfl, rfl⟩
  have hrf : f_X12_credit O = some (sm (fun k => if ndA (O 282) (O 282 (205 + k)) v = (k : Int) then (usA (O 282) k v : Int) else 0) (nA (O 282) v)) := by
    unfold f_X12_credit
    have bd : ∀ c, c ≤ nA (O 282) v → 0 ≤ sm (fun k => if ndA (O 282) (O 282 (205 + k)) v = (k : Int) then (usA (O 282) k v : Int) else 0) c ∧ sm (fun k => if ndA (O 282) (O 282 (205 + k)) v = (k : Int) then (usA (O 282) k v : Int) else 0) c ≤ 6 * (c : Int) := fun c hc => sm_bd c (fun k hk => by
      have := (q_us h5 h66 (show k < nA (O 282) v by omega)).2.2.1
      split <;> omega)
    refine Ret_eq (Ret_bind (P := fun r => r = sm (fun k => if ndA (O 282) (O 282 (205 + k)) v = (k : Int) then (usA (O 282) k v : Int) else 0) (nA (O 282) v)) (Ret_lp (fun c q => q = (sm (fun k => if ndA (O 282) (O 282 (205 + k)) v = (k : Int) then (usA (O 282) k v : Int) else 0) c, (c : Int))) (nA (O 282) v) (by omega) rfl (fun c q hc hI => ?_) (fun q hI => ?_)) (fun r hr => Ret_some hr))
    · subst hI
      have b1 := bd c (by omega)
      have es : sm (fun k => if ndA (O 282) (O 282 (205 + k)) v = (k : Int) then (usA (O 282) k v : Int) else 0) (c + 1) = sm (fun k => if ndA (O 282) (O 282 (205 + k)) v = (k : Int) then (usA (O 282) k v : Int) else 0) c + (if ndA (O 282) (O 282 (205 + c)) v = (c : Int) then (usA (O 282) c v : Int) else 0) := rfl
      have hu := q_us h5 h66 hc
      obtain ⟨s, s1, s2⟩ := (h5.2.2.2.2.1.1.2.2.1 c hu.2.2.2.2).1
      have hth : f_X12_isThere (c : Int) O = if ndA (O 282) (O 282 (205 + c)) v = (c : Int) then some 1 else some 0 := by
        unfold f_X12_isThere
        rw [rf_at (i := 205 + c) (by rw [wr_id (by omega) (by omega)]; omega) (by omega), h5.1]
        dsimp only [Option.bind_some]
        rw [q_node h5 (by rw [s2]; omega) (Nat.le_refl _)]
        rfl
      rw [hm.1]
      dsimp only [Option.bind_some, jn]
      rw [if_pos (by omega), hth, es]
      generalize sm (fun k => if ndA (O 282) (O 282 (205 + k)) v = (k : Int) then (usA (O 282) k v : Int) else 0) c = X at *
      rw [wr_id (z := (c : Int) + 1) (by omega) (by omega)]
      have hu3 := hu.2.2.1
      by_cases e : ndA (O 282) (O 282 (205 + c)) v = (c : Int)
      · rw [if_pos e, if_pos e]
        dsimp only [Option.bind_some]
        rw [if_neg (show ¬ (1 : Int) = 0 by decide), hu.1]
        dsimp only [Option.bind_some]
        rw [wr_id (by omega) (by omega)]
        exact Ret_some ⟨_, rfl, by simp⟩
      · rw [if_neg e, if_neg e]
        dsimp only [Option.bind_some]
        rw [if_pos rfl]
        dsimp only [Option.bind_some]
        rw [wr_id (by omega) (by omega)]
        exact Ret_some ⟨_, rfl, by simp⟩
    · subst hI
      rw [hm.1]
      dsimp only [Option.bind_some]
      rw [if_neg (by omega)]
      exact Ret_some ⟨_, rfl, rfl⟩
  rw [hcl, hrf]
  refine ⟨_, rfl, ?_⟩
  congr 1
  have e1 : sm (fun i => if ndA (O 282) (i : Int) v = -1 then 0 else (usA (O 282) (ndA (O 282) (i : Int) v).toNat v : Int)) n = sm (fun (i : Nat) => sm (fun k => if ndA (O 282) (i : Int) v = (k : Int) then (usA (O 282) k v : Int) else 0) (nA (O 282) v)) n := by
    refine sm_ext n (fun i hi => ?_)
    rcases nd_bd (s := i) h5.2.2.2.2.1.1 (show v ≤ tp by omega) with e | ⟨j, e, hj⟩
    · rw [e, if_pos rfl]
      rw [sm_ext (g := fun _ => 0) _ (fun k hk => if_neg (by omega)), sm_0]
    · rw [e, if_neg (by omega), Int.toNat_natCast]
      rw [sm_ext (g := fun k => if (j : Int) = (k : Int) then (usA (O 282) j v : Int) else 0) _ (fun k hk => by
        by_cases q : (j : Int) = (k : Int)
        · have : j = k := by omega
          rw [this]
        · rw [if_neg q, if_neg q]), sm_one, if_pos (by omega)]
  rw [e1, sm_swap]
  refine sm_ext _ (fun k hk => ?_)
  obtain ⟨s, s1, s2⟩ := (h5.2.2.2.2.1.1.2.2.1 k (q_us h5 h66 hk).2.2.2.2).1
  rw [s2]
  by_cases e : ndA (O 282) (s : Int) v = (k : Int)
  · rw [if_pos e]
    rw [sm_ext (g := fun (i : Nat) => if (s : Int) = (i : Int) then (usA (O 282) k v : Int) else 0) n (fun i hi => by
      by_cases q : (s : Int) = (i : Int)
      · rw [← q, if_pos e, if_pos rfl]
      · rw [if_neg q, if_neg]
        intro r
        have := (nd_own r).1
        rw [s2] at this
        exact q this), sm_one, if_pos (by omega)]
  · rw [if_neg e]
    rw [sm_ext (g := fun _ => 0) n (fun i hi => if_neg (fun r => by
      have := (nd_own r).1
      rw [s2] at this
      rw [← this] at r
      exact e r)), sm_0]
end SH
