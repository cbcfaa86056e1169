/-! LEVEL 3, nn: counts -/
/-- a sum over the first so many -/
def sm (f : Nat → Int) : Nat → Int
  | 0 => 0
  | k + 1 => sm f k + f k
theorem sm_bd {f : Nat → Int} {b : Int} : ∀ n, (∀ k, k < n → 0 ≤ f k ∧ f k ≤ b) → 0 ≤ sm f n ∧ sm f n ≤ b * n
  | 0, _ => ⟨Int.le_refl _, by simp [sm]⟩
  | n + 1, h => by
    have ih := sm_bd n (fun k hk => h k (by omega))
    have h1 := h n (by omega)
    have e : b * ((n + 1 : Nat) : Int) = b * (n : Int) + b := by
      rw [Int.natCast_add, Int.mul_add]
      omega
    rw [e]
    unfold sm
    omega
theorem sm_ext {f g : Nat → Int} : ∀ n, (∀ k, k < n → f k = g k) → sm f n = sm g n
  | 0, _ => rfl
  | n + 1, h => by
    unfold sm
    rw [sm_ext n (fun k hk => h k (by omega)), h n (by omega)]
theorem sm_add (f g : Nat → Int) : ∀ n, sm (fun k => f k + g k) n = sm f n + sm g n
  | 0 => rfl
  | n + 1 => by
    unfold sm
    rw [sm_add f g n]
    omega
theorem sm_0 : ∀ n, sm (fun _ => 0) n = 0
  | 0 => rfl
  | n + 1 => by unfold sm; rw [sm_0 n]; rfl
theorem sm_swap (F : Nat → Nat → Int) (m : Nat) : ∀ n, sm (fun i => sm (fun k => F i k) m) n = sm (fun k => sm (fun i => F i k) n) m
  | 0 => by
    show 0 = sm (fun k => 0) m
    rw [sm_0]
  | n + 1 => by
    show sm (fun i => sm (fun k => F i k) m) n + sm (fun k => F n k) m = sm (fun k => sm (fun i => F i k) n + F n k) m
    rw [sm_swap F m n, sm_add]
theorem sm_one {z c : Int} : ∀ n, sm (fun k => if z = (k : Int) then c else 0) n = if 0 ≤ z ∧ z < n then c else 0
  | 0 => by rw [if_neg (by omega)]; rfl
  | n + 1 => by
    unfold sm
    rw [sm_one n]
    by_cases e : z = (n : Int)
    · rw [if_neg (by omega), if_pos e, if_pos (by omega)]; omega
    · rw [if_neg e]
      by_cases q : 0 ≤ z ∧ z < n
      · rw [if_pos q, if_pos (by omega)]; omega
      · rw [if_neg q, if_neg (by omega)]; omega
/-- copies of segment a among the nodes -/
def cpF (A : Nat → Int) (a : Int) (k : Nat) : Int := if a = -1 ∨ A (205 + k) = a then bt (mA A (A (525 + k) - 1).toNat) (A (205 + k)).toNat else 0
theorem cpF_bd (A : Nat → Int) (a : Int) (k : Nat) : 0 ≤ cpF A a k ∧ cpF A a k ≤ 1 := by
  unfold cpF
  split
  · rcases bt01 (mA A (A (525 + k) - 1).toNat) (A (205 + k)).toNat with q | q <;> omega
  · omega
theorem Op0_lp {σ : Type} {f g : σ → Option (σ ⊕ Int)} {s : σ} (I : Nat → σ → Prop) (n : Nat) (hn : n < 4294967296) (h0 : I 0 s) (h : ∀ c s, c < n → I c s → f s = g s ∧ Ret (g s) (fun q => ∃ s', q = .inl s' ∧ I (c + 1) s')) (he : ∀ s, I n s → f s = g s ∧ Ret (g s) (fun q => ∃ r, q = .inr r ∧ True)) : Op0 (Option.bind (lp f FU s) fun r => some r) (Option.bind (lp g FU s) fun r => some r) := by
  obtain ⟨e, r, e2, _⟩ := lp_same I (fun _ => True) n hn h0 h he
  rw [e, e2]
  exact ⟨r, rfl, rfl⟩
section CNT
variable {S S' : Sst} {O O' : Smo} {n ne slots v tp bs : Nat} {lo : Nat → Nat}
theorem us_sum (h5 : IVer S O n ne slots v tp bs) (h6 : slots ≤ 6) {c : Nat} (hc : c ≤ nA (O 282) v) : 0 ≤ sm (fun k => (usA (O 282) k v : Int)) c ∧ sm (fun k => (usA (O 282) k v : Int)) c ≤ 1920 := by
  have := sm_bd (f := fun k => (usA (O 282) k v : Int)) (b := 6) c (fun k hk => by
    have := (q_us h5 h6 (show k < nA (O 282) v by omega)).2.2.1
    omega)
  have := (q_many h5).2.2
  omega
theorem q_written (h5 : IVer S O n ne slots v tp bs) (h6 : slots ≤ 6) : f_X7_slotsWritten 74 S = some (sm (fun k => (usA (O 282) k v : Int)) (nA (O 282) v)) ∧ f_X12_writtenAll O = some (sm (fun k => (usA (O 282) k v : Int)) (nA (O 282) v)) := by
  have hm := q_many h5
  have hsz : f_X6_size 95 S = (nA (O 282) v : Int) := size_rg ((q_rep h5).1 4 (by decide))
  constructor
  · unfold f_X7_slotsWritten
    refine Ret_eq (Ret_bind (P := fun r => r = sm (fun k => (usA (O 282) k v : Int)) (nA (O 282) v)) (Ret_lp (fun c q => q = (sm (fun k => (usA (O 282) k v : Int)) c, (c : Int))) (nA (O 282) v) (by omega) rfl (fun c q hc hI => ?_) (fun q hI => ?_)) (fun r hr => Ret_some hr))
    · subst hI
      have b1 := us_sum h5 h6 (show c ≤ nA (O 282) v by omega)
      have b2 := (q_us h5 h6 hc).2.2.1
      dsimp only [jn]
      rw [if_pos (by rw [hsz]; omega), (q_us h5 h6 hc).2.1, wr_id (by omega) (by omega), wr_id (by omega) (by omega)]
      exact Ret_some ⟨_, rfl, rfl⟩
    · subst hI
      dsimp only
      rw [if_neg (by rw [hsz]; omega)]
      exact Ret_some ⟨_, rfl, rfl⟩
  · unfold f_X12_writtenAll
    refine Ret_eq (Ret_bind (P := fun r => r = sm (fun k => (usA (O 282) k v : Int)) (nA (O 282) v)) (Ret_lp (fun c q => q = (sm (fun k => (usA (O 282) k v : Int)) c, (c : Int))) (nA (O 282) v) (by omega) rfl (fun c q hc hI => ?_) (fun q hI => ?_)) (fun r hr => Ret_some hr))
    · subst hI
      have b1 := us_sum h5 h6 (show c ≤ nA (O 282) v by omega)
      have b2 := (q_us h5 h6 hc).2.2.1
      rw [hm.1]
      dsimp only [Option.bind_some, jn]
      rw [if_pos (by omega), (q_us h5 h6 hc).1]
      dsimp only [Option.bind_some]
      rw [wr_id (by omega) (by omega), wr_id (by omega) (by omega)]
      exact Ret_some ⟨_, rfl, rfl⟩
    · subst hI
      rw [hm.1]
      dsimp only [Option.bind_some]
      rw [if_neg (by omega)]
      exact Ret_some ⟨_, rfl, rfl⟩
theorem q_copies (h5 : IVer S O n ne slots v tp bs) (h6 : slots ≤ 6) (hn : n ≤ 8) {a : Int} (ha : -1 ≤ a) : f_X7_copiesOf 74 a S = some (sm (cpF (O 282) a) (nA (O 282) v)) ∧ f_X12_copiesOf a O = some (sm (cpF (O 282) a) (nA (O 282) v)) := by
  have hm := q_many h5
  have h4 := h5.2.2.2.1
  have bd : ∀ c, 0 ≤ sm (cpF (O 282) a) c ∧ sm (cpF (O 282) a) c ≤ 1 * (c : Int) := fun c => sm_bd c (fun k _ => cpF_bd _ _ _)
  constructor
  · unfold f_X7_copiesOf
    refine Ret_eq (Ret_bind (P := fun r => r = sm (cpF (O 282) a) (nA (O 282) v)) (Ret_lp (fun c q => q = (sm (cpF (O 282) a) c, (c : Int))) (nA (O 282) v) (by omega) rfl (fun c q hc hI => ?_) (fun q hI => ?_)) (fun r hr => Ret_some hr))
    · subst hI
      have b1 := bd c
      have b2 := cpF_bd (O 282) a c
      have f0 : f_X6_at (74 + 13) (c : Int) S = O 282 (205 + c) := q_field (j := 0) h5 (by decide) hc
      have f5 : f_X6_at (74 + 23) (c : Int) S = bt (mA (O 282) (O 282 (525 + c) - 1).toNat) (O 282 (205 + c)).toNat := by
        rw [show (74 + 23 : Nat) = 74 + 13 + 2 * 5 from rfl, at_nat ((q_rep h5).1 5 (by decide)) hc, vwD_5 hc]
      dsimp only [jn]
      rw [if_pos (by rw [show (74 + 13 : Nat) = 87 from rfl, hm.2.1]; omega), f0, f5, wr_id (z := (c : Int) + 1) (by omega) (by omega)]
      refine Ret_some ⟨_, rfl, ?_⟩
      rw [show sm (cpF (O 282) a) (c + 1) = sm (cpF (O 282) a) c + cpF (O 282) a c from rfl]
      generalize sm (cpF (O 282) a) c = X at *
      have hc2 : cpF (O 282) a c = if a = -1 ∨ O 282 (205 + c) = a then bt (mA (O 282) (O 282 (525 + c) - 1).toNat) (O 282 (205 + c)).toNat else 0 := rfl
      by_cases q : a = -1 ∨ O 282 (205 + c) = a
      · rw [if_pos q] at hc2
        rw [if_pos q, ← hc2, wr_id (by omega) (by omega)]
        rfl
      · rw [if_neg q] at hc2
        rw [if_neg q, hc2, Int.add_zero]
        rfl
    · subst hI
      dsimp only
      rw [if_neg (by rw [show (74 + 13 : Nat) = 87 from rfl, hm.2.1]; omega)]
      exact Ret_some ⟨_, rfl, rfl⟩
  · unfold f_X12_copiesOf
    refine Ret_eq (Ret_bind (P := fun r => r = sm (cpF (O 282) a) (nA (O 282) v)) (Ret_lp (fun c q => q = (sm (cpF (O 282) a) c, (c : Int))) (nA (O 282) v) (by omega) rfl (fun c q hc hI => ?_) (fun q hI => ?_)) (fun r hr => Ret_some hr))
    · subst hI
      have b1 := bd c
      have b2 := cpF_bd (O 282) a c
      have hct := (q_us h5 h6 hc).2.2.2.2
      obtain ⟨s, s1, s2⟩ := (h5.2.2.2.2.1.1.2.2.1 c hct).1
      obtain ⟨w, w1, w2, w3, w4, w5⟩ := made_le h5.2.2.2.2.1.1 (show v ≤ tp by omega) hc
      have hcp : f_X12_isCopy (c : Int) O = some (bt (mA (O 282) (O 282 (525 + c) - 1).toNat) (O 282 (205 + c)).toNat) := by
        unfold f_X12_isCopy
        rw [rf_at (i := 525 + c) (by rw [wr_id (by omega) (by omega)]; omega) (by omega), w1]
        dsimp only [Option.bind_some]
        rw [wr_id (z := (w : Int) - 1) (by omega) (by omega), show (w : Int) - 1 = ((w - 1 : Nat) : Int) by omega, (q_set h5 (show w - 1 ≤ v by omega)).2.1]
        dsimp only [Option.bind_some]
        rw [rf_at (i := 205 + c) (by rw [wr_id (by omega) (by omega)]; omega) (by omega), s2]
        dsimp only [Option.bind_some]
        rw [has_n (q_set h5 (show w - 1 ≤ v by omega)).2.2 (by omega), Int.toNat_natCast, Int.toNat_natCast]
      rw [hm.1]
      dsimp only [Option.bind_some, jn, jk]
      rw [if_pos (by omega), hcp]
      dsimp only [Option.bind_some]
      rw [rf_at (i := 205 + c) (by rw [wr_id (by omega) (by omega)]; omega) (by omega)]
      dsimp only [Option.bind_some]
      have key : (if bt (mA (O 282) (O 282 (525 + c) - 1).toNat) (O 282 (205 + c)).toNat = 0 then some (0 : Int) else if a < 0 then some 1 else if O 282 (205 + c) = a then some 1 else some 0) = some (cpF (O 282) a c) := by
        unfold cpF
        rcases bt01 (mA (O 282) (O 282 (525 + c) - 1).toNat) (O 282 (205 + c)).toNat with q | q <;> rw [q]
        · rw [if_pos rfl]
          split <;> rfl
        · rw [if_neg (by decide)]
          by_cases r : a < 0
          · rw [if_pos r, if_pos (Or.inl (by omega))]
          · rw [if_neg r]
            by_cases t : O 282 (205 + c) = a
            · rw [if_pos t, if_pos (Or.inr t)]
            · rw [if_neg t, if_neg (by rintro (x | x); omega; exact t x)]
      rw [key]
      dsimp only [Option.bind_some]
      have htr : f_X12_truth (cpF (O 282) a c) = cpF (O 282) a c := by
        unfold f_X12_truth
        split <;> omega
      rw [htr, wr_id (by omega) (by omega), wr_id (by omega) (by omega)]
      exact Ret_some ⟨_, rfl, rfl⟩
    · subst hI
      rw [hm.1]
      dsimp only [Option.bind_some]
      rw [if_neg (by omega)]
      exact Ret_some ⟨_, rfl, rfl⟩
theorem op_written {S : Sst} {O : Smo} (h : Inv S O) : Op0 (f_X11_written S) (f_X12_written O) := by
  obtain ⟨n, ne, slots, lo, v, tp, bs, h1, h2, h3, h4, h5, h6, h7, h8⟩ := h
  unfold f_X11_written f_X12_written
  rw [(q_written h5 h4.2.2.1.2).1, (q_written h5 h4.2.2.1.2).2]
  exact ⟨_, rfl, rfl⟩
theorem op_copies {S : Sst} {O : Smo} (h : Inv S O) (z : Int) : Op0 (f_X11_copies z S) (f_X12_copies z O) := by
  obtain ⟨n, ne, slots, lo, v, tp, bs, h1, h2, h3, h4, h5, h6, h7, h8⟩ := h
  unfold f_X11_copies f_X12_copies
  rw [rf_isSeg h4.2.2.2.2.1 h4.2.1.1, pl_has h4.1.1]
  by_cases c : z = -1 ∨ (0 ≤ z ∧ z < n)
  · have e : z = -1 ∨ ¬ (if 0 ≤ z ∧ z < n then (1 : Int) else 0) = 0 := by
      rcases c with c | c
      · exact Or.inl c
      · rw [if_pos c]; exact Or.inr (by decide)
    rw [if_pos e, if_pos e, (q_copies h5 h4.2.2.1.2 h4.2.1.1 (show -1 ≤ z by omega)).1, (q_copies h5 h4.2.2.1.2 h4.2.1.1 (show -1 ≤ z by omega)).2]
    exact ⟨_, rfl, rfl⟩
  · have e : ¬ (z = -1 ∨ ¬ (if 0 ≤ z ∧ z < n then (1 : Int) else 0) = 0) := by
      rw [if_neg (by omega)]; omega
    rw [if_neg e, if_neg e]
    exact ⟨_, rfl, rfl⟩
theorem op_paid {S : Sst} {O : Smo} (h : Inv S O) : Op0 (f_X11_paid S) (f_X12_paid O) := by
  obtain ⟨n, ne, slots, lo, v, tp, bs, h1, h2, h3, h4, h5, h6, h7, h8⟩ := h
  unfold f_X11_paid f_X12_paid
  dsimp only [jn]
  rw [(q_written h5 h4.2.2.1.2).1, (q_written h5 h4.2.2.1.2).2, (q_copies h5 h4.2.2.1.2 h4.2.1.1 (show (-1 : Int) ≤ -1 by omega)).1, (q_copies h5 h4.2.2.1.2 h4.2.1.1 (show (-1 : Int) ≤ -1 by omega)).2]
  dsimp only [Option.bind_some]
  rw [h4.1.2.2.2.2.1, h4.2.2.2.2.2.2.1]
  exact ⟨_, rfl, rfl⟩
theorem op_busiest {S : Sst} {O : Smo} (h : Inv S O) : Op0 (f_X11_busiest S) (f_X12_busiest O) := by
  obtain ⟨n, ne, slots, lo, v, tp, bs, h1, h2, h3, h4, h5, h6, h7, h8⟩ := h
  have hn8 := h4.2.1.1
  unfold f_X11_busiest f_X12_busiest
  refine Op0_lp (fun c s => s.2 = (c : Int) ∧ ((c = 0 ∧ s.1 = -1) ∨ (0 < c ∧ 0 ≤ s.1))) n (by omega) ⟨rfl, Or.inl ⟨rfl, rfl⟩⟩ (fun c s hc hI => ?_) (fun s hI => ?_)
  · obtain ⟨x, z⟩ := s
    obtain ⟨rfl, hx⟩ := hI
    dsimp only at *
    rw [pl_count h4.1.1, h4.2.2.2.2.1, if_pos (c := (c : Int) < (n : Int)) (by omega), if_pos (c := (c : Int) < (n : Int)) (by omega)]
    rcases hx with ⟨c0, rfl⟩ | ⟨c0, hx⟩
    · rw [if_pos (c := (-1 : Int) = -1) rfl, if_pos (c := (-1 : Int) < 0) (by decide)]
      dsimp only [Option.bind_some]
      exact ⟨rfl, Ret_some ⟨_, rfl, by dsimp only; rw [wr_id (by omega) (by omega)]; simp, Or.inr ⟨by omega, by dsimp only; omega⟩⟩⟩
    · rw [if_neg (c := x = -1) (by omega), if_neg (c := x < 0) (by omega), (q_copies h5 h4.2.2.1.2 hn8 (show -1 ≤ (c : Int) by omega)).1, (q_copies h5 h4.2.2.1.2 hn8 (show -1 ≤ (c : Int) by omega)).2, (q_copies h5 h4.2.2.1.2 hn8 (show -1 ≤ x by omega)).1, (q_copies h5 h4.2.2.1.2 hn8 (show -1 ≤ x by omega)).2]
      dsimp only [Option.bind_some]
      by_cases q : sm (cpF (O 282) x) (nA (O 282) v) < sm (cpF (O 282) (c : Int)) (nA (O 282) v)
      · rw [if_pos q]
        dsimp only [Option.bind_some]
        exact ⟨rfl, Ret_some ⟨_, rfl, by dsimp only; rw [wr_id (by omega) (by omega)]; simp, Or.inr ⟨by omega, by dsimp only; omega⟩⟩⟩
      · rw [if_neg q]
        dsimp only [Option.bind_some]
        exact ⟨rfl, Ret_some ⟨_, rfl, by dsimp only; rw [wr_id (by omega) (by omega)]; simp, Or.inr ⟨by omega, hx⟩⟩⟩
  · obtain ⟨x, z⟩ := s
    obtain ⟨rfl, hx⟩ := hI
    dsimp only at *
    rw [pl_count h4.1.1, h4.2.2.2.2.1, if_neg (c := (n : Int) < (n : Int)) (by omega), if_neg (c := (n : Int) < (n : Int)) (by omega)]
    exact ⟨rfl, Ret_some ⟨_, rfl, trivial⟩⟩
end CNT
