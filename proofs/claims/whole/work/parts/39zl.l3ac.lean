/-! LEVEL 3, ac: the trial store's data, and the reference's counters -/
theorem clD_u (m : Nat) (D : Dt) (k : Nat) : dUsed (clD m D) k = dUsed D k := by
  unfold dUsed
  rw [clD_o m D 4 k (by decide)]
theorem FI_next {D0 D1 : Dt} {u m m' n slots pr : Nat} {L R : Nat → Int} {po : List Nat} (hF : FI D0 u m n slots L R po po pr D1) (hm : ∀ s, m'.testBit s = true → s ∈ po) (L' R' : Nat → Int) : FI (clD m' D1) (u + 1) m' n slots L' R' [] [] 0 (clD m' D1) := by
  obtain ⟨f1, f2, f3, f4, f5, f6, f7, f8, f9, f10, f11⟩ := hF
  have e1 : (clD m' D1).1 = D1.1 := rfl
  have eo := fun (j k : Nat) (hj : j ≠ 9) => clD_o m' D1 j k hj
  have eu := clD_u m' D1
  have hcast : ((u + 1 : Nat) : Int) = (u : Int) + 1 := by omega
  rw [FI]
  refine ⟨⟨Nat.le_refl _, fun _ _ _ _ => rfl⟩, fun k hk => ?_, fun k hk => ?_, fun s hs => ?_, fun k c hk hc => ?_, fun k hk => ?_, fun k c c' hk h1 h2 => ?_, fun s hs => (by cases hs), ?_, fun k hk => ⟨Nat.le_refl _, fun _ _ _ _ => rfl, fun c h1 h2 => by omega⟩, fun _ _ => rfl⟩
  · rw [eo 4 k (by decide), eu]
    exact f2 k hk
  · rw [eo 0 k (by decide)]
    exact f3 k hk
  · rcases hs with hs | hs
    · cases hs
    · obtain ⟨k, a1, a2, a3, a4, a5⟩ := f4 s (Or.inl (hm s hs))
      refine ⟨k, ?_, a2, by rw [eo 0 k (by decide)]; exact a3, ?_, fun _ => a2⟩
      · rw [clD_9, if_neg (by rw [hs]; decide), a1]
      · rw [e1, lastO_congr (o' := D1.2 0) D1.1 (fun i hi => eo 0 i (by decide))]
        exact a4
  · rw [eu] at hc
    rw [eo 6 _ (by decide), eo 1 _ (by decide)]
    have := f5 k c hk hc
    omega
  · refine ⟨fun q => absurd hk (by omega), fun _ => ?_, fun s hs _ => ⟨hk, fun c hc => ?_⟩⟩
    · rw [eo 1 _ (by decide)]
      have a := f6 k hk
      by_cases q : D0.1 ≤ k
      · have := (a.1 q).1; omega
      · have := a.2.1 (by omega); omega
    · rw [eu] at hc
      rw [eo 6 _ (by decide)]
      have := f5 k c hk hc
      omega
  · rw [eu] at h2
    rw [eo 6 _ (by decide), eo 6 _ (by decide)]
    exact f7 k c c' hk h1 h2
  · rw [wcD_0 _ (fun k i hk hi => ?_)]
    · omega
    · rw [eu] at hi
      rw [eo 6 _ (by decide)]
      have := f5 k i hk hi
      omega
theorem adD_mk {D : Dt} {slots u m s : Nat} {L R : Nat → Int} (hc : m.testBit s = false ∨ slots < dUsed D (D.2 9 s).toNat + (neI (rdD D (D.2 9 s).toNat 0 u) (dHas D (L s)) + neI (rdD D (D.2 9 s).toNat 1 u) (dHas D (R s)))) : (adD slots u m L R D s).2 = mkD D s (u + 1) (dHas D (L s)) (dHas D (R s)) (bt m s) := by
  unfold adD
  by_cases hb : m.testBit s = true
  · rw [if_pos hb, bt_1.mpr hb]
    have hc' := hc.resolve_left (by rw [hb]; decide)
    rw [if_pos hc']
  · rw [if_neg hb, bt_0.mpr (by simpa using hb)]
theorem adD_kp {D : Dt} {slots u m s k : Nat} {L R : Nat → Int} (hb : m.testBit s = true) (hk : D.2 9 s = (k : Int)) (hn : ¬ slots < dUsed D k + (neI (rdD D k 0 u) (dHas D (L s)) + neI (rdD D k 1 u) (dHas D (R s)))) (h6 : slots ≤ 6) (hu6 : ∀ j, j < D.1 → dUsed D j ≤ 6) (hkD : k < D.1) :
    (adD slots u m L R D s).2.1 = D.1 ∧ (∀ y, (adD slots u m L R D s).2.2 9 y = D.2 9 y) ∧ (∀ y, (adD slots u m L R D s).2.2 5 y = D.2 5 y) ∧ dUsed (adD slots u m L R D s).2 k = dUsed D k + (neI (rdD D k 0 u) (dHas D (L s)) + neI (rdD D k 1 u) (dHas D (R s))) ∧ ∀ j, j < D.1 → j ≠ k → dUsed (adD slots u m L R D s).2 j = dUsed D j ∧ ∀ sd a, rdD (adD slots u m L R D s).2 j sd a = rdD D j sd a := by
  unfold adD
  rw [if_pos hb, hk, Int.toNat_natCast, if_neg hn]
  dsimp only
  have w9 : ∀ (D : Dt) (k : Nat) (a b c : Int) (y : Nat), (wrD D k a b c).2 9 y = D.2 9 y := fun D k a b c y => wrD_o _ _ _ _ _ _ _ (by omega)
  have w5 : ∀ (D : Dt) (k : Nat) (a b c : Int) (y : Nat), (wrD D k a b c).2 5 y = D.2 5 y := fun D k a b c y => wrD_o _ _ _ _ _ _ _ (by omega)
  have w1 : ∀ (D : Dt) (k : Nat) (a b c : Int), (wrD D k a b c).1 = D.1 := fun D k a b c => rfl
  have hk6 := hu6 k hkD
  unfold neI at *
  by_cases p : rdD D k 0 u = dHas D (L s)
  · by_cases q : rdD D k 1 u = dHas D (R s)
    · rw [if_pos q, if_pos p, if_pos q, if_pos p]
      exact ⟨rfl, fun _ => rfl, fun _ => rfl, rfl, fun j _ _ => ⟨rfl, fun _ _ => rfl⟩⟩
    · rw [if_pos p, if_neg q] at hn
      rw [if_neg q, if_pos p, if_neg q, if_pos p]
      refine ⟨rfl, fun y => w9 _ _ _ _ _ _, fun y => w5 _ _ _ _ _ _, by rw [wrD_u, if_pos rfl]; try omega, fun j hj hjk => ⟨by rw [wrD_u, if_neg hjk], fun sd a => ?_⟩⟩
      rw [wrD_rd _ _ _ _ _ _ (by omega) (hu6 j hj), if_neg (fun w => hjk w.1)]
  · by_cases q : rdD D k 1 u = dHas D (R s)
    · rw [if_neg p, if_pos q] at hn
      rw [if_pos q, if_neg p, if_pos q, if_neg p]
      refine ⟨rfl, fun y => w9 _ _ _ _ _ _, fun y => w5 _ _ _ _ _ _, by rw [wrD_u, if_pos rfl], fun j hj hjk => ⟨by rw [wrD_u, if_neg hjk], fun sd a => ?_⟩⟩
      rw [wrD_rd _ _ _ _ _ _ (by omega) (hu6 j hj), if_neg (fun w => hjk w.1)]
    · rw [if_neg p, if_neg q] at hn
      rw [if_neg q, if_neg p, if_neg q, if_neg p]
      have hk' : dUsed (wrD D k ((u : Int) + 1) 0 (dHas D (L s))) k = dUsed D k + 1 := by rw [wrD_u, if_pos rfl]
      refine ⟨rfl, fun y => by rw [w9, w9], fun y => by rw [w5, w5], by rw [wrD_u, if_pos rfl, hk'], fun j hj hjk => ⟨by rw [wrD_u, if_neg hjk, wrD_u, if_neg hjk], fun sd a => ?_⟩⟩
      rw [wrD_rd _ _ _ _ _ _ (by omega) (by rw [wrD_u, if_neg hjk]; exact hu6 j hj), if_neg (fun w => hjk w.1), wrD_rd _ _ _ _ _ _ (by omega) (hu6 j hj), if_neg (fun w => hjk w.1)]
/-- the reference's counters against the data -/
def SimI (O : Smo) (D : Dt) (u m : Nat) (L R : Nat → Int) (d : List Nat) : Prop := O 262 67 = (D.1 : Int) ∧
  (∀ y ∈ d, O 293 y = D.2 9 y ∧ O 294 y = dHas D (L y) ∧ O 295 y = dHas D (R y) ∧ O 296 y = (dUsed D (D.2 9 y).toNat : Int)) ∧
  ∀ y, m.testBit y = true → y ∉ d → O 293 y = D.2 9 y ∧ O 294 y = rdD D (D.2 9 y).toNat 0 u ∧ O 295 y = rdD D (D.2 9 y).toNat 1 u ∧ O 296 y = (dUsed D (D.2 9 y).toNat : Int)
theorem rf_sim {O : Smo} {D0 D : Dt} {s u m n slots pr : Nat} {L R : Nat → Int} {d : List Nat} (hI : SimI O D u m L R d) (hF : FI D0 u m n slots L R d d pr D) (hN : D.1 < 320) (hsl : slots ≤ 6) (hs : s < 8) (hsd : s ∉ d)
    (hL : O 284 s = L s) (hR : O 285 s = R s) (hc : clo L R d) (hcL : L s = -1 ∨ ∃ y : Nat, L s = (y : Int) ∧ y ∈ d) (hcR : R s = -1 ∨ ∃ y : Nat, R s = (y : Int) ∧ y ∈ d) (hL1 : ∀ y ∈ d, (L y = -1 ∨ ∃ z : Nat, L y = (z : Int)) ∧ (R y = -1 ∨ ∃ z : Nat, R y = (z : Int))) (hd8 : ∀ y ∈ d, y < 8) :
    Ret (f_X12_isSimCopied (s : Int) (bt m s) slots O) (fun r => SimI r.2 (adD slots u m L R D s).2 u m L R (s :: d) ∧ (r.1 = 0 ∨ r.1 = 1) ∧ sm (fun k => (adD slots u m L R D s).2.2 5 k) (adD slots u m L R D s).2.1 = sm (fun k => D.2 5 k) D.1 + r.1 ∧ (∀ k, k ≠ 262 → ¬ (293 ≤ k ∧ k ≤ 296) → r.2 k = O k) ∧ ∀ j, j ≠ 67 → r.2 262 j = O 262 j) := by
  obtain ⟨i0, i1, i2⟩ := hI
  have hu6 : ∀ j, j < D.1 → dUsed D j ≤ 6 := fun k hk => by have := (hF.2.1 k hk).2; omega
  have hsn : ∀ z : Int, (z = -1 ∨ ∃ y : Nat, z = (y : Int) ∧ y ∈ d) → f_X12_simNodeOf z O = some (dHas D z) := fun z hz => by
    unfold f_X12_simNodeOf dHas
    rcases hz with rfl | ⟨y, rfl, hy⟩
    · rw [if_pos (by decide), if_pos (by decide)]
    · rw [if_neg (by omega), if_neg (by omega), Ln293, aget_nat (hd8 y hy), (i1 y hy).1, Int.toNat_natCast]
      rfl
  have hnode : ∀ y, (y ∈ d ∨ m.testBit y = true) → y ≠ s → ∃ k : Nat, D.2 9 y = (k : Int) ∧ k < D.1 ∧ D.2 0 k = (y : Int) := fun y hy _ => by
    obtain ⟨k, a1, a2, a3, _⟩ := hF.2.2.2.1 y hy
    exact ⟨k, a1, a2, a3⟩
  have hdh : ∀ D' : Dt, (∀ y, y ≠ s → D'.2 9 y = D.2 9 y) → ∀ z : Int, (z = -1 ∨ ∃ y : Nat, z = (y : Int) ∧ y ∈ d) → dHas D' z = dHas D z := fun D' h9 z hz => by
    unfold dHas
    rcases hz with rfl | ⟨y, rfl, hy⟩
    · rw [if_pos (by decide), if_pos (by decide)]
    · rw [if_neg (by omega), if_neg (by omega), Int.toNat_natCast]
      exact h9 y (fun e => hsd (e ▸ hy))
  have hLd : ∀ y ∈ d, (L y = -1 ∨ ∃ z : Nat, L y = (z : Int) ∧ z ∈ d) ∧ (R y = -1 ∨ ∃ z : Nat, R y = (z : Int) ∧ z ∈ d) := fun y hy => by
    obtain ⟨a, b⟩ := hL1 y hy
    constructor
    · rcases a with a | ⟨z, a⟩
      · exact Or.inl a
      · exact Or.inr ⟨z, a, hc y hy z (Or.inl a)⟩
    · rcases b with b | ⟨z, b⟩
      · exact Or.inl b
      · exact Or.inr ⟨z, b, hc y hy z (Or.inr b)⟩
  have htr : ∀ a b : Int, f_X12_truth (if a = b then 0 else 1) = (neI a b : Int) := fun a b => by
    unfold neI
    by_cases q : a = b
    · rw [if_pos q, if_pos q]; rfl
    · rw [if_neg q, if_neg q]; rfl
  have hne : ∀ a b : Int, neI a b ≤ 1 := fun a b => by
    unfold neI
    split <;> omega
  -- what holds of the others
  have hoth : ∀ (D' : Dt) (O' : Smo) , (∀ y, y ≠ s → D'.2 9 y = D.2 9 y) → (∀ (j y : Nat), j < D.1 → D.2 0 j = (y : Int) → y ≠ s → dUsed D' j = dUsed D j ∧ ∀ sd a, rdD D' j sd a = rdD D j sd a) → (∀ y, y ≠ s → O' 293 y = O 293 y ∧ O' 294 y = O 294 y ∧ O' 295 y = O 295 y ∧ O' 296 y = O 296 y) → O' 262 67 = (D'.1 : Int) → (O' 293 s = D'.2 9 s ∧ O' 294 s = dHas D (L s) ∧ O' 295 s = dHas D (R s) ∧ O' 296 s = (dUsed D' (D'.2 9 s).toNat : Int)) → SimI O' D' u m L R (s :: d) := fun D' O' g1 g2 g3 g4 g5 => by
    refine ⟨g4, fun y hy => ?_, fun y hy hyd => ?_⟩
    · by_cases e : y = s
      · subst e
        rw [hdh D' g1 _ hcL, hdh D' g1 _ hcR]
        exact g5
      · have hyd : y ∈ d := (List.mem_cons.mp hy).resolve_left e
        obtain ⟨k, a1, a2, a3⟩ := hnode y (Or.inl hyd) e
        obtain ⟨b1, b2, b3, b4⟩ := i1 y hyd
        obtain ⟨c1, c2, c3, c4⟩ := g3 y e
        rw [hdh D' g1 _ (hLd y hyd).1, hdh D' g1 _ (hLd y hyd).2, c1, c2, c3, c4, g1 y e, b1, b2, b3, b4, a1, Int.toNat_natCast, (g2 k y a2 a3 e).1]
        exact ⟨rfl, rfl, rfl, rfl⟩
    · have e : y ≠ s := fun q => hyd (by rw [q]; exact List.mem_cons_self)
      have hyd' : y ∉ d := fun q => hyd (List.mem_cons_of_mem _ q)
      obtain ⟨k, a1, a2, a3⟩ := hnode y (Or.inr hy) e
      obtain ⟨b1, b2, b3, b4⟩ := i2 y hy hyd'
      obtain ⟨c1, c2, c3, c4⟩ := g3 y e
      obtain ⟨d1, d2⟩ := g2 k y a2 a3 e
      rw [c1, c2, c3, c4, g1 y e, b1, b2, b3, b4, a1, Int.toNat_natCast, d1, d2, d2]
      exact ⟨rfl, rfl, rfl, rfl⟩
  -- a node is made
  have hmk : (m.testBit s = false ∨ slots < dUsed D (D.2 9 s).toNat + (neI (rdD D (D.2 9 s).toNat 0 u) (dHas D (L s)) + neI (rdD D (D.2 9 s).toNat 1 u) (dHas D (R s)))) → SimI (up2 (up2 (up2 (up2 (up2 O 294 s (dHas D (L s))) 295 s (dHas D (R s))) 296 s 0) 293 s (D.1 : Int)) 262 67 ((D.1 : Int) + 1)) (adD slots u m L R D s).2 u m L R (s :: d) ∧ sm (fun k => (adD slots u m L R D s).2.2 5 k) (adD slots u m L R D s).2.1 = sm (fun k => D.2 5 k) D.1 + bt m s := fun hq => by
    rw [adD_mk hq]
    constructor
    · refine hoth _ _ (fun y hy => by rw [mkD_9, if_neg hy]) (fun j y hj _ _ => ⟨by rw [mkD_u, if_neg (by omega)], fun sd a => by rw [mkD_rd, if_neg (by omega)]⟩) (fun y hy => ?_) ?_ ?_
      · refine ⟨?_, ?_, ?_, ?_⟩
        · rw [up2_ne (Or.inl (by decide)), up2_ne (Or.inr hy), up2_ne (Or.inl (by decide)), up2_ne (Or.inl (by decide)), up2_ne (Or.inl (by decide))]
        · rw [up2_ne (Or.inl (by decide)), up2_ne (Or.inl (by decide)), up2_ne (Or.inl (by decide)), up2_ne (Or.inl (by decide)), up2_ne (Or.inr hy)]
        · rw [up2_ne (Or.inl (by decide)), up2_ne (Or.inl (by decide)), up2_ne (Or.inl (by decide)), up2_ne (Or.inr hy), up2_ne (Or.inl (by decide))]
        · rw [up2_ne (Or.inl (by decide)), up2_ne (Or.inl (by decide)), up2_ne (Or.inr hy), up2_ne (Or.inl (by decide)), up2_ne (Or.inl (by decide))]
      · rw [up2_same]
        show (D.1 : Int) + 1 = ((D.1 + 1 : Nat) : Int)
        omega
      · refine ⟨?_, ?_, ?_, ?_⟩
        · rw [up2_ne (Or.inl (by decide)), up2_same, mkD_9, if_pos rfl]
        · rw [up2_ne (Or.inl (by decide)), up2_ne (Or.inl (by decide)), up2_ne (Or.inl (by decide)), up2_ne (Or.inl (by decide)), up2_same]
        · rw [up2_ne (Or.inl (by decide)), up2_ne (Or.inl (by decide)), up2_ne (Or.inl (by decide)), up2_same]
        · rw [up2_ne (Or.inl (by decide)), up2_ne (Or.inl (by decide)), up2_same, mkD_9, if_pos rfl, Int.toNat_natCast, mkD_u, if_pos rfl]
          rfl
    · show sm (fun k => (mkD D s (u + 1) (dHas D (L s)) (dHas D (R s)) (bt m s)).2 5 k) (D.1 + 1) = _
      rw [sm_s, sm_ext (g := fun k => D.2 5 k) D.1 (fun k hk => by rw [mkD_5, if_neg (by omega)]), mkD_5, if_pos rfl]
  have hfr : ∀ a b c e : Int, (∀ k, k ≠ 262 → ¬ (293 ≤ k ∧ k ≤ 296) → up2 (up2 (up2 (up2 (up2 O 294 s a) 295 s b) 296 s 0) 293 s c) 262 67 e k = O k) ∧ ∀ j, j ≠ 67 → up2 (up2 (up2 (up2 (up2 O 294 s a) 295 s b) 296 s 0) 293 s c) 262 67 e 262 j = O 262 j := fun a b c e => ⟨fun k h1 h2 => by rw [up2_row h1, up2_row (by omega), up2_row (by omega), up2_row (by omega), up2_row (by omega)], fun j hj => by rw [up2_ne (Or.inr hj), up2_row (by decide), up2_row (by decide), up2_row (by decide), up2_row (by decide)]⟩
  unfold f_X12_isSimCopied
  rw [Ln284, aget_nat hs, hL]
  dsimp only [Option.bind_some]
  rw [hsn _ hcL]
  dsimp only [Option.bind_some]
  rw [Ln285, aget_nat hs, hR]
  dsimp only [Option.bind_some]
  rw [hsn _ hcR]
  dsimp only [Option.bind_some]
  rw [Ln294, aget_nat hs]
  dsimp only [Option.bind_some, jn]
  rw [Ln295, aget_nat hs]
  dsimp only [Option.bind_some, jn]
  rw [htr, htr]
  have n1 := hne (O 294 s) (dHas D (L s))
  have n2 := hne (O 295 s) (dHas D (R s))
  rw [wr_id (z := (neI (O 294 s) (dHas D (L s)) : Int) + (neI (O 295 s) (dHas D (R s)) : Int)) (by omega) (by omega)]
  rw [Ln296, Ln293, aset_nat hs]
  by_cases hb : m.testBit s = true
  · obtain ⟨k, a1, a2, a3, a4, a5⟩ := hF.2.2.2.1 s (Or.inr hb)
    obtain ⟨b1, b2, b3, b4⟩ := i2 s hb hsd
    rw [a1, Int.toNat_natCast] at b2 b3 b4
    rw [b2] at n1
    rw [b3] at n2
    have hk6 := hu6 k a2
    rw [bt_1.mpr hb, if_neg (show ¬ (1 : Int) = 0 by decide), aget_nat hs]
    dsimp only [Option.bind_some]
    rw [b2, b3, b4, wr_id (z := (dUsed D k : Int) + ((neI (rdD D k 0 u) (dHas D (L s)) : Int) + (neI (rdD D k 1 u) (dHas D (R s)) : Int))) (by omega) (by omega)]
    by_cases hq : slots < dUsed D k + (neI (rdD D k 0 u) (dHas D (L s)) + neI (rdD D k 1 u) (dHas D (R s)))
    · rw [if_pos (c := (slots : Int) < _) (by omega)]
      dsimp only [Option.bind_some]
      rw [aset_nat hs]
      dsimp only [Option.bind_some]
      rw [if_neg (show ¬ (1 : Int) = 0 by decide)]
      dsimp only [Option.bind_some]
      rw [aset_nat hs]
      dsimp only [Option.bind_some]
      rw [if_neg (show ¬ (1 : Int) = 0 by decide), aset_nat hs]
      dsimp only [Option.bind_some]
      rw [if_neg (show ¬ ((1 : Int) = 0 ∨ (1 : Int) = 0) by decide)]
      have e67 : ∀ M : Smo, M 262 67 = O 262 67 → M 262 67 = (D.1 : Int) := fun M hM => by rw [hM, i0]
      rw [up2_ne (Or.inl (by decide)) (M := up2 (up2 (up2 O 294 s _) 295 s _) 296 s 0), up2_ne (Or.inl (by decide)), up2_ne (Or.inl (by decide)), up2_ne (Or.inl (by decide)), i0, wr_id (z := (D.1 : Int) + 1) (by omega) (by omega)]
      obtain ⟨h1, h2⟩ := hmk (Or.inr (by rw [a1, Int.toNat_natCast]; exact hq))
      refine Ret_some ⟨h1, Or.inr rfl, ?_, (hfr _ _ _ _).1, (hfr _ _ _ _).2⟩
      rw [h2, bt_1.mpr hb]
    · rw [if_neg (c := (slots : Int) < _) (by omega)]
      dsimp only [Option.bind_some]
      rw [aset_nat hs]
      dsimp only [Option.bind_some]
      rw [if_pos rfl, aget_nat hs, up2_ne (Or.inl (by decide)), up2_ne (Or.inl (by decide)), b4]
      dsimp only [Option.bind_some]
      rw [wr_id (z := (dUsed D k : Int) + ((neI (rdD D k 0 u) (dHas D (L s)) : Int) + (neI (rdD D k 1 u) (dHas D (R s)) : Int))) (by omega) (by omega), aset_nat hs]
      dsimp only [Option.bind_some]
      rw [if_pos rfl]
      dsimp only [Option.bind_some]
      rw [if_pos (Or.inl rfl)]
      obtain ⟨k1, k2, k3, k4, k5⟩ := adD_kp (L := L) (R := R) hb a1 hq hsl hu6 a2
      refine Ret_some ⟨hoth _ _ (fun y _ => k2 y) (fun j y hj hy hys => k5 j hj (fun e => hys (by rw [e] at hy; omega))) (fun y hy => ?_) ?_ ?_, Or.inl rfl, ?_, fun q h1 h2 => ?_, fun j hj => ?_⟩
      · dsimp only
        refine ⟨?_, ?_, ?_, ?_⟩
        · rw [up2_ne (Or.inl (by decide)), up2_ne (Or.inl (by decide)), up2_ne (Or.inl (by decide))]
        · rw [up2_ne (Or.inl (by decide)), up2_ne (Or.inl (by decide)), up2_ne (Or.inr hy)]
        · rw [up2_ne (Or.inl (by decide)), up2_ne (Or.inr hy), up2_ne (Or.inl (by decide))]
        · rw [up2_ne (Or.inr hy), up2_ne (Or.inl (by decide)), up2_ne (Or.inl (by decide))]
      · dsimp only
        rw [up2_ne (Or.inl (by decide)), up2_ne (Or.inl (by decide)), up2_ne (Or.inl (by decide)), i0, k1]
      · dsimp only
        refine ⟨?_, ?_, ?_, ?_⟩
        · rw [up2_ne (Or.inl (by decide)), up2_ne (Or.inl (by decide)), up2_ne (Or.inl (by decide)), b1, k2]
        · rw [up2_ne (Or.inl (by decide)), up2_ne (Or.inl (by decide)), up2_same]
        · rw [up2_ne (Or.inl (by decide)), up2_same]
        · rw [up2_same, k2, a1, Int.toNat_natCast, k4]
          omega
      · dsimp only
        rw [k1, sm_ext (g := fun k => D.2 5 k) D.1 (fun k _ => k3 k)]
        omega
      · dsimp only
        rw [up2_row (by omega), up2_row (by omega), up2_row (by omega)]
      · dsimp only
        rw [up2_row (by decide), up2_row (by decide), up2_row (by decide)]
  · have hb' : m.testBit s = false := by simpa using hb
    rw [bt_0.mpr hb', if_pos rfl]
    dsimp only [Option.bind_some]
    rw [aset_nat hs]
    dsimp only [Option.bind_some]
    rw [if_neg (show ¬ (1 : Int) = 0 by decide)]
    dsimp only [Option.bind_some]
    rw [aset_nat hs]
    dsimp only [Option.bind_some]
    rw [if_neg (show ¬ (1 : Int) = 0 by decide), aset_nat hs]
    dsimp only [Option.bind_some]
    rw [if_pos (show (1 : Int) = 0 ∨ (0 : Int) = 0 by decide)]
    rw [up2_ne (Or.inl (by decide)) (M := up2 (up2 (up2 O 294 s _) 295 s _) 296 s 0), up2_ne (Or.inl (by decide)), up2_ne (Or.inl (by decide)), up2_ne (Or.inl (by decide)), i0, wr_id (z := (D.1 : Int) + 1) (by omega) (by omega)]
    obtain ⟨h1, h2⟩ := hmk (Or.inl hb')
    refine Ret_some ⟨h1, Or.inl rfl, ?_, (hfr _ _ _ _).1, (hfr _ _ _ _).2⟩
    rw [h2, bt_0.mpr hb']
