/-! LEVEL 3, u: the reference's rows as plain data, a version more (pure) -/
def vwD (A : Nat → Int) (v : Nat) : Dt := (nA A v, fun j k =>
  if j < 4 then (if k < nA A v then A (205 + 320 * j + k) else 0)
  else if j = 4 then (if k < nA A v then (usA A k v : Int) else 0)
  else if j = 5 then (if k < nA A v then bt (mA A (A (525 + k) - 1).toNat) (A (205 + k)).toNat else 0)
  else if j < 9 then (if k / 6 < nA A v ∧ k % 6 < usA A (k / 6) v then A (1805 + 1920 * (j - 6) + k) else 0)
  else if j = 9 then ndA A k v else 0)
def okA (A : Nat → Int) (n slots tp : Nat) : Prop :=
  (∀ u, u ≤ tp → A (41 + u) = (mA A u : Int) ∧ mA A u < 256 ∧ ∀ k, (mA A u).testBit k = true → k < n) ∧
  (nA A 0 = 0 ∧ (∀ u, u ≤ tp → A (164 + u) = (nA A u : Int)) ∧ ∀ u, u < tp → nA A u ≤ nA A (u + 1) ∧ nA A (u + 1) ≤ nA A u + 8) ∧
  (∀ k, k < nA A tp → (∃ s : Nat, s < n ∧ A (205 + k) = (s : Int)) ∧ (∃ w : Nat, A (525 + k) = (w : Int) ∧ 1 ≤ w ∧ w ≤ tp ∧ nA A (w - 1) ≤ k ∧ k < nA A w) ∧ (0 ≤ A (1485 + k) ∧ A (1485 + k) ≤ slots) ∧
    (∀ c c', c ≤ c' → c' < (A (1485 + k)).toNat → A (1805 + (6 * k + c)) ≤ A (1805 + (6 * k + c'))) ∧ ∀ c, c < (A (1485 + k)).toNat → A (525 + k) < A (1805 + (6 * k + c)) ∧ A (1805 + (6 * k + c)) ≤ tp) ∧
  ∀ u, u ≤ tp → ∀ s : Nat, (mA A u).testBit s = true → ∃ k : Nat, ndA A s u = (k : Int) ∧ k < nA A u
section VWD
variable {A : Nat → Int} {n slots tp : Nat}
theorem vwD_n (A : Nat → Int) (v : Nat) : (vwD A v).1 = nA A v := rfl
theorem vwD_f {v j k : Nat} (hj : j < 4) (hk : k < nA A v) : (vwD A v).2 j k = A (205 + 320 * j + k) := by
  show (if j < 4 then (if k < nA A v then A (205 + 320 * j + k) else 0) else _) = _
  rw [if_pos hj, if_pos hk]
theorem vwD_4 {v k : Nat} (hk : k < nA A v) : (vwD A v).2 4 k = (usA A k v : Int) := if_pos hk
theorem vwD_5 {v k : Nat} (hk : k < nA A v) : (vwD A v).2 5 k = bt (mA A (A (525 + k) - 1).toNat) (A (205 + k)).toNat := if_pos hk
theorem vwD_9 (A : Nat → Int) (v k : Nat) : (vwD A v).2 9 k = ndA A k v := rfl
theorem vwD_u {v k : Nat} (hk : k < nA A v) : dUsed (vwD A v) k = usA A k v := by
  unfold dUsed
  rw [vwD_4 hk, Int.toNat_natCast]
theorem vwD_s {v j k c : Nat} (hj : j < 3) (hk : k < nA A v) (hc : c < usA A k v) (h6 : usA A k v ≤ 6) : (vwD A v).2 (6 + j) (6 * k + c) = A (1805 + 1920 * j + (6 * k + c)) := by
  have h1 : (6 * k + c) / 6 = k := by omega
  have h2 : (6 * k + c) % 6 = c := by omega
  show (if 6 + j < 4 then _ else if 6 + j = 4 then _ else if 6 + j = 5 then _ else if 6 + j < 9 then (if (6 * k + c) / 6 < nA A v ∧ (6 * k + c) % 6 < usA A ((6 * k + c) / 6) v then A (1805 + 1920 * (6 + j - 6) + (6 * k + c)) else 0) else _) = _
  rw [if_neg (by omega), if_neg (by omega), if_neg (by omega), if_pos (by omega), h1, h2, if_pos ⟨hk, hc⟩, show 6 + j - 6 = j by omega]
theorem usC_pre {k : Nat} {st : Int} : ∀ n, (∀ c c', c ≤ c' → c' < n → A (1805 + (6 * k + c)) ≤ A (1805 + (6 * k + c'))) → ∀ c, c < n → (A (1805 + (6 * k + c)) ≤ st ↔ c < usC A k st n)
  | 0, _, c, hc => by omega
  | n + 1, h, c, hc => by
    have ih := usC_pre (st := st) n (fun c c' h1 h2 => h c c' h1 (by omega))
    rw [usC_s]
    by_cases e : A (1805 + (6 * k + n)) ≤ st
    · have hall : usC A k st n = n := usC_all n (fun i hi => by have := h i n (by omega) (by omega); omega)
      rw [if_pos e, hall]
      have := h c n (by omega) (by omega)
      constructor
      · intro _; omega
      · intro _; omega
    · rw [if_neg e]
      have hle := usC_le A k st n
      by_cases q : c = n
      · subst q
        constructor
        · intro h; exact absurd h e
        · intro h; omega
      · rw [ih c (by omega)]
        rfl
theorem usC_ext {k : Nat} {st : Int} {a : Nat} : ∀ b, a ≤ b → (∀ c, a ≤ c → c < b → ¬ A (1805 + (6 * k + c)) ≤ st) → usC A k st b = usC A k st a
  | 0, h, _ => by
    have : a = 0 := by omega
    rw [this]
  | b + 1, h, hc => by
    by_cases e : a = b + 1
    · rw [e]
    · rw [usC_s, if_neg (hc b (by omega) (by omega)), usC_ext b (by omega) (fun c h1 h2 => hc c h1 (by omega))]
      rfl
theorem usC_congr {A' : Nat → Int} {k : Nat} {st : Int} : ∀ a, (∀ c, c < a → A (1805 + (6 * k + c)) = A' (1805 + (6 * k + c))) → usC A k st a = usC A' k st a
  | 0, _ => rfl
  | a + 1, h => by
    rw [usC_s, usC_s, usC_congr a (fun c hc => h c (by omega)), h a (by omega)]
theorem nA_mono (h : okA A n slots tp) : ∀ d u, u + d ≤ tp → nA A u ≤ nA A (u + d)
  | 0, u, _ => Nat.le_refl _
  | d + 1, u, hd => by
    have h1 := nA_mono h d u (by omega)
    have h2 := (h.2.1.2.2 (u + d) (by omega)).1
    rw [show u + (d + 1) = u + d + 1 by omega]
    omega
theorem nA_le (h : okA A n slots tp) {u v : Nat} (huv : u ≤ v) (hv : v ≤ tp) : nA A u ≤ nA A v := by
  have := nA_mono h (v - u) u (by omega)
  rwa [show u + (v - u) = v by omega] at this
theorem nA_8 (h : okA A n slots tp) : ∀ u, u ≤ tp → nA A u ≤ 8 * u
  | 0, _ => by rw [h.2.1.1]; omega
  | u + 1, hu => by
    have h1 := nA_8 h u (by omega)
    have h2 := (h.2.1.2.2 u (by omega)).2
    omega
theorem us_le (h : okA A n slots tp) {k : Nat} (hk : k < nA A tp) (st : Int) : usA A k st ≤ slots := by
  have h1 := (h.2.2.1 k hk).2.2.1
  have h2 := usC_le A k st (A (1485 + k)).toNat
  unfold usA
  omega
theorem us_pre (h : okA A n slots tp) {k : Nat} (hk : k < nA A tp) (st : Int) {c : Nat} (hc : c < (A (1485 + k)).toNat) : A (1805 + (6 * k + c)) ≤ st ↔ c < usA A k st := usC_pre _ (h.2.2.1 k hk).2.2.2.1 c hc
theorem us_lt {k : Nat} {st : Int} {c : Nat} (hc : c < usA A k st) : c < (A (1485 + k)).toNat := Nat.lt_of_lt_of_le hc (usC_le _ _ _ _)
theorem made_le (h : okA A n slots tp) {k v : Nat} (hv : v ≤ tp) (hk : k < nA A v) : ∃ w : Nat, A (525 + k) = (w : Int) ∧ 1 ≤ w ∧ w ≤ v ∧ nA A (w - 1) ≤ k ∧ k < nA A w := by
  have hkt : k < nA A tp := Nat.lt_of_lt_of_le hk (nA_le h hv (Nat.le_refl _))
  obtain ⟨w, h1, h2, h3, h4, h5⟩ := (h.2.2.1 k hkt).2.1
  refine ⟨w, h1, h2, ?_, h4, h5⟩
  by_cases c : w ≤ v
  · exact c
  · have := nA_le h (u := v) (v := w - 1) (by omega) (by omega)
    omega
theorem FI_start (h : okA A n slots tp) (h6 : slots ≤ 6) {v : Nat} (hv : v ≤ tp) (L R : Nat → Int) : FI (vwD A v) v (mA A v) n slots L R [] [] 0 (vwD A v) := by
  have hlt : ∀ k, k < nA A v → k < nA A tp := fun k hk => Nat.lt_of_lt_of_le hk (nA_le h hv (Nat.le_refl _))
  have hu6 : ∀ k, k < nA A v → usA A k v ≤ 6 := fun k hk => by have := us_le h (hlt k hk) v; omega
  have hcs : ∀ k c, k < nA A v → c < usA A k v → (vwD A v).2 6 (6 * k + c) = A (1805 + (6 * k + c)) := fun k c hk hc => vwD_s (j := 0) (by decide) hk hc (hu6 k hk)
  have hst : ∀ k c, k < nA A v → c < usA A k v → A (1805 + (6 * k + c)) ≤ v := fun k c hk hc => (us_pre h (hlt k hk) v (us_lt hc)).mpr hc
  refine ⟨⟨Nat.le_refl _, fun _ _ _ _ => rfl⟩, fun k hk => ?_, fun k hk => ?_, fun s hs => ?_, fun k c hk hc => ?_, fun k hk => ?_, fun k c c' hk h1 h2 => ?_, fun s hs => (by cases hs), ?_, fun k hk => ⟨Nat.le_refl _, fun _ _ _ _ => rfl, fun c h1 h2 => by omega⟩, fun _ _ => rfl⟩
  · rw [vwD_4 hk, vwD_u hk]
    exact ⟨by omega, us_le h (hlt k hk) v⟩
  · obtain ⟨s, h1, h2⟩ := (h.2.2.1 k (hlt k hk)).1
    exact ⟨s, h1, by rw [vwD_f (by decide) hk]; exact h2⟩
  · rcases hs with hs | hs
    · cases hs
    · obtain ⟨k, h1, h2⟩ := h.2.2.2 v hv s hs
      have hl : lastO (fun k => A (205 + k)) (s : Int) (nA A v) = (k : Int) := by
        unfold ndA at h1
        rw [if_neg (by omega), Int.toNat_natCast, if_pos hs] at h1
        exact h1
      have hown : A (205 + k) = (s : Int) := by
        rcases lastO_lt (o := fun k => A (205 + k)) (s := (s : Int)) (nA A v) with q | ⟨k', q1, q2, q3⟩
        · omega
        · have : k = k' := by omega
          rw [this]; exact q3
      refine ⟨k, by rw [vwD_9]; exact h1, h2, by rw [vwD_f (by decide) h2]; exact hown, ?_, fun _ => h2⟩
      rw [vwD_n, lastO_congr (o' := fun k => A (205 + k)) (nA A v) (fun i hi => vwD_f (by decide) hi)]
      exact hl
  · rw [vwD_n] at hk
    rw [vwD_u hk] at hc
    rw [hcs k c hk hc, vwD_f (by decide) hk]
    have h1 := hst k c hk hc
    have h2 := ((h.2.2.1 k (hlt k hk)).2.2.2.2 c (us_lt hc)).1
    exact ⟨by omega, h2⟩
  · rw [vwD_n] at hk ⊢
    obtain ⟨w, h1, h2, h3, _⟩ := made_le h hv hk
    refine ⟨fun q => by omega, fun _ => ?_, fun s hs _ => ⟨hk, fun c hc => ?_⟩⟩
    · rw [vwD_f (by decide) hk]
      show A (525 + k) ≤ _
      omega
    · rw [vwD_u hk] at hc
      rw [hcs k c hk hc]
      exact hst k c hk hc
  · rw [vwD_n] at hk
    rw [vwD_u hk] at h2
    rw [hcs k c hk (by omega), hcs k c' hk h2]
    exact (h.2.2.1 k (hlt k hk)).2.2.2.1 c c' h1 (us_lt h2)
  · rw [wcD_0 _ (fun k i hk hi => ?_)]
    · omega
    · rw [vwD_n] at hk
      rw [vwD_u hk] at hi
      rw [hcs k i hk hi]
      have := hst k i hk hi
      omega
end VWD
def eqD (D D' : Dt) : Prop := D.1 = D'.1 ∧ (∀ k, k < D.1 → (∀ j, j < 6 → D.2 j k = D'.2 j k) ∧ ∀ c, c < dUsed D k → ∀ j, (j = 6 ∨ j = 7 ∨ j = 8) → D.2 j (6 * k + c) = D'.2 j (6 * k + c)) ∧ ∀ k, k < 8 → D.2 9 k = D'.2 9 k
theorem RepD_eq {p : Nat} {S : Sst} {D D' : Dt} (h : RepD p S D) (e : eqD D D') : RepD p S D' := by
  obtain ⟨e1, e2, e3⟩ := e
  refine ⟨fun j hj => ?_, fun j hj => ?_, ?_⟩
  · rw [h.1 j hj, ← e1]
    exact rg_ext (fun k hk => (e2 k hk).1 j hj)
  · obtain ⟨f, g1, g2⟩ := h.2.1 j hj
    refine ⟨f, by rw [← e1]; exact g1, fun k c hk hc => ?_⟩
    rw [← e1] at hk
    have hu : dUsed D' k = dUsed D k := by
      unfold dUsed
      rw [(e2 k hk).1 4 (by decide)]
    rw [hu] at hc
    rw [g2 k c hk hc]
    exact (e2 k hk).2 c hc _ (by omega)
  · rw [h.2.2]
    exact rg_ext (fun k hk => e3 k hk)
/-- what the reference's rows are after a version more -/
theorem next_ok {A A' : Nat → Int} {n slots tp v m' pr : Nat} {D1 : Dt} {L R : Nat → Int} {po : List Nat} (h : okA A n slots tp) (h6 : slots ≤ 6) (hv : v ≤ tp) (hF : FI (vwD A v) v (mA A v) n slots L R po po pr D1) (hR : RefD A' (v + 1) D1) (hN : D1.1 ≤ nA A v + 8) (hpo : ∀ s, m'.testBit s = true ↔ s ∈ po) (hm8 : m' < 256) (hpn : ∀ y ∈ po, y < n)
    (hm' : A' (41 + (v + 1)) = (m' : Int)) (hlow : ∀ u, u ≤ v → A' (41 + u) = A (41 + u) ∧ A' (164 + u) = A (164 + u)) :
    okA A' n slots (v + 1) ∧ (∀ u, u ≤ v → vwD A' u = vwD A u) ∧ eqD (clD m' D1) (vwD A' (v + 1)) ∧ mA A' (v + 1) = m' ∧ ∀ u, u ≤ v → mA A' u = mA A u := by
  have hFF := hF
  obtain ⟨⟨a0, a1⟩, b, c, d, e, f, g, hh, i, j, k9⟩ := hF
  obtain ⟨hR1, hR2⟩ := hR
  rw [vwD_n] at a0 a1 d f j
  have mlow : ∀ u, u ≤ v → mA A' u = mA A u := fun u hu => by unfold mA; rw [(hlow u hu).1]
  have nlow : ∀ u, u ≤ v → nA A' u = nA A u := fun u hu => by unfold nA; rw [(hlow u hu).2]
  have mnew : mA A' (v + 1) = m' := by unfold mA; rw [hm']; omega
  have nnew : nA A' (v + 1) = D1.1 := by unfold nA; rw [hR1]; omega
  have hlt : ∀ k, k < nA A v → k < nA A tp := fun k hk => Nat.lt_of_lt_of_le hk (nA_le h hv (Nat.le_refl _))
  have hu6 : ∀ k, k < nA A v → usA A k v ≤ 6 := fun k hk => by have := us_le h (hlt k hk) v; omega
  -- old nodes
  have old : ∀ k, k < nA A v → A' (205 + k) = A (205 + k) ∧ A' (525 + k) = A (525 + k) ∧ A' (845 + k) = A (845 + k) ∧ A' (1165 + k) = A (1165 + k) ∧ usA A k v ≤ dUsed D1 k ∧ (∀ c, c < usA A k v → A' (1805 + (6 * k + c)) = A (1805 + (6 * k + c)) ∧ A' (3725 + (6 * k + c)) = A (3725 + (6 * k + c)) ∧ A' (5645 + (6 * k + c)) = A (5645 + (6 * k + c))) ∧ ∀ c, usA A k v ≤ c → c < dUsed D1 k → A' (1805 + (6 * k + c)) = v + 1 := fun k hk => by
    obtain ⟨r1, r2, r3, r4, r5, r6⟩ := hR2 k (by omega)
    obtain ⟨j1, j2, j3⟩ := j k hk
    rw [vwD_u hk] at j1 j2 j3
    refine ⟨?_, ?_, ?_, ?_, j1, fun c hc => ?_, fun c h1 h2 => ?_⟩
    · rw [r1, a1 0 k hk (by omega), vwD_f (by decide) hk]
    · rw [r2, a1 1 k hk (by omega), vwD_f (by decide) hk]
    · rw [r3, a1 2 k hk (by omega), vwD_f (by decide) hk]
    · rw [r4, a1 3 k hk (by omega), vwD_f (by decide) hk]
    · obtain ⟨s1, s2, s3⟩ := r6 c (by omega)
      rw [s1, s2, s3, j2 c hc 6 (by simp), j2 c hc 7 (by simp), j2 c hc 8 (by simp), vwD_s (j := 0) (by decide) hk hc (hu6 k hk), vwD_s (j := 1) (by decide) hk hc (hu6 k hk), vwD_s (j := 2) (by decide) hk hc (hu6 k hk)]
      exact ⟨rfl, rfl, rfl⟩
    · rw [(r6 c h2).1]
      exact j3 c h1 h2
  have hused : ∀ k, k < D1.1 → (A' (1485 + k)).toNat = dUsed D1 k := fun k hk => by rw [(hR2 k hk).2.2.2.2.1]; rfl
  have usl : ∀ k u, k < nA A v → u ≤ v → usA A' k u = usA A k u := fun k u hk hu => by
    obtain ⟨_, _, _, _, o5, o6, o7⟩ := old k hk
    unfold usA
    rw [hused k (by omega)]
    rw [usC_ext (a := usA A k v) _ o5 (fun c h1 h2 => by rw [o7 c h1 h2]; omega)]
    rw [usC_congr (A' := A) _ (fun c hc => (o6 c hc).1)]
    refine (usC_ext (a := usA A k v) _ (usC_le _ _ _ _) (fun c h1 h2 => ?_)).symm
    intro q
    have : A (1805 + (6 * k + c)) ≤ (v : Int) := by omega
    have := (us_pre h (hlt k hk) v h2).mp this
    omega
  have vlow : ∀ u, u ≤ v → vwD A' u = vwD A u := fun u hu => by
    have hnu := nA_le h hu hv
    unfold vwD
    rw [nlow u hu]
    refine Prod.ext rfl ?_
    funext jj k
    dsimp only
    by_cases q1 : jj < 4
    · rw [if_pos q1, if_pos q1]
      by_cases q2 : k < nA A u
      · rw [if_pos q2, if_pos q2]
        obtain ⟨o1, o2, o3, o4, _⟩ := old k (by omega)
        rcases (show jj = 0 ∨ jj = 1 ∨ jj = 2 ∨ jj = 3 by omega) with rfl | rfl | rfl | rfl
        · exact o1
        · exact o2
        · exact o3
        · exact o4
      · rw [if_neg q2, if_neg q2]
    · rw [if_neg q1, if_neg q1]
      by_cases q2 : jj = 4
      · rw [if_pos q2, if_pos q2]
        by_cases q3 : k < nA A u
        · rw [if_pos q3, if_pos q3, usl k u (by omega) hu]
        · rw [if_neg q3, if_neg q3]
      · rw [if_neg q2, if_neg q2]
        by_cases q3 : jj = 5
        · rw [if_pos q3, if_pos q3]
          by_cases q4 : k < nA A u
          · rw [if_pos q4, if_pos q4]
            obtain ⟨o1, o2, _⟩ := old k (by omega)
            obtain ⟨w, w1, w2, w3, _⟩ := made_le h hv (show k < nA A v by omega)
            rw [o1, o2, w1, mlow _ (by omega)]
          · rw [if_neg q4, if_neg q4]
        · rw [if_neg q3, if_neg q3]
          by_cases q4 : jj < 9
          · rw [if_pos q4, if_pos q4]
            by_cases q5 : k / 6 < nA A u
            · rw [usl (k / 6) u (by omega) hu]
              by_cases q6 : k % 6 < usA A (k / 6) u
              · rw [if_pos ⟨q5, q6⟩, if_pos ⟨q5, q6⟩]
                obtain ⟨_, _, _, _, o5, o6, _⟩ := old (k / 6) (by omega)
                have hc : k % 6 < usA A (k / 6) v := by
                  have hl := us_lt q6
                  have := (us_pre h (hlt _ (by omega)) u hl).mpr q6
                  exact (us_pre h (hlt _ (by omega)) v hl).mp (by omega)
                obtain ⟨p1, p2, p3⟩ := o6 _ hc
                have ek : 6 * (k / 6) + k % 6 = k := by omega
                rw [ek] at p1 p2 p3
                rcases (show jj = 6 ∨ jj = 7 ∨ jj = 8 by omega) with rfl | rfl | rfl
                · exact p1
                · exact p2
                · exact p3
              · rw [if_neg (fun q => q6 q.2), if_neg (fun q => q6 q.2)]
            · rw [if_neg (fun q => q5 q.1), if_neg (fun q => q5 q.1)]
          · rw [if_neg q4, if_neg q4]
            by_cases q5 : jj = 9
            · rw [if_pos q5, if_pos q5]
              unfold ndA
              rw [mlow u hu, nlow u hu, lastO_congr (o' := fun k => A (205 + k)) (nA A u) (fun i hi => (old i (by omega)).1)]
            · rw [if_neg q5, if_neg q5]
  have usn : ∀ k, k < D1.1 → usA A' k ((v + 1 : Nat) : Int) = dUsed D1 k := fun k hk => by
    unfold usA
    rw [hused k hk]
    refine usC_all _ (fun c hc => ?_)
    rw [((hR2 k hk).2.2.2.2.2 c hc).1]
    have := (e k c hk hc).1
    omega
  have hnd : ∀ s : Nat, m'.testBit s = true → ndA A' s (v + 1) = D1.2 9 s := fun s hs => by
    obtain ⟨k, q1, q2, q3, q4, _⟩ := d s (Or.inl ((hpo s).mp hs))
    unfold ndA
    rw [if_neg (by omega), mnew, Int.toNat_natCast, if_pos hs, nnew, lastO_congr (o' := D1.2 0) D1.1 (fun i hi => (hR2 i hi).1), q4, q1]
  refine ⟨⟨fun u hu => ?_, ⟨by rw [nlow 0 (by omega)]; exact h.2.1.1, fun u hu => ?_, fun u hu => ?_⟩, fun k hk => ?_, fun u hu s hs => ?_⟩, vlow, ⟨?_, fun k hk => ⟨fun jj hj => ?_, fun c hc jj hj => ?_⟩, fun k hk => ?_⟩, mnew, mlow⟩
  · by_cases q : u = v + 1
    · subst q
      rw [mnew]
      exact ⟨hm', hm8, fun k hk => hpn k ((hpo k).mp hk)⟩
    · rw [mlow u (by omega), (hlow u (by omega)).1]
      exact h.1 u (by omega)
  · by_cases q : u = v + 1
    · subst q
      rw [nnew, hR1]
    · rw [nlow u (by omega), (hlow u (by omega)).2]
      exact h.2.1.2.1 u (by omega)
  · by_cases q : u = v
    · subst q
      rw [nnew, nlow u (by omega)]
      exact ⟨a0, hN⟩
    · rw [nlow u (by omega), nlow (u + 1) (by omega)]
      exact h.2.1.2.2 u (by omega)
  · rw [nnew] at hk
    obtain ⟨r1, r2, r3, r4, r5, r6⟩ := hR2 k hk
    obtain ⟨b0, b1⟩ := b k hk
    rw [hused k hk, r1, r2, r5]
    refine ⟨c k hk, ?_, ⟨b0, ?_⟩, fun c1 c2 h1 h2 => ?_, fun c1 hc1 => ?_⟩
    · by_cases q : k < nA A v
      · obtain ⟨w, w1, w2, w3, w4, w5⟩ := made_le h hv q
        refine ⟨w, ?_, w2, by omega, by rw [nlow _ (by omega)]; exact w4, by rw [nlow _ (by omega)]; exact w5⟩
        rw [← r2, (old k q).2.1]; exact w1
      · refine ⟨v + 1, ?_, by omega, Nat.le_refl _, ?_, by rw [nnew]; exact hk⟩
        · rw [((f k hk).1 (by omega)).1]; omega
        · rw [show v + 1 - 1 = v from rfl, nlow v (Nat.le_refl _)]; omega
    · unfold dUsed at b1
      omega
    · rw [(r6 c1 (by omega)).1, (r6 c2 h2).1]
      exact g k c1 c2 hk h1 h2
    · rw [(r6 c1 hc1).1]
      have := e k c1 hk hc1
      exact ⟨this.2, by omega⟩
  · by_cases q : u = v + 1
    · subst q
      rw [mnew] at hs
      obtain ⟨k, q1, q2, q3, q4, _⟩ := d s (Or.inl ((hpo s).mp hs))
      exact ⟨k, by rw [hnd s hs, q1], by rw [nnew]; exact q2⟩
    · have hnu : ndA A' s u = ndA A s u := by
        have := congrArg (fun D : Dt => D.2 9 s) (vlow u (by omega))
        exact this
      rw [hnu, nlow u (by omega)]
      rw [mlow u (by omega)] at hs
      exact h.2.2.2 u (by omega) s hs
  · show D1.1 = nA A' (v + 1)
    rw [nnew]
  · have hk : k < D1.1 := hk
    have hk' : k < nA A' (v + 1) := by rw [nnew]; exact hk
    obtain ⟨r1, r2, r3, r4, r5, r6⟩ := hR2 k hk
    rw [clD_o _ _ _ _ (by omega)]
    rcases (show jj = 0 ∨ jj = 1 ∨ jj = 2 ∨ jj = 3 ∨ jj = 4 ∨ jj = 5 by omega) with rfl | rfl | rfl | rfl | rfl | rfl
    · rw [vwD_f (by decide) hk']; exact r1.symm
    · rw [vwD_f (by decide) hk']; exact r2.symm
    · rw [vwD_f (by decide) hk']; exact r3.symm
    · rw [vwD_f (by decide) hk']; exact r4.symm
    · rw [vwD_4 hk', usn k hk]
      have := (b k hk).1
      unfold dUsed
      omega
    · rw [vwD_5 hk']
      obtain ⟨s, s1, s2⟩ := c k hk
      by_cases q : k < nA A v
      · obtain ⟨w, w1, w2, w3, _⟩ := made_le h hv q
        rw [a1 5 k q (by omega), vwD_5 q, (old k q).1, (old k q).2.1, w1, mlow _ (by omega)]
      · obtain ⟨f1, f2⟩ := (f k hk).1 (by omega)
        rw [f2 s s2, r1, s2, r2, f1, Int.toNat_natCast, show ((v : Int) + 1 - 1).toNat = v by omega, mlow v (Nat.le_refl _)]
  · have hk : k < D1.1 := hk
    have hk' : k < nA A' (v + 1) := by rw [nnew]; exact hk
    have hc' : c < dUsed D1 k := by
      unfold dUsed at hc ⊢
      rw [clD_o _ _ _ _ (by omega)] at hc
      exact hc
    have hcu : c < usA A' k ((v + 1 : Nat) : Int) := by rw [usn k hk]; exact hc'
    have hu6' : usA A' k ((v + 1 : Nat) : Int) ≤ 6 := by
      rw [usn k hk]
      have := (b k hk).2
      omega
    obtain ⟨r1, r2, r3⟩ := (hR2 k hk).2.2.2.2.2 c hc'
    rw [clD_o _ _ _ _ (by omega)]
    rcases hj with rfl | rfl | rfl
    · exact r1.symm.trans (vwD_s (j := 0) (by decide) hk' hcu hu6').symm
    · exact r2.symm.trans (vwD_s (j := 1) (by decide) hk' hcu hu6').symm
    · exact r3.symm.trans (vwD_s (j := 2) (by decide) hk' hcu hu6').symm
  · rw [clD_9, vwD_9]
    by_cases q : m'.testBit k = true
    · rw [if_neg (by simp [q]), hnd k q]
    · rw [if_pos (by simpa using q)]
      unfold ndA
      rw [if_neg (by omega), mnew, Int.toNat_natCast, if_neg q]
