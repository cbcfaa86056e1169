/-! LEVEL 3, ll: image, back -/
/-- the rows of a store with nothing written after version v -/
def tA (A : Nat → Int) (v : Nat) : Nat → Int := fun i => if 1485 ≤ i ∧ i < 1485 + nA A v then (usA A (i - 1485) v : Int) else A i
section TA
variable {A A' : Nat → Int} {n ne slots tp v : Nat} {g : Sg} {w ev : Nat → Int}
theorem tA_low {i : Nat} (hi : i < 1485) : tA A v i = A i := by
  unfold tA
  rw [if_neg (by omega)]
theorem tA_us {k : Nat} (hk : k < nA A v) : tA A v (1485 + k) = (usA A k v : Int) := by
  unfold tA
  rw [if_pos (by omega), show 1485 + k - 1485 = k by omega]
theorem tA_hi {i : Nat} (h : nA A v ≤ 320) (hi : 1805 ≤ i) : tA A v i = A i := by
  unfold tA
  rw [if_neg (by omega)]
theorem tA_n {u : Nat} (hu : u ≤ 40) : nA (tA A v) u = nA A u := by
  unfold nA
  rw [tA_low (by omega)]
theorem tA_m {u : Nat} (hu : u ≤ 40) : mA (tA A v) u = mA A u := by
  unfold mA
  rw [tA_low (by omega)]
theorem tA_use (h : okA A n slots tp) (hv : v ≤ tp) (h3 : nA A v ≤ 320) {k u : Nat} (hk : k < nA A v) (hu : u ≤ v) : usA (tA A v) k u = usA A k u := by
  have hkt : k < nA A tp := Nat.lt_of_lt_of_le hk (nA_le h hv (Nat.le_refl _))
  unfold usA
  rw [tA_us hk, Int.toNat_natCast]
  have e1 : usC (tA A v) k u (usA A k v) = usC A k u (usA A k v) := usC_congr _ (fun c _ => tA_hi h3 (by omega))
  have hle := usC_le A k v (A (1485 + k)).toNat
  have e2 : usC A k u (A (1485 + k)).toNat = usC A k u (usA A k v) := usC_ext _ hle (fun c h1 h2 h3 => by
    have := (us_pre h hkt v h2).mp (by omega)
    omega)
  rw [e1, e2]
theorem ndA_low (h1 : mA A' v = mA A v) (h2 : nA A' v = nA A v) (h3 : ∀ k, A' (205 + k) = A (205 + k) ∨ nA A v ≤ k) (s : Int) : ndA A' s v = ndA A s v := by
  unfold ndA
  have key : ∀ m, m ≤ nA A v → lastO (fun k => A' (205 + k)) s m = lastO (fun k => A (205 + k)) s m := by
    intro m
    induction m with
    | zero => intro _; rfl
    | succ m ih =>
      intro hm
      have e : A' (205 + m) = A (205 + m) := (h3 m).resolve_right (by omega)
      unfold lastO
      rw [ih (by omega), e]
  rw [h1, h2, key _ (Nat.le_refl _)]
theorem tA_vw (h : okA A n slots tp) (hv : v ≤ tp) (h40 : v ≤ 40) (h3 : nA A v ≤ 320) {u : Nat} (hu : u ≤ v) : vwD (tA A v) u = vwD A u := by
  have hn : nA (tA A v) u = nA A u := tA_n (by omega)
  have hle : nA A u ≤ nA A v := nA_le h hu hv
  have key : (vwD (tA A v) u).2 = (vwD A u).2 := by
    funext j k
    unfold vwD
    dsimp only
    rw [hn]
    by_cases c1 : j < 4
    · rw [if_pos c1, if_pos c1]
      by_cases c2 : k < nA A u
      · rw [if_pos c2, if_pos c2, tA_low (by omega)]
      · rw [if_neg c2, if_neg c2]
    · rw [if_neg c1, if_neg c1]
      by_cases c2 : j = 4
      · rw [if_pos c2, if_pos c2]
        by_cases c3 : k < nA A u
        · rw [if_pos c3, if_pos c3, tA_use h hv h3 (by omega) hu]
        · rw [if_neg c3, if_neg c3]
      · rw [if_neg c2, if_neg c2]
        by_cases c3 : j = 5
        · rw [if_pos c3, if_pos c3]
          by_cases c4 : k < nA A u
          · obtain ⟨x, x1, x2, x3, x4⟩ := made_le h (show u ≤ tp by omega) c4
            rw [if_pos c4, if_pos c4, tA_low (show 525 + k < 1485 by omega), tA_low (show 205 + k < 1485 by omega), x1, tA_m (by omega)]
          · rw [if_neg c4, if_neg c4]
        · rw [if_neg c3, if_neg c3]
          by_cases c4 : j < 9
          · rw [if_pos c4, if_pos c4]
            by_cases c5 : k / 6 < nA A u
            · rw [tA_use h hv h3 (show k / 6 < nA A v by omega) hu, tA_hi h3 (show 1805 ≤ 1805 + 1920 * (j - 6) + k by omega)]
            · rw [if_neg (by omega), if_neg (by omega)]
          · rw [if_neg c4, if_neg c4]
            by_cases c5 : j = 9
            · rw [if_pos c5, if_pos c5]
              exact ndA_low (tA_m (by omega)) hn (fun k => by
                by_cases c6 : k < nA A u
                · exact Or.inl (tA_low (by omega))
                · exact Or.inr (by omega)) k
            · rw [if_neg c5, if_neg c5]
  exact Prod.ext hn key
theorem tA_ok (h : okA A n slots tp) (hv : v ≤ tp) (h40 : v ≤ 40) (h3 : nA A v ≤ 320) : okA (tA A v) n slots v := by
  have hok := h
  obtain ⟨o1, ⟨o2, o3, o4⟩, o5, o6⟩ := h
  refine ⟨fun u hu => ?_, ⟨?_, fun u hu => ?_, fun u hu => ?_⟩, fun k hk => ?_, fun u hu s hs => ?_⟩
  · rw [tA_low (by omega), tA_m (by omega)]
    exact o1 u (by omega)
  · rw [tA_n (by omega)]; exact o2
  · rw [tA_low (by omega), tA_n (by omega)]
    exact o3 u (by omega)
  · rw [tA_n (by omega), tA_n (by omega)]
    exact o4 u (by omega)
  · rw [tA_n h40] at hk
    have hkt : k < nA A tp := Nat.lt_of_lt_of_le hk (nA_le hok hv (Nat.le_refl _))
    obtain ⟨p1, p2, p3, p4, p5⟩ := o5 k hkt
    obtain ⟨x, x1, x2, x3, x4, x5⟩ := made_le hok hv hk
    have hus := us_le hok hkt v
    have hlt : ∀ c, c < usA A k v → c < (A (1485 + k)).toNat := fun c hc => us_lt hc
    refine ⟨?_, ⟨x, ?_, x2, x3, ?_, ?_⟩, ?_, fun c c' h1 h2 => ?_, fun c hc => ?_⟩
    · rw [tA_low (by omega)]; exact p1
    · rw [tA_low (by omega)]; exact x1
    · rw [tA_n (by omega)]; exact x4
    · rw [tA_n (by omega)]; exact x5
    · rw [tA_us hk]; omega
    · rw [tA_us hk, Int.toNat_natCast] at h2
      rw [tA_hi h3 (by omega), tA_hi h3 (by omega)]
      exact p4 c c' h1 (hlt _ h2)
    · rw [tA_us hk, Int.toNat_natCast] at hc
      rw [tA_low (show 525 + k < 1485 by omega), tA_hi h3 (by omega)]
      exact ⟨(p5 c (hlt _ hc)).1, (us_pre hok hkt v (hlt _ hc)).mpr hc⟩
  · rw [tA_m (by omega)] at hs
    obtain ⟨k, k1, k2⟩ := o6 u (by omega) s hs
    refine ⟨k, ?_, by rw [tA_n (by omega)]; exact k2⟩
    rw [← k1]
    have hle : nA A u ≤ nA A v := nA_le hok hu hv
    exact ndA_low (tA_m (by omega)) (tA_n (by omega)) (fun k => by
                by_cases c6 : k < nA A u
                · exact Or.inl (tA_low (by omega))
                · exact Or.inr (by omega)) s
theorem tA_sto (h : stoA g n ne w ev slots A tp) (hv : v ≤ tp) (h40 : v ≤ 40) : stoA g n ne w ev slots (tA A v) v := by
  obtain ⟨s1, s2, s3, s4⟩ := h
  have h8 := nA_8 s1 v hv
  have h3 : nA A v ≤ 320 := by omega
  have hvw : ∀ u, u ≤ v → vwD (tA A v) u = vwD A u := fun u hu => tA_vw s1 hv h40 h3 hu
  refine ⟨tA_ok s1 hv h40 h3, fun u hu => ?_, fun u hu => ?_, fun u hu => ?_⟩
  · unfold stpA
    rw [vwD_mA (hvw u (by omega)) (tA_m (by omega)), tA_m (by omega), hvw (u + 1) (by omega), tA_low (show u + 1 < 1485 by omega)]
    exact s2 u (by omega)
  · obtain ⟨a, b⟩ := s3 u (by omega)
    unfold verA evA cA at *
    rw [tA_m (by omega), tA_low (show u < 1485 by omega), tA_low (show 82 + u < 1485 by omega), tA_low (show 123 + u < 1485 by omega)]
    exact ⟨a, b⟩
  · have := s4 u (by omega)
    unfold chA at *
    rw [tA_low (show u < 1485 by omega), tA_low (show u + 1 < 1485 by omega), tA_low (show 123 + u < 1485 by omega), tA_low (show 123 + (u + 1) < 1485 by omega)]
    exact this
end TA
/-- rows taken one after another -/
def tkF (p o : Nat) (S : Sst) : Nat → Sst
  | 0 => S
  | j + 1 => f_X6_takeFrom (p + (2 * j + 1)) (o + (2 * j + 1)) (tkF p o S j)
theorem tkF_row {p o : Nat} {S : Sst} (hp : stP p) (ho : stP o) (hne : p ≠ o) : ∀ j, j ≤ 16 → (∀ i, i < j → (tkF p o S j).1 (p + (2 * i + 1)) = (S.1 (o + (2 * i + 1))).take (Ln (p + (2 * i + 1) + 1))) ∧ (∀ k, (k ≤ p ∨ p + 31 < k) → (tkF p o S j).1 k = S.1 k) ∧ (tkF p o S j).2 = S.2
  | 0, _ => ⟨fun i hi => by omega, fun k hk => rfl, rfl⟩
  | j + 1, hj => by
    obtain ⟨i1, i2, i3⟩ := tkF_row (S := S) hp ho hne j (by omega)
    have hd : o + 31 < p ∨ p + 31 < o := by unfold stP at hp ho; omega
    have e : tkF p o S (j + 1) = upR (tkF p o S j) (p + (2 * j + 1)) ((S.1 (o + (2 * j + 1))).take (Ln (p + (2 * j + 1) + 1))) := by
      show f_X6_takeFrom _ _ _ = _
      unfold f_X6_takeFrom
      rw [if_neg (by omega), i2 _ (by omega)]
    rw [e]
    refine ⟨fun i hi => ?_, fun k hk => ?_, i3⟩
    · by_cases q : i = j
      · rw [q, upR_at]
      · rw [upR_ne _ _ (by omega)]
        exact i1 i (by omega)
    · rw [upR_ne _ _ (by omega)]
      exact i2 k hk
theorem LnSt {p : Nat} (hp : stP p) : ∀ i, i < 16 → Ln (p + (2 * i + 1) + 1) = if i < 6 then 41 else if i < 12 then 320 else if i < 15 then 1920 else 8 := by
  have key : ∀ i : Fin 16, ∀ q : Fin 5, Ln ((if q.val = 0 then 74 else if q.val = 1 then 107 else if q.val = 2 then 140 else if q.val = 3 then 173 else 206) + (2 * i.val + 1) + 1) = if i.val < 6 then 41 else if i.val < 12 then 320 else if i.val < 15 then 1920 else 8 := by decide +kernel
  intro i hi
  unfold stP at hp
  rcases hp with rfl | rfl | rfl | rfl | rfl
  · exact key ⟨i, hi⟩ 0
  · exact key ⟨i, hi⟩ 1
  · exact key ⟨i, hi⟩ 2
  · exact key ⟨i, hi⟩ 3
  · exact key ⟨i, hi⟩ 4
theorem cl_takeFrom {p o : Nat} {S : Sst} {g : Sg} {w : Nat → Int} {slots v : Nat} {A : Nat → Int} (hp : stP p) (ho : stP o) (hne : p ≠ o) (h : RepS o S g w slots A v) (hv : v ≤ 40) (h3 : nA A v ≤ 320) : RepS p (f_X7_takeFrom p o S) g w slots A v ∧ (f_X7_takeFrom p o S).2 = S.2 ∧ ∀ k, (k ≤ p ∨ p + 31 < k) → (f_X7_takeFrom p o S).1 k = S.1 k := by
  have e : f_X7_takeFrom p o S = tkF p o S 16 := rfl
  rw [e]
  obtain ⟨i1, i2, i3⟩ := tkF_row (S := S) hp ho hne 16 (Nat.le_refl _)
  refine ⟨?_, i3, i2⟩
  obtain ⟨r1, r2, r3, r4, r5, r6, r7, r8, r9⟩ := h
  have hN : (vwD A v).1 = nA A v := rfl
  have row : ∀ i q (f : Nat → Int), i < 16 → S.1 (o + (2 * i + 1)) = rg q f → q ≤ Ln (p + (2 * i + 1) + 1) → (tkF p o S 16).1 (p + (2 * i + 1)) = rg q f := fun i q f hi hs hq => by
    rw [i1 i hi, hs, rg_take_all f hq]
  have L := LnSt hp
  refine ⟨row 0 _ _ (by decide) r1 (by rw [L 0 (by decide)]; simp; omega), row 1 _ _ (by decide) r2 (by rw [L 1 (by decide)]; simp; omega), row 2 _ _ (by decide) r3 (by rw [L 2 (by decide)]; simp; omega), row 3 _ _ (by decide) r4 (by rw [L 3 (by decide)]; simp; omega), row 4 _ _ (by decide) r5 (by rw [L 4 (by decide)]; simp; omega), row 5 _ _ (by decide) r6 (by rw [L 5 (by decide)]; simp; omega), fun j hj => ?_, fun j hj => ?_, row 15 _ _ (by decide) r9 (by rw [L 15 (by decide)]; simp)⟩
  · have := row (6 + j) (vwD A v).1 ((vwD A v).2 j) (by omega) (by rw [show o + (2 * (6 + j) + 1) = o + 13 + 2 * j by omega]; exact r7 j hj) (by rw [L _ (by omega), if_neg (by omega), if_pos (by omega)]; omega)
    rw [show p + (2 * (6 + j) + 1) = p + 13 + 2 * j by omega] at this
    exact this
  · obtain ⟨f, f1, f2⟩ := r8 j hj
    refine ⟨f, ?_, f2⟩
    have := row (12 + j) (6 * (vwD A v).1) f (by omega) (by rw [show o + (2 * (12 + j) + 1) = o + 25 + 2 * j by omega]; exact f1) (by rw [L _ (by omega), if_neg (by omega), if_neg (by omega), if_pos (by omega)]; omega)
    rw [show p + (2 * (12 + j) + 1) = p + 25 + 2 * j by omega] at this
    exact this
