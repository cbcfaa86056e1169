/-! LEVEL 3, ff: points -/
theorem up_count {p : Nat → Bool} : ∀ (r : List Nat), r.Pairwise (fun a b => p a = true → p b = true) → ∀ (i k : Nat), r[i]? = some k → (p k = true ↔ r.length - r.countP p ≤ i)
  | [], _, i, k, h => by simp at h
  | a :: r, hp, i, k, h => by
    obtain ⟨h1, h2⟩ := List.pairwise_cons.mp hp
    have hle := List.countP_le_length (p := p) (l := r)
    by_cases c : p a = true
    · have hall : r.countP p = r.length := List.countP_eq_length.mpr (fun b hb => h1 b hb c)
      rw [List.countP_cons, if_pos c, hall, List.length_cons]
      have hk : p k = true := by
        cases i with
        | zero => simp at h; rw [← h]; exact c
        | succ i => exact h1 k (List.mem_of_getElem? (by simpa using h)) c
      rw [hk]
      simp
    · rw [List.countP_cons, if_neg c, List.length_cons]
      cases i with
      | zero =>
        simp at h
        rw [← h]
        constructor
        · intro q; exact absurd q c
        · intro q; omega
      | succ i =>
        rw [up_count r h2 i k (by simpa using h)]
        omega
section PT
variable {S S' : Sst} {O O' : Smo} {n ne slots v tp bs : Nat} {lo : Nat → Nat}
def gAb (O : Smo) (x up : Int) (s : Nat) : Bool := decide (0 < gA (sgO O) s x up)
/-- a place across that is swept, and its version -/
def swept (O : Smo) (v ne : Nat) (x : Int) : Prop := 0 ≤ x ∧ x ≤ 60 ∧ ∀ e : Nat, O 282 (123 + v) = (e : Int) → e < ne → x < O 281 e
theorem q_swept (h : Core S O n ne slots lo v tp bs) (x : Int) (hx : 0 ≤ x ∧ x ≤ 60) : ∃ b : Int, (b = 0 ∨ b = 1) ∧ f_X8_isSwept x S = b ∧ f_X12_isSwept x O = some b ∧ (b = 1 ↔ swept O v ne x) := by
  obtain ⟨e, e1, e2, e3, e4⟩ := nextE h.1 h.2
  have hE := h.1.2.2.2.1.2.2.1
  have hsw : swept O v ne x ↔ (e < ne → x < O 281 e) := by
    unfold swept
    constructor
    · intro q c; exact q.2.2 e e1 c
    · intro q
      refine ⟨hx.1, hx.2, fun e' he' c => ?_⟩
      have : e' = e := by omega
      rw [this] at c ⊢
      exact q c
  unfold f_X8_isSwept f_X12_isSwept f_X12_isIn
  dsimp only [jn, jk]
  rw [e3, e4, if_neg (c := x < 0 ∨ 60 < x) (by omega), if_neg (show ¬ (1 : Int) = 0 by decide)]
  dsimp only [Option.bind_some]
  rw [hsw]
  by_cases c : e < ne
  · have := hE e c
    rw [if_pos c, if_neg (c := O 281 e < 0) (by omega)]
    by_cases c2 : x < O 281 e
    · rw [if_pos (Or.inr c2), if_pos c2]
      exact ⟨1, Or.inr rfl, rfl, rfl, fun _ _ => c2, fun _ => rfl⟩
    · rw [if_neg (by omega), if_neg c2]
      exact ⟨0, Or.inl rfl, rfl, rfl, fun q => by omega, fun q => absurd (q c) c2⟩
  · rw [if_neg c, if_pos (Or.inl rfl), if_pos (by decide)]
    exact ⟨1, Or.inr rfl, rfl, rfl, fun _ q => absurd q c, fun _ => rfl⟩
theorem q_stampOf (h : Core S O n ne slots lo v tp bs) (x : Int) : ∃ u : Nat, u ≤ v ∧ f_X8_stampOf x S = some (u : Int) ∧ f_X12_stampAt x O = some (u : Int) ∧ (u = 0 ∨ O 282 u ≤ x) ∧ ∀ w, u < w → w ≤ v → x < O 282 w := by
  have h4 := h.2.2.2.2.1
  have hc : Ret (f_X8_stampOf x S) (fun r => ∃ u : Nat, r = (u : Int) ∧ u ≤ v ∧ (u = 0 ∨ O 282 u ≤ x) ∧ ∀ w, u < w → w ≤ v → x < O 282 w) := by
    unfold f_X8_stampOf
    dsimp only [jn]
    rw [q_new h.2]
    refine Ret_bind (Ret_lpm (fun z => ∃ u : Nat, z = (u : Int) ∧ u ≤ v ∧ ∀ w, u < w → w ≤ v → x < O 282 w) (fun z => z.toNat) ⟨v, rfl, Nat.le_refl _, fun w h1 h2 => by omega⟩ (by omega) (fun z hz => ?_) (Q := fun r => ∃ u : Nat, r = (u : Int) ∧ u ≤ v ∧ (u = 0 ∨ O 282 u ≤ x) ∧ ∀ w, u < w → w ≤ v → x < O 282 w)) (fun r hr => Ret_some hr)
    obtain ⟨u, rfl, hu, hw⟩ := hz
    rw [(q_place h.2 hu).1]
    by_cases c : 0 < (u : Int) ∧ x < O 282 u
    · rw [if_pos c, wr_id (by omega) (by omega)]
      refine Ret_some (Or.inl ⟨_, rfl, ⟨u - 1, by omega, by omega, fun w h1 h2 => ?_⟩, by omega⟩)
      by_cases e : w = u
      · rw [e]; exact c.2
      · exact hw w (by omega) h2
    · rw [if_neg c]
      refine Ret_some (Or.inr ⟨_, rfl, u, rfl, hu, ?_, hw⟩)
      by_cases q : u = 0
      · exact Or.inl q
      · exact Or.inr (by omega)
  have hr : Ret (f_X12_stampAt x O) (fun r => ∃ u : Nat, r = (u : Int) ∧ u ≤ v ∧ (u = 0 ∨ O 282 u ≤ x) ∧ ∀ w, u < w → w ≤ v → x < O 282 w) := by
    unfold f_X12_stampAt
    refine Ret_bind (Ret_lp (fun c z => z.2 = (c : Int) ∧ ∃ u : Nat, z.1 = (u : Int) ∧ (u = 0 ∨ (u < c ∧ O 282 u ≤ x)) ∧ ∀ w, u < w → w < c → x < O 282 w) (v + 1) (by omega) ⟨rfl, 0, rfl, Or.inl rfl, fun w h1 h2 => by omega⟩ (fun c z hc hI => ?_) (fun z hI => ?_) (Q := fun r => ∃ u : Nat, r = (u : Int) ∧ u ≤ v ∧ (u = 0 ∨ O 282 u ≤ x) ∧ ∀ w, u < w → w ≤ v → x < O 282 w)) (fun r hr => Ret_some hr)
    · obtain ⟨a, b⟩ := z
      obtain ⟨rfl, u, rfl, hu, hw⟩ := hI
      dsimp only [jn] at *
      rw [h.2.1, if_neg (by omega), (q_place h.2 (show c ≤ v by omega)).2]
      dsimp only [Option.bind_some]
      rw [wr_id (by omega) (by omega)]
      refine Ret_some ⟨_, rfl, by dsimp only <;> omega, ?_⟩
      dsimp only
      by_cases q : x < O 282 c
      · rw [if_pos q]
        refine ⟨u, rfl, by omega, fun w h1 h2 => ?_⟩
        by_cases e : w = c
        · rw [e]; exact q
        · exact hw w h1 (by omega)
      · rw [if_neg q]
        exact ⟨c, rfl, Or.inr ⟨by omega, by omega⟩, fun w h1 h2 => by omega⟩
    · obtain ⟨a, b⟩ := z
      obtain ⟨rfl, u, rfl, hu, hw⟩ := hI
      dsimp only [jn] at *
      rw [h.2.1, if_pos (by omega)]
      exact Ret_some ⟨_, rfl, u, rfl, by omega, by omega, fun w h1 h2 => hw w h1 (by omega)⟩
  obtain ⟨_, e1, u, rfl, u1, u2, u3⟩ := hc
  obtain ⟨_, e2, u', rfl, v1, v2, v3⟩ := hr
  have : u' = u := by
    rcases Nat.lt_trichotomy u u' with c | c | c
    · have := u3 u' c v1; omega
    · exact c.symm
    · have := v3 u c u1; omega
  subst this
  exact ⟨u', u1, e1, e2, u2, u3⟩
theorem set0 (h : Core S O n ne slots lo v tp bs) {s : Nat} (hs : (mA (O 282) 0).testBit s = true) : False := by
  obtain ⟨k, _, hk⟩ := h.2.2.2.2.2.1.1.2.2.2 0 (Nat.zero_le _) s hs
  rw [h.2.2.2.2.2.1.1.2.1.1] at hk
  omega
/-- the segments of the version of a place are over it -/
theorem q_over (h : Core S O n ne slots lo v tp bs) {x : Int} (hx : swept O v ne x) {u : Nat} (hu : u ≤ v) (h1 : u = 0 ∨ O 282 u ≤ x) (h2 : ∀ w, u < w → w ≤ v → x < O 282 w) : Over (sgO O) n (mA (O 282) u) x := by
  have h4 := h.2.2.2.2.1
  obtain ⟨⟨vo, _⟩, _, _, e, e1, e2, e3, e4⟩ := c_ver h hu
  refine ⟨vo.1, fun s hs => ?_⟩
  obtain ⟨a, b⟩ := vo.2 s hs
  refine ⟨a, ?_⟩
  obtain ⟨c1, c2⟩ := e4 s hs
  have hu0 : O 282 u ≤ x := by
    rcases h1 with rfl | h1
    · exact (set0 h hs).elim
    · exact h1
  unfold ovP at b ⊢
  have hxe : x < O 281 e := by
    by_cases q : u = v
    · rw [q] at e1
      exact hx.2.2 e e1 c1
    · have hlt := h2 (u + 1) (by omega) (by omega)
      rcases h.2.2.2.2.2.1.2.2.2 u (by omega) with ⟨d1, _⟩ | ⟨e', d1, d2, d3, _⟩
      · omega
      · have : e' = e := by omega
        rw [this] at d3
        omega
  omega
def fuV (O : Smo) (u : Nat) (x up : Int) : Nat := (rowV O u).countP (gAb O x up)
/-- where the row of a version is split by a point -/
theorem q_split (h : Core S O n ne slots lo v tp bs) {x up : Int} {u : Nat} (hu : u ≤ v) (ho : Over (sgO O) n (mA (O 282) u) x) : ∀ (i k : Nat), (rowV O u)[i]? = some k → (0 < gA (sgO O) k x up ↔ (rowV O u).length - fuV O u x up ≤ i) := by
  have hv := (c_ver h hu).1
  have hg := h.1.2.1
  have hs := srtR_at hg hv.1 ho
  have hp : (rowV O u).Pairwise (fun a b => gAb O x up a = true → gAb O x up b = true) := by
    refine List.Pairwise.imp_of_mem ?_ hs
    intro a b ha hb hab q
    have ma := (hv.1.2 a ((rowF_mem hg hv.1).mp ha)).1
    have mb := (hv.1.2 b ((rowF_mem hg hv.1).mp hb)).1
    unfold gAb at *
    rw [decide_eq_true_iff] at *
    exact gA_mono (gW_pos (hg.2.1 b mb)).1 (gW_pos (hg.2.1 a ma)).1 (hib_iff.mp hab) q
  intro i k hk
  have := up_count _ hp i k hk
  unfold gAb at this
  rw [decide_eq_true_iff] at this
  exact this
theorem q_count (h : Core S O n ne slots lo v tp bs) {x up : Int} (hx : 0 ≤ x ∧ x ≤ 60) (hup : -9 ≤ up ∧ up ≤ 99) {u : Nat} (hu : u ≤ v) (hT : clTree S (O 280) (rowV O u)) : Ret (f_X8_countFartherUp x up S) (fun S' => FrQ S S' ∧ (∀ k, S'.1 k = S.1 k) ∧ S'.2 242 1 = (fuV O u x up : Int) ∧ ∀ k j, (k, j) ≠ (242, 1) → S'.2 k j = S.2 k j) := by
  obtain ⟨c1, c2, c3, c4, c5⟩ := c_row h hu
  have hg := h.1.2.1
  unfold f_X8_countFartherUp
  dsimp only [jn]
  refine Ret_bind (P := fun S' => (∀ k, S'.1 k = S.1 k) ∧ S'.2 242 1 = (fuV O u x up : Int) ∧ ∀ k j, (k, j) ≠ (242, 1) → S'.2 k j = S.2 k j) (Ret_lp (fun c q => q.1 = (c : Int) ∧ (∀ k, q.2.1 k = S.1 k) ∧ q.2.2 242 1 = (((rowV O u).take c).countP (gAb O x up) : Int) ∧ ∀ k j, (k, j) ≠ (242, 1) → q.2.2 k j = S.2 k j) (rowV O u).length (by omega) ⟨rfl, fun _ => rfl, by dsimp only; rw [upS_at]; rfl, fun k j hk => upS_ne (by
      by_cases e : k = 242
      · exact Or.inr (fun q => hk (by rw [e, q]))
      · exact Or.inl e)⟩ (fun c q hc hI => ?_) (fun q hI => ?_)) (fun S' hS' => Ret_some ⟨⟨fun k _ _ _ _ => hS'.1 k, fun k j _ hk => hS'.2.2 k j (fun e => hk (by cases e; rfl))⟩, hS'⟩)
  · obtain ⟨z, S1⟩ := q
    obtain ⟨rfl, i1, i2, i3⟩ := hI
    dsimp only at *
    have hsz : f_X6_size 60 S1 = ((rowV O u).length : Int) := by
      unfold f_X6_size
      rw [i1, hT.1, natL_len]
    obtain ⟨s, hs⟩ : ∃ s, (rowV O u)[c]? = some s := ⟨(rowV O u)[c]'hc, by simp [hc]⟩
    have hsn := c4 s (List.mem_of_getElem? hs)
    have hat : f_X6_at 60 (c : Int) S1 = (s : Int) := by
      unfold f_X6_at
      rw [i1, hT.1, lat_natL hs]
    have hP1 : RPl 29 S1 (sgO O) n := ⟨by rw [i1]; exact h.1.1.1.1, by rw [i1]; exact h.1.1.1.2.1, by rw [i1]; exact h.1.1.1.2.2.1, by rw [i1]; exact h.1.1.1.2.2.2.1, by rw [i1]; exact h.1.1.1.2.2.2.2.1, by rw [i1]; exact h.1.1.1.2.2.2.2.2⟩
    have htk : (rowV O u).take (c + 1) = (rowV O u).take c ++ [s] := by
      obtain ⟨h1, h2⟩ := List.getElem?_eq_some_iff.mp hs
      rw [List.take_succ_eq_append_getElem h1, h2]
    have hcl := List.countP_le_length (p := gAb O x up) (l := (rowV O u).take c)
    rw [List.length_take] at hcl
    rw [hsz, if_pos (by omega), hat, pl_ahead hP1 hsn (hg.2.1 s hsn) hx hup, wr_id (z := (c : Int) + 1) (by omega) (by omega), htk, List.countP_append]
    by_cases q : 0 < gA (sgO O) s x up
    · have hb : gAb O x up s = true := decide_eq_true q
      rw [if_pos q, i2, wr_id (by omega) (by omega)]
      refine Ret_some ⟨_, rfl, by simp, fun k => i1 k, ?_, fun k j hk => ?_⟩
      · dsimp only
        rw [upS_at]
        simp [hb]
      · dsimp only
        rw [upS_ne (by
          by_cases e : k = 242
          · exact Or.inr (fun q => hk (by rw [e, q]))
          · exact Or.inl e)]
        exact i3 k j hk
    · have hb : ¬ gAb O x up s = true := fun e => q (of_decide_eq_true e)
      rw [if_neg q]
      refine Ret_some ⟨_, rfl, by simp, i1, ?_, i3⟩
      dsimp only
      rw [i2]
      simp [hb]
  · obtain ⟨z, S1⟩ := q
    obtain ⟨rfl, i1, i2, i3⟩ := hI
    dsimp only at *
    have hsz : f_X6_size 60 S1 = ((rowV O u).length : Int) := by
      unfold f_X6_size
      rw [i1, hT.1, natL_len]
    rw [List.take_length] at i2
    rw [hsz, if_neg (by omega)]
    exact Ret_some ⟨_, rfl, i1, i2, i3⟩
theorem clT_rows (hT : clTree S (O 280) (rowV O v)) (h1 : ∀ k, S'.1 k = S.1 k) (h2 : ∀ k j, (k, j) ≠ (242, 1) → S'.2 k j = S.2 k j) : clTree S' (O 280) (rowV O v) := by
  obtain ⟨a, b, c, d, e, f, g⟩ := hT
  exact ⟨by rw [h1]; exact a, by rw [h1]; exact b, by rw [h1]; exact c, by rw [h1]; exact d, by rw [h1]; exact e, by rw [h2 _ _ (by simp)]; exact f, by rw [h2 _ _ (by simp)]; exact g⟩
/-- a point, found on both sides -/
theorem q_find (h : Core S O n ne slots lo v tp bs) (x up : Int) : (∃ S', f_X8_find x up S = some (0, S') ∧ S' = S ∧ f_X12_isPoint x up O = some 0) ∨
    ∃ (S' : Sst) (u : Nat), f_X8_find x up S = some (1, S') ∧ f_X12_isPoint x up O = some 1 ∧ FrQ S S' ∧ u ≤ v ∧ f_X12_stampAt x O = some (u : Int) ∧ clTree S' (O 280) (rowV O u) ∧ S'.2 242 1 = (fuV O u x up : Int) ∧ Over (sgO O) n (mA (O 282) u) x ∧ (0 ≤ x ∧ x ≤ 60) ∧ (-9 ≤ up ∧ up ≤ 99) ∧ (∀ k, k < 60 → S'.1 k = S.1 k) := by
  unfold f_X8_find f_X12_isPoint f_X12_isIn
  dsimp only [jn]
  by_cases hx : 0 ≤ x ∧ x ≤ 60
  · obtain ⟨b, hb, b1, b2, b3⟩ := q_swept h x hx
    rw [b1, b2]
    dsimp only [Option.bind_some]
    by_cases hup : -9 ≤ up ∧ up ≤ 99
    · rw [if_neg (c := ((x < 0 ∨ 60 < x) ∨ up < -9) ∨ 99 < up) (by omega), if_neg (c := up < -9 ∨ 99 < up) (by omega)]
      rcases hb with rfl | rfl
      · refine Or.inl ⟨S, ?_, rfl, ?_⟩
        · rw [if_pos (Or.inr rfl)]
        · rw [if_pos (Or.inl rfl)]
      · right
        obtain ⟨u, u1, u2, u3, u4, u5⟩ := q_stampOf h x
        obtain ⟨S1, e1, f1, t1⟩ := q_show h u1
        have hC1 := Core_fr h f1 (FrR_refl O)
        obtain ⟨S2, e2, f2, r2, g2, i2⟩ := q_count hC1 hx hup u1 t1
        have ho := q_over h (b3.mp rfl) u1 u4 u5
        refine ⟨S2, u, ?_, ?_, FrQ_trans f1 f2, u1, u3, clT_rows t1 r2 i2, g2, ho, hx, hup, fun k hk => ?_⟩
        · rw [if_neg (by decide), u2]
          dsimp only [Option.bind_some]
          rw [e1]
          dsimp only [Option.bind_some]
          rw [e2]
          rfl
        · rw [if_neg (by decide)]
        · rw [r2, f1.1 k (by omega) (by omega) (by omega) (by omega)]
    · refine Or.inl ⟨S, ?_, rfl, ?_⟩
      · rw [if_pos (c := ((x < 0 ∨ 60 < x) ∨ up < -9) ∨ 99 < up) (by omega), if_pos (Or.inl rfl)]
      · rw [if_pos (c := up < -9 ∨ 99 < up) (by omega), if_pos (Or.inr rfl)]
  · refine Or.inl ⟨S, ?_, rfl, ?_⟩
    · rw [if_pos (c := ((x < 0 ∨ 60 < x) ∨ up < -9) ∨ 99 < up) (by omega), if_pos (Or.inl rfl)]
    · have : f_X12_isSwept x O = some 0 := by
        unfold f_X12_isSwept f_X12_isIn
        dsimp only [jk]
        rw [if_pos (c := x < 0 ∨ 60 < x) (by omega), if_pos rfl]
      rw [this]
      dsimp only [Option.bind_some]
      rw [if_pos (Or.inl rfl)]
/-- the highest that is not farther up, by the row -/
def blV (O : Smo) (u : Nat) (x up : Int) : Int := lat (natL (rowV O u)) (((rowV O u).length : Int) - fuV O u x up - 1)
def abV (O : Smo) (u : Nat) (x up : Int) : Int := lat (natL (rowV O u)) (((rowV O u).length : Int) - fuV O u x up)
theorem rf_far' (hg : OkSeg (sgO O) n) {s : Nat} (hs : s < n) {x up : Int} (hx : 0 ≤ x ∧ x ≤ 60) (hup : -9 ≤ up ∧ up ≤ 99) : f_X12_farther s x up O = some (gA (sgO O) s x up) := rf_far (by have := hg.1; omega) (hg.2.1 s hs) hx hup
end PT
